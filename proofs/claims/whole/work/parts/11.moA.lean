section PMoA
variable {p : Program} {l : Launch} {e : Env} {R : Room} {s : State} {m : MethodId} {args : Array Value} {below : List Frame} {meth : Method} {c : Code} {H : Heap} {locs : List Loc} {cells slots : Nat} {Q : State → Prop}
variable {D : va_G} {cA : Nat → ClassId} {cc : ByteArray} {nL : Nat} {own : String} {ret : Option FieldType} {pc : Nat} {ls : Array Slot} {rest : List Value} {A : Nat → Prop} {a b d : Nat → Nat} {S T U : St}
def fX11_in (N : Nat) (p0 : Int64) (p2 : Int64) (p4 : Int64) : Option (Int32) :=
  if (lg_cmp p0 p2) < 0 then (some ((0 : Int32))) else (if 0 < (lg_cmp p0 p4) then (some ((0 : Int32))) else (some ((1 : Int32))))
set_option maxRecDepth 100000 in
set_option maxHeartbeats 4000000 in
theorem wX11_in (C : Cx p s m args meth c D cA cX11_in 6 RX11 (some .boolean)) (hA : ∀ q : Nat, s.heap.size ≤ q → A q) {N : Nat} {z : Int32} {p0 : Int64} {p2 : Int64} {p4 : Int64} (hf : fX11_in N p0 p2 p4 = some z) {H : Heap} {locs : List Loc} {ls : Array Slot} (hP : va_P D vwCl ([] : va_W) H) (hD : va_D A ([] : va_W)) (hS : va_S A s.heap H locs) (hl : lv_has ls 6 [(0, .long p0), (2, .long p2), (4, .long p4)]) : W p l e (rmU 0 0 0 0) s m args below meth c H locs 0 0 (MQ below (QI D A z ([] : va_W)) args s 0 0 A) (F0 m 0 ls []) := by
  obtain ⟨hx, hb, hml, hown, hts, hK, hN, hr, hlk⟩ := id C
  unfold fX11_in at hf
  refine lv_lload_n (pc := 0) hx hb dX11_in_0 rfl (lv_at hl 0 rfl) ?_
  refine lv_lload_n (pc := 1) hx hb dX11_in_1 rfl (lv_at hl 1 rfl) ?_
  refine W.lcmp (pc := 2) hx hb dX11_in_2 ?_
  refine lv_if_lt (tgt := 17) (pc := 3) hx hb dX11_in_3 (by decide) (fun c1 => ?_) (fun c1 => ?_)
  · have hf := pt_t c1 hf
    refine lv_iconst (v := (0 : Int32)) (pc := 17) hx hb dX11_in_17 (by decide) ?_
    cases hf
    exact ret_z C (Or.inl rfl) hP hD hS dX11_in_18
  · have hf := pt_f c1 hf
    refine lv_lload_n (pc := 6) hx hb dX11_in_6 rfl (lv_at hl 0 rfl) ?_
    refine lv_lload (pc := 7) hx hb dX11_in_7 (lv_at hl 2 rfl) ?_
    refine W.lcmp (pc := 9) hx hb dX11_in_9 ?_
    refine lv_if_gt (tgt := 17) (pc := 10) hx hb dX11_in_10 (by decide) (fun c2 => ?_) (fun c2 => ?_)
    · have hf := pt_t c2 hf
      refine lv_iconst (v := (0 : Int32)) (pc := 17) hx hb dX11_in_17 (by decide) ?_
      cases hf
      exact ret_z C (Or.inl rfl) hP hD hS dX11_in_18
    · have hf := pt_f c2 hf
      refine lv_iconst (v := (1 : Int32)) (pc := 13) hx hb dX11_in_13 (by decide) ?_
      refine lv_goto (tgt := 18) (pc := 14) hx hb dX11_in_14 (by decide) ?_
      cases hf
      exact ret_z C (Or.inr rfl) hP hD hS dX11_in_18
set_option maxRecDepth 100000 in
set_option maxHeartbeats 4000000 in
theorem kX11_in (l : Launch) (D : va_G) (cA : Nat → ClassId) {N : Nat} {p0 : Int64} {p2 : Int64} {p4 : Int64} {z : Int32} (hf : fX11_in N p0 p2 p4 = some z) : CtI l yX11_in cX11_in 6 (some .boolean) 0 0 D cA ([] : va_W) ([] : va_W) [.long p0, .long p2, .long p4] z := by
  intro sz
  refine Met.ofW (cc := cX11_in) (maxL := 6) (ret := (some .boolean)) (by decide) rfl ?_
  intro p e s m args below meth c s₁ B hml hv
  obtain ⟨rfl, hsz, hP, hK, hD0⟩ := hv
  subst hsz
  have C : Cx p s m _ meth c D cA cX11_in 6 RX11 (some .boolean) := Cx.of B hml hK
  have hD := hD0.self (sz := s.heap.size)
  have hA : ∀ q : Nat, s.heap.size ≤ q → va_A ([] : va_W) s.heap.size q := fun q h => Or.inr h
  have hS : va_S (va_A ([] : va_W) s.heap.size) s.heap s.heap [] := va_S.rf
  have hl := lv_entry ([.long p0, .long p2, .long p4]) (n := 6) (Nat.le_of_ble_eq_true rfl)
  rw [lg_entry_eq]
  generalize (lg_sl ([.long p0, .long p2, .long p4]) ++ List.replicate (6 - (lg_sl ([.long p0, .long p2, .long p4])).length) Slot.unset).toArray = ls at hl ⊢
  exact wX11_in C hA hf hP hD hS hl
def w_M (cA : Nat → ClassId) (a : Nat → Nat) (S : St) : va_W := [(a 0, .inr (10, [.int (S 0 0), .ref (a 1), .ref (a 2), .ref (a 3), .ref (a 4), .ref (a 5), .ref (a 6), .ref (a 7), .ref (a 8), .ref (a 9), .ref (a 10), .int (S 11 0), .ref (a 11), .int (S 13 0), .int (S 14 0), .ref (a 12), .ref (a 13), .int (S 17 0), .ref (a 14), .int (S 19 0), .int (S 20 0), .int (S 21 0), .int (S 22 0), .int (S 23 0), .int (S 24 0), .ref (a 15), .ref (a 16), .ref (a 17)])), (a 1, .inl (cA 0, 200, .inl (S 1))), (a 2, .inl (cA 0, 40, .inl (S 2))), (a 3, .inl (cA 0, 12, .inl (S 3))), (a 4, .inl (cA 0, 2, .inl (S 4))), (a 5, .inl (cA 0, 2, .inl (S 5))), (a 6, .inl (cA 0, 2, .inl (S 6))), (a 7, .inl (cA 0, 40, .inl (S 7))), (a 8, .inl (cA 0, 2, .inl (S 8))), (a 9, .inl (cA 0, 20, .inl (S 9))), (a 10, .inl (cA 0, 160, .inl (S 10))), (a 11, .inl (cA 0, 40, .inl (S 12))), (a 12, .inl (cA 0, 8, .inl (S 15))), (a 13, .inl (cA 0, 8, .inl (S 16))), (a 14, .inl (cA 0, 2, .inl (S 18))), (a 15, .inl (cA 0, 201, .inl (S 25))), (a 16, .inl (cA 0, 201, .inl (S 26))), (a 17, .inl (cA 0, 10, .inl (S 27)))]
theorem fl_RX11_19 : Cond.fieldLink RX11 19 "SevenOnStrikeModel" "coinMany" "[I" ∈ wsL_law := by decide +kernel
theorem ge_RX11_19_M_0_0 (C : Cx p s m args meth c D cA cc nL RX11 ret) (hP : va_P D vwCl (w_M cA a S) H) (hdg : decode cc pc = .ok (.getfield 19, 3)) (kk : W p l e R s m args below meth c H locs cells slots Q (F0 m (pc + 3) ls (.ref (a 4) :: rest))) : W p l e R s m args below meth c H locs cells slots Q (F0 m pc ls (.ref (a 0) :: rest)) := by
  obtain ⟨hx, hb, -, hown, hts, hK, -, -, -⟩ := C
  exact va_get (D := D) (ci := 10) (v := .ref (a 4)) (C := RX11) (T := TX11) (N := 28) hx hb hts inlX11 hown hK hP 0 rfl rfl 4 (by decide) (hts _ fl_RX11_19) (fun _ h9 => h9) rfl hdg kk
theorem sr_M_0_4 {i v : Int32} {j : Nat} (C : Cx p s m args meth c D cA cc nL own ret) (hP : va_P D vwCl (w_M cA a S) H) (hD : va_D A (w_M cA a S)) (hS : va_S A s.heap H locs) (hin : vp_in i 2) (hj : i.toNatClampNeg = j) (hdg : decode cc pc = .ok (.iastore, 1)) (kk : ∀ (H1 : Heap) (locs1 : List Loc), va_P D vwCl (w_M cA a (sti S 4 j v)) H1 → va_D A (w_M cA a (sti S 4 j v)) → va_S A s.heap H1 locs1 → W p l e R s m args below meth c H1 locs1 cells slots Q (F0 m (pc + 1) ls rest)) : W p l e R s m args below meth c H locs cells slots Q (F0 m pc ls (.int v :: .int i :: .ref (a 4) :: rest)) := by
  obtain ⟨hx, hb, -, hown, hts, hK, -, -, -⟩ := C
  subst hj
  exact va_iast hx hb hK hP hD hS 4 0 rfl rfl hin hdg (fun H1 locs1 h1 h2 h3 => kk H1 locs1 h1 h2 h3)
theorem fl_RX11_22 : Cond.fieldLink RX11 22 "SevenOnStrikeModel" "faces" "[I" ∈ wsL_law := by decide +kernel
theorem ge_RX11_22_M_0_0 (C : Cx p s m args meth c D cA cc nL RX11 ret) (hP : va_P D vwCl (w_M cA a S) H) (hdg : decode cc pc = .ok (.getfield 22, 3)) (kk : W p l e R s m args below meth c H locs cells slots Q (F0 m (pc + 3) ls (.ref (a 5) :: rest))) : W p l e R s m args below meth c H locs cells slots Q (F0 m pc ls (.ref (a 0) :: rest)) := by
  obtain ⟨hx, hb, -, hown, hts, hK, -, -, -⟩ := C
  exact va_get (D := D) (ci := 10) (v := .ref (a 5)) (C := RX11) (T := TX11) (N := 28) hx hb hts inlX11 hown hK hP 0 rfl rfl 5 (by decide) (hts _ fl_RX11_22) (fun _ h9 => h9) rfl hdg kk
theorem sr_M_0_5 {i v : Int32} {j : Nat} (C : Cx p s m args meth c D cA cc nL own ret) (hP : va_P D vwCl (w_M cA a S) H) (hD : va_D A (w_M cA a S)) (hS : va_S A s.heap H locs) (hin : vp_in i 2) (hj : i.toNatClampNeg = j) (hdg : decode cc pc = .ok (.iastore, 1)) (kk : ∀ (H1 : Heap) (locs1 : List Loc), va_P D vwCl (w_M cA a (sti S 5 j v)) H1 → va_D A (w_M cA a (sti S 5 j v)) → va_S A s.heap H1 locs1 → W p l e R s m args below meth c H1 locs1 cells slots Q (F0 m (pc + 1) ls rest)) : W p l e R s m args below meth c H locs cells slots Q (F0 m pc ls (.int v :: .int i :: .ref (a 5) :: rest)) := by
  obtain ⟨hx, hb, -, hown, hts, hK, -, -, -⟩ := C
  subst hj
  exact va_iast hx hb hK hP hD hS 5 0 rfl rfl hin hdg (fun H1 locs1 h1 h2 h3 => kk H1 locs1 h1 h2 h3)
theorem fl_RX11_25 : Cond.fieldLink RX11 25 "SevenOnStrikeModel" "weeks" "[I" ∈ wsL_law := by decide +kernel
theorem ge_RX11_25_M_0_0 (C : Cx p s m args meth c D cA cc nL RX11 ret) (hP : va_P D vwCl (w_M cA a S) H) (hdg : decode cc pc = .ok (.getfield 25, 3)) (kk : W p l e R s m args below meth c H locs cells slots Q (F0 m (pc + 3) ls (.ref (a 6) :: rest))) : W p l e R s m args below meth c H locs cells slots Q (F0 m pc ls (.ref (a 0) :: rest)) := by
  obtain ⟨hx, hb, -, hown, hts, hK, -, -, -⟩ := C
  exact va_get (D := D) (ci := 10) (v := .ref (a 6)) (C := RX11) (T := TX11) (N := 28) hx hb hts inlX11 hown hK hP 0 rfl rfl 6 (by decide) (hts _ fl_RX11_25) (fun _ h9 => h9) rfl hdg kk
theorem sr_M_0_6 {i v : Int32} {j : Nat} (C : Cx p s m args meth c D cA cc nL own ret) (hP : va_P D vwCl (w_M cA a S) H) (hD : va_D A (w_M cA a S)) (hS : va_S A s.heap H locs) (hin : vp_in i 2) (hj : i.toNatClampNeg = j) (hdg : decode cc pc = .ok (.iastore, 1)) (kk : ∀ (H1 : Heap) (locs1 : List Loc), va_P D vwCl (w_M cA a (sti S 6 j v)) H1 → va_D A (w_M cA a (sti S 6 j v)) → va_S A s.heap H1 locs1 → W p l e R s m args below meth c H1 locs1 cells slots Q (F0 m (pc + 1) ls rest)) : W p l e R s m args below meth c H locs cells slots Q (F0 m pc ls (.int v :: .int i :: .ref (a 6) :: rest)) := by
  obtain ⟨hx, hb, -, hown, hts, hK, -, -, -⟩ := C
  subst hj
  exact va_iast hx hb hK hP hD hS 6 0 rfl rfl hin hdg (fun H1 locs1 h1 h2 h3 => kk H1 locs1 h1 h2 h3)
theorem fl_RX11_31 : Cond.fieldLink RX11 31 "SevenOnStrikeModel" "sumMany" "[I" ∈ wsL_law := by decide +kernel
theorem ge_RX11_31_M_0_0 (C : Cx p s m args meth c D cA cc nL RX11 ret) (hP : va_P D vwCl (w_M cA a S) H) (hdg : decode cc pc = .ok (.getfield 31, 3)) (kk : W p l e R s m args below meth c H locs cells slots Q (F0 m (pc + 3) ls (.ref (a 8) :: rest))) : W p l e R s m args below meth c H locs cells slots Q (F0 m pc ls (.ref (a 0) :: rest)) := by
  obtain ⟨hx, hb, -, hown, hts, hK, -, -, -⟩ := C
  exact va_get (D := D) (ci := 10) (v := .ref (a 8)) (C := RX11) (T := TX11) (N := 28) hx hb hts inlX11 hown hK hP 0 rfl rfl 8 (by decide) (hts _ fl_RX11_31) (fun _ h9 => h9) rfl hdg kk
theorem sr_M_0_8 {i v : Int32} {j : Nat} (C : Cx p s m args meth c D cA cc nL own ret) (hP : va_P D vwCl (w_M cA a S) H) (hD : va_D A (w_M cA a S)) (hS : va_S A s.heap H locs) (hin : vp_in i 2) (hj : i.toNatClampNeg = j) (hdg : decode cc pc = .ok (.iastore, 1)) (kk : ∀ (H1 : Heap) (locs1 : List Loc), va_P D vwCl (w_M cA a (sti S 8 j v)) H1 → va_D A (w_M cA a (sti S 8 j v)) → va_S A s.heap H1 locs1 → W p l e R s m args below meth c H1 locs1 cells slots Q (F0 m (pc + 1) ls rest)) : W p l e R s m args below meth c H locs cells slots Q (F0 m pc ls (.int v :: .int i :: .ref (a 8) :: rest)) := by
  obtain ⟨hx, hb, -, hown, hts, hK, -, -, -⟩ := C
  subst hj
  exact va_iast hx hb hK hP hD hS 8 0 rfl rfl hin hdg (fun H1 locs1 h1 h2 h3 => kk H1 locs1 h1 h2 h3)
theorem fl_RX11_13 : Cond.fieldLink RX11 13 "SevenOnStrikeModel" "rows" "[I" ∈ wsL_law := by decide +kernel
theorem ge_RX11_13_M_0_0 (C : Cx p s m args meth c D cA cc nL RX11 ret) (hP : va_P D vwCl (w_M cA a S) H) (hdg : decode cc pc = .ok (.getfield 13, 3)) (kk : W p l e R s m args below meth c H locs cells slots Q (F0 m (pc + 3) ls (.ref (a 2) :: rest))) : W p l e R s m args below meth c H locs cells slots Q (F0 m pc ls (.ref (a 0) :: rest)) := by
  obtain ⟨hx, hb, -, hown, hts, hK, -, -, -⟩ := C
  exact va_get (D := D) (ci := 10) (v := .ref (a 2)) (C := RX11) (T := TX11) (N := 28) hx hb hts inlX11 hown hK hP 0 rfl rfl 2 (by decide) (hts _ fl_RX11_13) (fun _ h9 => h9) rfl hdg kk
theorem sr_M_0_2 {i v : Int32} {j : Nat} (C : Cx p s m args meth c D cA cc nL own ret) (hP : va_P D vwCl (w_M cA a S) H) (hD : va_D A (w_M cA a S)) (hS : va_S A s.heap H locs) (hin : vp_in i 40) (hj : i.toNatClampNeg = j) (hdg : decode cc pc = .ok (.iastore, 1)) (kk : ∀ (H1 : Heap) (locs1 : List Loc), va_P D vwCl (w_M cA a (sti S 2 j v)) H1 → va_D A (w_M cA a (sti S 2 j v)) → va_S A s.heap H1 locs1 → W p l e R s m args below meth c H1 locs1 cells slots Q (F0 m (pc + 1) ls rest)) : W p l e R s m args below meth c H locs cells slots Q (F0 m pc ls (.int v :: .int i :: .ref (a 2) :: rest)) := by
  obtain ⟨hx, hb, -, hown, hts, hK, -, -, -⟩ := C
  subst hj
  exact va_iast hx hb hK hP hD hS 2 0 rfl rfl hin hdg (fun H1 locs1 h1 h2 h3 => kk H1 locs1 h1 h2 h3)
def fX11_nothing_j41 (N : Nat) (p1 : Int32) (S : St) : Option (St) :=
  if ¬ (p1 < 0 ∨ 2 ≤ p1.toNatClampNeg) then (if ¬ (p1 < 0 ∨ 2 ≤ p1.toNatClampNeg) then (if ¬ (p1 < 0 ∨ 2 ≤ p1.toNatClampNeg) then (if ¬ (p1 < 0 ∨ 2 ≤ p1.toNatClampNeg) then (some ((sti (sti (sti (sti S 4 p1.toNatClampNeg ((0 : Int32))) 5 p1.toNatClampNeg ((6 : Int32))) 6 p1.toNatClampNeg ((7 : Int32))) 8 p1.toNatClampNeg ((0 : Int32))))) else none) else none) else none) else none
def fX11_nothing_b2 (N : Nat) (p1 : Int32) (g2 : Int32 × St → Option (St)) (x2 : Int32) (S : St) : Option (St) :=
  if (10 : Int32) ≤ x2 then (fX11_nothing_j41 N p1 S) else (if ¬ ((((20 : Int32) * p1) + x2) < 0 ∨ 40 ≤ ((((20 : Int32) * p1) + x2)).toNatClampNeg) then (if ¬ (((((20 : Int32) * p1) + (10 : Int32)) + x2) < 0 ∨ 40 ≤ (((((20 : Int32) * p1) + (10 : Int32)) + x2)).toNatClampNeg) then (g2 (((x2 + 1), (sti (sti S 2 (((((20 : Int32) * p1) + x2)).toNatClampNeg) ((0 : Int32))) 2 ((((((20 : Int32) * p1) + (10 : Int32)) + x2)).toNatClampNeg) x2)))) else none) else none)
def fX11_nothing_l2 (N : Nat) (p1 : Int32) (k : Nat) (q : Int32 × St) : Option (St) := lpN (fun g q => fX11_nothing_b2 N p1 g q.1 q.2) k q
def fX11_nothing (N : Nat) (S : St) (p1 : Int32) : Option (St) :=
  fX11_nothing_l2 N p1 N (((0 : Int32), S))
set_option maxRecDepth 100000 in
set_option maxHeartbeats 4000000 in
theorem wX11_nothing_41 (C : Cx p s m args meth c D cA cX11_nothing 3 RX11 none) (hA : ∀ q : Nat, s.heap.size ≤ q → A q) {N : Nat} {z : St} {p1 : Int32} {S : St} (hf : fX11_nothing_j41 N p1 S = some z) {H : Heap} {locs : List Loc} {ls : Array Slot} (hP : va_P D vwCl (w_M cA a S) H) (hD : va_D A (w_M cA a S)) (hS : va_S A s.heap H locs) (hl : lv_has ls 3 [(0, .ref (a 0)), (1, .int p1)]) : W p l e (rmU 0 0 0 0) s m args below meth c H locs 0 0 (MQ below (QV D A (w_M cA a z)) args s 0 0 A) (F0 m 41 ls []) := by
  obtain ⟨hx, hb, hml, hown, hts, hK, hN, hr, hlk⟩ := id C
  unfold fX11_nothing_j41 at hf
  refine lv_aload_n (pc := 41) hx hb dX11_nothing_41 rfl (lv_at hl 0 rfl) ?_
  refine ge_RX11_19_M_0_0 (pc := 42) C hP dX11_nothing_42 ?_
  refine lv_iload_n (pc := 45) hx hb dX11_nothing_45 rfl (lv_at hl 1 rfl) ?_
  refine lv_iconst (v := (0 : Int32)) (pc := 46) hx hb dX11_nothing_46 (by decide) ?_
  obtain ⟨h1, hf⟩ := pt_g hf
  refine sr_M_0_4 (pc := 47) (j := p1.toNatClampNeg) C hP hD hS h1 rfl dX11_nothing_47 (fun H locs hP hD hS => ?_)
  refine lv_aload_n (pc := 48) hx hb dX11_nothing_48 rfl (lv_at hl 0 rfl) ?_
  refine ge_RX11_22_M_0_0 (pc := 49) C hP dX11_nothing_49 ?_
  refine lv_iload_n (pc := 52) hx hb dX11_nothing_52 rfl (lv_at hl 1 rfl) ?_
  refine lv_bipush (v := (6 : Int32)) (pc := 53) hx hb dX11_nothing_53 (by decide) ?_
  obtain ⟨h2, hf⟩ := pt_g hf
  refine sr_M_0_5 (pc := 55) (j := p1.toNatClampNeg) C hP hD hS h2 rfl dX11_nothing_55 (fun H locs hP hD hS => ?_)
  refine lv_aload_n (pc := 56) hx hb dX11_nothing_56 rfl (lv_at hl 0 rfl) ?_
  refine ge_RX11_25_M_0_0 (pc := 57) C hP dX11_nothing_57 ?_
  refine lv_iload_n (pc := 60) hx hb dX11_nothing_60 rfl (lv_at hl 1 rfl) ?_
  refine lv_bipush (v := (7 : Int32)) (pc := 61) hx hb dX11_nothing_61 (by decide) ?_
  obtain ⟨h3, hf⟩ := pt_g hf
  refine sr_M_0_6 (pc := 63) (j := p1.toNatClampNeg) C hP hD hS h3 rfl dX11_nothing_63 (fun H locs hP hD hS => ?_)
  refine lv_aload_n (pc := 64) hx hb dX11_nothing_64 rfl (lv_at hl 0 rfl) ?_
  refine ge_RX11_31_M_0_0 (pc := 65) C hP dX11_nothing_65 ?_
  refine lv_iload_n (pc := 68) hx hb dX11_nothing_68 rfl (lv_at hl 1 rfl) ?_
  refine lv_iconst (v := (0 : Int32)) (pc := 69) hx hb dX11_nothing_69 (by decide) ?_
  obtain ⟨h4, hf⟩ := pt_g hf
  refine sr_M_0_8 (pc := 70) (j := p1.toNatClampNeg) C hP hD hS h4 rfl dX11_nothing_70 (fun H locs hP hD hS => ?_)
  cases hf
  exact ret_v C hP hD hS dX11_nothing_71
set_option maxRecDepth 100000 in
set_option maxHeartbeats 4000000 in
theorem wX11_nothing_2 (C : Cx p s m args meth c D cA cX11_nothing 3 RX11 none) (hA : ∀ q : Nat, s.heap.size ≤ q → A q) {N : Nat} {z : St} {p1 : Int32} : ∀ (k : Nat) (x2 : Int32) (S : St), fX11_nothing_l2 N p1 k (x2, S) = some z → ∀ (H : Heap) (locs : List Loc) (ls : Array Slot), va_P D vwCl (w_M cA a S) H → va_D A (w_M cA a S) → va_S A s.heap H locs → lv_has ls 3 [(0, .ref (a 0)), (1, .int p1), (2, .int x2)] → W p l e (rmU 0 0 0 0) s m args below meth c H locs 0 0 (MQ below (QV D A (w_M cA a z)) args s 0 0 A) (F0 m 2 ls []) := by
  obtain ⟨hx, hb, hml, hown, hts, hK, hN, hr, hlk⟩ := id C
  intro k
  induction k with
  | zero =>
    intro x2 S hf
    have hf : (none : Option (St)) = some z := hf
    cases hf
  | succ k hg2 =>
    intro x2 S hf H locs ls hP hD hS hl
    have hf : fX11_nothing_b2 N p1 (fX11_nothing_l2 N p1 k) x2 S = some z := hf
    unfold fX11_nothing_b2 at hf
    refine lv_iload_n (pc := 2) hx hb dX11_nothing_2 rfl (lv_at hl 2 rfl) ?_
    refine lv_bipush (v := (10 : Int32)) (pc := 3) hx hb dX11_nothing_3 (by decide) ?_
    refine lv_icmp_ge (tgt := 41) (pc := 5) hx hb dX11_nothing_5 (by decide) (fun c1 => ?_) (fun c1 => ?_)
    · have hf := pt_t c1 hf
      exact wX11_nothing_41 C hA  hf hP hD hS (lv_sub hl [0, 1] rfl)
    · have hf := pt_f c1 hf
      refine lv_aload_n (pc := 8) hx hb dX11_nothing_8 rfl (lv_at hl 0 rfl) ?_
      refine ge_RX11_13_M_0_0 (pc := 9) C hP dX11_nothing_9 ?_
      refine lv_bipush (v := (20 : Int32)) (pc := 12) hx hb dX11_nothing_12 (by decide) ?_
      refine lv_iload_n (pc := 14) hx hb dX11_nothing_14 rfl (lv_at hl 1 rfl) ?_
      refine lv_imul (pc := 15) hx hb dX11_nothing_15 ?_
      refine lv_iload_n (pc := 16) hx hb dX11_nothing_16 rfl (lv_at hl 2 rfl) ?_
      refine lv_iadd (pc := 17) hx hb dX11_nothing_17 ?_
      refine lv_iconst (v := (0 : Int32)) (pc := 18) hx hb dX11_nothing_18 (by decide) ?_
      obtain ⟨h2, hf⟩ := pt_g hf
      refine sr_M_0_2 (pc := 19) (j := ((((20 : Int32) * p1) + x2)).toNatClampNeg) C hP hD hS h2 rfl dX11_nothing_19 (fun H locs hP hD hS => ?_)
      refine lv_aload_n (pc := 20) hx hb dX11_nothing_20 rfl (lv_at hl 0 rfl) ?_
      refine ge_RX11_13_M_0_0 (pc := 21) C hP dX11_nothing_21 ?_
      refine lv_bipush (v := (20 : Int32)) (pc := 24) hx hb dX11_nothing_24 (by decide) ?_
      refine lv_iload_n (pc := 26) hx hb dX11_nothing_26 rfl (lv_at hl 1 rfl) ?_
      refine lv_imul (pc := 27) hx hb dX11_nothing_27 ?_
      refine lv_bipush (v := (10 : Int32)) (pc := 28) hx hb dX11_nothing_28 (by decide) ?_
      refine lv_iadd (pc := 30) hx hb dX11_nothing_30 ?_
      refine lv_iload_n (pc := 31) hx hb dX11_nothing_31 rfl (lv_at hl 2 rfl) ?_
      refine lv_iadd (pc := 32) hx hb dX11_nothing_32 ?_
      refine lv_iload_n (pc := 33) hx hb dX11_nothing_33 rfl (lv_at hl 2 rfl) ?_
      obtain ⟨h3, hf⟩ := pt_g hf
      refine sr_M_0_2 (pc := 34) (j := (((((20 : Int32) * p1) + (10 : Int32)) + x2)).toNatClampNeg) C hP hD hS h3 rfl dX11_nothing_34 (fun H locs hP hD hS => ?_)
      refine lv_iinc (v := (x2 + 1)) (lv' := [(2, .int ((x2 + 1))), (0, .ref (a 0)), (1, .int p1)]) (pc := 35) hx hb dX11_nothing_35 hl (k := 2) rfl (by rfl) (by decide) rfl (fun ls hl => ?_)
      refine lv_goto (tgt := 2) (pc := 38) hx hb dX11_nothing_38 (by decide) ?_
      exact hg2 ((x2 + 1)) ((sti (sti S 2 (((((20 : Int32) * p1) + x2)).toNatClampNeg) ((0 : Int32))) 2 ((((((20 : Int32) * p1) + (10 : Int32)) + x2)).toNatClampNeg) x2)) hf _ _ _ hP hD hS (lv_sub hl [1, 2, 0] rfl)
set_option maxRecDepth 100000 in
set_option maxHeartbeats 4000000 in
theorem wX11_nothing (C : Cx p s m args meth c D cA cX11_nothing 3 RX11 none) (hA : ∀ q : Nat, s.heap.size ≤ q → A q) {N : Nat} {z : St} {S : St} {p1 : Int32} (hf : fX11_nothing N S p1 = some z) {H : Heap} {locs : List Loc} {ls : Array Slot} (hP : va_P D vwCl (w_M cA a S) H) (hD : va_D A (w_M cA a S)) (hS : va_S A s.heap H locs) (hl : lv_has ls 3 [(0, .ref (a 0)), (1, .int p1)]) : W p l e (rmU 0 0 0 0) s m args below meth c H locs 0 0 (MQ below (QV D A (w_M cA a z)) args s 0 0 A) (F0 m 0 ls []) := by
  obtain ⟨hx, hb, hml, hown, hts, hK, hN, hr, hlk⟩ := id C
  unfold fX11_nothing at hf
  refine lv_iconst (v := (0 : Int32)) (pc := 0) hx hb dX11_nothing_0 (by decide) ?_
  refine lv_istore_n (lv' := [(2, .int ((0 : Int32))), (0, .ref (a 0)), (1, .int p1)]) (pc := 1) hx hb dX11_nothing_1 rfl hl (by decide) rfl (fun ls hl => ?_)
  exact wX11_nothing_2 C hA  _ ((0 : Int32)) S hf _ _ _ hP hD hS (lv_sub hl [1, 2, 0] rfl)
set_option maxRecDepth 100000 in
set_option maxHeartbeats 4000000 in
theorem kX11_nothing (l : Launch) (D : va_G) (cA : Nat → ClassId) (a : Nat → Nat) {N : Nat} {S : St} {p1 : Int32} {z : St} (hf : fX11_nothing N S p1 = some z) : CtV l yX11_nothing cX11_nothing 3 none 0 0 D cA (w_M cA a S) (w_M cA a z) [.ref (a 0), .int p1] := by
  intro sz
  refine Met.ofW (cc := cX11_nothing) (maxL := 3) (ret := none) (by decide) rfl ?_
  intro p e s m args below meth c s₁ B hml hv
  obtain ⟨rfl, hsz, hP, hK, hD0⟩ := hv
  subst hsz
  have C : Cx p s m _ meth c D cA cX11_nothing 3 RX11 none := Cx.of B hml hK
  have hD := hD0.self (sz := s.heap.size)
  have hA : ∀ q : Nat, s.heap.size ≤ q → va_A (w_M cA a S) s.heap.size q := fun q h => Or.inr h
  have hS : va_S (va_A (w_M cA a S) s.heap.size) s.heap s.heap [] := va_S.rf
  have hl := lv_entry ([.ref (a 0), .int p1]) (n := 3) (Nat.le_of_ble_eq_true rfl)
  rw [lg_entry_eq]
  generalize (lg_sl ([.ref (a 0), .int p1]) ++ List.replicate (3 - (lg_sl ([.ref (a 0), .int p1])).length) Slot.unset).toArray = ls at hl ⊢
  exact wX11_nothing C hA hf hP hD hS hl
theorem kl_RX11_68 : Cond.constantLong RX11 68 (32) ∈ wsL_law := by decide +kernel
theorem kl_RX11_70 : Cond.constantLong RX11 70 (126) ∈ wsL_law := by decide +kernel
theorem lk_RX11_72 : LkS RX11 72 yX11_in cX11_in 6 (some .boolean) 3 := ⟨⟨by decide +kernel, by decide +kernel, by decide +kernel, by decide +kernel, by decide +kernel, by decide +kernel⟩, by decide +kernel⟩
theorem fl_RX11_76 : Cond.fieldLink RX11 76 "SevenOnStrikeModel" "length" "I" ∈ wsL_law := by decide +kernel
theorem ge_RX11_76_M_0_0 (C : Cx p s m args meth c D cA cc nL RX11 ret) (hP : va_P D vwCl (w_M cA a S) H) (hdg : decode cc pc = .ok (.getfield 76, 3)) (kk : W p l e R s m args below meth c H locs cells slots Q (F0 m (pc + 3) ls (.int (S 0 0) :: rest))) : W p l e R s m args below meth c H locs cells slots Q (F0 m pc ls (.ref (a 0) :: rest)) := by
  obtain ⟨hx, hb, -, hown, hts, hK, -, -, -⟩ := C
  exact va_get (D := D) (ci := 10) (v := .int (S 0 0)) (C := RX11) (T := TX11) (N := 28) hx hb hts inlX11 hown hK hP 0 rfl rfl 0 (by decide) (hts _ fl_RX11_76) (fun _ h9 => h9) rfl hdg kk
theorem fl_RX11_7 : Cond.fieldLink RX11 7 "SevenOnStrikeModel" "text" "[I" ∈ wsL_law := by decide +kernel
theorem ge_RX11_7_M_0_0 (C : Cx p s m args meth c D cA cc nL RX11 ret) (hP : va_P D vwCl (w_M cA a S) H) (hdg : decode cc pc = .ok (.getfield 7, 3)) (kk : W p l e R s m args below meth c H locs cells slots Q (F0 m (pc + 3) ls (.ref (a 1) :: rest))) : W p l e R s m args below meth c H locs cells slots Q (F0 m pc ls (.ref (a 0) :: rest)) := by
  obtain ⟨hx, hb, -, hown, hts, hK, -, -, -⟩ := C
  exact va_get (D := D) (ci := 10) (v := .ref (a 1)) (C := RX11) (T := TX11) (N := 28) hx hb hts inlX11 hown hK hP 0 rfl rfl 1 (by decide) (hts _ fl_RX11_7) (fun _ h9 => h9) rfl hdg kk
theorem sr_M_0_1 {i v : Int32} {j : Nat} (C : Cx p s m args meth c D cA cc nL own ret) (hP : va_P D vwCl (w_M cA a S) H) (hD : va_D A (w_M cA a S)) (hS : va_S A s.heap H locs) (hin : vp_in i 200) (hj : i.toNatClampNeg = j) (hdg : decode cc pc = .ok (.iastore, 1)) (kk : ∀ (H1 : Heap) (locs1 : List Loc), va_P D vwCl (w_M cA a (sti S 1 j v)) H1 → va_D A (w_M cA a (sti S 1 j v)) → va_S A s.heap H1 locs1 → W p l e R s m args below meth c H1 locs1 cells slots Q (F0 m (pc + 1) ls rest)) : W p l e R s m args below meth c H locs cells slots Q (F0 m pc ls (.int v :: .int i :: .ref (a 1) :: rest)) := by
  obtain ⟨hx, hb, -, hown, hts, hK, -, -, -⟩ := C
  subst hj
  exact va_iast hx hb hK hP hD hS 1 0 rfl rfl hin hdg (fun H1 locs1 h1 h2 h3 => kk H1 locs1 h1 h2 h3)
theorem pu_RX11_76_M_0_0 {v : Int32} (C : Cx p s m args meth c D cA cc nL RX11 ret) (hP : va_P D vwCl (w_M cA a S) H) (hD : va_D A (w_M cA a S)) (hS : va_S A s.heap H locs) (hdg : decode cc pc = .ok (.putfield 76, 3)) (kk : ∀ (H1 : Heap) (locs1 : List Loc), va_P D vwCl (w_M cA a (stf S 0 v)) H1 → va_D A (w_M cA a (stf S 0 v)) → va_S A s.heap H1 locs1 → W p l e R s m args below meth c H1 locs1 cells slots Q (F0 m (pc + 3) ls rest)) : W p l e R s m args below meth c H locs cells slots Q (F0 m pc ls (.int v :: .ref (a 0) :: rest)) := by
  obtain ⟨hx, hb, -, hown, hts, hK, -, -, -⟩ := C
  exact va_put (D := D) (ci := 10) (v := .int v) (ty := .int) (C := RX11) (T := TX11) (N := 28) hx hb hts inlX11 tyX11 tyX11_ok nmX11 hown hK hP hD hS 0 rfl rfl 0 (by decide) (hts _ fl_RX11_76) (fun _ h9 => h9) rfl (by decide +kernel) rfl rfl (Nat.le_of_ble_eq_true rfl) hdg (fun H1 locs1 h1 h2 h3 => kk H1 locs1 h1 h2 h3)
def fX11_write (N : Nat) (S : St) (p1 : Int32) : Option (Int32 × St) :=
  Option.bind (fX11_in N p1.toInt64 ((32 : Int64)) ((126 : Int64))) (fun q1 => if q1 = 0 then (some ((-1 : Int32), S)) else (if (S 0 0) = (200 : Int32) then (some ((-3 : Int32), S)) else (if ¬ ((S 0 0) < 0 ∨ 200 ≤ ((S 0 0)).toNatClampNeg) then (some (((stf (sti S 1 (((S 0 0)).toNatClampNeg) p1) 0 ((((sti S 1 (((S 0 0)).toNatClampNeg) p1) 0 0) + (1 : Int32)))) 0 0), (stf (sti S 1 (((S 0 0)).toNatClampNeg) p1) 0 ((((sti S 1 (((S 0 0)).toNatClampNeg) p1) 0 0) + (1 : Int32)))))) else none)))
set_option maxRecDepth 100000 in
set_option maxHeartbeats 4000000 in
theorem wX11_write (C : Cx p s m args meth c D cA cX11_write 2 RX11 (some .int)) (hA : ∀ q : Nat, s.heap.size ≤ q → A q) {N : Nat} {z : Int32 × St} {S : St} {p1 : Int32} (hf : fX11_write N S p1 = some z) {H : Heap} {locs : List Loc} {ls : Array Slot} (hP : va_P D vwCl (w_M cA a S) H) (hD : va_D A (w_M cA a S)) (hS : va_S A s.heap H locs) (hl : lv_has ls 2 [(0, .ref (a 0)), (1, .int p1)]) : W p l e (rmU 1 25 0 0) s m args below meth c H locs 0 0 (MQ below (QI D A z.1 (w_M cA a z.2)) args s 0 0 A) (F0 m 0 ls []) := by
  obtain ⟨hx, hb, hml, hown, hts, hK, hN, hr, hlk⟩ := id C
  unfold fX11_write at hf
  refine lv_iload_n (pc := 0) hx hb dX11_write_0 rfl (lv_at hl 1 rfl) ?_
  refine lv_i2l (v := p1.toInt64) (pc := 1) hx hb dX11_write_1 rfl ?_
  refine lv_ldc2 (pc := 2) (v := (32 : Int64)) hx hb hown (hts _ kl_RX11_68) dX11_write_2 ?_
  refine lv_ldc2 (pc := 5) (v := (126 : Int64)) hx hb hown (hts _ kl_RX11_70) dX11_write_5 ?_
  obtain ⟨q1, hq1, hf⟩ := pt_b hf
  have hPc : va_P D vwCl ([] : va_W) H := hP.sub [] rfl
  have hDc : va_D A ([] : va_W) := hD.sub [] (by decide) rfl
  refine prt_i (runU_S (pc := 8) (As := [.long p1.toInt64, .long ((32 : Int64)), .long ((126 : Int64))]) (rest := []) C lk_RX11_72 (kX11_in l D cA hq1 H.size) ⟨Nat.le_of_ble_eq_true rfl, Nat.le_of_ble_eq_true rfl⟩ ⟨Nat.le_refl _, Nat.le_refl _⟩ hPc hDc hl.1 rfl (Nat.le_of_ble_eq_true rfl) dX11_write_8) hP hD hS hA [] rfl (fun H locs hP hD hS => ?_)
  refine lv_if_ne (tgt := 16) (pc := 11) hx hb dX11_write_11 (by decide) (fun c2 => ?_) (fun c2 => ?_)
  · have hf := pt_f c2 hf
    refine lv_aload_n (pc := 16) hx hb dX11_write_16 rfl (lv_at hl 0 rfl) ?_
    refine ge_RX11_76_M_0_0 (pc := 17) C hP dX11_write_17 ?_
    refine lv_sipush (v := (200 : Int32)) (pc := 20) hx hb dX11_write_20 (by decide) ?_
    refine lv_icmp_ne (tgt := 29) (pc := 23) hx hb dX11_write_23 (by decide) (fun c3 => ?_) (fun c3 => ?_)
    · have hf := pt_f c3 hf
      refine lv_aload_n (pc := 29) hx hb dX11_write_29 rfl (lv_at hl 0 rfl) ?_
      refine ge_RX11_7_M_0_0 (pc := 30) C hP dX11_write_30 ?_
      refine lv_aload_n (pc := 33) hx hb dX11_write_33 rfl (lv_at hl 0 rfl) ?_
      refine ge_RX11_76_M_0_0 (pc := 34) C hP dX11_write_34 ?_
      refine lv_iload_n (pc := 37) hx hb dX11_write_37 rfl (lv_at hl 1 rfl) ?_
      obtain ⟨h4, hf⟩ := pt_g hf
      refine sr_M_0_1 (pc := 38) (j := ((S 0 0)).toNatClampNeg) C hP hD hS h4 rfl dX11_write_38 (fun H locs hP hD hS => ?_)
      refine lv_aload_n (pc := 39) hx hb dX11_write_39 rfl (lv_at hl 0 rfl) ?_
      refine lv_dup (pc := 40) hx hb dX11_write_40 rfl ?_
      refine ge_RX11_76_M_0_0 (pc := 41) C hP dX11_write_41 ?_
      refine lv_iconst (v := (1 : Int32)) (pc := 44) hx hb dX11_write_44 (by decide) ?_
      refine lv_iadd (pc := 45) hx hb dX11_write_45 ?_
      refine pu_RX11_76_M_0_0 (pc := 46) C hP hD hS dX11_write_46 (fun H locs hP hD hS => ?_)
      refine lv_aload_n (pc := 49) hx hb dX11_write_49 rfl (lv_at hl 0 rfl) ?_
      refine ge_RX11_76_M_0_0 (pc := 50) C hP dX11_write_50 ?_
      cases hf
      exact ret_i C hP hD hS dX11_write_53
    · have hf := pt_t c3 hf
      refine lv_bipush (v := (-3 : Int32)) (pc := 26) hx hb dX11_write_26 (by decide) ?_
      cases hf
      exact ret_i C hP hD hS dX11_write_28
  · have hf := pt_t c2 hf
    refine lv_iconst (v := (-1 : Int32)) (pc := 14) hx hb dX11_write_14 (by decide) ?_
    cases hf
    exact ret_i C hP hD hS dX11_write_15
set_option maxRecDepth 100000 in
set_option maxHeartbeats 4000000 in
theorem kX11_write (l : Launch) (D : va_G) (cA : Nat → ClassId) (a : Nat → Nat) {N : Nat} {S : St} {p1 : Int32} {z : Int32 × St} (hf : fX11_write N S p1 = some z) : CtI l yX11_write cX11_write 2 (some .int) 1 25 D cA (w_M cA a S) (w_M cA a z.2) [.ref (a 0), .int p1] z.1 := by
  intro sz
  refine Met.ofW (cc := cX11_write) (maxL := 2) (ret := (some .int)) (by decide) rfl ?_
  intro p e s m args below meth c s₁ B hml hv
  obtain ⟨rfl, hsz, hP, hK, hD0⟩ := hv
  subst hsz
  have C : Cx p s m _ meth c D cA cX11_write 2 RX11 (some .int) := Cx.of B hml hK
  have hD := hD0.self (sz := s.heap.size)
  have hA : ∀ q : Nat, s.heap.size ≤ q → va_A (w_M cA a S) s.heap.size q := fun q h => Or.inr h
  have hS : va_S (va_A (w_M cA a S) s.heap.size) s.heap s.heap [] := va_S.rf
  have hl := lv_entry ([.ref (a 0), .int p1]) (n := 2) (Nat.le_of_ble_eq_true rfl)
  rw [lg_entry_eq]
  generalize (lg_sl ([.ref (a 0), .int p1]) ++ List.replicate (2 - (lg_sl ([.ref (a 0), .int p1])).length) Slot.unset).toArray = ls at hl ⊢
  exact wX11_write C hA hf hP hD hS hl
def fX11_wipe (N : Nat) (S : St) : Option (Int32 × St) :=
  some ((S 0 0), (stf S 0 ((0 : Int32))))
set_option maxRecDepth 100000 in
set_option maxHeartbeats 4000000 in
theorem wX11_wipe (C : Cx p s m args meth c D cA cX11_wipe 2 RX11 (some .int)) (hA : ∀ q : Nat, s.heap.size ≤ q → A q) {N : Nat} {z : Int32 × St} {S : St} (hf : fX11_wipe N S = some z) {H : Heap} {locs : List Loc} {ls : Array Slot} (hP : va_P D vwCl (w_M cA a S) H) (hD : va_D A (w_M cA a S)) (hS : va_S A s.heap H locs) (hl : lv_has ls 2 [(0, .ref (a 0))]) : W p l e (rmU 0 0 0 0) s m args below meth c H locs 0 0 (MQ below (QI D A z.1 (w_M cA a z.2)) args s 0 0 A) (F0 m 0 ls []) := by
  obtain ⟨hx, hb, hml, hown, hts, hK, hN, hr, hlk⟩ := id C
  unfold fX11_wipe at hf
  refine lv_aload_n (pc := 0) hx hb dX11_wipe_0 rfl (lv_at hl 0 rfl) ?_
  refine ge_RX11_76_M_0_0 (pc := 1) C hP dX11_wipe_1 ?_
  refine lv_istore_n (lv' := [(1, .int ((S 0 0))), (0, .ref (a 0))]) (pc := 4) hx hb dX11_wipe_4 rfl hl (by decide) rfl (fun ls hl => ?_)
  refine lv_aload_n (pc := 5) hx hb dX11_wipe_5 rfl (lv_at hl 1 rfl) ?_
  refine lv_iconst (v := (0 : Int32)) (pc := 6) hx hb dX11_wipe_6 (by decide) ?_
  refine pu_RX11_76_M_0_0 (pc := 7) C hP hD hS dX11_wipe_7 (fun H locs hP hD hS => ?_)
  refine lv_iload_n (pc := 10) hx hb dX11_wipe_10 rfl (lv_at hl 0 rfl) ?_
  cases hf
  exact ret_i C hP hD hS dX11_wipe_11
set_option maxRecDepth 100000 in
set_option maxHeartbeats 4000000 in
theorem kX11_wipe (l : Launch) (D : va_G) (cA : Nat → ClassId) (a : Nat → Nat) {N : Nat} {S : St} {z : Int32 × St} (hf : fX11_wipe N S = some z) : CtI l yX11_wipe cX11_wipe 2 (some .int) 0 0 D cA (w_M cA a S) (w_M cA a z.2) [.ref (a 0)] z.1 := by
  intro sz
  refine Met.ofW (cc := cX11_wipe) (maxL := 2) (ret := (some .int)) (by decide) rfl ?_
  intro p e s m args below meth c s₁ B hml hv
  obtain ⟨rfl, hsz, hP, hK, hD0⟩ := hv
  subst hsz
  have C : Cx p s m _ meth c D cA cX11_wipe 2 RX11 (some .int) := Cx.of B hml hK
  have hD := hD0.self (sz := s.heap.size)
  have hA : ∀ q : Nat, s.heap.size ≤ q → va_A (w_M cA a S) s.heap.size q := fun q h => Or.inr h
  have hS : va_S (va_A (w_M cA a S) s.heap.size) s.heap s.heap [] := va_S.rf
  have hl := lv_entry ([.ref (a 0)]) (n := 2) (Nat.le_of_ble_eq_true rfl)
  rw [lg_entry_eq]
  generalize (lg_sl ([.ref (a 0)]) ++ List.replicate (2 - (lg_sl ([.ref (a 0)])).length) Slot.unset).toArray = ls at hl ⊢
  exact wX11_wipe C hA hf hP hD hS hl
theorem ld_M_0_1 {i : Int32} {j : Nat} (C : Cx p s m args meth c D cA cc nL own ret) (hP : va_P D vwCl (w_M cA a S) H) (hin : vp_in i 200) (hj : i.toNatClampNeg = j) (hdg : decode cc pc = .ok (.iaload, 1)) (kk : W p l e R s m args below meth c H locs cells slots Q (F0 m (pc + 1) ls (.int (S 1 j) :: rest))) : W p l e R s m args below meth c H locs cells slots Q (F0 m pc ls (.int i :: .ref (a 1) :: rest)) := by
  obtain ⟨hx, hb, -, hown, hts, hK, -, -, -⟩ := C
  subst hj
  exact va_iald hx hb hK hP 1 0 rfl rfl hin hdg kk
def fX11_letterAt (N : Nat) (S : St) (p1 : Int32) : Option (Int32) :=
  if (S 0 0) ≤ p1 then (some ((0 : Int32))) else (if ¬ (p1 < 0 ∨ 200 ≤ p1.toNatClampNeg) then (some ((S 1 p1.toNatClampNeg))) else none)
set_option maxRecDepth 100000 in
set_option maxHeartbeats 4000000 in
theorem wX11_letterAt (C : Cx p s m args meth c D cA cX11_letterAt 2 RX11 (some .int)) (hA : ∀ q : Nat, s.heap.size ≤ q → A q) {N : Nat} {z : Int32} {S : St} {p1 : Int32} (hf : fX11_letterAt N S p1 = some z) {H : Heap} {locs : List Loc} {ls : Array Slot} (hP : va_P D vwCl (w_M cA a S) H) (hD : va_D A (w_M cA a S)) (hS : va_S A s.heap H locs) (hl : lv_has ls 2 [(0, .ref (a 0)), (1, .int p1)]) : W p l e (rmU 0 0 0 0) s m args below meth c H locs 0 0 (MQ below (QI D A z (w_M cA a S)) args s 0 0 A) (F0 m 0 ls []) := by
  obtain ⟨hx, hb, hml, hown, hts, hK, hN, hr, hlk⟩ := id C
  unfold fX11_letterAt at hf
  refine lv_iload_n (pc := 0) hx hb dX11_letterAt_0 rfl (lv_at hl 1 rfl) ?_
  refine lv_aload_n (pc := 1) hx hb dX11_letterAt_1 rfl (lv_at hl 0 rfl) ?_
  refine ge_RX11_76_M_0_0 (pc := 2) C hP dX11_letterAt_2 ?_
  refine lv_icmp_ge (tgt := 17) (pc := 5) hx hb dX11_letterAt_5 (by decide) (fun c1 => ?_) (fun c1 => ?_)
  · have hf := pt_t c1 hf
    refine lv_iconst (v := (0 : Int32)) (pc := 17) hx hb dX11_letterAt_17 (by decide) ?_
    cases hf
    exact ret_i C hP hD hS dX11_letterAt_18
  · have hf := pt_f c1 hf
    refine lv_aload_n (pc := 8) hx hb dX11_letterAt_8 rfl (lv_at hl 0 rfl) ?_
    refine ge_RX11_7_M_0_0 (pc := 9) C hP dX11_letterAt_9 ?_
    refine lv_iload_n (pc := 12) hx hb dX11_letterAt_12 rfl (lv_at hl 1 rfl) ?_
    obtain ⟨h2, hf⟩ := pt_g hf
    refine ld_M_0_1 (pc := 13) (j := p1.toNatClampNeg) C hP h2 rfl dX11_letterAt_13 ?_
    refine lv_goto (tgt := 18) (pc := 14) hx hb dX11_letterAt_14 (by decide) ?_
    cases hf
    exact ret_i C hP hD hS dX11_letterAt_18
set_option maxRecDepth 100000 in
set_option maxHeartbeats 4000000 in
theorem kX11_letterAt (l : Launch) (D : va_G) (cA : Nat → ClassId) (a : Nat → Nat) {N : Nat} {S : St} {p1 : Int32} {z : Int32} (hf : fX11_letterAt N S p1 = some z) : CtI l yX11_letterAt cX11_letterAt 2 (some .int) 0 0 D cA (w_M cA a S) (w_M cA a S) [.ref (a 0), .int p1] z := by
  intro sz
  refine Met.ofW (cc := cX11_letterAt) (maxL := 2) (ret := (some .int)) (by decide) rfl ?_
  intro p e s m args below meth c s₁ B hml hv
  obtain ⟨rfl, hsz, hP, hK, hD0⟩ := hv
  subst hsz
  have C : Cx p s m _ meth c D cA cX11_letterAt 2 RX11 (some .int) := Cx.of B hml hK
  have hD := hD0.self (sz := s.heap.size)
  have hA : ∀ q : Nat, s.heap.size ≤ q → va_A (w_M cA a S) s.heap.size q := fun q h => Or.inr h
  have hS : va_S (va_A (w_M cA a S) s.heap.size) s.heap s.heap [] := va_S.rf
  have hl := lv_entry ([.ref (a 0), .int p1]) (n := 2) (Nat.le_of_ble_eq_true rfl)
  rw [lg_entry_eq]
  generalize (lg_sl ([.ref (a 0), .int p1]) ++ List.replicate (2 - (lg_sl ([.ref (a 0), .int p1])).length) Slot.unset).toArray = ls at hl ⊢
  exact wX11_letterAt C hA hf hP hD hS hl
theorem fl_RX11_49 : Cond.fieldLink RX11 49 "SevenOnStrikeModel" "told" "[I" ∈ wsL_law := by decide +kernel
theorem ge_RX11_49_M_0_0 (C : Cx p s m args meth c D cA cc nL RX11 ret) (hP : va_P D vwCl (w_M cA a S) H) (hdg : decode cc pc = .ok (.getfield 49, 3)) (kk : W p l e R s m args below meth c H locs cells slots Q (F0 m (pc + 3) ls (.ref (a 14) :: rest))) : W p l e R s m args below meth c H locs cells slots Q (F0 m pc ls (.ref (a 0) :: rest)) := by
  obtain ⟨hx, hb, -, hown, hts, hK, -, -, -⟩ := C
  exact va_get (D := D) (ci := 10) (v := .ref (a 14)) (C := RX11) (T := TX11) (N := 28) hx hb hts inlX11 hown hK hP 0 rfl rfl 18 (by decide) (hts _ fl_RX11_49) (fun _ h9 => h9) rfl hdg kk
theorem sr_M_0_14 {i v : Int32} {j : Nat} (C : Cx p s m args meth c D cA cc nL own ret) (hP : va_P D vwCl (w_M cA a S) H) (hD : va_D A (w_M cA a S)) (hS : va_S A s.heap H locs) (hin : vp_in i 2) (hj : i.toNatClampNeg = j) (hdg : decode cc pc = .ok (.iastore, 1)) (kk : ∀ (H1 : Heap) (locs1 : List Loc), va_P D vwCl (w_M cA a (sti S 18 j v)) H1 → va_D A (w_M cA a (sti S 18 j v)) → va_S A s.heap H1 locs1 → W p l e R s m args below meth c H1 locs1 cells slots Q (F0 m (pc + 1) ls rest)) : W p l e R s m args below meth c H locs cells slots Q (F0 m pc ls (.int v :: .int i :: .ref (a 14) :: rest)) := by
  obtain ⟨hx, hb, -, hown, hts, hK, -, -, -⟩ := C
  subst hj
  exact va_iast hx hb hK hP hD hS 14 0 rfl rfl hin hdg (fun H1 locs1 h1 h2 h3 => kk H1 locs1 h1 h2 h3)
theorem fl_RX11_80 : Cond.fieldLink RX11 80 "SevenOnStrikeModel" "spot" "I" ∈ wsL_law := by decide +kernel
theorem ge_RX11_80_M_0_0 (C : Cx p s m args meth c D cA cc nL RX11 ret) (hP : va_P D vwCl (w_M cA a S) H) (hdg : decode cc pc = .ok (.getfield 80, 3)) (kk : W p l e R s m args below meth c H locs cells slots Q (F0 m (pc + 3) ls (.int (S 17 0) :: rest))) : W p l e R s m args below meth c H locs cells slots Q (F0 m pc ls (.ref (a 0) :: rest)) := by
  obtain ⟨hx, hb, -, hown, hts, hK, -, -, -⟩ := C
  exact va_get (D := D) (ci := 10) (v := .int (S 17 0)) (C := RX11) (T := TX11) (N := 28) hx hb hts inlX11 hown hK hP 0 rfl rfl 17 (by decide) (hts _ fl_RX11_80) (fun _ h9 => h9) rfl hdg kk
theorem pu_RX11_80_M_0_0 {v : Int32} (C : Cx p s m args meth c D cA cc nL RX11 ret) (hP : va_P D vwCl (w_M cA a S) H) (hD : va_D A (w_M cA a S)) (hS : va_S A s.heap H locs) (hdg : decode cc pc = .ok (.putfield 80, 3)) (kk : ∀ (H1 : Heap) (locs1 : List Loc), va_P D vwCl (w_M cA a (stf S 17 v)) H1 → va_D A (w_M cA a (stf S 17 v)) → va_S A s.heap H1 locs1 → W p l e R s m args below meth c H1 locs1 cells slots Q (F0 m (pc + 3) ls rest)) : W p l e R s m args below meth c H locs cells slots Q (F0 m pc ls (.int v :: .ref (a 0) :: rest)) := by
  obtain ⟨hx, hb, -, hown, hts, hK, -, -, -⟩ := C
  exact va_put (D := D) (ci := 10) (v := .int v) (ty := .int) (C := RX11) (T := TX11) (N := 28) hx hb hts inlX11 tyX11 tyX11_ok nmX11 hown hK hP hD hS 0 rfl rfl 17 (by decide) (hts _ fl_RX11_80) (fun _ h9 => h9) rfl (by decide +kernel) rfl rfl (Nat.le_of_ble_eq_true rfl) hdg (fun H1 locs1 h1 h2 h3 => kk H1 locs1 h1 h2 h3)
theorem kl_RX11_91 : Cond.constantLong RX11 91 (2) ∈ wsL_law := by decide +kernel
theorem lk_RX11_83 : LkV RX11 83 yX11_letterAt cX11_letterAt 2 (some .int) 1 := ⟨⟨by decide +kernel, by decide +kernel, by decide +kernel, by decide +kernel, by decide +kernel, by decide +kernel⟩, by decide +kernel, by decide +kernel⟩
theorem kl_RX11_87 : Cond.constantLong RX11 87 (48) ∈ wsL_law := by decide +kernel
theorem kl_RX11_89 : Cond.constantLong RX11 89 (57) ∈ wsL_law := by decide +kernel
def fX11_figures_j107 (N : Nat) (p1 : Int32) (g2 : Int32 × St → Option (Int32 × St)) (x2 : Int32) (x4 : Int32) (y0 : Int32) (y1 : Int32) (S : St) : Option (Int32 × St) :=
  if y0 = y1 then (if ¬ (x2 < 0 ∨ 2 ≤ x2.toNatClampNeg) then (g2 (((x2 + 1), (stf (sti S 18 x2.toNatClampNeg x4) 17 ((((sti S 18 x2.toNatClampNeg x4) 17 0) + (1 : Int32))))))) else none) else (some ((0 : Int32), S))
def fX11_figures_j73 (N : Nat) (p1 : Int32) (g2 : Int32 × St → Option (Int32 × St)) (x2 : Int32) (x3 : Int32) (x4 : Int32) (S : St) : Option (Int32 × St) :=
  Option.bind (fX11_in N x3.toInt64 ((1 : Int64)) ((2 : Int64))) (fun q1 => if q1 = 0 then (some ((0 : Int32), S)) else (Option.bind (fX11_letterAt N S ((S 17 0))) (fun q3 => if (p1 - (1 : Int32)) ≤ x2 then (fX11_figures_j107 N p1 g2 x2 x4 q3 ((59 : Int32)) S) else (fX11_figures_j107 N p1 g2 x2 x4 q3 ((44 : Int32)) S))))
def fX11_figures_b12 (N : Nat) (p1 : Int32) (g2 : Int32 × St → Option (Int32 × St)) (g12 : Int32 × Int32 × Int32 × St → Option (Int32 × St)) (x2 : Int32) (x3 : Int32) (x4 : Int32) (S : St) : Option (Int32 × St) :=
  Option.bind (fX11_letterAt N S ((S 17 0))) (fun q1 => Option.bind (fX11_in N q1.toInt64 ((48 : Int64)) ((57 : Int64))) (fun q2 => if q2 = 0 then (fX11_figures_j73 N p1 g2 x2 x3 x4 S) else (if (3 : Int32) ≤ x3 then (fX11_figures_j73 N p1 g2 x2 x3 x4 S) else (Option.bind (fX11_letterAt N S ((S 17 0))) (fun q5 => nm (((((10 : Int32) * x4) + q5) - (48 : Int32))) (fun v6 => g12 ((x2, (x3 + 1), v6, (stf S 17 (((S 17 0) + (1 : Int32))))))))))))
def fX11_figures_l12 (N : Nat) (p1 : Int32) (g2 : Int32 × St → Option (Int32 × St)) (k : Nat) (q : Int32 × Int32 × Int32 × St) : Option (Int32 × St) := lpN (fun g q => fX11_figures_b12 N p1 g2 g q.1 q.2.1 q.2.2.1 q.2.2.2) k q
def fX11_figures_b2 (N : Nat) (p1 : Int32) (g2 : Int32 × St → Option (Int32 × St)) (x2 : Int32) (S : St) : Option (Int32 × St) :=
  if p1 ≤ x2 then (some ((1 : Int32), S)) else (fX11_figures_l12 N p1 g2 N ((x2, (0 : Int32), (0 : Int32), S)))
def fX11_figures_l2 (N : Nat) (p1 : Int32) (k : Nat) (q : Int32 × St) : Option (Int32 × St) := lpN (fun g q => fX11_figures_b2 N p1 g q.1 q.2) k q
def fX11_figures (N : Nat) (S : St) (p1 : Int32) : Option (Int32 × St) :=
  fX11_figures_l2 N p1 N (((0 : Int32), S))
set_option maxRecDepth 100000 in
set_option maxHeartbeats 4000000 in
theorem wX11_figures_107 (C : Cx p s m args meth c D cA cX11_figures 5 RX11 (some .boolean)) (hA : ∀ q : Nat, s.heap.size ≤ q → A q) {N : Nat} {z : Int32 × St} {p1 : Int32} {g2 : Int32 × St → Option (Int32 × St)} (hg2 : ∀ (x2 : Int32) (S : St), g2 (x2, S) = some z → ∀ (H : Heap) (locs : List Loc) (ls : Array Slot), va_P D vwCl (w_M cA a S) H → va_D A (w_M cA a S) → va_S A s.heap H locs → lv_has ls 5 [(0, .ref (a 0)), (1, .int p1), (2, .int x2)] → W p l e (rmU 1 25 0 0) s m args below meth c H locs 0 0 (MQ below (QI D A z.1 (w_M cA a z.2)) args s 0 0 A) (F0 m 2 ls [])) {x2 : Int32} {x4 : Int32} {y0 : Int32} {y1 : Int32} {S : St} (hf : fX11_figures_j107 N p1 g2 x2 x4 y0 y1 S = some z) {H : Heap} {locs : List Loc} {ls : Array Slot} (hP : va_P D vwCl (w_M cA a S) H) (hD : va_D A (w_M cA a S)) (hS : va_S A s.heap H locs) (hl : lv_has ls 5 [(0, .ref (a 0)), (1, .int p1), (2, .int x2), (4, .int x4)]) : W p l e (rmU 1 25 0 0) s m args below meth c H locs 0 0 (MQ below (QI D A z.1 (w_M cA a z.2)) args s 0 0 A) (F0 m 107 ls [.int y1, .int y0]) := by
  obtain ⟨hx, hb, hml, hown, hts, hK, hN, hr, hlk⟩ := id C
  unfold fX11_figures_j107 at hf
  refine lv_icmp_eq (tgt := 112) (pc := 107) hx hb dX11_figures_107 (by decide) (fun c1 => ?_) (fun c1 => ?_)
  · have hf := pt_t c1 hf
    refine lv_aload_n (pc := 112) hx hb dX11_figures_112 rfl (lv_at hl 0 rfl) ?_
    refine ge_RX11_49_M_0_0 (pc := 113) C hP dX11_figures_113 ?_
    refine lv_iload_n (pc := 116) hx hb dX11_figures_116 rfl (lv_at hl 2 rfl) ?_
    refine lv_iload (pc := 117) hx hb dX11_figures_117 (lv_at hl 3 rfl) ?_
    obtain ⟨h2, hf⟩ := pt_g hf
    refine sr_M_0_14 (pc := 119) (j := x2.toNatClampNeg) C hP hD hS h2 rfl dX11_figures_119 (fun H locs hP hD hS => ?_)
    refine lv_aload_n (pc := 120) hx hb dX11_figures_120 rfl (lv_at hl 0 rfl) ?_
    refine lv_dup (pc := 121) hx hb dX11_figures_121 rfl ?_
    refine ge_RX11_80_M_0_0 (pc := 122) C hP dX11_figures_122 ?_
    refine lv_iconst (v := (1 : Int32)) (pc := 125) hx hb dX11_figures_125 (by decide) ?_
    refine lv_iadd (pc := 126) hx hb dX11_figures_126 ?_
    refine pu_RX11_80_M_0_0 (pc := 127) C hP hD hS dX11_figures_127 (fun H locs hP hD hS => ?_)
    refine lv_iinc (v := (x2 + 1)) (lv' := [(2, .int ((x2 + 1))), (0, .ref (a 0)), (1, .int p1), (4, .int x4)]) (pc := 130) hx hb dX11_figures_130 hl (k := 2) rfl (by rfl) (by decide) rfl (fun ls hl => ?_)
    refine lv_goto (tgt := 2) (pc := 133) hx hb dX11_figures_133 (by decide) ?_
    exact hg2 ((x2 + 1)) ((stf (sti S 18 x2.toNatClampNeg x4) 17 ((((sti S 18 x2.toNatClampNeg x4) 17 0) + (1 : Int32))))) hf _ _ _ hP hD hS (lv_sub hl [1, 2, 0] rfl)
  · have hf := pt_f c1 hf
    refine lv_iconst (v := (0 : Int32)) (pc := 110) hx hb dX11_figures_110 (by decide) ?_
    cases hf
    exact ret_z C (Or.inl rfl) hP hD hS dX11_figures_111
set_option maxRecDepth 100000 in
set_option maxHeartbeats 4000000 in
theorem wX11_figures_73 (C : Cx p s m args meth c D cA cX11_figures 5 RX11 (some .boolean)) (hA : ∀ q : Nat, s.heap.size ≤ q → A q) {N : Nat} {z : Int32 × St} {p1 : Int32} {g2 : Int32 × St → Option (Int32 × St)} (hg2 : ∀ (x2 : Int32) (S : St), g2 (x2, S) = some z → ∀ (H : Heap) (locs : List Loc) (ls : Array Slot), va_P D vwCl (w_M cA a S) H → va_D A (w_M cA a S) → va_S A s.heap H locs → lv_has ls 5 [(0, .ref (a 0)), (1, .int p1), (2, .int x2)] → W p l e (rmU 1 25 0 0) s m args below meth c H locs 0 0 (MQ below (QI D A z.1 (w_M cA a z.2)) args s 0 0 A) (F0 m 2 ls [])) {x2 : Int32} {x3 : Int32} {x4 : Int32} {S : St} (hf : fX11_figures_j73 N p1 g2 x2 x3 x4 S = some z) {H : Heap} {locs : List Loc} {ls : Array Slot} (hP : va_P D vwCl (w_M cA a S) H) (hD : va_D A (w_M cA a S)) (hS : va_S A s.heap H locs) (hl : lv_has ls 5 [(0, .ref (a 0)), (1, .int p1), (2, .int x2), (3, .int x3), (4, .int x4)]) : W p l e (rmU 1 25 0 0) s m args below meth c H locs 0 0 (MQ below (QI D A z.1 (w_M cA a z.2)) args s 0 0 A) (F0 m 73 ls []) := by
  obtain ⟨hx, hb, hml, hown, hts, hK, hN, hr, hlk⟩ := id C
  unfold fX11_figures_j73 at hf
  refine lv_iload_n (pc := 73) hx hb dX11_figures_73 rfl (lv_at hl 3 rfl) ?_
  refine lv_i2l (v := x3.toInt64) (pc := 74) hx hb dX11_figures_74 rfl ?_
  refine lv_lconst (v := (1 : Int64)) (pc := 75) hx hb dX11_figures_75 (by decide) ?_
  refine lv_ldc2 (pc := 76) (v := (2 : Int64)) hx hb hown (hts _ kl_RX11_91) dX11_figures_76 ?_
  obtain ⟨q1, hq1, hf⟩ := pt_b hf
  have hPc : va_P D vwCl ([] : va_W) H := hP.sub [] rfl
  have hDc : va_D A ([] : va_W) := hD.sub [] (by decide) rfl
  refine prt_i (runU_S (pc := 79) (As := [.long x3.toInt64, .long ((1 : Int64)), .long ((2 : Int64))]) (rest := []) C lk_RX11_72 (kX11_in l D cA hq1 H.size) ⟨Nat.le_of_ble_eq_true rfl, Nat.le_of_ble_eq_true rfl⟩ ⟨Nat.le_refl _, Nat.le_refl _⟩ hPc hDc hl.1 rfl (Nat.le_of_ble_eq_true rfl) dX11_figures_79) hP hD hS hA [] rfl (fun H locs hP hD hS => ?_)
  refine lv_if_eq (tgt := 110) (pc := 82) hx hb dX11_figures_82 (by decide) (fun c2 => ?_) (fun c2 => ?_)
  · have hf := pt_t c2 hf
    refine lv_iconst (v := (0 : Int32)) (pc := 110) hx hb dX11_figures_110 (by decide) ?_
    cases hf
    exact ret_z C (Or.inl rfl) hP hD hS dX11_figures_111
  · have hf := pt_f c2 hf
    refine lv_aload_n (pc := 85) hx hb dX11_figures_85 rfl (lv_at hl 0 rfl) ?_
    refine lv_aload_n (pc := 86) hx hb dX11_figures_86 rfl (lv_at hl 0 rfl) ?_
    refine ge_RX11_80_M_0_0 (pc := 87) C hP dX11_figures_87 ?_
    obtain ⟨q3, hq3, hf⟩ := pt_b hf
    refine all_i (runU_V (pc := 90) (As := [.int ((S 17 0))]) (b := a 0) (rest := []) (ci := 10) (q0 := 0) C lk_RX11_83 (kX11_letterAt l D cA a hq3 H.size) ⟨Nat.le_of_ble_eq_true rfl, Nat.le_of_ble_eq_true rfl⟩ ⟨Nat.le_refl _, Nat.le_refl _⟩ hP hD rfl rfl rfl hl.1 rfl (Nat.le_of_ble_eq_true rfl) dX11_figures_90) hD hS hA (fun H locs hP hD hS => ?_)
    refine lv_iload_n (pc := 93) hx hb dX11_figures_93 rfl (lv_at hl 2 rfl) ?_
    refine lv_iload_n (pc := 94) hx hb dX11_figures_94 rfl (lv_at hl 1 rfl) ?_
    refine lv_iconst (v := (1 : Int32)) (pc := 95) hx hb dX11_figures_95 (by decide) ?_
    refine lv_isub (pc := 96) hx hb dX11_figures_96 ?_
    refine lv_icmp_ge (tgt := 105) (pc := 97) hx hb dX11_figures_97 (by decide) (fun c4 => ?_) (fun c4 => ?_)
    · have hf := pt_t c4 hf
      refine lv_bipush (v := (59 : Int32)) (pc := 105) hx hb dX11_figures_105 (by decide) ?_
      exact wX11_figures_107 C hA hg2 hf hP hD hS (lv_sub hl [0, 1, 2, 4] rfl)
    · have hf := pt_f c4 hf
      refine lv_bipush (v := (44 : Int32)) (pc := 100) hx hb dX11_figures_100 (by decide) ?_
      refine lv_goto (tgt := 107) (pc := 102) hx hb dX11_figures_102 (by decide) ?_
      exact wX11_figures_107 C hA hg2 hf hP hD hS (lv_sub hl [0, 1, 2, 4] rfl)
set_option maxRecDepth 100000 in
set_option maxHeartbeats 4000000 in
theorem wX11_figures_12 (C : Cx p s m args meth c D cA cX11_figures 5 RX11 (some .boolean)) (hA : ∀ q : Nat, s.heap.size ≤ q → A q) {N : Nat} {z : Int32 × St} {p1 : Int32} {g2 : Int32 × St → Option (Int32 × St)} (hg2 : ∀ (x2 : Int32) (S : St), g2 (x2, S) = some z → ∀ (H : Heap) (locs : List Loc) (ls : Array Slot), va_P D vwCl (w_M cA a S) H → va_D A (w_M cA a S) → va_S A s.heap H locs → lv_has ls 5 [(0, .ref (a 0)), (1, .int p1), (2, .int x2)] → W p l e (rmU 1 25 0 0) s m args below meth c H locs 0 0 (MQ below (QI D A z.1 (w_M cA a z.2)) args s 0 0 A) (F0 m 2 ls [])) : ∀ (k : Nat) (x2 : Int32) (x3 : Int32) (x4 : Int32) (S : St), fX11_figures_l12 N p1 g2 k (x2, x3, x4, S) = some z → ∀ (H : Heap) (locs : List Loc) (ls : Array Slot), va_P D vwCl (w_M cA a S) H → va_D A (w_M cA a S) → va_S A s.heap H locs → lv_has ls 5 [(0, .ref (a 0)), (1, .int p1), (2, .int x2), (3, .int x3), (4, .int x4)] → W p l e (rmU 1 25 0 0) s m args below meth c H locs 0 0 (MQ below (QI D A z.1 (w_M cA a z.2)) args s 0 0 A) (F0 m 12 ls []) := by
  obtain ⟨hx, hb, hml, hown, hts, hK, hN, hr, hlk⟩ := id C
  intro k
  induction k with
  | zero =>
    intro x2 x3 x4 S hf
    have hf : (none : Option (Int32 × St)) = some z := hf
    cases hf
  | succ k hg12 =>
    intro x2 x3 x4 S hf H locs ls hP hD hS hl
    have hf : fX11_figures_b12 N p1 g2 (fX11_figures_l12 N p1 g2 k) x2 x3 x4 S = some z := hf
    unfold fX11_figures_b12 at hf
    refine lv_aload_n (pc := 12) hx hb dX11_figures_12 rfl (lv_at hl 0 rfl) ?_
    refine lv_aload_n (pc := 13) hx hb dX11_figures_13 rfl (lv_at hl 0 rfl) ?_
    refine ge_RX11_80_M_0_0 (pc := 14) C hP dX11_figures_14 ?_
    obtain ⟨q1, hq1, hf⟩ := pt_b hf
    refine all_i (runU_V (pc := 17) (As := [.int ((S 17 0))]) (b := a 0) (rest := []) (ci := 10) (q0 := 0) C lk_RX11_83 (kX11_letterAt l D cA a hq1 H.size) ⟨Nat.le_of_ble_eq_true rfl, Nat.le_of_ble_eq_true rfl⟩ ⟨Nat.le_refl _, Nat.le_refl _⟩ hP hD rfl rfl rfl hl.1 rfl (Nat.le_of_ble_eq_true rfl) dX11_figures_17) hD hS hA (fun H locs hP hD hS => ?_)
    refine lv_i2l (v := q1.toInt64) (pc := 20) hx hb dX11_figures_20 rfl ?_
    refine lv_ldc2 (pc := 21) (v := (48 : Int64)) hx hb hown (hts _ kl_RX11_87) dX11_figures_21 ?_
    refine lv_ldc2 (pc := 24) (v := (57 : Int64)) hx hb hown (hts _ kl_RX11_89) dX11_figures_24 ?_
    obtain ⟨q2, hq2, hf⟩ := pt_b hf
    have hPc : va_P D vwCl ([] : va_W) H := hP.sub [] rfl
    have hDc : va_D A ([] : va_W) := hD.sub [] (by decide) rfl
    refine prt_i (runU_S (pc := 27) (As := [.long q1.toInt64, .long ((48 : Int64)), .long ((57 : Int64))]) (rest := []) C lk_RX11_72 (kX11_in l D cA hq2 H.size) ⟨Nat.le_of_ble_eq_true rfl, Nat.le_of_ble_eq_true rfl⟩ ⟨Nat.le_refl _, Nat.le_refl _⟩ hPc hDc hl.1 rfl (Nat.le_of_ble_eq_true rfl) dX11_figures_27) hP hD hS hA [] rfl (fun H locs hP hD hS => ?_)
    refine lv_if_eq (tgt := 73) (pc := 30) hx hb dX11_figures_30 (by decide) (fun c3 => ?_) (fun c3 => ?_)
    · have hf := pt_t c3 hf
      exact wX11_figures_73 C hA hg2 hf hP hD hS (lv_sub hl [0, 1, 2, 3, 4] rfl)
    · have hf := pt_f c3 hf
      refine lv_iload_n (pc := 33) hx hb dX11_figures_33 rfl (lv_at hl 3 rfl) ?_
      refine lv_iconst (v := (3 : Int32)) (pc := 34) hx hb dX11_figures_34 (by decide) ?_
      refine lv_icmp_ge (tgt := 73) (pc := 35) hx hb dX11_figures_35 (by decide) (fun c4 => ?_) (fun c4 => ?_)
      · have hf := pt_t c4 hf
        exact wX11_figures_73 C hA hg2 hf hP hD hS (lv_sub hl [0, 1, 2, 3, 4] rfl)
      · have hf := pt_f c4 hf
        refine lv_bipush (v := (10 : Int32)) (pc := 38) hx hb dX11_figures_38 (by decide) ?_
        refine lv_iload (pc := 40) hx hb dX11_figures_40 (lv_at hl 4 rfl) ?_
        refine lv_imul (pc := 42) hx hb dX11_figures_42 ?_
        refine lv_aload_n (pc := 43) hx hb dX11_figures_43 rfl (lv_at hl 0 rfl) ?_
        refine lv_aload_n (pc := 44) hx hb dX11_figures_44 rfl (lv_at hl 0 rfl) ?_
        refine ge_RX11_80_M_0_0 (pc := 45) C hP dX11_figures_45 ?_
        obtain ⟨q5, hq5, hf⟩ := pt_b hf
        refine all_i (runU_V (pc := 48) (As := [.int ((S 17 0))]) (b := a 0) (rest := [.int (((10 : Int32) * x4))]) (ci := 10) (q0 := 0) C lk_RX11_83 (kX11_letterAt l D cA a hq5 H.size) ⟨Nat.le_of_ble_eq_true rfl, Nat.le_of_ble_eq_true rfl⟩ ⟨Nat.le_refl _, Nat.le_refl _⟩ hP hD rfl rfl rfl hl.1 rfl (Nat.le_of_ble_eq_true rfl) dX11_figures_48) hD hS hA (fun H locs hP hD hS => ?_)
        refine lv_iadd (pc := 51) hx hb dX11_figures_51 ?_
        refine lv_bipush (v := (48 : Int32)) (pc := 52) hx hb dX11_figures_52 (by decide) ?_
        refine lv_isub (pc := 54) hx hb dX11_figures_54 ?_
        refine lv_topi (fun v6 ev6 => ?_)
        have hf := pt_n ev6 hf
        refine lv_istore (lv' := [(4, .int v6), (0, .ref (a 0)), (1, .int p1), (2, .int x2), (3, .int x3)]) (pc := 55) hx hb dX11_figures_55 hl (by decide) rfl (fun ls hl => ?_)
        refine lv_iinc (v := (x3 + 1)) (lv' := [(3, .int ((x3 + 1))), (4, .int v6), (0, .ref (a 0)), (1, .int p1), (2, .int x2)]) (pc := 57) hx hb dX11_figures_57 hl (k := 4) rfl (by rfl) (by decide) rfl (fun ls hl => ?_)
        refine lv_aload_n (pc := 60) hx hb dX11_figures_60 rfl (lv_at hl 2 rfl) ?_
        refine lv_dup (pc := 61) hx hb dX11_figures_61 rfl ?_
        refine ge_RX11_80_M_0_0 (pc := 62) C hP dX11_figures_62 ?_
        refine lv_iconst (v := (1 : Int32)) (pc := 65) hx hb dX11_figures_65 (by decide) ?_
        refine lv_iadd (pc := 66) hx hb dX11_figures_66 ?_
        refine pu_RX11_80_M_0_0 (pc := 67) C hP hD hS dX11_figures_67 (fun H locs hP hD hS => ?_)
        refine lv_goto (tgt := 12) (pc := 70) hx hb dX11_figures_70 (by decide) ?_
        exact hg12 x2 ((x3 + 1)) v6 ((stf S 17 (((S 17 0) + (1 : Int32))))) hf _ _ _ hP hD hS (lv_sub hl [2, 3, 4, 0, 1] rfl)
set_option maxRecDepth 100000 in
set_option maxHeartbeats 4000000 in
theorem wX11_figures_2 (C : Cx p s m args meth c D cA cX11_figures 5 RX11 (some .boolean)) (hA : ∀ q : Nat, s.heap.size ≤ q → A q) {N : Nat} {z : Int32 × St} {p1 : Int32} : ∀ (k : Nat) (x2 : Int32) (S : St), fX11_figures_l2 N p1 k (x2, S) = some z → ∀ (H : Heap) (locs : List Loc) (ls : Array Slot), va_P D vwCl (w_M cA a S) H → va_D A (w_M cA a S) → va_S A s.heap H locs → lv_has ls 5 [(0, .ref (a 0)), (1, .int p1), (2, .int x2)] → W p l e (rmU 1 25 0 0) s m args below meth c H locs 0 0 (MQ below (QI D A z.1 (w_M cA a z.2)) args s 0 0 A) (F0 m 2 ls []) := by
  obtain ⟨hx, hb, hml, hown, hts, hK, hN, hr, hlk⟩ := id C
  intro k
  induction k with
  | zero =>
    intro x2 S hf
    have hf : (none : Option (Int32 × St)) = some z := hf
    cases hf
  | succ k hg2 =>
    intro x2 S hf H locs ls hP hD hS hl
    have hf : fX11_figures_b2 N p1 (fX11_figures_l2 N p1 k) x2 S = some z := hf
    unfold fX11_figures_b2 at hf
    refine lv_iload_n (pc := 2) hx hb dX11_figures_2 rfl (lv_at hl 2 rfl) ?_
    refine lv_iload_n (pc := 3) hx hb dX11_figures_3 rfl (lv_at hl 1 rfl) ?_
    refine lv_icmp_ge (tgt := 136) (pc := 4) hx hb dX11_figures_4 (by decide) (fun c1 => ?_) (fun c1 => ?_)
    · have hf := pt_t c1 hf
      refine lv_iconst (v := (1 : Int32)) (pc := 136) hx hb dX11_figures_136 (by decide) ?_
      cases hf
      exact ret_z C (Or.inr rfl) hP hD hS dX11_figures_137
    · have hf := pt_f c1 hf
      refine lv_iconst (v := (0 : Int32)) (pc := 7) hx hb dX11_figures_7 (by decide) ?_
      refine lv_istore_n (lv' := [(3, .int ((0 : Int32))), (0, .ref (a 0)), (1, .int p1), (2, .int x2)]) (pc := 8) hx hb dX11_figures_8 rfl hl (by decide) rfl (fun ls hl => ?_)
      refine lv_iconst (v := (0 : Int32)) (pc := 9) hx hb dX11_figures_9 (by decide) ?_
      refine lv_istore (lv' := [(4, .int ((0 : Int32))), (3, .int ((0 : Int32))), (0, .ref (a 0)), (1, .int p1), (2, .int x2)]) (pc := 10) hx hb dX11_figures_10 hl (by decide) rfl (fun ls hl => ?_)
      exact wX11_figures_12 C hA hg2 _ x2 ((0 : Int32)) ((0 : Int32)) S hf _ _ _ hP hD hS (lv_sub hl [2, 3, 4, 1, 0] rfl)
set_option maxRecDepth 100000 in
set_option maxHeartbeats 4000000 in
theorem wX11_figures (C : Cx p s m args meth c D cA cX11_figures 5 RX11 (some .boolean)) (hA : ∀ q : Nat, s.heap.size ≤ q → A q) {N : Nat} {z : Int32 × St} {S : St} {p1 : Int32} (hf : fX11_figures N S p1 = some z) {H : Heap} {locs : List Loc} {ls : Array Slot} (hP : va_P D vwCl (w_M cA a S) H) (hD : va_D A (w_M cA a S)) (hS : va_S A s.heap H locs) (hl : lv_has ls 5 [(0, .ref (a 0)), (1, .int p1)]) : W p l e (rmU 1 25 0 0) s m args below meth c H locs 0 0 (MQ below (QI D A z.1 (w_M cA a z.2)) args s 0 0 A) (F0 m 0 ls []) := by
  obtain ⟨hx, hb, hml, hown, hts, hK, hN, hr, hlk⟩ := id C
  unfold fX11_figures at hf
  refine lv_iconst (v := (0 : Int32)) (pc := 0) hx hb dX11_figures_0 (by decide) ?_
  refine lv_istore_n (lv' := [(2, .int ((0 : Int32))), (0, .ref (a 0)), (1, .int p1)]) (pc := 1) hx hb dX11_figures_1 rfl hl (by decide) rfl (fun ls hl => ?_)
  exact wX11_figures_2 C hA  _ ((0 : Int32)) S hf _ _ _ hP hD hS (lv_sub hl [1, 2, 0] rfl)
set_option maxRecDepth 100000 in
set_option maxHeartbeats 4000000 in
theorem kX11_figures (l : Launch) (D : va_G) (cA : Nat → ClassId) (a : Nat → Nat) {N : Nat} {S : St} {p1 : Int32} {z : Int32 × St} (hf : fX11_figures N S p1 = some z) : CtI l yX11_figures cX11_figures 5 (some .boolean) 1 25 D cA (w_M cA a S) (w_M cA a z.2) [.ref (a 0), .int p1] z.1 := by
  intro sz
  refine Met.ofW (cc := cX11_figures) (maxL := 5) (ret := (some .boolean)) (by decide) rfl ?_
  intro p e s m args below meth c s₁ B hml hv
  obtain ⟨rfl, hsz, hP, hK, hD0⟩ := hv
  subst hsz
  have C : Cx p s m _ meth c D cA cX11_figures 5 RX11 (some .boolean) := Cx.of B hml hK
  have hD := hD0.self (sz := s.heap.size)
  have hA : ∀ q : Nat, s.heap.size ≤ q → va_A (w_M cA a S) s.heap.size q := fun q h => Or.inr h
  have hS : va_S (va_A (w_M cA a S) s.heap.size) s.heap s.heap [] := va_S.rf
  have hl := lv_entry ([.ref (a 0), .int p1]) (n := 5) (Nat.le_of_ble_eq_true rfl)
  rw [lg_entry_eq]
  generalize (lg_sl ([.ref (a 0), .int p1]) ++ List.replicate (5 - (lg_sl ([.ref (a 0), .int p1])).length) Slot.unset).toArray = ls at hl ⊢
  exact wX11_figures C hA hf hP hD hS hl
theorem fl_RX11_16 : Cond.fieldLink RX11 16 "SevenOnStrikeModel" "coins" "[I" ∈ wsL_law := by decide +kernel
theorem ge_RX11_16_M_0_0 (C : Cx p s m args meth c D cA cc nL RX11 ret) (hP : va_P D vwCl (w_M cA a S) H) (hdg : decode cc pc = .ok (.getfield 16, 3)) (kk : W p l e R s m args below meth c H locs cells slots Q (F0 m (pc + 3) ls (.ref (a 3) :: rest))) : W p l e R s m args below meth c H locs cells slots Q (F0 m pc ls (.ref (a 0) :: rest)) := by
  obtain ⟨hx, hb, -, hown, hts, hK, -, -, -⟩ := C
  exact va_get (D := D) (ci := 10) (v := .ref (a 3)) (C := RX11) (T := TX11) (N := 28) hx hb hts inlX11 hown hK hP 0 rfl rfl 3 (by decide) (hts _ fl_RX11_16) (fun _ h9 => h9) rfl hdg kk
theorem ld_M_0_4 {i : Int32} {j : Nat} (C : Cx p s m args meth c D cA cc nL own ret) (hP : va_P D vwCl (w_M cA a S) H) (hin : vp_in i 2) (hj : i.toNatClampNeg = j) (hdg : decode cc pc = .ok (.iaload, 1)) (kk : W p l e R s m args below meth c H locs cells slots Q (F0 m (pc + 1) ls (.int (S 4 j) :: rest))) : W p l e R s m args below meth c H locs cells slots Q (F0 m pc ls (.int i :: .ref (a 4) :: rest)) := by
  obtain ⟨hx, hb, -, hown, hts, hK, -, -, -⟩ := C
  subst hj
  exact va_iald hx hb hK hP 4 0 rfl rfl hin hdg kk
theorem ld_M_0_14 {i : Int32} {j : Nat} (C : Cx p s m args meth c D cA cc nL own ret) (hP : va_P D vwCl (w_M cA a S) H) (hin : vp_in i 2) (hj : i.toNatClampNeg = j) (hdg : decode cc pc = .ok (.iaload, 1)) (kk : W p l e R s m args below meth c H locs cells slots Q (F0 m (pc + 1) ls (.int (S 18 j) :: rest))) : W p l e R s m args below meth c H locs cells slots Q (F0 m pc ls (.int i :: .ref (a 14) :: rest)) := by
  obtain ⟨hx, hb, -, hown, hts, hK, -, -, -⟩ := C
  subst hj
  exact va_iald hx hb hK hP 14 0 rfl rfl hin hdg kk
theorem sr_M_0_3 {i v : Int32} {j : Nat} (C : Cx p s m args meth c D cA cc nL own ret) (hP : va_P D vwCl (w_M cA a S) H) (hD : va_D A (w_M cA a S)) (hS : va_S A s.heap H locs) (hin : vp_in i 12) (hj : i.toNatClampNeg = j) (hdg : decode cc pc = .ok (.iastore, 1)) (kk : ∀ (H1 : Heap) (locs1 : List Loc), va_P D vwCl (w_M cA a (sti S 3 j v)) H1 → va_D A (w_M cA a (sti S 3 j v)) → va_S A s.heap H1 locs1 → W p l e R s m args below meth c H1 locs1 cells slots Q (F0 m (pc + 1) ls rest)) : W p l e R s m args below meth c H locs cells slots Q (F0 m pc ls (.int v :: .int i :: .ref (a 3) :: rest)) := by
  obtain ⟨hx, hb, -, hown, hts, hK, -, -, -⟩ := C
  subst hj
  exact va_iast hx hb hK hP hD hS 3 0 rfl rfl hin hdg (fun H1 locs1 h1 h2 h3 => kk H1 locs1 h1 h2 h3)
theorem ld_M_0_3 {i : Int32} {j : Nat} (C : Cx p s m args meth c D cA cc nL own ret) (hP : va_P D vwCl (w_M cA a S) H) (hin : vp_in i 12) (hj : i.toNatClampNeg = j) (hdg : decode cc pc = .ok (.iaload, 1)) (kk : W p l e R s m args below meth c H locs cells slots Q (F0 m (pc + 1) ls (.int (S 3 j) :: rest))) : W p l e R s m args below meth c H locs cells slots Q (F0 m pc ls (.int i :: .ref (a 3) :: rest)) := by
  obtain ⟨hx, hb, -, hown, hts, hK, -, -, -⟩ := C
  subst hj
  exact va_iald hx hb hK hP 3 0 rfl rfl hin hdg kk
theorem lk_RX11_93 : LkV RX11 93 yX11_figures cX11_figures 5 (some .boolean) 1 := ⟨⟨by decide +kernel, by decide +kernel, by decide +kernel, by decide +kernel, by decide +kernel, by decide +kernel⟩, by decide +kernel, by decide +kernel⟩
def fX11_coinItem_j80 (N : Nat) (x1 : Int32) (S : St) : Option (Int32 × St) :=
  if x1 = 0 then (if x1 = 0 ∨ x1 = 1 then (some (x1, S)) else none) else (if ¬ (((6 : Int32) + (S 4 1)) < 0 ∨ 12 ≤ (((6 : Int32) + (S 4 1))).toNatClampNeg) then (if x1 = 0 ∨ x1 = 1 then (some (x1, (sti (sti S 3 ((((6 : Int32) + (S 4 1))).toNatClampNeg) ((S 18 0))) 4 1 ((((sti S 3 ((((6 : Int32) + (S 4 1))).toNatClampNeg) ((S 18 0))) 4 1) + (1 : Int32)))))) else none) else none)
def fX11_coinItem_j73 (N : Nat) (g36 : Int32 × Int32 × St → Option (Int32 × St)) (x2 : Int32) (y0 : Int32) (S : St) : Option (Int32 × St) :=
  g36 ((y0, (x2 + 1), S))
def fX11_coinItem_b36 (N : Nat) (g36 : Int32 × Int32 × St → Option (Int32 × St)) (x1 : Int32) (x2 : Int32) (S : St) : Option (Int32 × St) :=
  if (S 4 1) ≤ x2 then (fX11_coinItem_j80 N x1 S) else (if x1 = 0 then (fX11_coinItem_j80 N x1 S) else (if ¬ (((6 : Int32) + x2) < 0 ∨ 12 ≤ (((6 : Int32) + x2)).toNatClampNeg) then (if (S 3 ((((6 : Int32) + x2)).toNatClampNeg)) = (S 18 0) then (fX11_coinItem_j73 N g36 x2 ((0 : Int32)) S) else (fX11_coinItem_j73 N g36 x2 ((1 : Int32)) S)) else none))
def fX11_coinItem_l36 (N : Nat) (k : Nat) (q : Int32 × Int32 × St) : Option (Int32 × St) := lpN (fun g q => fX11_coinItem_b36 N  g q.1 q.2.1 q.2.2) k q
def fX11_coinItem_j33 (N : Nat) (y0 : Int32) (S : St) : Option (Int32 × St) :=
  fX11_coinItem_l36 N  N ((y0, (0 : Int32), S))
def fX11_coinItem_j32 (N : Nat) (S : St) : Option (Int32 × St) :=
  fX11_coinItem_j33 N ((0 : Int32)) S
def fX11_coinItem (N : Nat) (S : St) : Option (Int32 × St) :=
  Option.bind (fX11_figures N S ((1 : Int32))) (fun q1 => if q1.1 = 0 then (fX11_coinItem_j32 N q1.2) else (if (q1.2 18 0) ≤ 0 then (fX11_coinItem_j32 N q1.2) else (if (6 : Int32) ≤ (q1.2 4 1) then (fX11_coinItem_j32 N q1.2) else (fX11_coinItem_j33 N ((1 : Int32)) q1.2))))
set_option maxRecDepth 100000 in
set_option maxHeartbeats 4000000 in
theorem wX11_coinItem_80 (C : Cx p s m args meth c D cA cX11_coinItem 3 RX11 (some .boolean)) (hA : ∀ q : Nat, s.heap.size ≤ q → A q) {N : Nat} {z : Int32 × St} {x1 : Int32} {S : St} (hf : fX11_coinItem_j80 N x1 S = some z) {H : Heap} {locs : List Loc} {ls : Array Slot} (hP : va_P D vwCl (w_M cA a S) H) (hD : va_D A (w_M cA a S)) (hS : va_S A s.heap H locs) (hl : lv_has ls 3 [(0, .ref (a 0)), (1, .int x1)]) : W p l e (rmU 2 49 0 0) s m args below meth c H locs 0 0 (MQ below (QI D A z.1 (w_M cA a z.2)) args s 0 0 A) (F0 m 80 ls []) := by
  obtain ⟨hx, hb, hml, hown, hts, hK, hN, hr, hlk⟩ := id C
  unfold fX11_coinItem_j80 at hf
  refine lv_iload_n (pc := 80) hx hb dX11_coinItem_80 rfl (lv_at hl 1 rfl) ?_
  refine lv_if_eq (tgt := 114) (pc := 81) hx hb dX11_coinItem_81 (by decide) (fun c1 => ?_) (fun c1 => ?_)
  · have hf := pt_t c1 hf
    refine lv_iload_n (pc := 114) hx hb dX11_coinItem_114 rfl (lv_at hl 1 rfl) ?_
    obtain ⟨h2, hf⟩ := pt_g hf
    cases hf
    exact ret_z C h2 hP hD hS dX11_coinItem_115
  · have hf := pt_f c1 hf
    refine lv_aload_n (pc := 84) hx hb dX11_coinItem_84 rfl (lv_at hl 0 rfl) ?_
    refine ge_RX11_16_M_0_0 (pc := 85) C hP dX11_coinItem_85 ?_
    refine lv_bipush (v := (6 : Int32)) (pc := 88) hx hb dX11_coinItem_88 (by decide) ?_
    refine lv_aload_n (pc := 90) hx hb dX11_coinItem_90 rfl (lv_at hl 0 rfl) ?_
    refine ge_RX11_19_M_0_0 (pc := 91) C hP dX11_coinItem_91 ?_
    refine lv_iconst (v := (1 : Int32)) (pc := 94) hx hb dX11_coinItem_94 (by decide) ?_
    refine ld_M_0_4 (pc := 95) (j := 1) C hP (inK rfl) rfl dX11_coinItem_95 ?_
    refine lv_iadd (pc := 96) hx hb dX11_coinItem_96 ?_
    refine lv_aload_n (pc := 97) hx hb dX11_coinItem_97 rfl (lv_at hl 0 rfl) ?_
    refine ge_RX11_49_M_0_0 (pc := 98) C hP dX11_coinItem_98 ?_
    refine lv_iconst (v := (0 : Int32)) (pc := 101) hx hb dX11_coinItem_101 (by decide) ?_
    refine ld_M_0_14 (pc := 102) (j := 0) C hP (inK rfl) rfl dX11_coinItem_102 ?_
    obtain ⟨h3, hf⟩ := pt_g hf
    refine sr_M_0_3 (pc := 103) (j := (((6 : Int32) + (S 4 1))).toNatClampNeg) C hP hD hS h3 rfl dX11_coinItem_103 (fun H locs hP hD hS => ?_)
    refine lv_aload_n (pc := 104) hx hb dX11_coinItem_104 rfl (lv_at hl 0 rfl) ?_
    refine ge_RX11_19_M_0_0 (pc := 105) C hP dX11_coinItem_105 ?_
    refine lv_iconst (v := (1 : Int32)) (pc := 108) hx hb dX11_coinItem_108 (by decide) ?_
    refine lv_dup2_11 (pc := 109) hx hb dX11_coinItem_109 rfl rfl ?_
    refine ld_M_0_4 (pc := 110) (j := 1) C hP (inK rfl) rfl dX11_coinItem_110 ?_
    refine lv_iconst (v := (1 : Int32)) (pc := 111) hx hb dX11_coinItem_111 (by decide) ?_
    refine lv_iadd (pc := 112) hx hb dX11_coinItem_112 ?_
    refine sr_M_0_4 (pc := 113) (j := 1) C hP hD hS (inK rfl) rfl dX11_coinItem_113 (fun H locs hP hD hS => ?_)
    refine lv_iload_n (pc := 114) hx hb dX11_coinItem_114 rfl (lv_at hl 1 rfl) ?_
    obtain ⟨h4, hf⟩ := pt_g hf
    cases hf
    exact ret_z C h4 hP hD hS dX11_coinItem_115
set_option maxRecDepth 100000 in
set_option maxHeartbeats 4000000 in
theorem wX11_coinItem_73 (C : Cx p s m args meth c D cA cX11_coinItem 3 RX11 (some .boolean)) (hA : ∀ q : Nat, s.heap.size ≤ q → A q) {N : Nat} {z : Int32 × St} {g36 : Int32 × Int32 × St → Option (Int32 × St)} (hg36 : ∀ (x1 : Int32) (x2 : Int32) (S : St), g36 (x1, x2, S) = some z → ∀ (H : Heap) (locs : List Loc) (ls : Array Slot), va_P D vwCl (w_M cA a S) H → va_D A (w_M cA a S) → va_S A s.heap H locs → lv_has ls 3 [(0, .ref (a 0)), (1, .int x1), (2, .int x2)] → W p l e (rmU 2 49 0 0) s m args below meth c H locs 0 0 (MQ below (QI D A z.1 (w_M cA a z.2)) args s 0 0 A) (F0 m 36 ls [])) {x2 : Int32} {y0 : Int32} {S : St} (hf : fX11_coinItem_j73 N g36 x2 y0 S = some z) {H : Heap} {locs : List Loc} {ls : Array Slot} (hP : va_P D vwCl (w_M cA a S) H) (hD : va_D A (w_M cA a S)) (hS : va_S A s.heap H locs) (hl : lv_has ls 3 [(0, .ref (a 0)), (2, .int x2)]) : W p l e (rmU 2 49 0 0) s m args below meth c H locs 0 0 (MQ below (QI D A z.1 (w_M cA a z.2)) args s 0 0 A) (F0 m 73 ls [.int y0]) := by
  obtain ⟨hx, hb, hml, hown, hts, hK, hN, hr, hlk⟩ := id C
  unfold fX11_coinItem_j73 at hf
  refine lv_istore_n (lv' := [(1, .int y0), (0, .ref (a 0)), (2, .int x2)]) (pc := 73) hx hb dX11_coinItem_73 rfl hl (by decide) rfl (fun ls hl => ?_)
  refine lv_iinc (v := (x2 + 1)) (lv' := [(2, .int ((x2 + 1))), (1, .int y0), (0, .ref (a 0))]) (pc := 74) hx hb dX11_coinItem_74 hl (k := 2) rfl (by rfl) (by decide) rfl (fun ls hl => ?_)
  refine lv_goto (tgt := 36) (pc := 77) hx hb dX11_coinItem_77 (by decide) ?_
  exact hg36 y0 ((x2 + 1)) S hf _ _ _ hP hD hS (lv_sub hl [2, 1, 0] rfl)
set_option maxRecDepth 100000 in
set_option maxHeartbeats 4000000 in
theorem wX11_coinItem_36 (C : Cx p s m args meth c D cA cX11_coinItem 3 RX11 (some .boolean)) (hA : ∀ q : Nat, s.heap.size ≤ q → A q) {N : Nat} {z : Int32 × St} : ∀ (k : Nat) (x1 : Int32) (x2 : Int32) (S : St), fX11_coinItem_l36 N  k (x1, x2, S) = some z → ∀ (H : Heap) (locs : List Loc) (ls : Array Slot), va_P D vwCl (w_M cA a S) H → va_D A (w_M cA a S) → va_S A s.heap H locs → lv_has ls 3 [(0, .ref (a 0)), (1, .int x1), (2, .int x2)] → W p l e (rmU 2 49 0 0) s m args below meth c H locs 0 0 (MQ below (QI D A z.1 (w_M cA a z.2)) args s 0 0 A) (F0 m 36 ls []) := by
  obtain ⟨hx, hb, hml, hown, hts, hK, hN, hr, hlk⟩ := id C
  intro k
  induction k with
  | zero =>
    intro x1 x2 S hf
    have hf : (none : Option (Int32 × St)) = some z := hf
    cases hf
  | succ k hg36 =>
    intro x1 x2 S hf H locs ls hP hD hS hl
    have hf : fX11_coinItem_b36 N  (fX11_coinItem_l36 N  k) x1 x2 S = some z := hf
    unfold fX11_coinItem_b36 at hf
    refine lv_iload_n (pc := 36) hx hb dX11_coinItem_36 rfl (lv_at hl 2 rfl) ?_
    refine lv_aload_n (pc := 37) hx hb dX11_coinItem_37 rfl (lv_at hl 0 rfl) ?_
    refine ge_RX11_19_M_0_0 (pc := 38) C hP dX11_coinItem_38 ?_
    refine lv_iconst (v := (1 : Int32)) (pc := 41) hx hb dX11_coinItem_41 (by decide) ?_
    refine ld_M_0_4 (pc := 42) (j := 1) C hP (inK rfl) rfl dX11_coinItem_42 ?_
    refine lv_icmp_ge (tgt := 80) (pc := 43) hx hb dX11_coinItem_43 (by decide) (fun c1 => ?_) (fun c1 => ?_)
    · have hf := pt_t c1 hf
      exact wX11_coinItem_80 C hA  hf hP hD hS (lv_sub hl [0, 1] rfl)
    · have hf := pt_f c1 hf
      refine lv_iload_n (pc := 46) hx hb dX11_coinItem_46 rfl (lv_at hl 1 rfl) ?_
      refine lv_if_eq (tgt := 80) (pc := 47) hx hb dX11_coinItem_47 (by decide) (fun c2 => ?_) (fun c2 => ?_)
      · have hf := pt_t c2 hf
        exact wX11_coinItem_80 C hA  hf hP hD hS (lv_sub hl [0, 1] rfl)
      · have hf := pt_f c2 hf
        refine lv_aload_n (pc := 50) hx hb dX11_coinItem_50 rfl (lv_at hl 0 rfl) ?_
        refine ge_RX11_16_M_0_0 (pc := 51) C hP dX11_coinItem_51 ?_
        refine lv_bipush (v := (6 : Int32)) (pc := 54) hx hb dX11_coinItem_54 (by decide) ?_
        refine lv_iload_n (pc := 56) hx hb dX11_coinItem_56 rfl (lv_at hl 2 rfl) ?_
        refine lv_iadd (pc := 57) hx hb dX11_coinItem_57 ?_
        obtain ⟨h3, hf⟩ := pt_g hf
        refine ld_M_0_3 (pc := 58) (j := (((6 : Int32) + x2)).toNatClampNeg) C hP h3 rfl dX11_coinItem_58 ?_
        refine lv_aload_n (pc := 59) hx hb dX11_coinItem_59 rfl (lv_at hl 0 rfl) ?_
        refine ge_RX11_49_M_0_0 (pc := 60) C hP dX11_coinItem_60 ?_
        refine lv_iconst (v := (0 : Int32)) (pc := 63) hx hb dX11_coinItem_63 (by decide) ?_
        refine ld_M_0_14 (pc := 64) (j := 0) C hP (inK rfl) rfl dX11_coinItem_64 ?_
        refine lv_icmp_eq (tgt := 72) (pc := 65) hx hb dX11_coinItem_65 (by decide) (fun c4 => ?_) (fun c4 => ?_)
        · have hf := pt_t c4 hf
          refine lv_iconst (v := (0 : Int32)) (pc := 72) hx hb dX11_coinItem_72 (by decide) ?_
          exact wX11_coinItem_73 C hA hg36 hf hP hD hS (lv_sub hl [0, 2] rfl)
        · have hf := pt_f c4 hf
          refine lv_iconst (v := (1 : Int32)) (pc := 68) hx hb dX11_coinItem_68 (by decide) ?_
          refine lv_goto (tgt := 73) (pc := 69) hx hb dX11_coinItem_69 (by decide) ?_
          exact wX11_coinItem_73 C hA hg36 hf hP hD hS (lv_sub hl [0, 2] rfl)
set_option maxRecDepth 100000 in
set_option maxHeartbeats 4000000 in
theorem wX11_coinItem_33 (C : Cx p s m args meth c D cA cX11_coinItem 3 RX11 (some .boolean)) (hA : ∀ q : Nat, s.heap.size ≤ q → A q) {N : Nat} {z : Int32 × St} {y0 : Int32} {S : St} (hf : fX11_coinItem_j33 N y0 S = some z) {H : Heap} {locs : List Loc} {ls : Array Slot} (hP : va_P D vwCl (w_M cA a S) H) (hD : va_D A (w_M cA a S)) (hS : va_S A s.heap H locs) (hl : lv_has ls 3 [(0, .ref (a 0))]) : W p l e (rmU 2 49 0 0) s m args below meth c H locs 0 0 (MQ below (QI D A z.1 (w_M cA a z.2)) args s 0 0 A) (F0 m 33 ls [.int y0]) := by
  obtain ⟨hx, hb, hml, hown, hts, hK, hN, hr, hlk⟩ := id C
  unfold fX11_coinItem_j33 at hf
  refine lv_istore_n (lv' := [(1, .int y0), (0, .ref (a 0))]) (pc := 33) hx hb dX11_coinItem_33 rfl hl (by decide) rfl (fun ls hl => ?_)
  refine lv_iconst (v := (0 : Int32)) (pc := 34) hx hb dX11_coinItem_34 (by decide) ?_
  refine lv_istore_n (lv' := [(2, .int ((0 : Int32))), (1, .int y0), (0, .ref (a 0))]) (pc := 35) hx hb dX11_coinItem_35 rfl hl (by decide) rfl (fun ls hl => ?_)
  exact wX11_coinItem_36 C hA  _ y0 ((0 : Int32)) S hf _ _ _ hP hD hS (lv_sub hl [2, 1, 0] rfl)
set_option maxRecDepth 100000 in
set_option maxHeartbeats 4000000 in
theorem wX11_coinItem_32 (C : Cx p s m args meth c D cA cX11_coinItem 3 RX11 (some .boolean)) (hA : ∀ q : Nat, s.heap.size ≤ q → A q) {N : Nat} {z : Int32 × St} {S : St} (hf : fX11_coinItem_j32 N S = some z) {H : Heap} {locs : List Loc} {ls : Array Slot} (hP : va_P D vwCl (w_M cA a S) H) (hD : va_D A (w_M cA a S)) (hS : va_S A s.heap H locs) (hl : lv_has ls 3 [(0, .ref (a 0))]) : W p l e (rmU 2 49 0 0) s m args below meth c H locs 0 0 (MQ below (QI D A z.1 (w_M cA a z.2)) args s 0 0 A) (F0 m 32 ls []) := by
  obtain ⟨hx, hb, hml, hown, hts, hK, hN, hr, hlk⟩ := id C
  unfold fX11_coinItem_j32 at hf
  refine lv_iconst (v := (0 : Int32)) (pc := 32) hx hb dX11_coinItem_32 (by decide) ?_
  exact wX11_coinItem_33 C hA  hf hP hD hS (lv_sub hl [0] rfl)
set_option maxRecDepth 100000 in
set_option maxHeartbeats 4000000 in
theorem wX11_coinItem (C : Cx p s m args meth c D cA cX11_coinItem 3 RX11 (some .boolean)) (hA : ∀ q : Nat, s.heap.size ≤ q → A q) {N : Nat} {z : Int32 × St} {S : St} (hf : fX11_coinItem N S = some z) {H : Heap} {locs : List Loc} {ls : Array Slot} (hP : va_P D vwCl (w_M cA a S) H) (hD : va_D A (w_M cA a S)) (hS : va_S A s.heap H locs) (hl : lv_has ls 3 [(0, .ref (a 0))]) : W p l e (rmU 2 49 0 0) s m args below meth c H locs 0 0 (MQ below (QI D A z.1 (w_M cA a z.2)) args s 0 0 A) (F0 m 0 ls []) := by
  obtain ⟨hx, hb, hml, hown, hts, hK, hN, hr, hlk⟩ := id C
  unfold fX11_coinItem at hf
  refine lv_aload_n (pc := 0) hx hb dX11_coinItem_0 rfl (lv_at hl 0 rfl) ?_
  refine lv_iconst (v := (1 : Int32)) (pc := 1) hx hb dX11_coinItem_1 (by decide) ?_
  obtain ⟨q1, hq1, hf⟩ := pt_b hf
  refine all_i (runU_V (pc := 2) (As := [.int ((1 : Int32))]) (b := a 0) (rest := []) (ci := 10) (q0 := 0) C lk_RX11_93 (kX11_figures l D cA a hq1 H.size) ⟨Nat.le_of_ble_eq_true rfl, Nat.le_of_ble_eq_true rfl⟩ ⟨Nat.le_refl _, Nat.le_refl _⟩ hP hD rfl rfl rfl hl.1 rfl (Nat.le_of_ble_eq_true rfl) dX11_coinItem_2) hD hS hA (fun H locs hP hD hS => ?_)
  refine lv_if_eq (tgt := 32) (pc := 5) hx hb dX11_coinItem_5 (by decide) (fun c2 => ?_) (fun c2 => ?_)
  · have hf := pt_t c2 hf
    exact wX11_coinItem_32 C hA  hf hP hD hS (lv_sub hl [0] rfl)
  · have hf := pt_f c2 hf
    refine lv_aload_n (pc := 8) hx hb dX11_coinItem_8 rfl (lv_at hl 0 rfl) ?_
    refine ge_RX11_49_M_0_0 (pc := 9) C hP dX11_coinItem_9 ?_
    refine lv_iconst (v := (0 : Int32)) (pc := 12) hx hb dX11_coinItem_12 (by decide) ?_
    refine ld_M_0_14 (pc := 13) (j := 0) C hP (inK rfl) rfl dX11_coinItem_13 ?_
    refine lv_if_le (tgt := 32) (pc := 14) hx hb dX11_coinItem_14 (by decide) (fun c3 => ?_) (fun c3 => ?_)
    · have hf := pt_t c3 hf
      exact wX11_coinItem_32 C hA  hf hP hD hS (lv_sub hl [0] rfl)
    · have hf := pt_f c3 hf
      refine lv_aload_n (pc := 17) hx hb dX11_coinItem_17 rfl (lv_at hl 0 rfl) ?_
      refine ge_RX11_19_M_0_0 (pc := 18) C hP dX11_coinItem_18 ?_
      refine lv_iconst (v := (1 : Int32)) (pc := 21) hx hb dX11_coinItem_21 (by decide) ?_
      refine ld_M_0_4 (pc := 22) (j := 1) C hP (inK rfl) rfl dX11_coinItem_22 ?_
      refine lv_bipush (v := (6 : Int32)) (pc := 23) hx hb dX11_coinItem_23 (by decide) ?_
      refine lv_icmp_ge (tgt := 32) (pc := 25) hx hb dX11_coinItem_25 (by decide) (fun c4 => ?_) (fun c4 => ?_)
      · have hf := pt_t c4 hf
        exact wX11_coinItem_32 C hA  hf hP hD hS (lv_sub hl [0] rfl)
      · have hf := pt_f c4 hf
        refine lv_iconst (v := (1 : Int32)) (pc := 28) hx hb dX11_coinItem_28 (by decide) ?_
        refine lv_goto (tgt := 33) (pc := 29) hx hb dX11_coinItem_29 (by decide) ?_
        exact wX11_coinItem_33 C hA  hf hP hD hS (lv_sub hl [0] rfl)
set_option maxRecDepth 100000 in
set_option maxHeartbeats 4000000 in
theorem kX11_coinItem (l : Launch) (D : va_G) (cA : Nat → ClassId) (a : Nat → Nat) {N : Nat} {S : St} {z : Int32 × St} (hf : fX11_coinItem N S = some z) : CtI l yX11_coinItem cX11_coinItem 3 (some .boolean) 2 49 D cA (w_M cA a S) (w_M cA a z.2) [.ref (a 0)] z.1 := by
  intro sz
  refine Met.ofW (cc := cX11_coinItem) (maxL := 3) (ret := (some .boolean)) (by decide) rfl ?_
  intro p e s m args below meth c s₁ B hml hv
  obtain ⟨rfl, hsz, hP, hK, hD0⟩ := hv
  subst hsz
  have C : Cx p s m _ meth c D cA cX11_coinItem 3 RX11 (some .boolean) := Cx.of B hml hK
  have hD := hD0.self (sz := s.heap.size)
  have hA : ∀ q : Nat, s.heap.size ≤ q → va_A (w_M cA a S) s.heap.size q := fun q h => Or.inr h
  have hS : va_S (va_A (w_M cA a S) s.heap.size) s.heap s.heap [] := va_S.rf
  have hl := lv_entry ([.ref (a 0)]) (n := 3) (Nat.le_of_ble_eq_true rfl)
  rw [lg_entry_eq]
  generalize (lg_sl ([.ref (a 0)]) ++ List.replicate (3 - (lg_sl ([.ref (a 0)])).length) Slot.unset).toArray = ls at hl ⊢
  exact wX11_coinItem C hA hf hP hD hS hl
def fX11_isSign_j18 (N : Nat) (p0 : Int32) : Option (Int32) :=
  some ((1 : Int32))
def fX11_isSign (N : Nat) (p0 : Int32) : Option (Int32) :=
  if p0 = (43 : Int32) then (fX11_isSign_j18 N p0) else (if p0 = (45 : Int32) then (fX11_isSign_j18 N p0) else (if p0 = (42 : Int32) then (fX11_isSign_j18 N p0) else (some ((0 : Int32)))))
set_option maxRecDepth 100000 in
set_option maxHeartbeats 4000000 in
theorem wX11_isSign_18 (C : Cx p s m args meth c D cA cX11_isSign 1 RX11 (some .boolean)) (hA : ∀ q : Nat, s.heap.size ≤ q → A q) {N : Nat} {z : Int32} {p0 : Int32} (hf : fX11_isSign_j18 N p0 = some z) {H : Heap} {locs : List Loc} {ls : Array Slot} (hP : va_P D vwCl ([] : va_W) H) (hD : va_D A ([] : va_W)) (hS : va_S A s.heap H locs) (hl : lv_has ls 1 []) : W p l e (rmU 0 0 0 0) s m args below meth c H locs 0 0 (MQ below (QI D A z ([] : va_W)) args s 0 0 A) (F0 m 18 ls []) := by
  obtain ⟨hx, hb, hml, hown, hts, hK, hN, hr, hlk⟩ := id C
  unfold fX11_isSign_j18 at hf
  refine lv_iconst (v := (1 : Int32)) (pc := 18) hx hb dX11_isSign_18 (by decide) ?_
  refine lv_goto (tgt := 23) (pc := 19) hx hb dX11_isSign_19 (by decide) ?_
  cases hf
  exact ret_z C (Or.inr rfl) hP hD hS dX11_isSign_23
set_option maxRecDepth 100000 in
set_option maxHeartbeats 4000000 in
theorem wX11_isSign (C : Cx p s m args meth c D cA cX11_isSign 1 RX11 (some .boolean)) (hA : ∀ q : Nat, s.heap.size ≤ q → A q) {N : Nat} {z : Int32} {p0 : Int32} (hf : fX11_isSign N p0 = some z) {H : Heap} {locs : List Loc} {ls : Array Slot} (hP : va_P D vwCl ([] : va_W) H) (hD : va_D A ([] : va_W)) (hS : va_S A s.heap H locs) (hl : lv_has ls 1 [(0, .int p0)]) : W p l e (rmU 0 0 0 0) s m args below meth c H locs 0 0 (MQ below (QI D A z ([] : va_W)) args s 0 0 A) (F0 m 0 ls []) := by
  obtain ⟨hx, hb, hml, hown, hts, hK, hN, hr, hlk⟩ := id C
  unfold fX11_isSign at hf
  refine lv_iload_n (pc := 0) hx hb dX11_isSign_0 rfl (lv_at hl 0 rfl) ?_
  refine lv_bipush (v := (43 : Int32)) (pc := 1) hx hb dX11_isSign_1 (by decide) ?_
  refine lv_icmp_eq (tgt := 18) (pc := 3) hx hb dX11_isSign_3 (by decide) (fun c1 => ?_) (fun c1 => ?_)
  · have hf := pt_t c1 hf
    exact wX11_isSign_18 C hA  hf hP hD hS (lv_sub hl [] rfl)
  · have hf := pt_f c1 hf
    refine lv_iload_n (pc := 6) hx hb dX11_isSign_6 rfl (lv_at hl 0 rfl) ?_
    refine lv_bipush (v := (45 : Int32)) (pc := 7) hx hb dX11_isSign_7 (by decide) ?_
    refine lv_icmp_eq (tgt := 18) (pc := 9) hx hb dX11_isSign_9 (by decide) (fun c2 => ?_) (fun c2 => ?_)
    · have hf := pt_t c2 hf
      exact wX11_isSign_18 C hA  hf hP hD hS (lv_sub hl [] rfl)
    · have hf := pt_f c2 hf
      refine lv_iload_n (pc := 12) hx hb dX11_isSign_12 rfl (lv_at hl 0 rfl) ?_
      refine lv_bipush (v := (42 : Int32)) (pc := 13) hx hb dX11_isSign_13 (by decide) ?_
      refine lv_icmp_ne (tgt := 22) (pc := 15) hx hb dX11_isSign_15 (by decide) (fun c3 => ?_) (fun c3 => ?_)
      · have hf := pt_f c3 hf
        refine lv_iconst (v := (0 : Int32)) (pc := 22) hx hb dX11_isSign_22 (by decide) ?_
        cases hf
        exact ret_z C (Or.inl rfl) hP hD hS dX11_isSign_23
      · have hf := pt_t c3 hf
        exact wX11_isSign_18 C hA  hf hP hD hS (lv_sub hl [] rfl)
set_option maxRecDepth 100000 in
set_option maxHeartbeats 4000000 in
theorem kX11_isSign (l : Launch) (D : va_G) (cA : Nat → ClassId) {N : Nat} {p0 : Int32} {z : Int32} (hf : fX11_isSign N p0 = some z) : CtI l yX11_isSign cX11_isSign 1 (some .boolean) 0 0 D cA ([] : va_W) ([] : va_W) [.int p0] z := by
  intro sz
  refine Met.ofW (cc := cX11_isSign) (maxL := 1) (ret := (some .boolean)) (by decide) rfl ?_
  intro p e s m args below meth c s₁ B hml hv
  obtain ⟨rfl, hsz, hP, hK, hD0⟩ := hv
  subst hsz
  have C : Cx p s m _ meth c D cA cX11_isSign 1 RX11 (some .boolean) := Cx.of B hml hK
  have hD := hD0.self (sz := s.heap.size)
  have hA : ∀ q : Nat, s.heap.size ≤ q → va_A ([] : va_W) s.heap.size q := fun q h => Or.inr h
  have hS : va_S (va_A ([] : va_W) s.heap.size) s.heap s.heap [] := va_S.rf
  have hl := lv_entry ([.int p0]) (n := 1) (Nat.le_of_ble_eq_true rfl)
  rw [lg_entry_eq]
  generalize (lg_sl ([.int p0]) ++ List.replicate (1 - (lg_sl ([.int p0])).length) Slot.unset).toArray = ls at hl ⊢
  exact wX11_isSign C hA hf hP hD hS hl
theorem fl_RX11_28 : Cond.fieldLink RX11 28 "SevenOnStrikeModel" "sums" "[I" ∈ wsL_law := by decide +kernel
theorem ge_RX11_28_M_0_0 (C : Cx p s m args meth c D cA cc nL RX11 ret) (hP : va_P D vwCl (w_M cA a S) H) (hdg : decode cc pc = .ok (.getfield 28, 3)) (kk : W p l e R s m args below meth c H locs cells slots Q (F0 m (pc + 3) ls (.ref (a 7) :: rest))) : W p l e R s m args below meth c H locs cells slots Q (F0 m pc ls (.ref (a 0) :: rest)) := by
  obtain ⟨hx, hb, -, hown, hts, hK, -, -, -⟩ := C
  exact va_get (D := D) (ci := 10) (v := .ref (a 7)) (C := RX11) (T := TX11) (N := 28) hx hb hts inlX11 hown hK hP 0 rfl rfl 7 (by decide) (hts _ fl_RX11_28) (fun _ h9 => h9) rfl hdg kk
theorem sr_M_0_7 {i v : Int32} {j : Nat} (C : Cx p s m args meth c D cA cc nL own ret) (hP : va_P D vwCl (w_M cA a S) H) (hD : va_D A (w_M cA a S)) (hS : va_S A s.heap H locs) (hin : vp_in i 40) (hj : i.toNatClampNeg = j) (hdg : decode cc pc = .ok (.iastore, 1)) (kk : ∀ (H1 : Heap) (locs1 : List Loc), va_P D vwCl (w_M cA a (sti S 7 j v)) H1 → va_D A (w_M cA a (sti S 7 j v)) → va_S A s.heap H1 locs1 → W p l e R s m args below meth c H1 locs1 cells slots Q (F0 m (pc + 1) ls rest)) : W p l e R s m args below meth c H locs cells slots Q (F0 m pc ls (.int v :: .int i :: .ref (a 7) :: rest)) := by
  obtain ⟨hx, hb, -, hown, hts, hK, -, -, -⟩ := C
  subst hj
  exact va_iast hx hb hK hP hD hS 7 0 rfl rfl hin hdg (fun H1 locs1 h1 h2 h3 => kk H1 locs1 h1 h2 h3)
theorem lk_RX11_97 : LkS RX11 97 yX11_isSign cX11_isSign 1 (some .boolean) 1 := ⟨⟨by decide +kernel, by decide +kernel, by decide +kernel, by decide +kernel, by decide +kernel, by decide +kernel⟩, by decide +kernel⟩
theorem ld_M_0_7 {i : Int32} {j : Nat} (C : Cx p s m args meth c D cA cc nL own ret) (hP : va_P D vwCl (w_M cA a S) H) (hin : vp_in i 40) (hj : i.toNatClampNeg = j) (hdg : decode cc pc = .ok (.iaload, 1)) (kk : W p l e R s m args below meth c H locs cells slots Q (F0 m (pc + 1) ls (.int (S 7 j) :: rest))) : W p l e R s m args below meth c H locs cells slots Q (F0 m pc ls (.int i :: .ref (a 7) :: rest)) := by
  obtain ⟨hx, hb, -, hown, hts, hK, -, -, -⟩ := C
  subst hj
  exact va_iald hx hb hK hP 7 0 rfl rfl hin hdg kk
def fX11_sumItem_j140 (N : Nat) (x1 : Int32) (x2 : Int32) (x3 : Int32) (S : St) : Option (Int32 × St) :=
  if x3 = 0 then (some ((0 : Int32), (sti (stf S 17 (((S 17 0) + (1 : Int32)))) 8 1 x1))) else (if x1 ≤ 0 then (some ((0 : Int32), (sti (stf S 17 (((S 17 0) + (1 : Int32)))) 8 1 x1))) else (if x2 ≤ 0 then (some ((0 : Int32), (sti (stf S 17 (((S 17 0) + (1 : Int32)))) 8 1 x1))) else (some ((1 : Int32), (sti (stf S 17 (((S 17 0) + (1 : Int32)))) 8 1 x1)))))
def fX11_sumItem_j137 (N : Nat) (g6 : Int32 × Int32 × Int32 × St → Option (Int32 × St)) (x1 : Int32) (x2 : Int32) (x3 : Int32) (S : St) : Option (Int32 × St) :=
  g6 ((x1, x2, x3, S))
def fX11_sumItem_j108 (N : Nat) (g6 : Int32 × Int32 × Int32 × St → Option (Int32 × St)) (x1 : Int32) (x2 : Int32) (x4 : Int32) (y0 : Int32) (S : St) : Option (Int32 × St) :=
  if y0 = 0 then (fX11_sumItem_j137 N g6 x1 x2 y0 S) else (if ¬ (((20 : Int32) + x1) < 0 ∨ 40 ≤ (((20 : Int32) + x1)).toNatClampNeg) then (fX11_sumItem_j137 N g6 ((x1 + 1)) x2 y0 ((stf (sti S 7 ((((20 : Int32) + x1)).toNatClampNeg) x4) 17 ((((sti S 7 ((((20 : Int32) + x1)).toNatClampNeg) x4) 17 0) + (1 : Int32)))))) else none)
def fX11_sumItem_j107 (N : Nat) (g6 : Int32 × Int32 × Int32 × St → Option (Int32 × St)) (x1 : Int32) (x2 : Int32) (x4 : Int32) (S : St) : Option (Int32 × St) :=
  fX11_sumItem_j108 N g6 x1 x2 x4 ((0 : Int32)) S
def fX11_sumItem_j103 (N : Nat) (g6 : Int32 × Int32 × Int32 × St → Option (Int32 × St)) (x1 : Int32) (x2 : Int32) (x4 : Int32) (S : St) : Option (Int32 × St) :=
  fX11_sumItem_j108 N g6 x1 x2 x4 ((1 : Int32)) S
def fX11_sumItem_j59 (N : Nat) (g6 : Int32 × Int32 × Int32 × St → Option (Int32 × St)) (x1 : Int32) (x4 : Int32) (x5 : Int32) (y0 : Int32) (S : St) : Option (Int32 × St) :=
  if (20 : Int32) ≤ x1 then (fX11_sumItem_j107 N g6 x1 y0 x4 S) else (if (4 : Int32) < y0 then (fX11_sumItem_j107 N g6 x1 y0 x4 S) else (if x5 = 0 then (Option.bind (fX11_isSign N x4) (fun q4 => if q4 = 0 then (fX11_sumItem_j107 N g6 x1 y0 x4 S) else (if x1 ≤ 0 then (fX11_sumItem_j107 N g6 x1 y0 x4 S) else (if ¬ (((19 : Int32) + x1) < 0 ∨ 40 ≤ (((19 : Int32) + x1)).toNatClampNeg) then (Option.bind (fX11_isSign N ((S 7 ((((19 : Int32) + x1)).toNatClampNeg)))) (fun q8 => if q8 = 0 then (fX11_sumItem_j103 N g6 x1 y0 x4 S) else (fX11_sumItem_j107 N g6 x1 y0 x4 S))) else none)))) else (fX11_sumItem_j103 N g6 x1 y0 x4 S)))
def fX11_sumItem_b6 (N : Nat) (g6 : Int32 × Int32 × Int32 × St → Option (Int32 × St)) (x1 : Int32) (x2 : Int32) (x3 : Int32) (S : St) : Option (Int32 × St) :=
  if x3 = 0 then (fX11_sumItem_j140 N x1 x2 x3 S) else (Option.bind (fX11_letterAt N S ((S 17 0))) (fun q2 => if q2 = (59 : Int32) then (fX11_sumItem_j140 N x1 x2 x3 S) else (Option.bind (fX11_letterAt N S ((S 17 0))) (fun q4 => Option.bind (fX11_in N q4.toInt64 ((48 : Int64)) ((57 : Int64))) (fun q5 => if q5 = 0 then (fX11_sumItem_j59 N g6 x1 q4 q5 ((0 : Int32)) S) else (fX11_sumItem_j59 N g6 x1 q4 q5 ((x2 + (1 : Int32))) S))))))
def fX11_sumItem_l6 (N : Nat) (k : Nat) (q : Int32 × Int32 × Int32 × St) : Option (Int32 × St) := lpN (fun g q => fX11_sumItem_b6 N  g q.1 q.2.1 q.2.2.1 q.2.2.2) k q
def fX11_sumItem (N : Nat) (S : St) : Option (Int32 × St) :=
  fX11_sumItem_l6 N  N (((0 : Int32), (0 : Int32), (1 : Int32), S))
set_option maxRecDepth 100000 in
set_option maxHeartbeats 4000000 in
theorem wX11_sumItem_140 (C : Cx p s m args meth c D cA cX11_sumItem 6 RX11 (some .boolean)) (hA : ∀ q : Nat, s.heap.size ≤ q → A q) {N : Nat} {z : Int32 × St} {x1 : Int32} {x2 : Int32} {x3 : Int32} {S : St} (hf : fX11_sumItem_j140 N x1 x2 x3 S = some z) {H : Heap} {locs : List Loc} {ls : Array Slot} (hP : va_P D vwCl (w_M cA a S) H) (hD : va_D A (w_M cA a S)) (hS : va_S A s.heap H locs) (hl : lv_has ls 6 [(0, .ref (a 0)), (1, .int x1), (2, .int x2), (3, .int x3)]) : W p l e (rmU 1 25 0 0) s m args below meth c H locs 0 0 (MQ below (QI D A z.1 (w_M cA a z.2)) args s 0 0 A) (F0 m 140 ls []) := by
  obtain ⟨hx, hb, hml, hown, hts, hK, hN, hr, hlk⟩ := id C
  unfold fX11_sumItem_j140 at hf
  refine lv_aload_n (pc := 140) hx hb dX11_sumItem_140 rfl (lv_at hl 0 rfl) ?_
  refine lv_dup (pc := 141) hx hb dX11_sumItem_141 rfl ?_
  refine ge_RX11_80_M_0_0 (pc := 142) C hP dX11_sumItem_142 ?_
  refine lv_iconst (v := (1 : Int32)) (pc := 145) hx hb dX11_sumItem_145 (by decide) ?_
  refine lv_iadd (pc := 146) hx hb dX11_sumItem_146 ?_
  refine pu_RX11_80_M_0_0 (pc := 147) C hP hD hS dX11_sumItem_147 (fun H locs hP hD hS => ?_)
  refine lv_aload_n (pc := 150) hx hb dX11_sumItem_150 rfl (lv_at hl 0 rfl) ?_
  refine ge_RX11_31_M_0_0 (pc := 151) C hP dX11_sumItem_151 ?_
  refine lv_iconst (v := (1 : Int32)) (pc := 154) hx hb dX11_sumItem_154 (by decide) ?_
  refine lv_iload_n (pc := 155) hx hb dX11_sumItem_155 rfl (lv_at hl 1 rfl) ?_
  refine sr_M_0_8 (pc := 156) (j := 1) C hP hD hS (inK rfl) rfl dX11_sumItem_156 (fun H locs hP hD hS => ?_)
  refine lv_iload_n (pc := 157) hx hb dX11_sumItem_157 rfl (lv_at hl 3 rfl) ?_
  refine lv_if_eq (tgt := 173) (pc := 158) hx hb dX11_sumItem_158 (by decide) (fun c1 => ?_) (fun c1 => ?_)
  · have hf := pt_t c1 hf
    refine lv_iconst (v := (0 : Int32)) (pc := 173) hx hb dX11_sumItem_173 (by decide) ?_
    cases hf
    exact ret_z C (Or.inl rfl) hP hD hS dX11_sumItem_174
  · have hf := pt_f c1 hf
    refine lv_iload_n (pc := 161) hx hb dX11_sumItem_161 rfl (lv_at hl 1 rfl) ?_
    refine lv_if_le (tgt := 173) (pc := 162) hx hb dX11_sumItem_162 (by decide) (fun c2 => ?_) (fun c2 => ?_)
    · have hf := pt_t c2 hf
      refine lv_iconst (v := (0 : Int32)) (pc := 173) hx hb dX11_sumItem_173 (by decide) ?_
      cases hf
      exact ret_z C (Or.inl rfl) hP hD hS dX11_sumItem_174
    · have hf := pt_f c2 hf
      refine lv_iload_n (pc := 165) hx hb dX11_sumItem_165 rfl (lv_at hl 2 rfl) ?_
      refine lv_if_le (tgt := 173) (pc := 166) hx hb dX11_sumItem_166 (by decide) (fun c3 => ?_) (fun c3 => ?_)
      · have hf := pt_t c3 hf
        refine lv_iconst (v := (0 : Int32)) (pc := 173) hx hb dX11_sumItem_173 (by decide) ?_
        cases hf
        exact ret_z C (Or.inl rfl) hP hD hS dX11_sumItem_174
      · have hf := pt_f c3 hf
        refine lv_iconst (v := (1 : Int32)) (pc := 169) hx hb dX11_sumItem_169 (by decide) ?_
        refine lv_goto (tgt := 174) (pc := 170) hx hb dX11_sumItem_170 (by decide) ?_
        cases hf
        exact ret_z C (Or.inr rfl) hP hD hS dX11_sumItem_174
set_option maxRecDepth 100000 in
set_option maxHeartbeats 4000000 in
theorem wX11_sumItem_137 (C : Cx p s m args meth c D cA cX11_sumItem 6 RX11 (some .boolean)) (hA : ∀ q : Nat, s.heap.size ≤ q → A q) {N : Nat} {z : Int32 × St} {g6 : Int32 × Int32 × Int32 × St → Option (Int32 × St)} (hg6 : ∀ (x1 : Int32) (x2 : Int32) (x3 : Int32) (S : St), g6 (x1, x2, x3, S) = some z → ∀ (H : Heap) (locs : List Loc) (ls : Array Slot), va_P D vwCl (w_M cA a S) H → va_D A (w_M cA a S) → va_S A s.heap H locs → lv_has ls 6 [(0, .ref (a 0)), (1, .int x1), (2, .int x2), (3, .int x3)] → W p l e (rmU 1 25 0 0) s m args below meth c H locs 0 0 (MQ below (QI D A z.1 (w_M cA a z.2)) args s 0 0 A) (F0 m 6 ls [])) {x1 : Int32} {x2 : Int32} {x3 : Int32} {S : St} (hf : fX11_sumItem_j137 N g6 x1 x2 x3 S = some z) {H : Heap} {locs : List Loc} {ls : Array Slot} (hP : va_P D vwCl (w_M cA a S) H) (hD : va_D A (w_M cA a S)) (hS : va_S A s.heap H locs) (hl : lv_has ls 6 [(0, .ref (a 0)), (1, .int x1), (2, .int x2), (3, .int x3)]) : W p l e (rmU 1 25 0 0) s m args below meth c H locs 0 0 (MQ below (QI D A z.1 (w_M cA a z.2)) args s 0 0 A) (F0 m 137 ls []) := by
  obtain ⟨hx, hb, hml, hown, hts, hK, hN, hr, hlk⟩ := id C
  unfold fX11_sumItem_j137 at hf
  refine lv_goto (tgt := 6) (pc := 137) hx hb dX11_sumItem_137 (by decide) ?_
  exact hg6 x1 x2 x3 S hf _ _ _ hP hD hS (lv_sub hl [0, 1, 2, 3] rfl)
set_option maxRecDepth 100000 in
set_option maxHeartbeats 4000000 in
theorem wX11_sumItem_108 (C : Cx p s m args meth c D cA cX11_sumItem 6 RX11 (some .boolean)) (hA : ∀ q : Nat, s.heap.size ≤ q → A q) {N : Nat} {z : Int32 × St} {g6 : Int32 × Int32 × Int32 × St → Option (Int32 × St)} (hg6 : ∀ (x1 : Int32) (x2 : Int32) (x3 : Int32) (S : St), g6 (x1, x2, x3, S) = some z → ∀ (H : Heap) (locs : List Loc) (ls : Array Slot), va_P D vwCl (w_M cA a S) H → va_D A (w_M cA a S) → va_S A s.heap H locs → lv_has ls 6 [(0, .ref (a 0)), (1, .int x1), (2, .int x2), (3, .int x3)] → W p l e (rmU 1 25 0 0) s m args below meth c H locs 0 0 (MQ below (QI D A z.1 (w_M cA a z.2)) args s 0 0 A) (F0 m 6 ls [])) {x1 : Int32} {x2 : Int32} {x4 : Int32} {y0 : Int32} {S : St} (hf : fX11_sumItem_j108 N g6 x1 x2 x4 y0 S = some z) {H : Heap} {locs : List Loc} {ls : Array Slot} (hP : va_P D vwCl (w_M cA a S) H) (hD : va_D A (w_M cA a S)) (hS : va_S A s.heap H locs) (hl : lv_has ls 6 [(0, .ref (a 0)), (1, .int x1), (2, .int x2), (4, .int x4)]) : W p l e (rmU 1 25 0 0) s m args below meth c H locs 0 0 (MQ below (QI D A z.1 (w_M cA a z.2)) args s 0 0 A) (F0 m 108 ls [.int y0]) := by
  obtain ⟨hx, hb, hml, hown, hts, hK, hN, hr, hlk⟩ := id C
  unfold fX11_sumItem_j108 at hf
  refine lv_istore_n (lv' := [(3, .int y0), (0, .ref (a 0)), (1, .int x1), (2, .int x2), (4, .int x4)]) (pc := 108) hx hb dX11_sumItem_108 rfl hl (by decide) rfl (fun ls hl => ?_)
  refine lv_iload_n (pc := 109) hx hb dX11_sumItem_109 rfl (lv_at hl 0 rfl) ?_
  refine lv_if_eq (tgt := 137) (pc := 110) hx hb dX11_sumItem_110 (by decide) (fun c1 => ?_) (fun c1 => ?_)
  · have hf := pt_t c1 hf
    exact wX11_sumItem_137 C hA hg6 hf hP hD hS (lv_sub hl [1, 2, 3, 0] rfl)
  · have hf := pt_f c1 hf
    refine lv_aload_n (pc := 113) hx hb dX11_sumItem_113 rfl (lv_at hl 1 rfl) ?_
    refine ge_RX11_28_M_0_0 (pc := 114) C hP dX11_sumItem_114 ?_
    refine lv_bipush (v := (20 : Int32)) (pc := 117) hx hb dX11_sumItem_117 (by decide) ?_
    refine lv_iload_n (pc := 119) hx hb dX11_sumItem_119 rfl (lv_at hl 2 rfl) ?_
    refine lv_iadd (pc := 120) hx hb dX11_sumItem_120 ?_
    refine lv_iload (pc := 121) hx hb dX11_sumItem_121 (lv_at hl 4 rfl) ?_
    obtain ⟨h2, hf⟩ := pt_g hf
    refine sr_M_0_7 (pc := 123) (j := (((20 : Int32) + x1)).toNatClampNeg) C hP hD hS h2 rfl dX11_sumItem_123 (fun H locs hP hD hS => ?_)
    refine lv_iinc (v := (x1 + 1)) (lv' := [(1, .int ((x1 + 1))), (3, .int y0), (0, .ref (a 0)), (2, .int x2), (4, .int x4)]) (pc := 124) hx hb dX11_sumItem_124 hl (k := 2) rfl (by rfl) (by decide) rfl (fun ls hl => ?_)
    refine lv_aload_n (pc := 127) hx hb dX11_sumItem_127 rfl (lv_at hl 2 rfl) ?_
    refine lv_dup (pc := 128) hx hb dX11_sumItem_128 rfl ?_
    refine ge_RX11_80_M_0_0 (pc := 129) C hP dX11_sumItem_129 ?_
    refine lv_iconst (v := (1 : Int32)) (pc := 132) hx hb dX11_sumItem_132 (by decide) ?_
    refine lv_iadd (pc := 133) hx hb dX11_sumItem_133 ?_
    refine pu_RX11_80_M_0_0 (pc := 134) C hP hD hS dX11_sumItem_134 (fun H locs hP hD hS => ?_)
    exact wX11_sumItem_137 C hA hg6 hf hP hD hS (lv_sub hl [2, 0, 3, 1] rfl)
set_option maxRecDepth 100000 in
set_option maxHeartbeats 4000000 in
theorem wX11_sumItem_107 (C : Cx p s m args meth c D cA cX11_sumItem 6 RX11 (some .boolean)) (hA : ∀ q : Nat, s.heap.size ≤ q → A q) {N : Nat} {z : Int32 × St} {g6 : Int32 × Int32 × Int32 × St → Option (Int32 × St)} (hg6 : ∀ (x1 : Int32) (x2 : Int32) (x3 : Int32) (S : St), g6 (x1, x2, x3, S) = some z → ∀ (H : Heap) (locs : List Loc) (ls : Array Slot), va_P D vwCl (w_M cA a S) H → va_D A (w_M cA a S) → va_S A s.heap H locs → lv_has ls 6 [(0, .ref (a 0)), (1, .int x1), (2, .int x2), (3, .int x3)] → W p l e (rmU 1 25 0 0) s m args below meth c H locs 0 0 (MQ below (QI D A z.1 (w_M cA a z.2)) args s 0 0 A) (F0 m 6 ls [])) {x1 : Int32} {x2 : Int32} {x4 : Int32} {S : St} (hf : fX11_sumItem_j107 N g6 x1 x2 x4 S = some z) {H : Heap} {locs : List Loc} {ls : Array Slot} (hP : va_P D vwCl (w_M cA a S) H) (hD : va_D A (w_M cA a S)) (hS : va_S A s.heap H locs) (hl : lv_has ls 6 [(0, .ref (a 0)), (1, .int x1), (2, .int x2), (4, .int x4)]) : W p l e (rmU 1 25 0 0) s m args below meth c H locs 0 0 (MQ below (QI D A z.1 (w_M cA a z.2)) args s 0 0 A) (F0 m 107 ls []) := by
  obtain ⟨hx, hb, hml, hown, hts, hK, hN, hr, hlk⟩ := id C
  unfold fX11_sumItem_j107 at hf
  refine lv_iconst (v := (0 : Int32)) (pc := 107) hx hb dX11_sumItem_107 (by decide) ?_
  exact wX11_sumItem_108 C hA hg6 hf hP hD hS (lv_sub hl [0, 1, 2, 3] rfl)
set_option maxRecDepth 100000 in
set_option maxHeartbeats 4000000 in
theorem wX11_sumItem_103 (C : Cx p s m args meth c D cA cX11_sumItem 6 RX11 (some .boolean)) (hA : ∀ q : Nat, s.heap.size ≤ q → A q) {N : Nat} {z : Int32 × St} {g6 : Int32 × Int32 × Int32 × St → Option (Int32 × St)} (hg6 : ∀ (x1 : Int32) (x2 : Int32) (x3 : Int32) (S : St), g6 (x1, x2, x3, S) = some z → ∀ (H : Heap) (locs : List Loc) (ls : Array Slot), va_P D vwCl (w_M cA a S) H → va_D A (w_M cA a S) → va_S A s.heap H locs → lv_has ls 6 [(0, .ref (a 0)), (1, .int x1), (2, .int x2), (3, .int x3)] → W p l e (rmU 1 25 0 0) s m args below meth c H locs 0 0 (MQ below (QI D A z.1 (w_M cA a z.2)) args s 0 0 A) (F0 m 6 ls [])) {x1 : Int32} {x2 : Int32} {x4 : Int32} {S : St} (hf : fX11_sumItem_j103 N g6 x1 x2 x4 S = some z) {H : Heap} {locs : List Loc} {ls : Array Slot} (hP : va_P D vwCl (w_M cA a S) H) (hD : va_D A (w_M cA a S)) (hS : va_S A s.heap H locs) (hl : lv_has ls 6 [(0, .ref (a 0)), (1, .int x1), (2, .int x2), (4, .int x4)]) : W p l e (rmU 1 25 0 0) s m args below meth c H locs 0 0 (MQ below (QI D A z.1 (w_M cA a z.2)) args s 0 0 A) (F0 m 103 ls []) := by
  obtain ⟨hx, hb, hml, hown, hts, hK, hN, hr, hlk⟩ := id C
  unfold fX11_sumItem_j103 at hf
  refine lv_iconst (v := (1 : Int32)) (pc := 103) hx hb dX11_sumItem_103 (by decide) ?_
  refine lv_goto (tgt := 108) (pc := 104) hx hb dX11_sumItem_104 (by decide) ?_
  exact wX11_sumItem_108 C hA hg6 hf hP hD hS (lv_sub hl [0, 1, 2, 3] rfl)
set_option maxRecDepth 100000 in
set_option maxHeartbeats 4000000 in
theorem wX11_sumItem_59 (C : Cx p s m args meth c D cA cX11_sumItem 6 RX11 (some .boolean)) (hA : ∀ q : Nat, s.heap.size ≤ q → A q) {N : Nat} {z : Int32 × St} {g6 : Int32 × Int32 × Int32 × St → Option (Int32 × St)} (hg6 : ∀ (x1 : Int32) (x2 : Int32) (x3 : Int32) (S : St), g6 (x1, x2, x3, S) = some z → ∀ (H : Heap) (locs : List Loc) (ls : Array Slot), va_P D vwCl (w_M cA a S) H → va_D A (w_M cA a S) → va_S A s.heap H locs → lv_has ls 6 [(0, .ref (a 0)), (1, .int x1), (2, .int x2), (3, .int x3)] → W p l e (rmU 1 25 0 0) s m args below meth c H locs 0 0 (MQ below (QI D A z.1 (w_M cA a z.2)) args s 0 0 A) (F0 m 6 ls [])) {x1 : Int32} {x4 : Int32} {x5 : Int32} {y0 : Int32} {S : St} (hf : fX11_sumItem_j59 N g6 x1 x4 x5 y0 S = some z) {H : Heap} {locs : List Loc} {ls : Array Slot} (hP : va_P D vwCl (w_M cA a S) H) (hD : va_D A (w_M cA a S)) (hS : va_S A s.heap H locs) (hl : lv_has ls 6 [(0, .ref (a 0)), (1, .int x1), (4, .int x4), (5, .int x5)]) : W p l e (rmU 1 25 0 0) s m args below meth c H locs 0 0 (MQ below (QI D A z.1 (w_M cA a z.2)) args s 0 0 A) (F0 m 59 ls [.int y0]) := by
  obtain ⟨hx, hb, hml, hown, hts, hK, hN, hr, hlk⟩ := id C
  unfold fX11_sumItem_j59 at hf
  refine lv_istore_n (lv' := [(2, .int y0), (0, .ref (a 0)), (1, .int x1), (4, .int x4), (5, .int x5)]) (pc := 59) hx hb dX11_sumItem_59 rfl hl (by decide) rfl (fun ls hl => ?_)
  refine lv_iload_n (pc := 60) hx hb dX11_sumItem_60 rfl (lv_at hl 2 rfl) ?_
  refine lv_bipush (v := (20 : Int32)) (pc := 61) hx hb dX11_sumItem_61 (by decide) ?_
  refine lv_icmp_ge (tgt := 107) (pc := 63) hx hb dX11_sumItem_63 (by decide) (fun c1 => ?_) (fun c1 => ?_)
  · have hf := pt_t c1 hf
    exact wX11_sumItem_107 C hA hg6 hf hP hD hS (lv_sub hl [1, 2, 0, 3] rfl)
  · have hf := pt_f c1 hf
    refine lv_iload_n (pc := 66) hx hb dX11_sumItem_66 rfl (lv_at hl 0 rfl) ?_
    refine lv_iconst (v := (4 : Int32)) (pc := 67) hx hb dX11_sumItem_67 (by decide) ?_
    refine lv_icmp_gt (tgt := 107) (pc := 68) hx hb dX11_sumItem_68 (by decide) (fun c2 => ?_) (fun c2 => ?_)
    · have hf := pt_t c2 hf
      exact wX11_sumItem_107 C hA hg6 hf hP hD hS (lv_sub hl [1, 2, 0, 3] rfl)
    · have hf := pt_f c2 hf
      refine lv_iload (pc := 71) hx hb dX11_sumItem_71 (lv_at hl 4 rfl) ?_
      refine lv_if_ne (tgt := 103) (pc := 73) hx hb dX11_sumItem_73 (by decide) (fun c3 => ?_) (fun c3 => ?_)
      · have hf := pt_f c3 hf
        exact wX11_sumItem_103 C hA hg6 hf hP hD hS (lv_sub hl [1, 2, 0, 3] rfl)
      · have hf := pt_t c3 hf
        refine lv_iload (pc := 76) hx hb dX11_sumItem_76 (lv_at hl 3 rfl) ?_
        obtain ⟨q4, hq4, hf⟩ := pt_b hf
        have hPc : va_P D vwCl ([] : va_W) H := hP.sub [] rfl
        have hDc : va_D A ([] : va_W) := hD.sub [] (by decide) rfl
        refine prt_i (runU_S (pc := 78) (As := [.int x4]) (rest := []) C lk_RX11_97 (kX11_isSign l D cA hq4 H.size) ⟨Nat.le_of_ble_eq_true rfl, Nat.le_of_ble_eq_true rfl⟩ ⟨Nat.le_refl _, Nat.le_refl _⟩ hPc hDc hl.1 rfl (Nat.le_of_ble_eq_true rfl) dX11_sumItem_78) hP hD hS hA [] rfl (fun H locs hP hD hS => ?_)
        refine lv_if_eq (tgt := 107) (pc := 81) hx hb dX11_sumItem_81 (by decide) (fun c5 => ?_) (fun c5 => ?_)
        · have hf := pt_t c5 hf
          exact wX11_sumItem_107 C hA hg6 hf hP hD hS (lv_sub hl [1, 2, 0, 3] rfl)
        · have hf := pt_f c5 hf
          refine lv_iload_n (pc := 84) hx hb dX11_sumItem_84 rfl (lv_at hl 2 rfl) ?_
          refine lv_if_le (tgt := 107) (pc := 85) hx hb dX11_sumItem_85 (by decide) (fun c6 => ?_) (fun c6 => ?_)
          · have hf := pt_t c6 hf
            exact wX11_sumItem_107 C hA hg6 hf hP hD hS (lv_sub hl [1, 2, 0, 3] rfl)
          · have hf := pt_f c6 hf
            refine lv_aload_n (pc := 88) hx hb dX11_sumItem_88 rfl (lv_at hl 1 rfl) ?_
            refine ge_RX11_28_M_0_0 (pc := 89) C hP dX11_sumItem_89 ?_
            refine lv_bipush (v := (19 : Int32)) (pc := 92) hx hb dX11_sumItem_92 (by decide) ?_
            refine lv_iload_n (pc := 94) hx hb dX11_sumItem_94 rfl (lv_at hl 2 rfl) ?_
            refine lv_iadd (pc := 95) hx hb dX11_sumItem_95 ?_
            obtain ⟨h7, hf⟩ := pt_g hf
            refine ld_M_0_7 (pc := 96) (j := (((19 : Int32) + x1)).toNatClampNeg) C hP h7 rfl dX11_sumItem_96 ?_
            obtain ⟨q8, hq8, hf⟩ := pt_b hf
            have hPc : va_P D vwCl ([] : va_W) H := hP.sub [] rfl
            have hDc : va_D A ([] : va_W) := hD.sub [] (by decide) rfl
            refine prt_i (runU_S (pc := 97) (As := [.int ((S 7 ((((19 : Int32) + x1)).toNatClampNeg)))]) (rest := []) C lk_RX11_97 (kX11_isSign l D cA hq8 H.size) ⟨Nat.le_of_ble_eq_true rfl, Nat.le_of_ble_eq_true rfl⟩ ⟨Nat.le_refl _, Nat.le_refl _⟩ hPc hDc hl.1 rfl (Nat.le_of_ble_eq_true rfl) dX11_sumItem_97) hP hD hS hA [] rfl (fun H locs hP hD hS => ?_)
            refine lv_if_ne (tgt := 107) (pc := 100) hx hb dX11_sumItem_100 (by decide) (fun c9 => ?_) (fun c9 => ?_)
            · have hf := pt_f c9 hf
              exact wX11_sumItem_107 C hA hg6 hf hP hD hS (lv_sub hl [1, 2, 0, 3] rfl)
            · have hf := pt_t c9 hf
              exact wX11_sumItem_103 C hA hg6 hf hP hD hS (lv_sub hl [1, 2, 0, 3] rfl)
set_option maxRecDepth 100000 in
set_option maxHeartbeats 4000000 in
theorem wX11_sumItem_6 (C : Cx p s m args meth c D cA cX11_sumItem 6 RX11 (some .boolean)) (hA : ∀ q : Nat, s.heap.size ≤ q → A q) {N : Nat} {z : Int32 × St} : ∀ (k : Nat) (x1 : Int32) (x2 : Int32) (x3 : Int32) (S : St), fX11_sumItem_l6 N  k (x1, x2, x3, S) = some z → ∀ (H : Heap) (locs : List Loc) (ls : Array Slot), va_P D vwCl (w_M cA a S) H → va_D A (w_M cA a S) → va_S A s.heap H locs → lv_has ls 6 [(0, .ref (a 0)), (1, .int x1), (2, .int x2), (3, .int x3)] → W p l e (rmU 1 25 0 0) s m args below meth c H locs 0 0 (MQ below (QI D A z.1 (w_M cA a z.2)) args s 0 0 A) (F0 m 6 ls []) := by
  obtain ⟨hx, hb, hml, hown, hts, hK, hN, hr, hlk⟩ := id C
  intro k
  induction k with
  | zero =>
    intro x1 x2 x3 S hf
    have hf : (none : Option (Int32 × St)) = some z := hf
    cases hf
  | succ k hg6 =>
    intro x1 x2 x3 S hf H locs ls hP hD hS hl
    have hf : fX11_sumItem_b6 N  (fX11_sumItem_l6 N  k) x1 x2 x3 S = some z := hf
    unfold fX11_sumItem_b6 at hf
    refine lv_iload_n (pc := 6) hx hb dX11_sumItem_6 rfl (lv_at hl 3 rfl) ?_
    refine lv_if_eq (tgt := 140) (pc := 7) hx hb dX11_sumItem_7 (by decide) (fun c1 => ?_) (fun c1 => ?_)
    · have hf := pt_t c1 hf
      exact wX11_sumItem_140 C hA  hf hP hD hS (lv_sub hl [0, 1, 2, 3] rfl)
    · have hf := pt_f c1 hf
      refine lv_aload_n (pc := 10) hx hb dX11_sumItem_10 rfl (lv_at hl 0 rfl) ?_
      refine lv_aload_n (pc := 11) hx hb dX11_sumItem_11 rfl (lv_at hl 0 rfl) ?_
      refine ge_RX11_80_M_0_0 (pc := 12) C hP dX11_sumItem_12 ?_
      obtain ⟨q2, hq2, hf⟩ := pt_b hf
      refine all_i (runU_V (pc := 15) (As := [.int ((S 17 0))]) (b := a 0) (rest := []) (ci := 10) (q0 := 0) C lk_RX11_83 (kX11_letterAt l D cA a hq2 H.size) ⟨Nat.le_of_ble_eq_true rfl, Nat.le_of_ble_eq_true rfl⟩ ⟨Nat.le_refl _, Nat.le_refl _⟩ hP hD rfl rfl rfl hl.1 rfl (Nat.le_of_ble_eq_true rfl) dX11_sumItem_15) hD hS hA (fun H locs hP hD hS => ?_)
      refine lv_bipush (v := (59 : Int32)) (pc := 18) hx hb dX11_sumItem_18 (by decide) ?_
      refine lv_icmp_eq (tgt := 140) (pc := 20) hx hb dX11_sumItem_20 (by decide) (fun c3 => ?_) (fun c3 => ?_)
      · have hf := pt_t c3 hf
        exact wX11_sumItem_140 C hA  hf hP hD hS (lv_sub hl [0, 1, 2, 3] rfl)
      · have hf := pt_f c3 hf
        refine lv_aload_n (pc := 23) hx hb dX11_sumItem_23 rfl (lv_at hl 0 rfl) ?_
        refine lv_aload_n (pc := 24) hx hb dX11_sumItem_24 rfl (lv_at hl 0 rfl) ?_
        refine ge_RX11_80_M_0_0 (pc := 25) C hP dX11_sumItem_25 ?_
        obtain ⟨q4, hq4, hf⟩ := pt_b hf
        refine all_i (runU_V (pc := 28) (As := [.int ((S 17 0))]) (b := a 0) (rest := []) (ci := 10) (q0 := 0) C lk_RX11_83 (kX11_letterAt l D cA a hq4 H.size) ⟨Nat.le_of_ble_eq_true rfl, Nat.le_of_ble_eq_true rfl⟩ ⟨Nat.le_refl _, Nat.le_refl _⟩ hP hD rfl rfl rfl hl.1 rfl (Nat.le_of_ble_eq_true rfl) dX11_sumItem_28) hD hS hA (fun H locs hP hD hS => ?_)
        refine lv_istore (lv' := [(4, .int q4), (0, .ref (a 0)), (1, .int x1), (2, .int x2), (3, .int x3)]) (pc := 31) hx hb dX11_sumItem_31 hl (by decide) rfl (fun ls hl => ?_)
        refine lv_iload (pc := 33) hx hb dX11_sumItem_33 (lv_at hl 0 rfl) ?_
        refine lv_i2l (v := q4.toInt64) (pc := 35) hx hb dX11_sumItem_35 rfl ?_
        refine lv_ldc2 (pc := 36) (v := (48 : Int64)) hx hb hown (hts _ kl_RX11_87) dX11_sumItem_36 ?_
        refine lv_ldc2 (pc := 39) (v := (57 : Int64)) hx hb hown (hts _ kl_RX11_89) dX11_sumItem_39 ?_
        obtain ⟨q5, hq5, hf⟩ := pt_b hf
        have hPc : va_P D vwCl ([] : va_W) H := hP.sub [] rfl
        have hDc : va_D A ([] : va_W) := hD.sub [] (by decide) rfl
        refine prt_i (runU_S (pc := 42) (As := [.long q4.toInt64, .long ((48 : Int64)), .long ((57 : Int64))]) (rest := []) C lk_RX11_72 (kX11_in l D cA hq5 H.size) ⟨Nat.le_of_ble_eq_true rfl, Nat.le_of_ble_eq_true rfl⟩ ⟨Nat.le_refl _, Nat.le_refl _⟩ hPc hDc hl.1 rfl (Nat.le_of_ble_eq_true rfl) dX11_sumItem_42) hP hD hS hA [] rfl (fun H locs hP hD hS => ?_)
        refine lv_istore (lv' := [(5, .int q5), (4, .int q4), (0, .ref (a 0)), (1, .int x1), (2, .int x2), (3, .int x3)]) (pc := 45) hx hb dX11_sumItem_45 hl (by decide) rfl (fun ls hl => ?_)
        refine lv_iload (pc := 47) hx hb dX11_sumItem_47 (lv_at hl 0 rfl) ?_
        refine lv_if_eq (tgt := 58) (pc := 49) hx hb dX11_sumItem_49 (by decide) (fun c6 => ?_) (fun c6 => ?_)
        · have hf := pt_t c6 hf
          refine lv_iconst (v := (0 : Int32)) (pc := 58) hx hb dX11_sumItem_58 (by decide) ?_
          exact wX11_sumItem_59 C hA hg6 hf hP hD hS (lv_sub hl [2, 3, 1, 0] rfl)
        · have hf := pt_f c6 hf
          refine lv_iload_n (pc := 52) hx hb dX11_sumItem_52 rfl (lv_at hl 4 rfl) ?_
          refine lv_iconst (v := (1 : Int32)) (pc := 53) hx hb dX11_sumItem_53 (by decide) ?_
          refine lv_iadd (pc := 54) hx hb dX11_sumItem_54 ?_
          refine lv_goto (tgt := 59) (pc := 55) hx hb dX11_sumItem_55 (by decide) ?_
          exact wX11_sumItem_59 C hA hg6 hf hP hD hS (lv_sub hl [2, 3, 1, 0] rfl)
set_option maxRecDepth 100000 in
set_option maxHeartbeats 4000000 in
theorem wX11_sumItem (C : Cx p s m args meth c D cA cX11_sumItem 6 RX11 (some .boolean)) (hA : ∀ q : Nat, s.heap.size ≤ q → A q) {N : Nat} {z : Int32 × St} {S : St} (hf : fX11_sumItem N S = some z) {H : Heap} {locs : List Loc} {ls : Array Slot} (hP : va_P D vwCl (w_M cA a S) H) (hD : va_D A (w_M cA a S)) (hS : va_S A s.heap H locs) (hl : lv_has ls 6 [(0, .ref (a 0))]) : W p l e (rmU 1 25 0 0) s m args below meth c H locs 0 0 (MQ below (QI D A z.1 (w_M cA a z.2)) args s 0 0 A) (F0 m 0 ls []) := by
  obtain ⟨hx, hb, hml, hown, hts, hK, hN, hr, hlk⟩ := id C
  unfold fX11_sumItem at hf
  refine lv_iconst (v := (0 : Int32)) (pc := 0) hx hb dX11_sumItem_0 (by decide) ?_
  refine lv_istore_n (lv' := [(1, .int ((0 : Int32))), (0, .ref (a 0))]) (pc := 1) hx hb dX11_sumItem_1 rfl hl (by decide) rfl (fun ls hl => ?_)
  refine lv_iconst (v := (0 : Int32)) (pc := 2) hx hb dX11_sumItem_2 (by decide) ?_
  refine lv_istore_n (lv' := [(2, .int ((0 : Int32))), (1, .int ((0 : Int32))), (0, .ref (a 0))]) (pc := 3) hx hb dX11_sumItem_3 rfl hl (by decide) rfl (fun ls hl => ?_)
  refine lv_iconst (v := (1 : Int32)) (pc := 4) hx hb dX11_sumItem_4 (by decide) ?_
  refine lv_istore_n (lv' := [(3, .int ((1 : Int32))), (2, .int ((0 : Int32))), (1, .int ((0 : Int32))), (0, .ref (a 0))]) (pc := 5) hx hb dX11_sumItem_5 rfl hl (by decide) rfl (fun ls hl => ?_)
  exact wX11_sumItem_6 C hA  _ ((0 : Int32)) ((0 : Int32)) ((1 : Int32)) S hf _ _ _ hP hD hS (lv_sub hl [3, 2, 1, 0] rfl)
set_option maxRecDepth 100000 in
set_option maxHeartbeats 4000000 in
theorem kX11_sumItem (l : Launch) (D : va_G) (cA : Nat → ClassId) (a : Nat → Nat) {N : Nat} {S : St} {z : Int32 × St} (hf : fX11_sumItem N S = some z) : CtI l yX11_sumItem cX11_sumItem 6 (some .boolean) 1 25 D cA (w_M cA a S) (w_M cA a z.2) [.ref (a 0)] z.1 := by
  intro sz
  refine Met.ofW (cc := cX11_sumItem) (maxL := 6) (ret := (some .boolean)) (by decide) rfl ?_
  intro p e s m args below meth c s₁ B hml hv
  obtain ⟨rfl, hsz, hP, hK, hD0⟩ := hv
  subst hsz
  have C : Cx p s m _ meth c D cA cX11_sumItem 6 RX11 (some .boolean) := Cx.of B hml hK
  have hD := hD0.self (sz := s.heap.size)
  have hA : ∀ q : Nat, s.heap.size ≤ q → va_A (w_M cA a S) s.heap.size q := fun q h => Or.inr h
  have hS : va_S (va_A (w_M cA a S) s.heap.size) s.heap s.heap [] := va_S.rf
  have hl := lv_entry ([.ref (a 0)]) (n := 6) (Nat.le_of_ble_eq_true rfl)
  rw [lg_entry_eq]
  generalize (lg_sl ([.ref (a 0)]) ++ List.replicate (6 - (lg_sl ([.ref (a 0)])).length) Slot.unset).toArray = ls at hl ⊢
  exact wX11_sumItem C hA hf hP hD hS hl
theorem lk_RX11_100 : LkV RX11 100 yX11_coinItem cX11_coinItem 3 (some .boolean) 0 := ⟨⟨by decide +kernel, by decide +kernel, by decide +kernel, by decide +kernel, by decide +kernel, by decide +kernel⟩, by decide +kernel, by decide +kernel⟩
theorem kl_RX11_104 : Cond.constantLong RX11 104 (9) ∈ wsL_law := by decide +kernel
theorem lk_RX11_106 : LkV RX11 106 yX11_sumItem cX11_sumItem 6 (some .boolean) 0 := ⟨⟨by decide +kernel, by decide +kernel, by decide +kernel, by decide +kernel, by decide +kernel, by decide +kernel⟩, by decide +kernel, by decide +kernel⟩
def fX11_item (N : Nat) (S : St) : Option (Int32 × St) :=
  Option.bind (fX11_letterAt N S ((S 17 0))) (fun q1 => if q1 = (99 : Int32) then (Option.bind (fX11_coinItem N (stf S 17 (((S 17 0) + (1 : Int32))))) (fun q3 => if q3.1 = 0 ∨ q3.1 = 1 then (some (q3.1, q3.2)) else none)) else (if q1 = (100 : Int32) then (Option.bind (fX11_figures N (stf S 17 (((S 17 0) + (1 : Int32)))) ((1 : Int32))) (fun q6 => if q6.1 = 0 then (some ((0 : Int32), q6.2)) else (Option.bind (fX11_in N (((q6.2 18 0)).toInt64) ((2 : Int64)) ((9 : Int64))) (fun q8 => if q8 = 0 then (some ((0 : Int32), q6.2)) else (some ((1 : Int32), (sti q6.2 5 1 ((q6.2 18 0))))))))) else (if q1 = (101 : Int32) then (Option.bind (fX11_sumItem N (stf S 17 (((S 17 0) + (1 : Int32))))) (fun q11 => if q11.1 = 0 ∨ q11.1 = 1 then (some (q11.1, q11.2)) else none)) else (if q1 = (102 : Int32) then (Option.bind (fX11_figures N (stf S 17 (((S 17 0) + (1 : Int32)))) ((2 : Int32))) (fun q14 => if q14.1 = 0 then (some ((0 : Int32), q14.2)) else (if (9 : Int32) < (q14.2 18 0) then (some ((0 : Int32), q14.2)) else (if (q14.2 18 1) ≤ (9 : Int32) then (if ¬ (((30 : Int32) + (q14.2 18 0)) < 0 ∨ 40 ≤ (((30 : Int32) + (q14.2 18 0))).toNatClampNeg) then (some ((1 : Int32), (sti q14.2 2 ((((30 : Int32) + (q14.2 18 0))).toNatClampNeg) ((q14.2 18 1))))) else none) else (some ((0 : Int32), q14.2)))))) else (if q1 = (119 : Int32) then (Option.bind (fX11_figures N (stf S 17 (((S 17 0) + (1 : Int32)))) ((1 : Int32))) (fun q20 => if q20.1 = 0 then (some ((0 : Int32), q20.2)) else (Option.bind (fX11_in N (((q20.2 18 0)).toInt64) ((1 : Int64)) ((9 : Int64))) (fun q22 => if q22 = 0 then (some ((0 : Int32), q20.2)) else (some ((1 : Int32), (sti q20.2 6 1 ((q20.2 18 0))))))))) else (if q1 = (120 : Int32) then (Option.bind (fX11_figures N (stf S 17 (((S 17 0) + (1 : Int32)))) ((1 : Int32))) (fun q25 => if q25.1 = 0 then (some ((0 : Int32), q25.2)) else (if (q25.2 18 0) ≤ (9 : Int32) then (if ¬ (((20 : Int32) + (q25.2 18 0)) < 0 ∨ 40 ≤ (((20 : Int32) + (q25.2 18 0))).toNatClampNeg) then (some ((1 : Int32), (sti q25.2 2 ((((20 : Int32) + (q25.2 18 0))).toNatClampNeg) ((1 : Int32))))) else none) else (some ((0 : Int32), q25.2))))) else (some ((0 : Int32), (stf S 17 (((S 17 0) + (1 : Int32))))))))))))
set_option maxRecDepth 100000 in
set_option maxHeartbeats 4000000 in
theorem wX11_item (C : Cx p s m args meth c D cA cX11_item 2 RX11 (some .boolean)) (hA : ∀ q : Nat, s.heap.size ≤ q → A q) {N : Nat} {z : Int32 × St} {S : St} (hf : fX11_item N S = some z) {H : Heap} {locs : List Loc} {ls : Array Slot} (hP : va_P D vwCl (w_M cA a S) H) (hD : va_D A (w_M cA a S)) (hS : va_S A s.heap H locs) (hl : lv_has ls 2 [(0, .ref (a 0))]) : W p l e (rmU 3 71 0 0) s m args below meth c H locs 0 0 (MQ below (QI D A z.1 (w_M cA a z.2)) args s 0 0 A) (F0 m 0 ls []) := by
  obtain ⟨hx, hb, hml, hown, hts, hK, hN, hr, hlk⟩ := id C
  unfold fX11_item at hf
  refine lv_aload_n (pc := 0) hx hb dX11_item_0 rfl (lv_at hl 0 rfl) ?_
  refine lv_aload_n (pc := 1) hx hb dX11_item_1 rfl (lv_at hl 0 rfl) ?_
  refine ge_RX11_80_M_0_0 (pc := 2) C hP dX11_item_2 ?_
  obtain ⟨q1, hq1, hf⟩ := pt_b hf
  refine all_i (runU_V (pc := 5) (As := [.int ((S 17 0))]) (b := a 0) (rest := []) (ci := 10) (q0 := 0) C lk_RX11_83 (kX11_letterAt l D cA a hq1 H.size) ⟨Nat.le_of_ble_eq_true rfl, Nat.le_of_ble_eq_true rfl⟩ ⟨Nat.le_refl _, Nat.le_refl _⟩ hP hD rfl rfl rfl hl.1 rfl (Nat.le_of_ble_eq_true rfl) dX11_item_5) hD hS hA (fun H locs hP hD hS => ?_)
  refine lv_istore_n (lv' := [(1, .int q1), (0, .ref (a 0))]) (pc := 8) hx hb dX11_item_8 rfl hl (by decide) rfl (fun ls hl => ?_)
  refine lv_aload_n (pc := 9) hx hb dX11_item_9 rfl (lv_at hl 1 rfl) ?_
  refine lv_dup (pc := 10) hx hb dX11_item_10 rfl ?_
  refine ge_RX11_80_M_0_0 (pc := 11) C hP dX11_item_11 ?_
  refine lv_iconst (v := (1 : Int32)) (pc := 14) hx hb dX11_item_14 (by decide) ?_
  refine lv_iadd (pc := 15) hx hb dX11_item_15 ?_
  refine pu_RX11_80_M_0_0 (pc := 16) C hP hD hS dX11_item_16 (fun H locs hP hD hS => ?_)
  refine lv_iload_n (pc := 19) hx hb dX11_item_19 rfl (lv_at hl 0 rfl) ?_
  by_cases c2 : q1 = (99 : Int32)
  · have hf := pt_t c2 hf
    refine lv_lookup (off := 152) (tgt := 172) (pc := 20) hx hb dX11_item_20 (by decide) (by rw [c2]; decide) (by decide) ?_
    refine lv_aload_n (pc := 172) hx hb dX11_item_172 rfl (lv_at hl 1 rfl) ?_
    obtain ⟨q3, hq3, hf⟩ := pt_b hf
    refine all_i (runU_V (pc := 173) (As := []) (b := a 0) (rest := []) (ci := 10) (q0 := 0) C lk_RX11_100 (kX11_coinItem l D cA a hq3 H.size) ⟨Nat.le_of_ble_eq_true rfl, Nat.le_of_ble_eq_true rfl⟩ ⟨Nat.le_refl _, Nat.le_refl _⟩ hP hD rfl rfl rfl hl.1 rfl (Nat.le_of_ble_eq_true rfl) dX11_item_173) hD hS hA (fun H locs hP hD hS => ?_)
    obtain ⟨h4, hf⟩ := pt_g hf
    cases hf
    exact ret_z C h4 hP hD hS dX11_item_176
  · have hf := pt_f c2 hf
    by_cases c5 : q1 = (100 : Int32)
    · have hf := pt_t c5 hf
      refine lv_lookup (off := 157) (tgt := 177) (pc := 20) hx hb dX11_item_20 (by decide) (by rw [c5]; decide) (by decide) ?_
      refine lv_aload_n (pc := 177) hx hb dX11_item_177 rfl (lv_at hl 1 rfl) ?_
      refine lv_iconst (v := (1 : Int32)) (pc := 178) hx hb dX11_item_178 (by decide) ?_
      obtain ⟨q6, hq6, hf⟩ := pt_b hf
      refine all_i (runU_V (pc := 179) (As := [.int ((1 : Int32))]) (b := a 0) (rest := []) (ci := 10) (q0 := 0) C lk_RX11_93 (kX11_figures l D cA a hq6 H.size) ⟨Nat.le_of_ble_eq_true rfl, Nat.le_of_ble_eq_true rfl⟩ ⟨Nat.le_refl _, Nat.le_refl _⟩ hP hD rfl rfl rfl hl.1 rfl (Nat.le_of_ble_eq_true rfl) dX11_item_179) hD hS hA (fun H locs hP hD hS => ?_)
      refine lv_if_eq (tgt := 204) (pc := 182) hx hb dX11_item_182 (by decide) (fun c7 => ?_) (fun c7 => ?_)
      · have hf := pt_t c7 hf
        refine lv_iconst (v := (0 : Int32)) (pc := 204) hx hb dX11_item_204 (by decide) ?_
        cases hf
        exact ret_z C (Or.inl rfl) hP hD hS dX11_item_205
      · have hf := pt_f c7 hf
        refine lv_aload_n (pc := 185) hx hb dX11_item_185 rfl (lv_at hl 1 rfl) ?_
        refine ge_RX11_49_M_0_0 (pc := 186) C hP dX11_item_186 ?_
        refine lv_iconst (v := (0 : Int32)) (pc := 189) hx hb dX11_item_189 (by decide) ?_
        refine ld_M_0_14 (pc := 190) (j := 0) C hP (inK rfl) rfl dX11_item_190 ?_
        refine lv_i2l (v := ((q6.2 18 0)).toInt64) (pc := 191) hx hb dX11_item_191 rfl ?_
        refine lv_ldc2 (pc := 192) (v := (2 : Int64)) hx hb hown (hts _ kl_RX11_91) dX11_item_192 ?_
        refine lv_ldc2 (pc := 195) (v := (9 : Int64)) hx hb hown (hts _ kl_RX11_104) dX11_item_195 ?_
        obtain ⟨q8, hq8, hf⟩ := pt_b hf
        have hPc : va_P D vwCl ([] : va_W) H := hP.sub [] rfl
        have hDc : va_D A ([] : va_W) := hD.sub [] (by decide) rfl
        refine prt_i (runU_S (pc := 198) (As := [.long (((q6.2 18 0)).toInt64), .long ((2 : Int64)), .long ((9 : Int64))]) (rest := []) C lk_RX11_72 (kX11_in l D cA hq8 H.size) ⟨Nat.le_of_ble_eq_true rfl, Nat.le_of_ble_eq_true rfl⟩ ⟨Nat.le_refl _, Nat.le_refl _⟩ hPc hDc hl.1 rfl (Nat.le_of_ble_eq_true rfl) dX11_item_198) hP hD hS hA [] rfl (fun H locs hP hD hS => ?_)
        refine lv_if_ne (tgt := 206) (pc := 201) hx hb dX11_item_201 (by decide) (fun c9 => ?_) (fun c9 => ?_)
        · have hf := pt_f c9 hf
          refine lv_aload_n (pc := 206) hx hb dX11_item_206 rfl (lv_at hl 1 rfl) ?_
          refine ge_RX11_22_M_0_0 (pc := 207) C hP dX11_item_207 ?_
          refine lv_iconst (v := (1 : Int32)) (pc := 210) hx hb dX11_item_210 (by decide) ?_
          refine lv_aload_n (pc := 211) hx hb dX11_item_211 rfl (lv_at hl 1 rfl) ?_
          refine ge_RX11_49_M_0_0 (pc := 212) C hP dX11_item_212 ?_
          refine lv_iconst (v := (0 : Int32)) (pc := 215) hx hb dX11_item_215 (by decide) ?_
          refine ld_M_0_14 (pc := 216) (j := 0) C hP (inK rfl) rfl dX11_item_216 ?_
          refine sr_M_0_5 (pc := 217) (j := 1) C hP hD hS (inK rfl) rfl dX11_item_217 (fun H locs hP hD hS => ?_)
          refine lv_iconst (v := (1 : Int32)) (pc := 218) hx hb dX11_item_218 (by decide) ?_
          cases hf
          exact ret_z C (Or.inr rfl) hP hD hS dX11_item_219
        · have hf := pt_t c9 hf
          refine lv_iconst (v := (0 : Int32)) (pc := 204) hx hb dX11_item_204 (by decide) ?_
          cases hf
          exact ret_z C (Or.inl rfl) hP hD hS dX11_item_205
    · have hf := pt_f c5 hf
      by_cases c10 : q1 = (101 : Int32)
      · have hf := pt_t c10 hf
        refine lv_lookup (off := 241) (tgt := 261) (pc := 20) hx hb dX11_item_20 (by decide) (by rw [c10]; decide) (by decide) ?_
        refine lv_aload_n (pc := 261) hx hb dX11_item_261 rfl (lv_at hl 1 rfl) ?_
        obtain ⟨q11, hq11, hf⟩ := pt_b hf
        refine all_i (runU_V (pc := 262) (As := []) (b := a 0) (rest := []) (ci := 10) (q0 := 0) C lk_RX11_106 (kX11_sumItem l D cA a hq11 H.size) ⟨Nat.le_of_ble_eq_true rfl, Nat.le_of_ble_eq_true rfl⟩ ⟨Nat.le_refl _, Nat.le_refl _⟩ hP hD rfl rfl rfl hl.1 rfl (Nat.le_of_ble_eq_true rfl) dX11_item_262) hD hS hA (fun H locs hP hD hS => ?_)
        obtain ⟨h12, hf⟩ := pt_g hf
        cases hf
        exact ret_z C h12 hP hD hS dX11_item_265
      · have hf := pt_f c10 hf
        by_cases c13 : q1 = (102 : Int32)
        · have hf := pt_t c13 hf
          refine lv_lookup (off := 98) (tgt := 118) (pc := 20) hx hb dX11_item_20 (by decide) (by rw [c13]; decide) (by decide) ?_
          refine lv_aload_n (pc := 118) hx hb dX11_item_118 rfl (lv_at hl 1 rfl) ?_
          refine lv_iconst (v := (2 : Int32)) (pc := 119) hx hb dX11_item_119 (by decide) ?_
          obtain ⟨q14, hq14, hf⟩ := pt_b hf
          refine all_i (runU_V (pc := 120) (As := [.int ((2 : Int32))]) (b := a 0) (rest := []) (ci := 10) (q0 := 0) C lk_RX11_93 (kX11_figures l D cA a hq14 H.size) ⟨Nat.le_of_ble_eq_true rfl, Nat.le_of_ble_eq_true rfl⟩ ⟨Nat.le_refl _, Nat.le_refl _⟩ hP hD rfl rfl rfl hl.1 rfl (Nat.le_of_ble_eq_true rfl) dX11_item_120) hD hS hA (fun H locs hP hD hS => ?_)
          refine lv_if_eq (tgt := 148) (pc := 123) hx hb dX11_item_123 (by decide) (fun c15 => ?_) (fun c15 => ?_)
          · have hf := pt_t c15 hf
            refine lv_iconst (v := (0 : Int32)) (pc := 148) hx hb dX11_item_148 (by decide) ?_
            cases hf
            exact ret_z C (Or.inl rfl) hP hD hS dX11_item_149
          · have hf := pt_f c15 hf
            refine lv_aload_n (pc := 126) hx hb dX11_item_126 rfl (lv_at hl 1 rfl) ?_
            refine ge_RX11_49_M_0_0 (pc := 127) C hP dX11_item_127 ?_
            refine lv_iconst (v := (0 : Int32)) (pc := 130) hx hb dX11_item_130 (by decide) ?_
            refine ld_M_0_14 (pc := 131) (j := 0) C hP (inK rfl) rfl dX11_item_131 ?_
            refine lv_bipush (v := (9 : Int32)) (pc := 132) hx hb dX11_item_132 (by decide) ?_
            refine lv_icmp_gt (tgt := 148) (pc := 134) hx hb dX11_item_134 (by decide) (fun c16 => ?_) (fun c16 => ?_)
            · have hf := pt_t c16 hf
              refine lv_iconst (v := (0 : Int32)) (pc := 148) hx hb dX11_item_148 (by decide) ?_
              cases hf
              exact ret_z C (Or.inl rfl) hP hD hS dX11_item_149
            · have hf := pt_f c16 hf
              refine lv_aload_n (pc := 137) hx hb dX11_item_137 rfl (lv_at hl 1 rfl) ?_
              refine ge_RX11_49_M_0_0 (pc := 138) C hP dX11_item_138 ?_
              refine lv_iconst (v := (1 : Int32)) (pc := 141) hx hb dX11_item_141 (by decide) ?_
              refine ld_M_0_14 (pc := 142) (j := 1) C hP (inK rfl) rfl dX11_item_142 ?_
              refine lv_bipush (v := (9 : Int32)) (pc := 143) hx hb dX11_item_143 (by decide) ?_
              refine lv_icmp_le (tgt := 150) (pc := 145) hx hb dX11_item_145 (by decide) (fun c17 => ?_) (fun c17 => ?_)
              · have hf := pt_t c17 hf
                refine lv_aload_n (pc := 150) hx hb dX11_item_150 rfl (lv_at hl 1 rfl) ?_
                refine ge_RX11_13_M_0_0 (pc := 151) C hP dX11_item_151 ?_
                refine lv_bipush (v := (30 : Int32)) (pc := 154) hx hb dX11_item_154 (by decide) ?_
                refine lv_aload_n (pc := 156) hx hb dX11_item_156 rfl (lv_at hl 1 rfl) ?_
                refine ge_RX11_49_M_0_0 (pc := 157) C hP dX11_item_157 ?_
                refine lv_iconst (v := (0 : Int32)) (pc := 160) hx hb dX11_item_160 (by decide) ?_
                refine ld_M_0_14 (pc := 161) (j := 0) C hP (inK rfl) rfl dX11_item_161 ?_
                refine lv_iadd (pc := 162) hx hb dX11_item_162 ?_
                refine lv_aload_n (pc := 163) hx hb dX11_item_163 rfl (lv_at hl 1 rfl) ?_
                refine ge_RX11_49_M_0_0 (pc := 164) C hP dX11_item_164 ?_
                refine lv_iconst (v := (1 : Int32)) (pc := 167) hx hb dX11_item_167 (by decide) ?_
                refine ld_M_0_14 (pc := 168) (j := 1) C hP (inK rfl) rfl dX11_item_168 ?_
                obtain ⟨h18, hf⟩ := pt_g hf
                refine sr_M_0_2 (pc := 169) (j := (((30 : Int32) + (q14.2 18 0))).toNatClampNeg) C hP hD hS h18 rfl dX11_item_169 (fun H locs hP hD hS => ?_)
                refine lv_iconst (v := (1 : Int32)) (pc := 170) hx hb dX11_item_170 (by decide) ?_
                cases hf
                exact ret_z C (Or.inr rfl) hP hD hS dX11_item_171
              · have hf := pt_f c17 hf
                refine lv_iconst (v := (0 : Int32)) (pc := 148) hx hb dX11_item_148 (by decide) ?_
                cases hf
                exact ret_z C (Or.inl rfl) hP hD hS dX11_item_149
        · have hf := pt_f c13 hf
          by_cases c19 : q1 = (119 : Int32)
          · have hf := pt_t c19 hf
            refine lv_lookup (off := 200) (tgt := 220) (pc := 20) hx hb dX11_item_20 (by decide) (by rw [c19]; decide) (by decide) ?_
            refine lv_aload_n (pc := 220) hx hb dX11_item_220 rfl (lv_at hl 1 rfl) ?_
            refine lv_iconst (v := (1 : Int32)) (pc := 221) hx hb dX11_item_221 (by decide) ?_
            obtain ⟨q20, hq20, hf⟩ := pt_b hf
            refine all_i (runU_V (pc := 222) (As := [.int ((1 : Int32))]) (b := a 0) (rest := []) (ci := 10) (q0 := 0) C lk_RX11_93 (kX11_figures l D cA a hq20 H.size) ⟨Nat.le_of_ble_eq_true rfl, Nat.le_of_ble_eq_true rfl⟩ ⟨Nat.le_refl _, Nat.le_refl _⟩ hP hD rfl rfl rfl hl.1 rfl (Nat.le_of_ble_eq_true rfl) dX11_item_222) hD hS hA (fun H locs hP hD hS => ?_)
            refine lv_if_eq (tgt := 245) (pc := 225) hx hb dX11_item_225 (by decide) (fun c21 => ?_) (fun c21 => ?_)
            · have hf := pt_t c21 hf
              refine lv_iconst (v := (0 : Int32)) (pc := 245) hx hb dX11_item_245 (by decide) ?_
              cases hf
              exact ret_z C (Or.inl rfl) hP hD hS dX11_item_246
            · have hf := pt_f c21 hf
              refine lv_aload_n (pc := 228) hx hb dX11_item_228 rfl (lv_at hl 1 rfl) ?_
              refine ge_RX11_49_M_0_0 (pc := 229) C hP dX11_item_229 ?_
              refine lv_iconst (v := (0 : Int32)) (pc := 232) hx hb dX11_item_232 (by decide) ?_
              refine ld_M_0_14 (pc := 233) (j := 0) C hP (inK rfl) rfl dX11_item_233 ?_
              refine lv_i2l (v := ((q20.2 18 0)).toInt64) (pc := 234) hx hb dX11_item_234 rfl ?_
              refine lv_lconst (v := (1 : Int64)) (pc := 235) hx hb dX11_item_235 (by decide) ?_
              refine lv_ldc2 (pc := 236) (v := (9 : Int64)) hx hb hown (hts _ kl_RX11_104) dX11_item_236 ?_
              obtain ⟨q22, hq22, hf⟩ := pt_b hf
              have hPc : va_P D vwCl ([] : va_W) H := hP.sub [] rfl
              have hDc : va_D A ([] : va_W) := hD.sub [] (by decide) rfl
              refine prt_i (runU_S (pc := 239) (As := [.long (((q20.2 18 0)).toInt64), .long ((1 : Int64)), .long ((9 : Int64))]) (rest := []) C lk_RX11_72 (kX11_in l D cA hq22 H.size) ⟨Nat.le_of_ble_eq_true rfl, Nat.le_of_ble_eq_true rfl⟩ ⟨Nat.le_refl _, Nat.le_refl _⟩ hPc hDc hl.1 rfl (Nat.le_of_ble_eq_true rfl) dX11_item_239) hP hD hS hA [] rfl (fun H locs hP hD hS => ?_)
              refine lv_if_ne (tgt := 247) (pc := 242) hx hb dX11_item_242 (by decide) (fun c23 => ?_) (fun c23 => ?_)
              · have hf := pt_f c23 hf
                refine lv_aload_n (pc := 247) hx hb dX11_item_247 rfl (lv_at hl 1 rfl) ?_
                refine ge_RX11_25_M_0_0 (pc := 248) C hP dX11_item_248 ?_
                refine lv_iconst (v := (1 : Int32)) (pc := 251) hx hb dX11_item_251 (by decide) ?_
                refine lv_aload_n (pc := 252) hx hb dX11_item_252 rfl (lv_at hl 1 rfl) ?_
                refine ge_RX11_49_M_0_0 (pc := 253) C hP dX11_item_253 ?_
                refine lv_iconst (v := (0 : Int32)) (pc := 256) hx hb dX11_item_256 (by decide) ?_
                refine ld_M_0_14 (pc := 257) (j := 0) C hP (inK rfl) rfl dX11_item_257 ?_
                refine sr_M_0_6 (pc := 258) (j := 1) C hP hD hS (inK rfl) rfl dX11_item_258 (fun H locs hP hD hS => ?_)
                refine lv_iconst (v := (1 : Int32)) (pc := 259) hx hb dX11_item_259 (by decide) ?_
                cases hf
                exact ret_z C (Or.inr rfl) hP hD hS dX11_item_260
              · have hf := pt_t c23 hf
                refine lv_iconst (v := (0 : Int32)) (pc := 245) hx hb dX11_item_245 (by decide) ?_
                cases hf
                exact ret_z C (Or.inl rfl) hP hD hS dX11_item_246
          · have hf := pt_f c19 hf
            by_cases c24 : q1 = (120 : Int32)
            · have hf := pt_t c24 hf
              refine lv_lookup (off := 60) (tgt := 80) (pc := 20) hx hb dX11_item_20 (by decide) (by rw [c24]; decide) (by decide) ?_
              refine lv_aload_n (pc := 80) hx hb dX11_item_80 rfl (lv_at hl 1 rfl) ?_
              refine lv_iconst (v := (1 : Int32)) (pc := 81) hx hb dX11_item_81 (by decide) ?_
              obtain ⟨q25, hq25, hf⟩ := pt_b hf
              refine all_i (runU_V (pc := 82) (As := [.int ((1 : Int32))]) (b := a 0) (rest := []) (ci := 10) (q0 := 0) C lk_RX11_93 (kX11_figures l D cA a hq25 H.size) ⟨Nat.le_of_ble_eq_true rfl, Nat.le_of_ble_eq_true rfl⟩ ⟨Nat.le_refl _, Nat.le_refl _⟩ hP hD rfl rfl rfl hl.1 rfl (Nat.le_of_ble_eq_true rfl) dX11_item_82) hD hS hA (fun H locs hP hD hS => ?_)
              refine lv_if_eq (tgt := 99) (pc := 85) hx hb dX11_item_85 (by decide) (fun c26 => ?_) (fun c26 => ?_)
              · have hf := pt_t c26 hf
                refine lv_iconst (v := (0 : Int32)) (pc := 99) hx hb dX11_item_99 (by decide) ?_
                cases hf
                exact ret_z C (Or.inl rfl) hP hD hS dX11_item_100
              · have hf := pt_f c26 hf
                refine lv_aload_n (pc := 88) hx hb dX11_item_88 rfl (lv_at hl 1 rfl) ?_
                refine ge_RX11_49_M_0_0 (pc := 89) C hP dX11_item_89 ?_
                refine lv_iconst (v := (0 : Int32)) (pc := 92) hx hb dX11_item_92 (by decide) ?_
                refine ld_M_0_14 (pc := 93) (j := 0) C hP (inK rfl) rfl dX11_item_93 ?_
                refine lv_bipush (v := (9 : Int32)) (pc := 94) hx hb dX11_item_94 (by decide) ?_
                refine lv_icmp_le (tgt := 101) (pc := 96) hx hb dX11_item_96 (by decide) (fun c27 => ?_) (fun c27 => ?_)
                · have hf := pt_t c27 hf
                  refine lv_aload_n (pc := 101) hx hb dX11_item_101 rfl (lv_at hl 1 rfl) ?_
                  refine ge_RX11_13_M_0_0 (pc := 102) C hP dX11_item_102 ?_
                  refine lv_bipush (v := (20 : Int32)) (pc := 105) hx hb dX11_item_105 (by decide) ?_
                  refine lv_aload_n (pc := 107) hx hb dX11_item_107 rfl (lv_at hl 1 rfl) ?_
                  refine ge_RX11_49_M_0_0 (pc := 108) C hP dX11_item_108 ?_
                  refine lv_iconst (v := (0 : Int32)) (pc := 111) hx hb dX11_item_111 (by decide) ?_
                  refine ld_M_0_14 (pc := 112) (j := 0) C hP (inK rfl) rfl dX11_item_112 ?_
                  refine lv_iadd (pc := 113) hx hb dX11_item_113 ?_
                  refine lv_iconst (v := (1 : Int32)) (pc := 114) hx hb dX11_item_114 (by decide) ?_
                  obtain ⟨h28, hf⟩ := pt_g hf
                  refine sr_M_0_2 (pc := 115) (j := (((20 : Int32) + (q25.2 18 0))).toNatClampNeg) C hP hD hS h28 rfl dX11_item_115 (fun H locs hP hD hS => ?_)
                  refine lv_iconst (v := (1 : Int32)) (pc := 116) hx hb dX11_item_116 (by decide) ?_
                  cases hf
                  exact ret_z C (Or.inr rfl) hP hD hS dX11_item_117
                · have hf := pt_f c27 hf
                  refine lv_iconst (v := (0 : Int32)) (pc := 99) hx hb dX11_item_99 (by decide) ?_
                  cases hf
                  exact ret_z C (Or.inl rfl) hP hD hS dX11_item_100
            · have hf := pt_f c24 hf
              refine lv_lookup (off := 246) (tgt := 266) (pc := 20) hx hb dX11_item_20 (by decide) (by show Op.lookupswitch.offset [(99, 152), (100, 157), (101, 241), (102, 98), (119, 200), (120, 60)] _ _ = _; rw [lv_osw (a := 99) c2 (by decide), lv_osw (a := 100) c5 (by decide), lv_osw (a := 101) c10 (by decide), lv_osw (a := 102) c13 (by decide), lv_osw (a := 119) c19 (by decide), lv_osw (a := 120) c24 (by decide)]; rfl) (by decide) ?_
              refine lv_iconst (v := (0 : Int32)) (pc := 266) hx hb dX11_item_266 (by decide) ?_
              cases hf
              exact ret_z C (Or.inl rfl) hP hD hS dX11_item_267
set_option maxRecDepth 100000 in
set_option maxHeartbeats 4000000 in
theorem kX11_item (l : Launch) (D : va_G) (cA : Nat → ClassId) (a : Nat → Nat) {N : Nat} {S : St} {z : Int32 × St} (hf : fX11_item N S = some z) : CtI l yX11_item cX11_item 2 (some .boolean) 3 71 D cA (w_M cA a S) (w_M cA a z.2) [.ref (a 0)] z.1 := by
  intro sz
  refine Met.ofW (cc := cX11_item) (maxL := 2) (ret := (some .boolean)) (by decide) rfl ?_
  intro p e s m args below meth c s₁ B hml hv
  obtain ⟨rfl, hsz, hP, hK, hD0⟩ := hv
  subst hsz
  have C : Cx p s m _ meth c D cA cX11_item 2 RX11 (some .boolean) := Cx.of B hml hK
  have hD := hD0.self (sz := s.heap.size)
  have hA : ∀ q : Nat, s.heap.size ≤ q → va_A (w_M cA a S) s.heap.size q := fun q h => Or.inr h
  have hS : va_S (va_A (w_M cA a S) s.heap.size) s.heap s.heap [] := va_S.rf
  have hl := lv_entry ([.ref (a 0)]) (n := 2) (Nat.le_of_ble_eq_true rfl)
  rw [lg_entry_eq]
  generalize (lg_sl ([.ref (a 0)]) ++ List.replicate (2 - (lg_sl ([.ref (a 0)])).length) Slot.unset).toArray = ls at hl ⊢
  exact wX11_item C hA hf hP hD hS hl
theorem lk_RX11_109 : LkV RX11 109 yX11_item cX11_item 2 (some .boolean) 0 := ⟨⟨by decide +kernel, by decide +kernel, by decide +kernel, by decide +kernel, by decide +kernel, by decide +kernel⟩, by decide +kernel, by decide +kernel⟩
theorem lk_RX11_61 : LkV RX11 61 yX11_nothing cX11_nothing 3 none 1 := ⟨⟨by decide +kernel, by decide +kernel, by decide +kernel, by decide +kernel, by decide +kernel, by decide +kernel⟩, by decide +kernel, by decide +kernel⟩
def fX11_readAll_b10 (N : Nat) (g10 : St → Option (Int32 × St)) (S : St) : Option (Int32 × St) :=
  if (S 0 0) ≤ (S 17 0) then (some ((-4 : Int32), S)) else (Option.bind (fX11_item N S) (fun q2 => if q2.1 = 0 then (some ((S 17 0), q2.2)) else (g10 q2.2)))
def fX11_readAll_l10 (N : Nat) (k : Nat) (q : St) : Option (Int32 × St) := lpN (fun g q => fX11_readAll_b10 N  g q) k q
def fX11_readAll (N : Nat) (S : St) : Option (Int32 × St) :=
  Option.bind (fX11_nothing N S ((1 : Int32))) (fun q1 => fX11_readAll_l10 N  N ((stf q1 17 ((0 : Int32)))))
set_option maxRecDepth 100000 in
set_option maxHeartbeats 4000000 in
theorem wX11_readAll_10 (C : Cx p s m args meth c D cA cX11_readAll 2 RX11 (some .int)) (hA : ∀ q : Nat, s.heap.size ≤ q → A q) {N : Nat} {z : Int32 × St} : ∀ (k : Nat) (S : St), fX11_readAll_l10 N  k S = some z → ∀ (H : Heap) (locs : List Loc) (ls : Array Slot), va_P D vwCl (w_M cA a S) H → va_D A (w_M cA a S) → va_S A s.heap H locs → lv_has ls 2 [(0, .ref (a 0))] → W p l e (rmU 4 92 0 0) s m args below meth c H locs 0 0 (MQ below (QI D A z.1 (w_M cA a z.2)) args s 0 0 A) (F0 m 10 ls []) := by
  obtain ⟨hx, hb, hml, hown, hts, hK, hN, hr, hlk⟩ := id C
  intro k
  induction k with
  | zero =>
    intro S hf
    have hf : (none : Option (Int32 × St)) = some z := hf
    cases hf
  | succ k hg10 =>
    intro S hf H locs ls hP hD hS hl
    have hf : fX11_readAll_b10 N  (fX11_readAll_l10 N  k) S = some z := hf
    unfold fX11_readAll_b10 at hf
    refine lv_aload_n (pc := 10) hx hb dX11_readAll_10 rfl (lv_at hl 0 rfl) ?_
    refine ge_RX11_80_M_0_0 (pc := 11) C hP dX11_readAll_11 ?_
    refine lv_aload_n (pc := 14) hx hb dX11_readAll_14 rfl (lv_at hl 0 rfl) ?_
    refine ge_RX11_76_M_0_0 (pc := 15) C hP dX11_readAll_15 ?_
    refine lv_icmp_ge (tgt := 38) (pc := 18) hx hb dX11_readAll_18 (by decide) (fun c1 => ?_) (fun c1 => ?_)
    · have hf := pt_t c1 hf
      refine lv_bipush (v := (-4 : Int32)) (pc := 38) hx hb dX11_readAll_38 (by decide) ?_
      cases hf
      exact ret_i C hP hD hS dX11_readAll_40
    · have hf := pt_f c1 hf
      refine lv_aload_n (pc := 21) hx hb dX11_readAll_21 rfl (lv_at hl 0 rfl) ?_
      refine ge_RX11_80_M_0_0 (pc := 22) C hP dX11_readAll_22 ?_
      refine lv_istore_n (lv' := [(1, .int ((S 17 0))), (0, .ref (a 0))]) (pc := 25) hx hb dX11_readAll_25 rfl hl (by decide) rfl (fun ls hl => ?_)
      refine lv_aload_n (pc := 26) hx hb dX11_readAll_26 rfl (lv_at hl 1 rfl) ?_
      obtain ⟨q2, hq2, hf⟩ := pt_b hf
      refine all_i (runU_V (pc := 27) (As := []) (b := a 0) (rest := []) (ci := 10) (q0 := 0) C lk_RX11_109 (kX11_item l D cA a hq2 H.size) ⟨Nat.le_of_ble_eq_true rfl, Nat.le_of_ble_eq_true rfl⟩ ⟨Nat.le_refl _, Nat.le_refl _⟩ hP hD rfl rfl rfl hl.1 rfl (Nat.le_of_ble_eq_true rfl) dX11_readAll_27) hD hS hA (fun H locs hP hD hS => ?_)
      refine lv_if_ne (tgt := 35) (pc := 30) hx hb dX11_readAll_30 (by decide) (fun c3 => ?_) (fun c3 => ?_)
      · have hf := pt_f c3 hf
        refine lv_goto (tgt := 10) (pc := 35) hx hb dX11_readAll_35 (by decide) ?_
        exact hg10 q2.2 hf _ _ _ hP hD hS (lv_sub hl [1] rfl)
      · have hf := pt_t c3 hf
        refine lv_iload_n (pc := 33) hx hb dX11_readAll_33 rfl (lv_at hl 0 rfl) ?_
        cases hf
        exact ret_i C hP hD hS dX11_readAll_34
set_option maxRecDepth 100000 in
set_option maxHeartbeats 4000000 in
theorem wX11_readAll (C : Cx p s m args meth c D cA cX11_readAll 2 RX11 (some .int)) (hA : ∀ q : Nat, s.heap.size ≤ q → A q) {N : Nat} {z : Int32 × St} {S : St} (hf : fX11_readAll N S = some z) {H : Heap} {locs : List Loc} {ls : Array Slot} (hP : va_P D vwCl (w_M cA a S) H) (hD : va_D A (w_M cA a S)) (hS : va_S A s.heap H locs) (hl : lv_has ls 2 [(0, .ref (a 0))]) : W p l e (rmU 4 92 0 0) s m args below meth c H locs 0 0 (MQ below (QI D A z.1 (w_M cA a z.2)) args s 0 0 A) (F0 m 0 ls []) := by
  obtain ⟨hx, hb, hml, hown, hts, hK, hN, hr, hlk⟩ := id C
  unfold fX11_readAll at hf
  refine lv_aload_n (pc := 0) hx hb dX11_readAll_0 rfl (lv_at hl 0 rfl) ?_
  refine lv_iconst (v := (1 : Int32)) (pc := 1) hx hb dX11_readAll_1 (by decide) ?_
  obtain ⟨q1, hq1, hf⟩ := pt_b hf
  refine all_v (runU_V (pc := 2) (As := [.int ((1 : Int32))]) (b := a 0) (rest := []) (ci := 10) (q0 := 0) C lk_RX11_61 (kX11_nothing l D cA a hq1 H.size) ⟨Nat.le_of_ble_eq_true rfl, Nat.le_of_ble_eq_true rfl⟩ ⟨Nat.le_refl _, Nat.le_refl _⟩ hP hD rfl rfl rfl hl.1 rfl (Nat.le_of_ble_eq_true rfl) dX11_readAll_2) hD hS hA (fun H locs hP hD hS => ?_)
  refine lv_aload_n (pc := 5) hx hb dX11_readAll_5 rfl (lv_at hl 0 rfl) ?_
  refine lv_iconst (v := (0 : Int32)) (pc := 6) hx hb dX11_readAll_6 (by decide) ?_
  refine pu_RX11_80_M_0_0 (pc := 7) C hP hD hS dX11_readAll_7 (fun H locs hP hD hS => ?_)
  exact wX11_readAll_10 C hA  _ ((stf q1 17 ((0 : Int32)))) hf _ _ _ hP hD hS (lv_sub hl [0] rfl)
set_option maxRecDepth 100000 in
set_option maxHeartbeats 4000000 in
theorem kX11_readAll (l : Launch) (D : va_G) (cA : Nat → ClassId) (a : Nat → Nat) {N : Nat} {S : St} {z : Int32 × St} (hf : fX11_readAll N S = some z) : CtI l yX11_readAll cX11_readAll 2 (some .int) 4 92 D cA (w_M cA a S) (w_M cA a z.2) [.ref (a 0)] z.1 := by
  intro sz
  refine Met.ofW (cc := cX11_readAll) (maxL := 2) (ret := (some .int)) (by decide) rfl ?_
  intro p e s m args below meth c s₁ B hml hv
  obtain ⟨rfl, hsz, hP, hK, hD0⟩ := hv
  subst hsz
  have C : Cx p s m _ meth c D cA cX11_readAll 2 RX11 (some .int) := Cx.of B hml hK
  have hD := hD0.self (sz := s.heap.size)
  have hA : ∀ q : Nat, s.heap.size ≤ q → va_A (w_M cA a S) s.heap.size q := fun q h => Or.inr h
  have hS : va_S (va_A (w_M cA a S) s.heap.size) s.heap s.heap [] := va_S.rf
  have hl := lv_entry ([.ref (a 0)]) (n := 2) (Nat.le_of_ble_eq_true rfl)
  rw [lg_entry_eq]
  generalize (lg_sl ([.ref (a 0)]) ++ List.replicate (2 - (lg_sl ([.ref (a 0)])).length) Slot.unset).toArray = ls at hl ⊢
  exact wX11_readAll C hA hf hP hD hS hl
theorem lk_RX11_112 : LkV RX11 112 yX11_readAll cX11_readAll 2 (some .int) 0 := ⟨⟨by decide +kernel, by decide +kernel, by decide +kernel, by decide +kernel, by decide +kernel, by decide +kernel⟩, by decide +kernel, by decide +kernel⟩
def fX11_fault (N : Nat) (S : St) : Option (Int32 × St) :=
  Option.bind (fX11_readAll N S) (fun q1 => some (q1.1, q1.2))
set_option maxRecDepth 100000 in
set_option maxHeartbeats 4000000 in
theorem wX11_fault (C : Cx p s m args meth c D cA cX11_fault 1 RX11 (some .int)) (hA : ∀ q : Nat, s.heap.size ≤ q → A q) {N : Nat} {z : Int32 × St} {S : St} (hf : fX11_fault N S = some z) {H : Heap} {locs : List Loc} {ls : Array Slot} (hP : va_P D vwCl (w_M cA a S) H) (hD : va_D A (w_M cA a S)) (hS : va_S A s.heap H locs) (hl : lv_has ls 1 [(0, .ref (a 0))]) : W p l e (rmU 5 113 0 0) s m args below meth c H locs 0 0 (MQ below (QI D A z.1 (w_M cA a z.2)) args s 0 0 A) (F0 m 0 ls []) := by
  obtain ⟨hx, hb, hml, hown, hts, hK, hN, hr, hlk⟩ := id C
  unfold fX11_fault at hf
  refine lv_aload_n (pc := 0) hx hb dX11_fault_0 rfl (lv_at hl 0 rfl) ?_
  obtain ⟨q1, hq1, hf⟩ := pt_b hf
  refine all_i (runU_V (pc := 1) (As := []) (b := a 0) (rest := []) (ci := 10) (q0 := 0) C lk_RX11_112 (kX11_readAll l D cA a hq1 H.size) ⟨Nat.le_of_ble_eq_true rfl, Nat.le_of_ble_eq_true rfl⟩ ⟨Nat.le_refl _, Nat.le_refl _⟩ hP hD rfl rfl rfl hl.1 rfl (Nat.le_of_ble_eq_true rfl) dX11_fault_1) hD hS hA (fun H locs hP hD hS => ?_)
  cases hf
  exact ret_i C hP hD hS dX11_fault_4
set_option maxRecDepth 100000 in
set_option maxHeartbeats 4000000 in
theorem kX11_fault (l : Launch) (D : va_G) (cA : Nat → ClassId) (a : Nat → Nat) {N : Nat} {S : St} {z : Int32 × St} (hf : fX11_fault N S = some z) : CtI l yX11_fault cX11_fault 1 (some .int) 5 113 D cA (w_M cA a S) (w_M cA a z.2) [.ref (a 0)] z.1 := by
  intro sz
  refine Met.ofW (cc := cX11_fault) (maxL := 1) (ret := (some .int)) (by decide) rfl ?_
  intro p e s m args below meth c s₁ B hml hv
  obtain ⟨rfl, hsz, hP, hK, hD0⟩ := hv
  subst hsz
  have C : Cx p s m _ meth c D cA cX11_fault 1 RX11 (some .int) := Cx.of B hml hK
  have hD := hD0.self (sz := s.heap.size)
  have hA : ∀ q : Nat, s.heap.size ≤ q → va_A (w_M cA a S) s.heap.size q := fun q h => Or.inr h
  have hS : va_S (va_A (w_M cA a S) s.heap.size) s.heap s.heap [] := va_S.rf
  have hl := lv_entry ([.ref (a 0)]) (n := 1) (Nat.le_of_ble_eq_true rfl)
  rw [lg_entry_eq]
  generalize (lg_sl ([.ref (a 0)]) ++ List.replicate (1 - (lg_sl ([.ref (a 0)])).length) Slot.unset).toArray = ls at hl ⊢
  exact wX11_fault C hA hf hP hD hS hl
theorem fl_RX11_119 : Cond.fieldLink RX11 119 "SevenOnStrikeModel" "undoMany" "I" ∈ wsL_law := by decide +kernel
theorem pu_RX11_119_M_0_0 {v : Int32} (C : Cx p s m args meth c D cA cc nL RX11 ret) (hP : va_P D vwCl (w_M cA a S) H) (hD : va_D A (w_M cA a S)) (hS : va_S A s.heap H locs) (hdg : decode cc pc = .ok (.putfield 119, 3)) (kk : ∀ (H1 : Heap) (locs1 : List Loc), va_P D vwCl (w_M cA a (stf S 11 v)) H1 → va_D A (w_M cA a (stf S 11 v)) → va_S A s.heap H1 locs1 → W p l e R s m args below meth c H1 locs1 cells slots Q (F0 m (pc + 3) ls rest)) : W p l e R s m args below meth c H locs cells slots Q (F0 m pc ls (.int v :: .ref (a 0) :: rest)) := by
  obtain ⟨hx, hb, -, hown, hts, hK, -, -, -⟩ := C
  exact va_put (D := D) (ci := 10) (v := .int v) (ty := .int) (C := RX11) (T := TX11) (N := 28) hx hb hts inlX11 tyX11 tyX11_ok nmX11 hown hK hP hD hS 0 rfl rfl 11 (by decide) (hts _ fl_RX11_119) (fun _ h9 => h9) rfl (by decide +kernel) rfl rfl (Nat.le_of_ble_eq_true rfl) hdg (fun H1 locs1 h1 h2 h3 => kk H1 locs1 h1 h2 h3)
theorem fl_RX11_122 : Cond.fieldLink RX11 122 "SevenOnStrikeModel" "keptMany" "I" ∈ wsL_law := by decide +kernel
theorem pu_RX11_122_M_0_0 {v : Int32} (C : Cx p s m args meth c D cA cc nL RX11 ret) (hP : va_P D vwCl (w_M cA a S) H) (hD : va_D A (w_M cA a S)) (hS : va_S A s.heap H locs) (hdg : decode cc pc = .ok (.putfield 122, 3)) (kk : ∀ (H1 : Heap) (locs1 : List Loc), va_P D vwCl (w_M cA a (stf S 13 v)) H1 → va_D A (w_M cA a (stf S 13 v)) → va_S A s.heap H1 locs1 → W p l e R s m args below meth c H1 locs1 cells slots Q (F0 m (pc + 3) ls rest)) : W p l e R s m args below meth c H locs cells slots Q (F0 m pc ls (.int v :: .ref (a 0) :: rest)) := by
  obtain ⟨hx, hb, -, hown, hts, hK, -, -, -⟩ := C
  exact va_put (D := D) (ci := 10) (v := .int v) (ty := .int) (C := RX11) (T := TX11) (N := 28) hx hb hts inlX11 tyX11 tyX11_ok nmX11 hown hK hP hD hS 0 rfl rfl 13 (by decide) (hts _ fl_RX11_122) (fun _ h9 => h9) rfl (by decide +kernel) rfl rfl (Nat.le_of_ble_eq_true rfl) hdg (fun H1 locs1 h1 h2 h3 => kk H1 locs1 h1 h2 h3)
theorem fl_RX11_125 : Cond.fieldLink RX11 125 "SevenOnStrikeModel" "darkMany" "I" ∈ wsL_law := by decide +kernel
theorem pu_RX11_125_M_0_0 {v : Int32} (C : Cx p s m args meth c D cA cc nL RX11 ret) (hP : va_P D vwCl (w_M cA a S) H) (hD : va_D A (w_M cA a S)) (hS : va_S A s.heap H locs) (hdg : decode cc pc = .ok (.putfield 125, 3)) (kk : ∀ (H1 : Heap) (locs1 : List Loc), va_P D vwCl (w_M cA a (stf S 14 v)) H1 → va_D A (w_M cA a (stf S 14 v)) → va_S A s.heap H1 locs1 → W p l e R s m args below meth c H1 locs1 cells slots Q (F0 m (pc + 3) ls rest)) : W p l e R s m args below meth c H locs cells slots Q (F0 m pc ls (.int v :: .ref (a 0) :: rest)) := by
  obtain ⟨hx, hb, -, hown, hts, hK, -, -, -⟩ := C
  exact va_put (D := D) (ci := 10) (v := .int v) (ty := .int) (C := RX11) (T := TX11) (N := 28) hx hb hts inlX11 tyX11 tyX11_ok nmX11 hown hK hP hD hS 0 rfl rfl 14 (by decide) (hts _ fl_RX11_125) (fun _ h9 => h9) rfl (by decide +kernel) rfl rfl (Nat.le_of_ble_eq_true rfl) hdg (fun H1 locs1 h1 h2 h3 => kk H1 locs1 h1 h2 h3)
theorem fl_RX11_34 : Cond.fieldLink RX11 34 "SevenOnStrikeModel" "now" "[I" ∈ wsL_law := by decide +kernel
theorem ge_RX11_34_M_0_0 (C : Cx p s m args meth c D cA cc nL RX11 ret) (hP : va_P D vwCl (w_M cA a S) H) (hdg : decode cc pc = .ok (.getfield 34, 3)) (kk : W p l e R s m args below meth c H locs cells slots Q (F0 m (pc + 3) ls (.ref (a 9) :: rest))) : W p l e R s m args below meth c H locs cells slots Q (F0 m pc ls (.ref (a 0) :: rest)) := by
  obtain ⟨hx, hb, -, hown, hts, hK, -, -, -⟩ := C
  exact va_get (D := D) (ci := 10) (v := .ref (a 9)) (C := RX11) (T := TX11) (N := 28) hx hb hts inlX11 hown hK hP 0 rfl rfl 9 (by decide) (hts _ fl_RX11_34) (fun _ h9 => h9) rfl hdg kk
theorem ld_M_0_2 {i : Int32} {j : Nat} (C : Cx p s m args meth c D cA cc nL own ret) (hP : va_P D vwCl (w_M cA a S) H) (hin : vp_in i 40) (hj : i.toNatClampNeg = j) (hdg : decode cc pc = .ok (.iaload, 1)) (kk : W p l e R s m args below meth c H locs cells slots Q (F0 m (pc + 1) ls (.int (S 2 j) :: rest))) : W p l e R s m args below meth c H locs cells slots Q (F0 m pc ls (.int i :: .ref (a 2) :: rest)) := by
  obtain ⟨hx, hb, -, hown, hts, hK, -, -, -⟩ := C
  subst hj
  exact va_iald hx hb hK hP 2 0 rfl rfl hin hdg kk
theorem sr_M_0_9 {i v : Int32} {j : Nat} (C : Cx p s m args meth c D cA cc nL own ret) (hP : va_P D vwCl (w_M cA a S) H) (hD : va_D A (w_M cA a S)) (hS : va_S A s.heap H locs) (hin : vp_in i 20) (hj : i.toNatClampNeg = j) (hdg : decode cc pc = .ok (.iastore, 1)) (kk : ∀ (H1 : Heap) (locs1 : List Loc), va_P D vwCl (w_M cA a (sti S 9 j v)) H1 → va_D A (w_M cA a (sti S 9 j v)) → va_S A s.heap H1 locs1 → W p l e R s m args below meth c H1 locs1 cells slots Q (F0 m (pc + 1) ls rest)) : W p l e R s m args below meth c H locs cells slots Q (F0 m pc ls (.int v :: .int i :: .ref (a 9) :: rest)) := by
  obtain ⟨hx, hb, -, hown, hts, hK, -, -, -⟩ := C
  subst hj
  exact va_iast hx hb hK hP hD hS 9 0 rfl rfl hin hdg (fun H1 locs1 h1 h2 h3 => kk H1 locs1 h1 h2 h3)
def fX11_begin_j26 (N : Nat) (S : St) : Option (St) :=
  some ((stf (stf (stf S 11 ((0 : Int32))) 13 ((0 : Int32))) 14 ((0 : Int32))))
def fX11_begin_b2 (N : Nat) (g2 : Int32 × St → Option (St)) (x1 : Int32) (S : St) : Option (St) :=
  if (20 : Int32) ≤ x1 then (fX11_begin_j26 N S) else (if ¬ (x1 < 0 ∨ 40 ≤ x1.toNatClampNeg) then (if ¬ (x1 < 0 ∨ 20 ≤ x1.toNatClampNeg) then (g2 (((x1 + 1), (sti S 9 x1.toNatClampNeg ((S 2 x1.toNatClampNeg)))))) else none) else none)
def fX11_begin_l2 (N : Nat) (k : Nat) (q : Int32 × St) : Option (St) := lpN (fun g q => fX11_begin_b2 N  g q.1 q.2) k q
def fX11_begin (N : Nat) (S : St) : Option (St) :=
  fX11_begin_l2 N  N (((0 : Int32), S))
set_option maxRecDepth 100000 in
set_option maxHeartbeats 4000000 in
theorem wX11_begin_26 (C : Cx p s m args meth c D cA cX11_begin 2 RX11 none) (hA : ∀ q : Nat, s.heap.size ≤ q → A q) {N : Nat} {z : St} {S : St} (hf : fX11_begin_j26 N S = some z) {H : Heap} {locs : List Loc} {ls : Array Slot} (hP : va_P D vwCl (w_M cA a S) H) (hD : va_D A (w_M cA a S)) (hS : va_S A s.heap H locs) (hl : lv_has ls 2 [(0, .ref (a 0))]) : W p l e (rmU 0 0 0 0) s m args below meth c H locs 0 0 (MQ below (QV D A (w_M cA a z)) args s 0 0 A) (F0 m 26 ls []) := by
  obtain ⟨hx, hb, hml, hown, hts, hK, hN, hr, hlk⟩ := id C
  unfold fX11_begin_j26 at hf
  refine lv_aload_n (pc := 26) hx hb dX11_begin_26 rfl (lv_at hl 0 rfl) ?_
  refine lv_iconst (v := (0 : Int32)) (pc := 27) hx hb dX11_begin_27 (by decide) ?_
  refine pu_RX11_119_M_0_0 (pc := 28) C hP hD hS dX11_begin_28 (fun H locs hP hD hS => ?_)
  refine lv_aload_n (pc := 31) hx hb dX11_begin_31 rfl (lv_at hl 0 rfl) ?_
  refine lv_iconst (v := (0 : Int32)) (pc := 32) hx hb dX11_begin_32 (by decide) ?_
  refine pu_RX11_122_M_0_0 (pc := 33) C hP hD hS dX11_begin_33 (fun H locs hP hD hS => ?_)
  refine lv_aload_n (pc := 36) hx hb dX11_begin_36 rfl (lv_at hl 0 rfl) ?_
  refine lv_iconst (v := (0 : Int32)) (pc := 37) hx hb dX11_begin_37 (by decide) ?_
  refine pu_RX11_125_M_0_0 (pc := 38) C hP hD hS dX11_begin_38 (fun H locs hP hD hS => ?_)
  cases hf
  exact ret_v C hP hD hS dX11_begin_41
set_option maxRecDepth 100000 in
set_option maxHeartbeats 4000000 in
theorem wX11_begin_2 (C : Cx p s m args meth c D cA cX11_begin 2 RX11 none) (hA : ∀ q : Nat, s.heap.size ≤ q → A q) {N : Nat} {z : St} : ∀ (k : Nat) (x1 : Int32) (S : St), fX11_begin_l2 N  k (x1, S) = some z → ∀ (H : Heap) (locs : List Loc) (ls : Array Slot), va_P D vwCl (w_M cA a S) H → va_D A (w_M cA a S) → va_S A s.heap H locs → lv_has ls 2 [(0, .ref (a 0)), (1, .int x1)] → W p l e (rmU 0 0 0 0) s m args below meth c H locs 0 0 (MQ below (QV D A (w_M cA a z)) args s 0 0 A) (F0 m 2 ls []) := by
  obtain ⟨hx, hb, hml, hown, hts, hK, hN, hr, hlk⟩ := id C
  intro k
  induction k with
  | zero =>
    intro x1 S hf
    have hf : (none : Option (St)) = some z := hf
    cases hf
  | succ k hg2 =>
    intro x1 S hf H locs ls hP hD hS hl
    have hf : fX11_begin_b2 N  (fX11_begin_l2 N  k) x1 S = some z := hf
    unfold fX11_begin_b2 at hf
    refine lv_iload_n (pc := 2) hx hb dX11_begin_2 rfl (lv_at hl 1 rfl) ?_
    refine lv_bipush (v := (20 : Int32)) (pc := 3) hx hb dX11_begin_3 (by decide) ?_
    refine lv_icmp_ge (tgt := 26) (pc := 5) hx hb dX11_begin_5 (by decide) (fun c1 => ?_) (fun c1 => ?_)
    · have hf := pt_t c1 hf
      exact wX11_begin_26 C hA  hf hP hD hS (lv_sub hl [0] rfl)
    · have hf := pt_f c1 hf
      refine lv_aload_n (pc := 8) hx hb dX11_begin_8 rfl (lv_at hl 0 rfl) ?_
      refine ge_RX11_34_M_0_0 (pc := 9) C hP dX11_begin_9 ?_
      refine lv_iload_n (pc := 12) hx hb dX11_begin_12 rfl (lv_at hl 1 rfl) ?_
      refine lv_aload_n (pc := 13) hx hb dX11_begin_13 rfl (lv_at hl 0 rfl) ?_
      refine ge_RX11_13_M_0_0 (pc := 14) C hP dX11_begin_14 ?_
      refine lv_iload_n (pc := 17) hx hb dX11_begin_17 rfl (lv_at hl 1 rfl) ?_
      obtain ⟨h2, hf⟩ := pt_g hf
      refine ld_M_0_2 (pc := 18) (j := x1.toNatClampNeg) C hP h2 rfl dX11_begin_18 ?_
      obtain ⟨h3, hf⟩ := pt_g hf
      refine sr_M_0_9 (pc := 19) (j := x1.toNatClampNeg) C hP hD hS h3 rfl dX11_begin_19 (fun H locs hP hD hS => ?_)
      refine lv_iinc (v := (x1 + 1)) (lv' := [(1, .int ((x1 + 1))), (0, .ref (a 0))]) (pc := 20) hx hb dX11_begin_20 hl (k := 1) rfl (by rfl) (by decide) rfl (fun ls hl => ?_)
      refine lv_goto (tgt := 2) (pc := 23) hx hb dX11_begin_23 (by decide) ?_
      exact hg2 ((x1 + 1)) ((sti S 9 x1.toNatClampNeg ((S 2 x1.toNatClampNeg)))) hf _ _ _ hP hD hS (lv_sub hl [1, 0] rfl)
set_option maxRecDepth 100000 in
set_option maxHeartbeats 4000000 in
theorem wX11_begin (C : Cx p s m args meth c D cA cX11_begin 2 RX11 none) (hA : ∀ q : Nat, s.heap.size ≤ q → A q) {N : Nat} {z : St} {S : St} (hf : fX11_begin N S = some z) {H : Heap} {locs : List Loc} {ls : Array Slot} (hP : va_P D vwCl (w_M cA a S) H) (hD : va_D A (w_M cA a S)) (hS : va_S A s.heap H locs) (hl : lv_has ls 2 [(0, .ref (a 0))]) : W p l e (rmU 0 0 0 0) s m args below meth c H locs 0 0 (MQ below (QV D A (w_M cA a z)) args s 0 0 A) (F0 m 0 ls []) := by
  obtain ⟨hx, hb, hml, hown, hts, hK, hN, hr, hlk⟩ := id C
  unfold fX11_begin at hf
  refine lv_iconst (v := (0 : Int32)) (pc := 0) hx hb dX11_begin_0 (by decide) ?_
  refine lv_istore_n (lv' := [(1, .int ((0 : Int32))), (0, .ref (a 0))]) (pc := 1) hx hb dX11_begin_1 rfl hl (by decide) rfl (fun ls hl => ?_)
  exact wX11_begin_2 C hA  _ ((0 : Int32)) S hf _ _ _ hP hD hS (lv_sub hl [1, 0] rfl)
set_option maxRecDepth 100000 in
set_option maxHeartbeats 4000000 in
theorem kX11_begin (l : Launch) (D : va_G) (cA : Nat → ClassId) (a : Nat → Nat) {N : Nat} {S : St} {z : St} (hf : fX11_begin N S = some z) : CtV l yX11_begin cX11_begin 2 none 0 0 D cA (w_M cA a S) (w_M cA a z) [.ref (a 0)] := by
  intro sz
  refine Met.ofW (cc := cX11_begin) (maxL := 2) (ret := none) (by decide) rfl ?_
  intro p e s m args below meth c s₁ B hml hv
  obtain ⟨rfl, hsz, hP, hK, hD0⟩ := hv
  subst hsz
  have C : Cx p s m _ meth c D cA cX11_begin 2 RX11 none := Cx.of B hml hK
  have hD := hD0.self (sz := s.heap.size)
  have hA : ∀ q : Nat, s.heap.size ≤ q → va_A (w_M cA a S) s.heap.size q := fun q h => Or.inr h
  have hS : va_S (va_A (w_M cA a S) s.heap.size) s.heap s.heap [] := va_S.rf
  have hl := lv_entry ([.ref (a 0)]) (n := 2) (Nat.le_of_ble_eq_true rfl)
  rw [lg_entry_eq]
  generalize (lg_sl ([.ref (a 0)]) ++ List.replicate (2 - (lg_sl ([.ref (a 0)])).length) Slot.unset).toArray = ls at hl ⊢
  exact wX11_begin C hA hf hP hD hS hl
def fX11_isFigure (N : Nat) (p0 : Int32) : Option (Int32) :=
  Option.bind (fX11_in N p0.toInt64 ((0 : Int64)) ((9 : Int64))) (fun q1 => if q1 = 0 ∨ q1 = 1 then (some q1) else none)
set_option maxRecDepth 100000 in
set_option maxHeartbeats 4000000 in
theorem wX11_isFigure (C : Cx p s m args meth c D cA cX11_isFigure 1 RX11 (some .boolean)) (hA : ∀ q : Nat, s.heap.size ≤ q → A q) {N : Nat} {z : Int32} {p0 : Int32} (hf : fX11_isFigure N p0 = some z) {H : Heap} {locs : List Loc} {ls : Array Slot} (hP : va_P D vwCl ([] : va_W) H) (hD : va_D A ([] : va_W)) (hS : va_S A s.heap H locs) (hl : lv_has ls 1 [(0, .int p0)]) : W p l e (rmU 1 25 0 0) s m args below meth c H locs 0 0 (MQ below (QI D A z ([] : va_W)) args s 0 0 A) (F0 m 0 ls []) := by
  obtain ⟨hx, hb, hml, hown, hts, hK, hN, hr, hlk⟩ := id C
  unfold fX11_isFigure at hf
  refine lv_iload_n (pc := 0) hx hb dX11_isFigure_0 rfl (lv_at hl 0 rfl) ?_
  refine lv_i2l (v := p0.toInt64) (pc := 1) hx hb dX11_isFigure_1 rfl ?_
  refine lv_lconst (v := (0 : Int64)) (pc := 2) hx hb dX11_isFigure_2 (by decide) ?_
  refine lv_ldc2 (pc := 3) (v := (9 : Int64)) hx hb hown (hts _ kl_RX11_104) dX11_isFigure_3 ?_
  obtain ⟨q1, hq1, hf⟩ := pt_b hf
  refine all_i (runU_S (pc := 6) (As := [.long p0.toInt64, .long ((0 : Int64)), .long ((9 : Int64))]) (rest := []) C lk_RX11_72 (kX11_in l D cA hq1 H.size) ⟨Nat.le_of_ble_eq_true rfl, Nat.le_of_ble_eq_true rfl⟩ ⟨Nat.le_refl _, Nat.le_refl _⟩ hP hD hl.1 rfl (Nat.le_of_ble_eq_true rfl) dX11_isFigure_6) hD hS hA (fun H locs hP hD hS => ?_)
  obtain ⟨h2, hf⟩ := pt_g hf
  cases hf
  exact ret_z C h2 hP hD hS dX11_isFigure_9
set_option maxRecDepth 100000 in
set_option maxHeartbeats 4000000 in
theorem kX11_isFigure (l : Launch) (D : va_G) (cA : Nat → ClassId) {N : Nat} {p0 : Int32} {z : Int32} (hf : fX11_isFigure N p0 = some z) : CtI l yX11_isFigure cX11_isFigure 1 (some .boolean) 1 25 D cA ([] : va_W) ([] : va_W) [.int p0] z := by
  intro sz
  refine Met.ofW (cc := cX11_isFigure) (maxL := 1) (ret := (some .boolean)) (by decide) rfl ?_
  intro p e s m args below meth c s₁ B hml hv
  obtain ⟨rfl, hsz, hP, hK, hD0⟩ := hv
  subst hsz
  have C : Cx p s m _ meth c D cA cX11_isFigure 1 RX11 (some .boolean) := Cx.of B hml hK
  have hD := hD0.self (sz := s.heap.size)
  have hA : ∀ q : Nat, s.heap.size ≤ q → va_A ([] : va_W) s.heap.size q := fun q h => Or.inr h
  have hS : va_S (va_A ([] : va_W) s.heap.size) s.heap s.heap [] := va_S.rf
  have hl := lv_entry ([.int p0]) (n := 1) (Nat.le_of_ble_eq_true rfl)
  rw [lg_entry_eq]
  generalize (lg_sl ([.int p0]) ++ List.replicate (1 - (lg_sl ([.int p0])).length) Slot.unset).toArray = ls at hl ⊢
  exact wX11_isFigure C hA hf hP hD hS hl
theorem ld_M_0_9 {i : Int32} {j : Nat} (C : Cx p s m args meth c D cA cc nL own ret) (hP : va_P D vwCl (w_M cA a S) H) (hin : vp_in i 20) (hj : i.toNatClampNeg = j) (hdg : decode cc pc = .ok (.iaload, 1)) (kk : W p l e R s m args below meth c H locs cells slots Q (F0 m (pc + 1) ls (.int (S 9 j) :: rest))) : W p l e R s m args below meth c H locs cells slots Q (F0 m pc ls (.int i :: .ref (a 9) :: rest)) := by
  obtain ⟨hx, hb, -, hown, hts, hK, -, -, -⟩ := C
  subst hj
  exact va_iald hx hb hK hP 9 0 rfl rfl hin hdg kk
def fX11_strikers_b4 (N : Nat) (S : St) (g4 : Int32 × Int32 → Option (Int32)) (x1 : Int32) (x2 : Int32) : Option (Int32) :=
  if (10 : Int32) ≤ x2 then (some x1) else (if ¬ (x2 < 0 ∨ 20 ≤ x2.toNatClampNeg) then (g4 (((x1 + (S 9 x2.toNatClampNeg)), (x2 + 1)))) else none)
def fX11_strikers_l4 (N : Nat) (S : St) (k : Nat) (q : Int32 × Int32) : Option (Int32) := lpN (fun g q => fX11_strikers_b4 N S g q.1 q.2) k q
def fX11_strikers (N : Nat) (S : St) : Option (Int32) :=
  fX11_strikers_l4 N S N (((0 : Int32), (0 : Int32)))
set_option maxRecDepth 100000 in
set_option maxHeartbeats 4000000 in
theorem wX11_strikers_4 (C : Cx p s m args meth c D cA cX11_strikers 3 RX11 (some .int)) (hA : ∀ q : Nat, s.heap.size ≤ q → A q) {N : Nat} {z : Int32} {S : St} : ∀ (k : Nat) (x1 : Int32) (x2 : Int32), fX11_strikers_l4 N S k (x1, x2) = some z → ∀ (H : Heap) (locs : List Loc) (ls : Array Slot), va_P D vwCl (w_M cA a S) H → va_D A (w_M cA a S) → va_S A s.heap H locs → lv_has ls 3 [(0, .ref (a 0)), (1, .int x1), (2, .int x2)] → W p l e (rmU 0 0 0 0) s m args below meth c H locs 0 0 (MQ below (QI D A z (w_M cA a S)) args s 0 0 A) (F0 m 4 ls []) := by
  obtain ⟨hx, hb, hml, hown, hts, hK, hN, hr, hlk⟩ := id C
  intro k
  induction k with
  | zero =>
    intro x1 x2 hf
    have hf : (none : Option (Int32)) = some z := hf
    cases hf
  | succ k hg4 =>
    intro x1 x2 hf H locs ls hP hD hS hl
    have hf : fX11_strikers_b4 N S (fX11_strikers_l4 N S k) x1 x2 = some z := hf
    unfold fX11_strikers_b4 at hf
    refine lv_iload_n (pc := 4) hx hb dX11_strikers_4 rfl (lv_at hl 2 rfl) ?_
    refine lv_bipush (v := (10 : Int32)) (pc := 5) hx hb dX11_strikers_5 (by decide) ?_
    refine lv_icmp_ge (tgt := 25) (pc := 7) hx hb dX11_strikers_7 (by decide) (fun c1 => ?_) (fun c1 => ?_)
    · have hf := pt_t c1 hf
      refine lv_iload_n (pc := 25) hx hb dX11_strikers_25 rfl (lv_at hl 1 rfl) ?_
      cases hf
      exact ret_i C hP hD hS dX11_strikers_26
    · have hf := pt_f c1 hf
      refine lv_iload_n (pc := 10) hx hb dX11_strikers_10 rfl (lv_at hl 1 rfl) ?_
      refine lv_aload_n (pc := 11) hx hb dX11_strikers_11 rfl (lv_at hl 0 rfl) ?_
      refine ge_RX11_34_M_0_0 (pc := 12) C hP dX11_strikers_12 ?_
      refine lv_iload_n (pc := 15) hx hb dX11_strikers_15 rfl (lv_at hl 2 rfl) ?_
      obtain ⟨h2, hf⟩ := pt_g hf
      refine ld_M_0_9 (pc := 16) (j := x2.toNatClampNeg) C hP h2 rfl dX11_strikers_16 ?_
      refine lv_iadd (pc := 17) hx hb dX11_strikers_17 ?_
      refine lv_istore_n (lv' := [(1, .int ((x1 + (S 9 x2.toNatClampNeg)))), (0, .ref (a 0)), (2, .int x2)]) (pc := 18) hx hb dX11_strikers_18 rfl hl (by decide) rfl (fun ls hl => ?_)
      refine lv_iinc (v := (x2 + 1)) (lv' := [(2, .int ((x2 + 1))), (1, .int ((x1 + (S 9 x2.toNatClampNeg)))), (0, .ref (a 0))]) (pc := 19) hx hb dX11_strikers_19 hl (k := 2) rfl (by rfl) (by decide) rfl (fun ls hl => ?_)
      refine lv_goto (tgt := 4) (pc := 22) hx hb dX11_strikers_22 (by decide) ?_
      exact hg4 ((x1 + (S 9 x2.toNatClampNeg))) ((x2 + 1)) hf _ _ _ hP hD hS (lv_sub hl [2, 1, 0] rfl)
set_option maxRecDepth 100000 in
set_option maxHeartbeats 4000000 in
theorem wX11_strikers (C : Cx p s m args meth c D cA cX11_strikers 3 RX11 (some .int)) (hA : ∀ q : Nat, s.heap.size ≤ q → A q) {N : Nat} {z : Int32} {S : St} (hf : fX11_strikers N S = some z) {H : Heap} {locs : List Loc} {ls : Array Slot} (hP : va_P D vwCl (w_M cA a S) H) (hD : va_D A (w_M cA a S)) (hS : va_S A s.heap H locs) (hl : lv_has ls 3 [(0, .ref (a 0))]) : W p l e (rmU 0 0 0 0) s m args below meth c H locs 0 0 (MQ below (QI D A z (w_M cA a S)) args s 0 0 A) (F0 m 0 ls []) := by
  obtain ⟨hx, hb, hml, hown, hts, hK, hN, hr, hlk⟩ := id C
  unfold fX11_strikers at hf
  refine lv_iconst (v := (0 : Int32)) (pc := 0) hx hb dX11_strikers_0 (by decide) ?_
  refine lv_istore_n (lv' := [(1, .int ((0 : Int32))), (0, .ref (a 0))]) (pc := 1) hx hb dX11_strikers_1 rfl hl (by decide) rfl (fun ls hl => ?_)
  refine lv_iconst (v := (0 : Int32)) (pc := 2) hx hb dX11_strikers_2 (by decide) ?_
  refine lv_istore_n (lv' := [(2, .int ((0 : Int32))), (1, .int ((0 : Int32))), (0, .ref (a 0))]) (pc := 3) hx hb dX11_strikers_3 rfl hl (by decide) rfl (fun ls hl => ?_)
  exact wX11_strikers_4 C hA  _ ((0 : Int32)) ((0 : Int32)) hf _ _ _ hP hD hS (lv_sub hl [2, 1, 0] rfl)
set_option maxRecDepth 100000 in
set_option maxHeartbeats 4000000 in
theorem kX11_strikers (l : Launch) (D : va_G) (cA : Nat → ClassId) (a : Nat → Nat) {N : Nat} {S : St} {z : Int32} (hf : fX11_strikers N S = some z) : CtI l yX11_strikers cX11_strikers 3 (some .int) 0 0 D cA (w_M cA a S) (w_M cA a S) [.ref (a 0)] z := by
  intro sz
  refine Met.ofW (cc := cX11_strikers) (maxL := 3) (ret := (some .int)) (by decide) rfl ?_
  intro p e s m args below meth c s₁ B hml hv
  obtain ⟨rfl, hsz, hP, hK, hD0⟩ := hv
  subst hsz
  have C : Cx p s m _ meth c D cA cX11_strikers 3 RX11 (some .int) := Cx.of B hml hK
  have hD := hD0.self (sz := s.heap.size)
  have hA : ∀ q : Nat, s.heap.size ≤ q → va_A (w_M cA a S) s.heap.size q := fun q h => Or.inr h
  have hS : va_S (va_A (w_M cA a S) s.heap.size) s.heap s.heap [] := va_S.rf
  have hl := lv_entry ([.ref (a 0)]) (n := 3) (Nat.le_of_ble_eq_true rfl)
  rw [lg_entry_eq]
  generalize (lg_sl ([.ref (a 0)]) ++ List.replicate (3 - (lg_sl ([.ref (a 0)])).length) Slot.unset).toArray = ls at hl ⊢
  exact wX11_strikers C hA hf hP hD hS hl
theorem ld_M_0_5 {i : Int32} {j : Nat} (C : Cx p s m args meth c D cA cc nL own ret) (hP : va_P D vwCl (w_M cA a S) H) (hin : vp_in i 2) (hj : i.toNatClampNeg = j) (hdg : decode cc pc = .ok (.iaload, 1)) (kk : W p l e R s m args below meth c H locs cells slots Q (F0 m (pc + 1) ls (.int (S 5 j) :: rest))) : W p l e R s m args below meth c H locs cells slots Q (F0 m pc ls (.int i :: .ref (a 5) :: rest)) := by
  obtain ⟨hx, hb, -, hown, hts, hK, -, -, -⟩ := C
  subst hj
  exact va_iald hx hb hK hP 5 0 rfl rfl hin hdg kk
theorem ld_M_0_6 {i : Int32} {j : Nat} (C : Cx p s m args meth c D cA cc nL own ret) (hP : va_P D vwCl (w_M cA a S) H) (hin : vp_in i 2) (hj : i.toNatClampNeg = j) (hdg : decode cc pc = .ok (.iaload, 1)) (kk : W p l e R s m args below meth c H locs cells slots Q (F0 m (pc + 1) ls (.int (S 6 j) :: rest))) : W p l e R s m args below meth c H locs cells slots Q (F0 m pc ls (.int i :: .ref (a 6) :: rest)) := by
  obtain ⟨hx, hb, -, hown, hts, hK, -, -, -⟩ := C
  subst hj
  exact va_iald hx hb hK hP 6 0 rfl rfl hin hdg kk
theorem ld_M_0_8 {i : Int32} {j : Nat} (C : Cx p s m args meth c D cA cc nL own ret) (hP : va_P D vwCl (w_M cA a S) H) (hin : vp_in i 2) (hj : i.toNatClampNeg = j) (hdg : decode cc pc = .ok (.iaload, 1)) (kk : W p l e R s m args below meth c H locs cells slots Q (F0 m (pc + 1) ls (.int (S 8 j) :: rest))) : W p l e R s m args below meth c H locs cells slots Q (F0 m pc ls (.int i :: .ref (a 8) :: rest)) := by
  obtain ⟨hx, hb, -, hown, hts, hK, -, -, -⟩ := C
  subst hj
  exact va_iald hx hb hK hP 8 0 rfl rfl hin hdg kk
theorem lk_RX11_65 : LkV RX11 65 yX11_begin cX11_begin 2 none 0 := ⟨⟨by decide +kernel, by decide +kernel, by decide +kernel, by decide +kernel, by decide +kernel, by decide +kernel⟩, by decide +kernel, by decide +kernel⟩
theorem lk_RX11_116 : LkV RX11 116 yX11_strikers cX11_strikers 3 (some .int) 0 := ⟨⟨by decide +kernel, by decide +kernel, by decide +kernel, by decide +kernel, by decide +kernel, by decide +kernel⟩, by decide +kernel, by decide +kernel⟩
def fX11_lay_j85 (N : Nat) (S : St) : Option (Int32 × St) :=
  Option.bind (fX11_begin N (sti (sti (sti (sti S 4 0 ((S 4 1))) 5 0 (((sti S 4 0 ((S 4 1))) 5 1))) 6 0 (((sti (sti S 4 0 ((S 4 1))) 5 0 (((sti S 4 0 ((S 4 1))) 5 1))) 6 1))) 8 0 (((sti (sti (sti S 4 0 ((S 4 1))) 5 0 (((sti S 4 0 ((S 4 1))) 5 1))) 6 0 (((sti (sti S 4 0 ((S 4 1))) 5 0 (((sti S 4 0 ((S 4 1))) 5 1))) 6 1))) 8 1)))) (fun q1 => Option.bind (fX11_strikers N q1) (fun q2 => some (q2, q1)))
def fX11_lay_b58 (N : Nat) (g58 : Int32 × St → Option (Int32 × St)) (x1 : Int32) (S : St) : Option (Int32 × St) :=
  if (6 : Int32) ≤ x1 then (fX11_lay_j85 N S) else (if ¬ (((6 : Int32) + x1) < 0 ∨ 12 ≤ (((6 : Int32) + x1)).toNatClampNeg) then (if ¬ (x1 < 0 ∨ 12 ≤ x1.toNatClampNeg) then (g58 (((x1 + 1), (sti S 3 x1.toNatClampNeg ((S 3 ((((6 : Int32) + x1)).toNatClampNeg))))))) else none) else none)
def fX11_lay_l58 (N : Nat) (k : Nat) (q : Int32 × St) : Option (Int32 × St) := lpN (fun g q => fX11_lay_b58 N  g q.1 q.2) k q
def fX11_lay_j56 (N : Nat) (S : St) : Option (Int32 × St) :=
  fX11_lay_l58 N  N (((0 : Int32), S))
def fX11_lay_b14 (N : Nat) (g14 : Int32 × St → Option (Int32 × St)) (x1 : Int32) (S : St) : Option (Int32 × St) :=
  if (20 : Int32) ≤ x1 then (fX11_lay_j56 N S) else (if ¬ (((20 : Int32) + x1) < 0 ∨ 40 ≤ (((20 : Int32) + x1)).toNatClampNeg) then (if ¬ (x1 < 0 ∨ 40 ≤ x1.toNatClampNeg) then (if ¬ (((20 : Int32) + x1) < 0 ∨ 40 ≤ (((20 : Int32) + x1)).toNatClampNeg) then (if ¬ (x1 < 0 ∨ 40 ≤ x1.toNatClampNeg) then (g14 (((x1 + 1), (sti (sti S 2 x1.toNatClampNeg ((S 2 ((((20 : Int32) + x1)).toNatClampNeg)))) 7 x1.toNatClampNeg (((sti S 2 x1.toNatClampNeg ((S 2 ((((20 : Int32) + x1)).toNatClampNeg)))) 7 ((((20 : Int32) + x1)).toNatClampNeg))))))) else none) else none) else none) else none)
def fX11_lay_l14 (N : Nat) (k : Nat) (q : Int32 × St) : Option (Int32 × St) := lpN (fun g q => fX11_lay_b14 N  g q.1 q.2) k q
def fX11_lay (N : Nat) (S : St) : Option (Int32 × St) :=
  Option.bind (fX11_readAll N S) (fun q1 => if q1.1 = (-4 : Int32) then (fX11_lay_l14 N  N (((0 : Int32), q1.2))) else (some ((-2 : Int32), q1.2)))
set_option maxRecDepth 100000 in
set_option maxHeartbeats 4000000 in
theorem wX11_lay_85 (C : Cx p s m args meth c D cA cX11_lay 2 RX11 (some .int)) (hA : ∀ q : Nat, s.heap.size ≤ q → A q) {N : Nat} {z : Int32 × St} {S : St} (hf : fX11_lay_j85 N S = some z) {H : Heap} {locs : List Loc} {ls : Array Slot} (hP : va_P D vwCl (w_M cA a S) H) (hD : va_D A (w_M cA a S)) (hS : va_S A s.heap H locs) (hl : lv_has ls 2 [(0, .ref (a 0))]) : W p l e (rmU 5 113 0 0) s m args below meth c H locs 0 0 (MQ below (QI D A z.1 (w_M cA a z.2)) args s 0 0 A) (F0 m 85 ls []) := by
  obtain ⟨hx, hb, hml, hown, hts, hK, hN, hr, hlk⟩ := id C
  unfold fX11_lay_j85 at hf
  refine lv_aload_n (pc := 85) hx hb dX11_lay_85 rfl (lv_at hl 0 rfl) ?_
  refine ge_RX11_19_M_0_0 (pc := 86) C hP dX11_lay_86 ?_
  refine lv_iconst (v := (0 : Int32)) (pc := 89) hx hb dX11_lay_89 (by decide) ?_
  refine lv_aload_n (pc := 90) hx hb dX11_lay_90 rfl (lv_at hl 0 rfl) ?_
  refine ge_RX11_19_M_0_0 (pc := 91) C hP dX11_lay_91 ?_
  refine lv_iconst (v := (1 : Int32)) (pc := 94) hx hb dX11_lay_94 (by decide) ?_
  refine ld_M_0_4 (pc := 95) (j := 1) C hP (inK rfl) rfl dX11_lay_95 ?_
  refine sr_M_0_4 (pc := 96) (j := 0) C hP hD hS (inK rfl) rfl dX11_lay_96 (fun H locs hP hD hS => ?_)
  refine lv_aload_n (pc := 97) hx hb dX11_lay_97 rfl (lv_at hl 0 rfl) ?_
  refine ge_RX11_22_M_0_0 (pc := 98) C hP dX11_lay_98 ?_
  refine lv_iconst (v := (0 : Int32)) (pc := 101) hx hb dX11_lay_101 (by decide) ?_
  refine lv_aload_n (pc := 102) hx hb dX11_lay_102 rfl (lv_at hl 0 rfl) ?_
  refine ge_RX11_22_M_0_0 (pc := 103) C hP dX11_lay_103 ?_
  refine lv_iconst (v := (1 : Int32)) (pc := 106) hx hb dX11_lay_106 (by decide) ?_
  refine ld_M_0_5 (pc := 107) (j := 1) C hP (inK rfl) rfl dX11_lay_107 ?_
  refine sr_M_0_5 (pc := 108) (j := 0) C hP hD hS (inK rfl) rfl dX11_lay_108 (fun H locs hP hD hS => ?_)
  refine lv_aload_n (pc := 109) hx hb dX11_lay_109 rfl (lv_at hl 0 rfl) ?_
  refine ge_RX11_25_M_0_0 (pc := 110) C hP dX11_lay_110 ?_
  refine lv_iconst (v := (0 : Int32)) (pc := 113) hx hb dX11_lay_113 (by decide) ?_
  refine lv_aload_n (pc := 114) hx hb dX11_lay_114 rfl (lv_at hl 0 rfl) ?_
  refine ge_RX11_25_M_0_0 (pc := 115) C hP dX11_lay_115 ?_
  refine lv_iconst (v := (1 : Int32)) (pc := 118) hx hb dX11_lay_118 (by decide) ?_
  refine ld_M_0_6 (pc := 119) (j := 1) C hP (inK rfl) rfl dX11_lay_119 ?_
  refine sr_M_0_6 (pc := 120) (j := 0) C hP hD hS (inK rfl) rfl dX11_lay_120 (fun H locs hP hD hS => ?_)
  refine lv_aload_n (pc := 121) hx hb dX11_lay_121 rfl (lv_at hl 0 rfl) ?_
  refine ge_RX11_31_M_0_0 (pc := 122) C hP dX11_lay_122 ?_
  refine lv_iconst (v := (0 : Int32)) (pc := 125) hx hb dX11_lay_125 (by decide) ?_
  refine lv_aload_n (pc := 126) hx hb dX11_lay_126 rfl (lv_at hl 0 rfl) ?_
  refine ge_RX11_31_M_0_0 (pc := 127) C hP dX11_lay_127 ?_
  refine lv_iconst (v := (1 : Int32)) (pc := 130) hx hb dX11_lay_130 (by decide) ?_
  refine ld_M_0_8 (pc := 131) (j := 1) C hP (inK rfl) rfl dX11_lay_131 ?_
  refine sr_M_0_8 (pc := 132) (j := 0) C hP hD hS (inK rfl) rfl dX11_lay_132 (fun H locs hP hD hS => ?_)
  refine lv_aload_n (pc := 133) hx hb dX11_lay_133 rfl (lv_at hl 0 rfl) ?_
  obtain ⟨q1, hq1, hf⟩ := pt_b hf
  refine all_v (runU_V (pc := 134) (As := []) (b := a 0) (rest := []) (ci := 10) (q0 := 0) C lk_RX11_65 (kX11_begin l D cA a hq1 H.size) ⟨Nat.le_of_ble_eq_true rfl, Nat.le_of_ble_eq_true rfl⟩ ⟨Nat.le_refl _, Nat.le_refl _⟩ hP hD rfl rfl rfl hl.1 rfl (Nat.le_of_ble_eq_true rfl) dX11_lay_134) hD hS hA (fun H locs hP hD hS => ?_)
  refine lv_aload_n (pc := 137) hx hb dX11_lay_137 rfl (lv_at hl 0 rfl) ?_
  obtain ⟨q2, hq2, hf⟩ := pt_b hf
  refine all_i (runU_V (pc := 138) (As := []) (b := a 0) (rest := []) (ci := 10) (q0 := 0) C lk_RX11_116 (kX11_strikers l D cA a hq2 H.size) ⟨Nat.le_of_ble_eq_true rfl, Nat.le_of_ble_eq_true rfl⟩ ⟨Nat.le_refl _, Nat.le_refl _⟩ hP hD rfl rfl rfl hl.1 rfl (Nat.le_of_ble_eq_true rfl) dX11_lay_138) hD hS hA (fun H locs hP hD hS => ?_)
  cases hf
  exact ret_i C hP hD hS dX11_lay_141
set_option maxRecDepth 100000 in
set_option maxHeartbeats 4000000 in
theorem wX11_lay_58 (C : Cx p s m args meth c D cA cX11_lay 2 RX11 (some .int)) (hA : ∀ q : Nat, s.heap.size ≤ q → A q) {N : Nat} {z : Int32 × St} : ∀ (k : Nat) (x1 : Int32) (S : St), fX11_lay_l58 N  k (x1, S) = some z → ∀ (H : Heap) (locs : List Loc) (ls : Array Slot), va_P D vwCl (w_M cA a S) H → va_D A (w_M cA a S) → va_S A s.heap H locs → lv_has ls 2 [(0, .ref (a 0)), (1, .int x1)] → W p l e (rmU 5 113 0 0) s m args below meth c H locs 0 0 (MQ below (QI D A z.1 (w_M cA a z.2)) args s 0 0 A) (F0 m 58 ls []) := by
  obtain ⟨hx, hb, hml, hown, hts, hK, hN, hr, hlk⟩ := id C
  intro k
  induction k with
  | zero =>
    intro x1 S hf
    have hf : (none : Option (Int32 × St)) = some z := hf
    cases hf
  | succ k hg58 =>
    intro x1 S hf H locs ls hP hD hS hl
    have hf : fX11_lay_b58 N  (fX11_lay_l58 N  k) x1 S = some z := hf
    unfold fX11_lay_b58 at hf
    refine lv_iload_n (pc := 58) hx hb dX11_lay_58 rfl (lv_at hl 1 rfl) ?_
    refine lv_bipush (v := (6 : Int32)) (pc := 59) hx hb dX11_lay_59 (by decide) ?_
    refine lv_icmp_ge (tgt := 85) (pc := 61) hx hb dX11_lay_61 (by decide) (fun c1 => ?_) (fun c1 => ?_)
    · have hf := pt_t c1 hf
      exact wX11_lay_85 C hA  hf hP hD hS (lv_sub hl [0] rfl)
    · have hf := pt_f c1 hf
      refine lv_aload_n (pc := 64) hx hb dX11_lay_64 rfl (lv_at hl 0 rfl) ?_
      refine ge_RX11_16_M_0_0 (pc := 65) C hP dX11_lay_65 ?_
      refine lv_iload_n (pc := 68) hx hb dX11_lay_68 rfl (lv_at hl 1 rfl) ?_
      refine lv_aload_n (pc := 69) hx hb dX11_lay_69 rfl (lv_at hl 0 rfl) ?_
      refine ge_RX11_16_M_0_0 (pc := 70) C hP dX11_lay_70 ?_
      refine lv_bipush (v := (6 : Int32)) (pc := 73) hx hb dX11_lay_73 (by decide) ?_
      refine lv_iload_n (pc := 75) hx hb dX11_lay_75 rfl (lv_at hl 1 rfl) ?_
      refine lv_iadd (pc := 76) hx hb dX11_lay_76 ?_
      obtain ⟨h2, hf⟩ := pt_g hf
      refine ld_M_0_3 (pc := 77) (j := (((6 : Int32) + x1)).toNatClampNeg) C hP h2 rfl dX11_lay_77 ?_
      obtain ⟨h3, hf⟩ := pt_g hf
      refine sr_M_0_3 (pc := 78) (j := x1.toNatClampNeg) C hP hD hS h3 rfl dX11_lay_78 (fun H locs hP hD hS => ?_)
      refine lv_iinc (v := (x1 + 1)) (lv' := [(1, .int ((x1 + 1))), (0, .ref (a 0))]) (pc := 79) hx hb dX11_lay_79 hl (k := 1) rfl (by rfl) (by decide) rfl (fun ls hl => ?_)
      refine lv_goto (tgt := 58) (pc := 82) hx hb dX11_lay_82 (by decide) ?_
      exact hg58 ((x1 + 1)) ((sti S 3 x1.toNatClampNeg ((S 3 ((((6 : Int32) + x1)).toNatClampNeg))))) hf _ _ _ hP hD hS (lv_sub hl [1, 0] rfl)
set_option maxRecDepth 100000 in
set_option maxHeartbeats 4000000 in
theorem wX11_lay_56 (C : Cx p s m args meth c D cA cX11_lay 2 RX11 (some .int)) (hA : ∀ q : Nat, s.heap.size ≤ q → A q) {N : Nat} {z : Int32 × St} {S : St} (hf : fX11_lay_j56 N S = some z) {H : Heap} {locs : List Loc} {ls : Array Slot} (hP : va_P D vwCl (w_M cA a S) H) (hD : va_D A (w_M cA a S)) (hS : va_S A s.heap H locs) (hl : lv_has ls 2 [(0, .ref (a 0))]) : W p l e (rmU 5 113 0 0) s m args below meth c H locs 0 0 (MQ below (QI D A z.1 (w_M cA a z.2)) args s 0 0 A) (F0 m 56 ls []) := by
  obtain ⟨hx, hb, hml, hown, hts, hK, hN, hr, hlk⟩ := id C
  unfold fX11_lay_j56 at hf
  refine lv_iconst (v := (0 : Int32)) (pc := 56) hx hb dX11_lay_56 (by decide) ?_
  refine lv_istore_n (lv' := [(1, .int ((0 : Int32))), (0, .ref (a 0))]) (pc := 57) hx hb dX11_lay_57 rfl hl (by decide) rfl (fun ls hl => ?_)
  exact wX11_lay_58 C hA  _ ((0 : Int32)) S hf _ _ _ hP hD hS (lv_sub hl [1, 0] rfl)
set_option maxRecDepth 100000 in
set_option maxHeartbeats 4000000 in
theorem wX11_lay_14 (C : Cx p s m args meth c D cA cX11_lay 2 RX11 (some .int)) (hA : ∀ q : Nat, s.heap.size ≤ q → A q) {N : Nat} {z : Int32 × St} : ∀ (k : Nat) (x1 : Int32) (S : St), fX11_lay_l14 N  k (x1, S) = some z → ∀ (H : Heap) (locs : List Loc) (ls : Array Slot), va_P D vwCl (w_M cA a S) H → va_D A (w_M cA a S) → va_S A s.heap H locs → lv_has ls 2 [(0, .ref (a 0)), (1, .int x1)] → W p l e (rmU 5 113 0 0) s m args below meth c H locs 0 0 (MQ below (QI D A z.1 (w_M cA a z.2)) args s 0 0 A) (F0 m 14 ls []) := by
  obtain ⟨hx, hb, hml, hown, hts, hK, hN, hr, hlk⟩ := id C
  intro k
  induction k with
  | zero =>
    intro x1 S hf
    have hf : (none : Option (Int32 × St)) = some z := hf
    cases hf
  | succ k hg14 =>
    intro x1 S hf H locs ls hP hD hS hl
    have hf : fX11_lay_b14 N  (fX11_lay_l14 N  k) x1 S = some z := hf
    unfold fX11_lay_b14 at hf
    refine lv_iload_n (pc := 14) hx hb dX11_lay_14 rfl (lv_at hl 1 rfl) ?_
    refine lv_bipush (v := (20 : Int32)) (pc := 15) hx hb dX11_lay_15 (by decide) ?_
    refine lv_icmp_ge (tgt := 56) (pc := 17) hx hb dX11_lay_17 (by decide) (fun c1 => ?_) (fun c1 => ?_)
    · have hf := pt_t c1 hf
      exact wX11_lay_56 C hA  hf hP hD hS (lv_sub hl [0] rfl)
    · have hf := pt_f c1 hf
      refine lv_aload_n (pc := 20) hx hb dX11_lay_20 rfl (lv_at hl 0 rfl) ?_
      refine ge_RX11_13_M_0_0 (pc := 21) C hP dX11_lay_21 ?_
      refine lv_iload_n (pc := 24) hx hb dX11_lay_24 rfl (lv_at hl 1 rfl) ?_
      refine lv_aload_n (pc := 25) hx hb dX11_lay_25 rfl (lv_at hl 0 rfl) ?_
      refine ge_RX11_13_M_0_0 (pc := 26) C hP dX11_lay_26 ?_
      refine lv_bipush (v := (20 : Int32)) (pc := 29) hx hb dX11_lay_29 (by decide) ?_
      refine lv_iload_n (pc := 31) hx hb dX11_lay_31 rfl (lv_at hl 1 rfl) ?_
      refine lv_iadd (pc := 32) hx hb dX11_lay_32 ?_
      obtain ⟨h2, hf⟩ := pt_g hf
      refine ld_M_0_2 (pc := 33) (j := (((20 : Int32) + x1)).toNatClampNeg) C hP h2 rfl dX11_lay_33 ?_
      obtain ⟨h3, hf⟩ := pt_g hf
      refine sr_M_0_2 (pc := 34) (j := x1.toNatClampNeg) C hP hD hS h3 rfl dX11_lay_34 (fun H locs hP hD hS => ?_)
      refine lv_aload_n (pc := 35) hx hb dX11_lay_35 rfl (lv_at hl 0 rfl) ?_
      refine ge_RX11_28_M_0_0 (pc := 36) C hP dX11_lay_36 ?_
      refine lv_iload_n (pc := 39) hx hb dX11_lay_39 rfl (lv_at hl 1 rfl) ?_
      refine lv_aload_n (pc := 40) hx hb dX11_lay_40 rfl (lv_at hl 0 rfl) ?_
      refine ge_RX11_28_M_0_0 (pc := 41) C hP dX11_lay_41 ?_
      refine lv_bipush (v := (20 : Int32)) (pc := 44) hx hb dX11_lay_44 (by decide) ?_
      refine lv_iload_n (pc := 46) hx hb dX11_lay_46 rfl (lv_at hl 1 rfl) ?_
      refine lv_iadd (pc := 47) hx hb dX11_lay_47 ?_
      obtain ⟨h4, hf⟩ := pt_g hf
      refine ld_M_0_7 (pc := 48) (j := (((20 : Int32) + x1)).toNatClampNeg) C hP h4 rfl dX11_lay_48 ?_
      obtain ⟨h5, hf⟩ := pt_g hf
      refine sr_M_0_7 (pc := 49) (j := x1.toNatClampNeg) C hP hD hS h5 rfl dX11_lay_49 (fun H locs hP hD hS => ?_)
      refine lv_iinc (v := (x1 + 1)) (lv' := [(1, .int ((x1 + 1))), (0, .ref (a 0))]) (pc := 50) hx hb dX11_lay_50 hl (k := 1) rfl (by rfl) (by decide) rfl (fun ls hl => ?_)
      refine lv_goto (tgt := 14) (pc := 53) hx hb dX11_lay_53 (by decide) ?_
      exact hg14 ((x1 + 1)) ((sti (sti S 2 x1.toNatClampNeg ((S 2 ((((20 : Int32) + x1)).toNatClampNeg)))) 7 x1.toNatClampNeg (((sti S 2 x1.toNatClampNeg ((S 2 ((((20 : Int32) + x1)).toNatClampNeg)))) 7 ((((20 : Int32) + x1)).toNatClampNeg))))) hf _ _ _ hP hD hS (lv_sub hl [1, 0] rfl)
set_option maxRecDepth 100000 in
set_option maxHeartbeats 4000000 in
theorem wX11_lay (C : Cx p s m args meth c D cA cX11_lay 2 RX11 (some .int)) (hA : ∀ q : Nat, s.heap.size ≤ q → A q) {N : Nat} {z : Int32 × St} {S : St} (hf : fX11_lay N S = some z) {H : Heap} {locs : List Loc} {ls : Array Slot} (hP : va_P D vwCl (w_M cA a S) H) (hD : va_D A (w_M cA a S)) (hS : va_S A s.heap H locs) (hl : lv_has ls 2 [(0, .ref (a 0))]) : W p l e (rmU 5 113 0 0) s m args below meth c H locs 0 0 (MQ below (QI D A z.1 (w_M cA a z.2)) args s 0 0 A) (F0 m 0 ls []) := by
  obtain ⟨hx, hb, hml, hown, hts, hK, hN, hr, hlk⟩ := id C
  unfold fX11_lay at hf
  refine lv_aload_n (pc := 0) hx hb dX11_lay_0 rfl (lv_at hl 0 rfl) ?_
  obtain ⟨q1, hq1, hf⟩ := pt_b hf
  refine all_i (runU_V (pc := 1) (As := []) (b := a 0) (rest := []) (ci := 10) (q0 := 0) C lk_RX11_112 (kX11_readAll l D cA a hq1 H.size) ⟨Nat.le_of_ble_eq_true rfl, Nat.le_of_ble_eq_true rfl⟩ ⟨Nat.le_refl _, Nat.le_refl _⟩ hP hD rfl rfl rfl hl.1 rfl (Nat.le_of_ble_eq_true rfl) dX11_lay_1) hD hS hA (fun H locs hP hD hS => ?_)
  refine lv_bipush (v := (-4 : Int32)) (pc := 4) hx hb dX11_lay_4 (by decide) ?_
  refine lv_icmp_eq (tgt := 12) (pc := 6) hx hb dX11_lay_6 (by decide) (fun c2 => ?_) (fun c2 => ?_)
  · have hf := pt_t c2 hf
    refine lv_iconst (v := (0 : Int32)) (pc := 12) hx hb dX11_lay_12 (by decide) ?_
    refine lv_istore_n (lv' := [(1, .int ((0 : Int32))), (0, .ref (a 0))]) (pc := 13) hx hb dX11_lay_13 rfl hl (by decide) rfl (fun ls hl => ?_)
    exact wX11_lay_14 C hA  _ ((0 : Int32)) q1.2 hf _ _ _ hP hD hS (lv_sub hl [1, 0] rfl)
  · have hf := pt_f c2 hf
    refine lv_bipush (v := (-2 : Int32)) (pc := 9) hx hb dX11_lay_9 (by decide) ?_
    cases hf
    exact ret_i C hP hD hS dX11_lay_11
set_option maxRecDepth 100000 in
set_option maxHeartbeats 4000000 in
theorem kX11_lay (l : Launch) (D : va_G) (cA : Nat → ClassId) (a : Nat → Nat) {N : Nat} {S : St} {z : Int32 × St} (hf : fX11_lay N S = some z) : CtI l yX11_lay cX11_lay 2 (some .int) 5 113 D cA (w_M cA a S) (w_M cA a z.2) [.ref (a 0)] z.1 := by
  intro sz
  refine Met.ofW (cc := cX11_lay) (maxL := 2) (ret := (some .int)) (by decide) rfl ?_
  intro p e s m args below meth c s₁ B hml hv
  obtain ⟨rfl, hsz, hP, hK, hD0⟩ := hv
  subst hsz
  have C : Cx p s m _ meth c D cA cX11_lay 2 RX11 (some .int) := Cx.of B hml hK
  have hD := hD0.self (sz := s.heap.size)
  have hA : ∀ q : Nat, s.heap.size ≤ q → va_A (w_M cA a S) s.heap.size q := fun q h => Or.inr h
  have hS : va_S (va_A (w_M cA a S) s.heap.size) s.heap s.heap [] := va_S.rf
  have hl := lv_entry ([.ref (a 0)]) (n := 2) (Nat.le_of_ble_eq_true rfl)
  rw [lg_entry_eq]
  generalize (lg_sl ([.ref (a 0)]) ++ List.replicate (2 - (lg_sl ([.ref (a 0)])).length) Slot.unset).toArray = ls at hl ⊢
  exact wX11_lay C hA hf hP hD hS hl
theorem lk_RX11_128 : LkS RX11 128 yX11_isFigure cX11_isFigure 1 (some .boolean) 1 := ⟨⟨by decide +kernel, by decide +kernel, by decide +kernel, by decide +kernel, by decide +kernel, by decide +kernel⟩, by decide +kernel⟩
def fX11_figure_j17 (N : Nat) (S : St) (p1 : Int32) (p2 : Int32) : Option (Int32) :=
  some ((-1 : Int32))
def fX11_figure (N : Nat) (S : St) (p1 : Int32) (p2 : Int32) : Option (Int32) :=
  Option.bind (fX11_isFigure N p1) (fun q1 => if q1 = 0 then (fX11_figure_j17 N S p1 p2) else (Option.bind (fX11_in N p2.toInt64 ((0 : Int64)) ((1 : Int64))) (fun q3 => if q3 = 0 then (fX11_figure_j17 N S p1 p2) else (if ¬ ((((10 : Int32) * p2) + p1) < 0 ∨ 20 ≤ ((((10 : Int32) * p2) + p1)).toNatClampNeg) then (some ((S 9 (((((10 : Int32) * p2) + p1)).toNatClampNeg)))) else none))))
set_option maxRecDepth 100000 in
set_option maxHeartbeats 4000000 in
theorem wX11_figure_17 (C : Cx p s m args meth c D cA cX11_figure 3 RX11 (some .int)) (hA : ∀ q : Nat, s.heap.size ≤ q → A q) {N : Nat} {z : Int32} {S : St} {p1 : Int32} {p2 : Int32} (hf : fX11_figure_j17 N S p1 p2 = some z) {H : Heap} {locs : List Loc} {ls : Array Slot} (hP : va_P D vwCl (w_M cA a S) H) (hD : va_D A (w_M cA a S)) (hS : va_S A s.heap H locs) (hl : lv_has ls 3 []) : W p l e (rmU 2 45 0 0) s m args below meth c H locs 0 0 (MQ below (QI D A z (w_M cA a S)) args s 0 0 A) (F0 m 17 ls []) := by
  obtain ⟨hx, hb, hml, hown, hts, hK, hN, hr, hlk⟩ := id C
  unfold fX11_figure_j17 at hf
  refine lv_iconst (v := (-1 : Int32)) (pc := 17) hx hb dX11_figure_17 (by decide) ?_
  refine lv_goto (tgt := 32) (pc := 18) hx hb dX11_figure_18 (by decide) ?_
  cases hf
  exact ret_i C hP hD hS dX11_figure_32
set_option maxRecDepth 100000 in
set_option maxHeartbeats 4000000 in
theorem wX11_figure (C : Cx p s m args meth c D cA cX11_figure 3 RX11 (some .int)) (hA : ∀ q : Nat, s.heap.size ≤ q → A q) {N : Nat} {z : Int32} {S : St} {p1 : Int32} {p2 : Int32} (hf : fX11_figure N S p1 p2 = some z) {H : Heap} {locs : List Loc} {ls : Array Slot} (hP : va_P D vwCl (w_M cA a S) H) (hD : va_D A (w_M cA a S)) (hS : va_S A s.heap H locs) (hl : lv_has ls 3 [(0, .ref (a 0)), (1, .int p1), (2, .int p2)]) : W p l e (rmU 2 45 0 0) s m args below meth c H locs 0 0 (MQ below (QI D A z (w_M cA a S)) args s 0 0 A) (F0 m 0 ls []) := by
  obtain ⟨hx, hb, hml, hown, hts, hK, hN, hr, hlk⟩ := id C
  unfold fX11_figure at hf
  refine lv_iload_n (pc := 0) hx hb dX11_figure_0 rfl (lv_at hl 1 rfl) ?_
  obtain ⟨q1, hq1, hf⟩ := pt_b hf
  have hPc : va_P D vwCl ([] : va_W) H := hP.sub [] rfl
  have hDc : va_D A ([] : va_W) := hD.sub [] (by decide) rfl
  refine prt_i (runU_S (pc := 1) (As := [.int p1]) (rest := []) C lk_RX11_128 (kX11_isFigure l D cA hq1 H.size) ⟨Nat.le_of_ble_eq_true rfl, Nat.le_of_ble_eq_true rfl⟩ ⟨Nat.le_refl _, Nat.le_refl _⟩ hPc hDc hl.1 rfl (Nat.le_of_ble_eq_true rfl) dX11_figure_1) hP hD hS hA [] rfl (fun H locs hP hD hS => ?_)
  refine lv_if_eq (tgt := 17) (pc := 4) hx hb dX11_figure_4 (by decide) (fun c2 => ?_) (fun c2 => ?_)
  · have hf := pt_t c2 hf
    exact wX11_figure_17 C hA  hf hP hD hS (lv_sub hl [] rfl)
  · have hf := pt_f c2 hf
    refine lv_iload_n (pc := 7) hx hb dX11_figure_7 rfl (lv_at hl 2 rfl) ?_
    refine lv_i2l (v := p2.toInt64) (pc := 8) hx hb dX11_figure_8 rfl ?_
    refine lv_lconst (v := (0 : Int64)) (pc := 9) hx hb dX11_figure_9 (by decide) ?_
    refine lv_lconst (v := (1 : Int64)) (pc := 10) hx hb dX11_figure_10 (by decide) ?_
    obtain ⟨q3, hq3, hf⟩ := pt_b hf
    have hPc : va_P D vwCl ([] : va_W) H := hP.sub [] rfl
    have hDc : va_D A ([] : va_W) := hD.sub [] (by decide) rfl
    refine prt_i (runU_S (pc := 11) (As := [.long p2.toInt64, .long ((0 : Int64)), .long ((1 : Int64))]) (rest := []) C lk_RX11_72 (kX11_in l D cA hq3 H.size) ⟨Nat.le_of_ble_eq_true rfl, Nat.le_of_ble_eq_true rfl⟩ ⟨Nat.le_refl _, Nat.le_refl _⟩ hPc hDc hl.1 rfl (Nat.le_of_ble_eq_true rfl) dX11_figure_11) hP hD hS hA [] rfl (fun H locs hP hD hS => ?_)
    refine lv_if_ne (tgt := 21) (pc := 14) hx hb dX11_figure_14 (by decide) (fun c4 => ?_) (fun c4 => ?_)
    · have hf := pt_f c4 hf
      refine lv_aload_n (pc := 21) hx hb dX11_figure_21 rfl (lv_at hl 0 rfl) ?_
      refine ge_RX11_34_M_0_0 (pc := 22) C hP dX11_figure_22 ?_
      refine lv_bipush (v := (10 : Int32)) (pc := 25) hx hb dX11_figure_25 (by decide) ?_
      refine lv_iload_n (pc := 27) hx hb dX11_figure_27 rfl (lv_at hl 2 rfl) ?_
      refine lv_imul (pc := 28) hx hb dX11_figure_28 ?_
      refine lv_iload_n (pc := 29) hx hb dX11_figure_29 rfl (lv_at hl 1 rfl) ?_
      refine lv_iadd (pc := 30) hx hb dX11_figure_30 ?_
      obtain ⟨h5, hf⟩ := pt_g hf
      refine ld_M_0_9 (pc := 31) (j := ((((10 : Int32) * p2) + p1)).toNatClampNeg) C hP h5 rfl dX11_figure_31 ?_
      cases hf
      exact ret_i C hP hD hS dX11_figure_32
    · have hf := pt_t c4 hf
      exact wX11_figure_17 C hA  hf hP hD hS (lv_sub hl [] rfl)
set_option maxRecDepth 100000 in
set_option maxHeartbeats 4000000 in
theorem kX11_figure (l : Launch) (D : va_G) (cA : Nat → ClassId) (a : Nat → Nat) {N : Nat} {S : St} {p1 : Int32} {p2 : Int32} {z : Int32} (hf : fX11_figure N S p1 p2 = some z) : CtI l yX11_figure cX11_figure 3 (some .int) 2 45 D cA (w_M cA a S) (w_M cA a S) [.ref (a 0), .int p1, .int p2] z := by
  intro sz
  refine Met.ofW (cc := cX11_figure) (maxL := 3) (ret := (some .int)) (by decide) rfl ?_
  intro p e s m args below meth c s₁ B hml hv
  obtain ⟨rfl, hsz, hP, hK, hD0⟩ := hv
  subst hsz
  have C : Cx p s m _ meth c D cA cX11_figure 3 RX11 (some .int) := Cx.of B hml hK
  have hD := hD0.self (sz := s.heap.size)
  have hA : ∀ q : Nat, s.heap.size ≤ q → va_A (w_M cA a S) s.heap.size q := fun q h => Or.inr h
  have hS : va_S (va_A (w_M cA a S) s.heap.size) s.heap s.heap [] := va_S.rf
  have hl := lv_entry ([.ref (a 0), .int p1, .int p2]) (n := 3) (Nat.le_of_ble_eq_true rfl)
  rw [lg_entry_eq]
  generalize (lg_sl ([.ref (a 0), .int p1, .int p2]) ++ List.replicate (3 - (lg_sl ([.ref (a 0), .int p1, .int p2])).length) Slot.unset).toArray = ls at hl ⊢
  exact wX11_figure C hA hf hP hD hS hl
def fX11_coin (N : Nat) (S : St) (p1 : Int32) : Option (Int32) :=
  Option.bind (fX11_in N p1.toInt64 ((0 : Int64)) ((((S 4 0) - (1 : Int32))).toInt64)) (fun q1 => if q1 = 0 then (some ((-1 : Int32))) else (if ¬ (p1 < 0 ∨ 12 ≤ p1.toNatClampNeg) then (some ((S 3 p1.toNatClampNeg))) else none))
set_option maxRecDepth 100000 in
set_option maxHeartbeats 4000000 in
theorem wX11_coin (C : Cx p s m args meth c D cA cX11_coin 2 RX11 (some .int)) (hA : ∀ q : Nat, s.heap.size ≤ q → A q) {N : Nat} {z : Int32} {S : St} {p1 : Int32} (hf : fX11_coin N S p1 = some z) {H : Heap} {locs : List Loc} {ls : Array Slot} (hP : va_P D vwCl (w_M cA a S) H) (hD : va_D A (w_M cA a S)) (hS : va_S A s.heap H locs) (hl : lv_has ls 2 [(0, .ref (a 0)), (1, .int p1)]) : W p l e (rmU 1 25 0 0) s m args below meth c H locs 0 0 (MQ below (QI D A z (w_M cA a S)) args s 0 0 A) (F0 m 0 ls []) := by
  obtain ⟨hx, hb, hml, hown, hts, hK, hN, hr, hlk⟩ := id C
  unfold fX11_coin at hf
  refine lv_iload_n (pc := 0) hx hb dX11_coin_0 rfl (lv_at hl 1 rfl) ?_
  refine lv_i2l (v := p1.toInt64) (pc := 1) hx hb dX11_coin_1 rfl ?_
  refine lv_lconst (v := (0 : Int64)) (pc := 2) hx hb dX11_coin_2 (by decide) ?_
  refine lv_aload_n (pc := 3) hx hb dX11_coin_3 rfl (lv_at hl 0 rfl) ?_
  refine ge_RX11_19_M_0_0 (pc := 4) C hP dX11_coin_4 ?_
  refine lv_iconst (v := (0 : Int32)) (pc := 7) hx hb dX11_coin_7 (by decide) ?_
  refine ld_M_0_4 (pc := 8) (j := 0) C hP (inK rfl) rfl dX11_coin_8 ?_
  refine lv_iconst (v := (1 : Int32)) (pc := 9) hx hb dX11_coin_9 (by decide) ?_
  refine lv_isub (pc := 10) hx hb dX11_coin_10 ?_
  refine lv_i2l (v := (((S 4 0) - (1 : Int32))).toInt64) (pc := 11) hx hb dX11_coin_11 rfl ?_
  obtain ⟨q1, hq1, hf⟩ := pt_b hf
  have hPc : va_P D vwCl ([] : va_W) H := hP.sub [] rfl
  have hDc : va_D A ([] : va_W) := hD.sub [] (by decide) rfl
  refine prt_i (runU_S (pc := 12) (As := [.long p1.toInt64, .long ((0 : Int64)), .long ((((S 4 0) - (1 : Int32))).toInt64)]) (rest := []) C lk_RX11_72 (kX11_in l D cA hq1 H.size) ⟨Nat.le_of_ble_eq_true rfl, Nat.le_of_ble_eq_true rfl⟩ ⟨Nat.le_refl _, Nat.le_refl _⟩ hPc hDc hl.1 rfl (Nat.le_of_ble_eq_true rfl) dX11_coin_12) hP hD hS hA [] rfl (fun H locs hP hD hS => ?_)
  refine lv_if_eq (tgt := 27) (pc := 15) hx hb dX11_coin_15 (by decide) (fun c2 => ?_) (fun c2 => ?_)
  · have hf := pt_t c2 hf
    refine lv_iconst (v := (-1 : Int32)) (pc := 27) hx hb dX11_coin_27 (by decide) ?_
    cases hf
    exact ret_i C hP hD hS dX11_coin_28
  · have hf := pt_f c2 hf
    refine lv_aload_n (pc := 18) hx hb dX11_coin_18 rfl (lv_at hl 0 rfl) ?_
    refine ge_RX11_16_M_0_0 (pc := 19) C hP dX11_coin_19 ?_
    refine lv_iload_n (pc := 22) hx hb dX11_coin_22 rfl (lv_at hl 1 rfl) ?_
    obtain ⟨h3, hf⟩ := pt_g hf
    refine ld_M_0_3 (pc := 23) (j := p1.toNatClampNeg) C hP h3 rfl dX11_coin_23 ?_
    refine lv_goto (tgt := 28) (pc := 24) hx hb dX11_coin_24 (by decide) ?_
    cases hf
    exact ret_i C hP hD hS dX11_coin_28
set_option maxRecDepth 100000 in
set_option maxHeartbeats 4000000 in
theorem kX11_coin (l : Launch) (D : va_G) (cA : Nat → ClassId) (a : Nat → Nat) {N : Nat} {S : St} {p1 : Int32} {z : Int32} (hf : fX11_coin N S p1 = some z) : CtI l yX11_coin cX11_coin 2 (some .int) 1 25 D cA (w_M cA a S) (w_M cA a S) [.ref (a 0), .int p1] z := by
  intro sz
  refine Met.ofW (cc := cX11_coin) (maxL := 2) (ret := (some .int)) (by decide) rfl ?_
  intro p e s m args below meth c s₁ B hml hv
  obtain ⟨rfl, hsz, hP, hK, hD0⟩ := hv
  subst hsz
  have C : Cx p s m _ meth c D cA cX11_coin 2 RX11 (some .int) := Cx.of B hml hK
  have hD := hD0.self (sz := s.heap.size)
  have hA : ∀ q : Nat, s.heap.size ≤ q → va_A (w_M cA a S) s.heap.size q := fun q h => Or.inr h
  have hS : va_S (va_A (w_M cA a S) s.heap.size) s.heap s.heap [] := va_S.rf
  have hl := lv_entry ([.ref (a 0), .int p1]) (n := 2) (Nat.le_of_ble_eq_true rfl)
  rw [lg_entry_eq]
  generalize (lg_sl ([.ref (a 0), .int p1]) ++ List.replicate (2 - (lg_sl ([.ref (a 0), .int p1])).length) Slot.unset).toArray = ls at hl ⊢
  exact wX11_coin C hA hf hP hD hS hl
theorem ge_RX11_119_M_0_0 (C : Cx p s m args meth c D cA cc nL RX11 ret) (hP : va_P D vwCl (w_M cA a S) H) (hdg : decode cc pc = .ok (.getfield 119, 3)) (kk : W p l e R s m args below meth c H locs cells slots Q (F0 m (pc + 3) ls (.int (S 11 0) :: rest))) : W p l e R s m args below meth c H locs cells slots Q (F0 m pc ls (.ref (a 0) :: rest)) := by
  obtain ⟨hx, hb, -, hown, hts, hK, -, -, -⟩ := C
  exact va_get (D := D) (ci := 10) (v := .int (S 11 0)) (C := RX11) (T := TX11) (N := 28) hx hb hts inlX11 hown hK hP 0 rfl rfl 11 (by decide) (hts _ fl_RX11_119) (fun _ h9 => h9) rfl hdg kk
theorem fl_RX11_37 : Cond.fieldLink RX11 37 "SevenOnStrikeModel" "before" "[I" ∈ wsL_law := by decide +kernel
theorem ge_RX11_37_M_0_0 (C : Cx p s m args meth c D cA cc nL RX11 ret) (hP : va_P D vwCl (w_M cA a S) H) (hdg : decode cc pc = .ok (.getfield 37, 3)) (kk : W p l e R s m args below meth c H locs cells slots Q (F0 m (pc + 3) ls (.ref (a 10) :: rest))) : W p l e R s m args below meth c H locs cells slots Q (F0 m pc ls (.ref (a 0) :: rest)) := by
  obtain ⟨hx, hb, -, hown, hts, hK, -, -, -⟩ := C
  exact va_get (D := D) (ci := 10) (v := .ref (a 10)) (C := RX11) (T := TX11) (N := 28) hx hb hts inlX11 hown hK hP 0 rfl rfl 10 (by decide) (hts _ fl_RX11_37) (fun _ h9 => h9) rfl hdg kk
theorem sr_M_0_10 {i v : Int32} {j : Nat} (C : Cx p s m args meth c D cA cc nL own ret) (hP : va_P D vwCl (w_M cA a S) H) (hD : va_D A (w_M cA a S)) (hS : va_S A s.heap H locs) (hin : vp_in i 160) (hj : i.toNatClampNeg = j) (hdg : decode cc pc = .ok (.iastore, 1)) (kk : ∀ (H1 : Heap) (locs1 : List Loc), va_P D vwCl (w_M cA a (sti S 10 j v)) H1 → va_D A (w_M cA a (sti S 10 j v)) → va_S A s.heap H1 locs1 → W p l e R s m args below meth c H1 locs1 cells slots Q (F0 m (pc + 1) ls rest)) : W p l e R s m args below meth c H locs cells slots Q (F0 m pc ls (.int v :: .int i :: .ref (a 10) :: rest)) := by
  obtain ⟨hx, hb, -, hown, hts, hK, -, -, -⟩ := C
  subst hj
  exact va_iast hx hb hK hP hD hS 10 0 rfl rfl hin hdg (fun H1 locs1 h1 h2 h3 => kk H1 locs1 h1 h2 h3)
theorem ld_M_0_10 {i : Int32} {j : Nat} (C : Cx p s m args meth c D cA cc nL own ret) (hP : va_P D vwCl (w_M cA a S) H) (hin : vp_in i 160) (hj : i.toNatClampNeg = j) (hdg : decode cc pc = .ok (.iaload, 1)) (kk : W p l e R s m args below meth c H locs cells slots Q (F0 m (pc + 1) ls (.int (S 10 j) :: rest))) : W p l e R s m args below meth c H locs cells slots Q (F0 m pc ls (.int i :: .ref (a 10) :: rest)) := by
  obtain ⟨hx, hb, -, hown, hts, hK, -, -, -⟩ := C
  subst hj
  exact va_iald hx hb hK hP 10 0 rfl rfl hin hdg kk
def fX11_note_j83 (N : Nat) (S : St) : Option (St) :=
  some ((stf S 11 (((S 11 0) + (1 : Int32)))))
def fX11_note_b51 (N : Nat) (g51 : Int32 × St → Option (St)) (x1 : Int32) (S : St) : Option (St) :=
  if (20 : Int32) ≤ x1 then (fX11_note_j83 N S) else (if ¬ (x1 < 0 ∨ 20 ≤ x1.toNatClampNeg) then (if ¬ ((((20 : Int32) * (S 11 0)) + x1) < 0 ∨ 160 ≤ ((((20 : Int32) * (S 11 0)) + x1)).toNatClampNeg) then (g51 (((x1 + 1), (sti S 10 (((((20 : Int32) * (S 11 0)) + x1)).toNatClampNeg) ((S 9 x1.toNatClampNeg)))))) else none) else none)
def fX11_note_l51 (N : Nat) (k : Nat) (q : Int32 × St) : Option (St) := lpN (fun g q => fX11_note_b51 N  g q.1 q.2) k q
def fX11_note_j49 (N : Nat) (S : St) : Option (St) :=
  fX11_note_l51 N  N (((0 : Int32), S))
def fX11_note_j39 (N : Nat) (S : St) : Option (St) :=
  fX11_note_j49 N ((stf S 11 (((S 11 0) - (1 : Int32)))))
def fX11_note_b11 (N : Nat) (g11 : Int32 × St → Option (St)) (x1 : Int32) (S : St) : Option (St) :=
  if (140 : Int32) ≤ x1 then (fX11_note_j39 N S) else (if ¬ (((20 : Int32) + x1) < 0 ∨ 160 ≤ (((20 : Int32) + x1)).toNatClampNeg) then (if ¬ (x1 < 0 ∨ 160 ≤ x1.toNatClampNeg) then (g11 (((x1 + 1), (sti S 10 x1.toNatClampNeg ((S 10 ((((20 : Int32) + x1)).toNatClampNeg))))))) else none) else none)
def fX11_note_l11 (N : Nat) (k : Nat) (q : Int32 × St) : Option (St) := lpN (fun g q => fX11_note_b11 N  g q.1 q.2) k q
def fX11_note (N : Nat) (S : St) : Option (St) :=
  if (S 11 0) = (8 : Int32) then (fX11_note_l11 N  N (((0 : Int32), S))) else (fX11_note_j49 N S)
set_option maxRecDepth 100000 in
set_option maxHeartbeats 4000000 in
theorem wX11_note_83 (C : Cx p s m args meth c D cA cX11_note 2 RX11 none) (hA : ∀ q : Nat, s.heap.size ≤ q → A q) {N : Nat} {z : St} {S : St} (hf : fX11_note_j83 N S = some z) {H : Heap} {locs : List Loc} {ls : Array Slot} (hP : va_P D vwCl (w_M cA a S) H) (hD : va_D A (w_M cA a S)) (hS : va_S A s.heap H locs) (hl : lv_has ls 2 [(0, .ref (a 0))]) : W p l e (rmU 0 0 0 0) s m args below meth c H locs 0 0 (MQ below (QV D A (w_M cA a z)) args s 0 0 A) (F0 m 83 ls []) := by
  obtain ⟨hx, hb, hml, hown, hts, hK, hN, hr, hlk⟩ := id C
  unfold fX11_note_j83 at hf
  refine lv_aload_n (pc := 83) hx hb dX11_note_83 rfl (lv_at hl 0 rfl) ?_
  refine lv_dup (pc := 84) hx hb dX11_note_84 rfl ?_
  refine ge_RX11_119_M_0_0 (pc := 85) C hP dX11_note_85 ?_
  refine lv_iconst (v := (1 : Int32)) (pc := 88) hx hb dX11_note_88 (by decide) ?_
  refine lv_iadd (pc := 89) hx hb dX11_note_89 ?_
  refine pu_RX11_119_M_0_0 (pc := 90) C hP hD hS dX11_note_90 (fun H locs hP hD hS => ?_)
  cases hf
  exact ret_v C hP hD hS dX11_note_93
set_option maxRecDepth 100000 in
set_option maxHeartbeats 4000000 in
theorem wX11_note_51 (C : Cx p s m args meth c D cA cX11_note 2 RX11 none) (hA : ∀ q : Nat, s.heap.size ≤ q → A q) {N : Nat} {z : St} : ∀ (k : Nat) (x1 : Int32) (S : St), fX11_note_l51 N  k (x1, S) = some z → ∀ (H : Heap) (locs : List Loc) (ls : Array Slot), va_P D vwCl (w_M cA a S) H → va_D A (w_M cA a S) → va_S A s.heap H locs → lv_has ls 2 [(0, .ref (a 0)), (1, .int x1)] → W p l e (rmU 0 0 0 0) s m args below meth c H locs 0 0 (MQ below (QV D A (w_M cA a z)) args s 0 0 A) (F0 m 51 ls []) := by
  obtain ⟨hx, hb, hml, hown, hts, hK, hN, hr, hlk⟩ := id C
  intro k
  induction k with
  | zero =>
    intro x1 S hf
    have hf : (none : Option (St)) = some z := hf
    cases hf
  | succ k hg51 =>
    intro x1 S hf H locs ls hP hD hS hl
    have hf : fX11_note_b51 N  (fX11_note_l51 N  k) x1 S = some z := hf
    unfold fX11_note_b51 at hf
    refine lv_iload_n (pc := 51) hx hb dX11_note_51 rfl (lv_at hl 1 rfl) ?_
    refine lv_bipush (v := (20 : Int32)) (pc := 52) hx hb dX11_note_52 (by decide) ?_
    refine lv_icmp_ge (tgt := 83) (pc := 54) hx hb dX11_note_54 (by decide) (fun c1 => ?_) (fun c1 => ?_)
    · have hf := pt_t c1 hf
      exact wX11_note_83 C hA  hf hP hD hS (lv_sub hl [0] rfl)
    · have hf := pt_f c1 hf
      refine lv_aload_n (pc := 57) hx hb dX11_note_57 rfl (lv_at hl 0 rfl) ?_
      refine ge_RX11_37_M_0_0 (pc := 58) C hP dX11_note_58 ?_
      refine lv_bipush (v := (20 : Int32)) (pc := 61) hx hb dX11_note_61 (by decide) ?_
      refine lv_aload_n (pc := 63) hx hb dX11_note_63 rfl (lv_at hl 0 rfl) ?_
      refine ge_RX11_119_M_0_0 (pc := 64) C hP dX11_note_64 ?_
      refine lv_imul (pc := 67) hx hb dX11_note_67 ?_
      refine lv_iload_n (pc := 68) hx hb dX11_note_68 rfl (lv_at hl 1 rfl) ?_
      refine lv_iadd (pc := 69) hx hb dX11_note_69 ?_
      refine lv_aload_n (pc := 70) hx hb dX11_note_70 rfl (lv_at hl 0 rfl) ?_
      refine ge_RX11_34_M_0_0 (pc := 71) C hP dX11_note_71 ?_
      refine lv_iload_n (pc := 74) hx hb dX11_note_74 rfl (lv_at hl 1 rfl) ?_
      obtain ⟨h2, hf⟩ := pt_g hf
      refine ld_M_0_9 (pc := 75) (j := x1.toNatClampNeg) C hP h2 rfl dX11_note_75 ?_
      obtain ⟨h3, hf⟩ := pt_g hf
      refine sr_M_0_10 (pc := 76) (j := ((((20 : Int32) * (S 11 0)) + x1)).toNatClampNeg) C hP hD hS h3 rfl dX11_note_76 (fun H locs hP hD hS => ?_)
      refine lv_iinc (v := (x1 + 1)) (lv' := [(1, .int ((x1 + 1))), (0, .ref (a 0))]) (pc := 77) hx hb dX11_note_77 hl (k := 1) rfl (by rfl) (by decide) rfl (fun ls hl => ?_)
      refine lv_goto (tgt := 51) (pc := 80) hx hb dX11_note_80 (by decide) ?_
      exact hg51 ((x1 + 1)) ((sti S 10 (((((20 : Int32) * (S 11 0)) + x1)).toNatClampNeg) ((S 9 x1.toNatClampNeg)))) hf _ _ _ hP hD hS (lv_sub hl [1, 0] rfl)
set_option maxRecDepth 100000 in
set_option maxHeartbeats 4000000 in
theorem wX11_note_49 (C : Cx p s m args meth c D cA cX11_note 2 RX11 none) (hA : ∀ q : Nat, s.heap.size ≤ q → A q) {N : Nat} {z : St} {S : St} (hf : fX11_note_j49 N S = some z) {H : Heap} {locs : List Loc} {ls : Array Slot} (hP : va_P D vwCl (w_M cA a S) H) (hD : va_D A (w_M cA a S)) (hS : va_S A s.heap H locs) (hl : lv_has ls 2 [(0, .ref (a 0))]) : W p l e (rmU 0 0 0 0) s m args below meth c H locs 0 0 (MQ below (QV D A (w_M cA a z)) args s 0 0 A) (F0 m 49 ls []) := by
  obtain ⟨hx, hb, hml, hown, hts, hK, hN, hr, hlk⟩ := id C
  unfold fX11_note_j49 at hf
  refine lv_iconst (v := (0 : Int32)) (pc := 49) hx hb dX11_note_49 (by decide) ?_
  refine lv_istore_n (lv' := [(1, .int ((0 : Int32))), (0, .ref (a 0))]) (pc := 50) hx hb dX11_note_50 rfl hl (by decide) rfl (fun ls hl => ?_)
  exact wX11_note_51 C hA  _ ((0 : Int32)) S hf _ _ _ hP hD hS (lv_sub hl [1, 0] rfl)
set_option maxRecDepth 100000 in
set_option maxHeartbeats 4000000 in
theorem wX11_note_39 (C : Cx p s m args meth c D cA cX11_note 2 RX11 none) (hA : ∀ q : Nat, s.heap.size ≤ q → A q) {N : Nat} {z : St} {S : St} (hf : fX11_note_j39 N S = some z) {H : Heap} {locs : List Loc} {ls : Array Slot} (hP : va_P D vwCl (w_M cA a S) H) (hD : va_D A (w_M cA a S)) (hS : va_S A s.heap H locs) (hl : lv_has ls 2 [(0, .ref (a 0))]) : W p l e (rmU 0 0 0 0) s m args below meth c H locs 0 0 (MQ below (QV D A (w_M cA a z)) args s 0 0 A) (F0 m 39 ls []) := by
  obtain ⟨hx, hb, hml, hown, hts, hK, hN, hr, hlk⟩ := id C
  unfold fX11_note_j39 at hf
  refine lv_aload_n (pc := 39) hx hb dX11_note_39 rfl (lv_at hl 0 rfl) ?_
  refine lv_dup (pc := 40) hx hb dX11_note_40 rfl ?_
  refine ge_RX11_119_M_0_0 (pc := 41) C hP dX11_note_41 ?_
  refine lv_iconst (v := (1 : Int32)) (pc := 44) hx hb dX11_note_44 (by decide) ?_
  refine lv_isub (pc := 45) hx hb dX11_note_45 ?_
  refine pu_RX11_119_M_0_0 (pc := 46) C hP hD hS dX11_note_46 (fun H locs hP hD hS => ?_)
  exact wX11_note_49 C hA  hf hP hD hS (lv_sub hl [0] rfl)
set_option maxRecDepth 100000 in
set_option maxHeartbeats 4000000 in
theorem wX11_note_11 (C : Cx p s m args meth c D cA cX11_note 2 RX11 none) (hA : ∀ q : Nat, s.heap.size ≤ q → A q) {N : Nat} {z : St} : ∀ (k : Nat) (x1 : Int32) (S : St), fX11_note_l11 N  k (x1, S) = some z → ∀ (H : Heap) (locs : List Loc) (ls : Array Slot), va_P D vwCl (w_M cA a S) H → va_D A (w_M cA a S) → va_S A s.heap H locs → lv_has ls 2 [(0, .ref (a 0)), (1, .int x1)] → W p l e (rmU 0 0 0 0) s m args below meth c H locs 0 0 (MQ below (QV D A (w_M cA a z)) args s 0 0 A) (F0 m 11 ls []) := by
  obtain ⟨hx, hb, hml, hown, hts, hK, hN, hr, hlk⟩ := id C
  intro k
  induction k with
  | zero =>
    intro x1 S hf
    have hf : (none : Option (St)) = some z := hf
    cases hf
  | succ k hg11 =>
    intro x1 S hf H locs ls hP hD hS hl
    have hf : fX11_note_b11 N  (fX11_note_l11 N  k) x1 S = some z := hf
    unfold fX11_note_b11 at hf
    refine lv_iload_n (pc := 11) hx hb dX11_note_11 rfl (lv_at hl 1 rfl) ?_
    refine lv_sipush (v := (140 : Int32)) (pc := 12) hx hb dX11_note_12 (by decide) ?_
    refine lv_icmp_ge (tgt := 39) (pc := 15) hx hb dX11_note_15 (by decide) (fun c1 => ?_) (fun c1 => ?_)
    · have hf := pt_t c1 hf
      exact wX11_note_39 C hA  hf hP hD hS (lv_sub hl [0] rfl)
    · have hf := pt_f c1 hf
      refine lv_aload_n (pc := 18) hx hb dX11_note_18 rfl (lv_at hl 0 rfl) ?_
      refine ge_RX11_37_M_0_0 (pc := 19) C hP dX11_note_19 ?_
      refine lv_iload_n (pc := 22) hx hb dX11_note_22 rfl (lv_at hl 1 rfl) ?_
      refine lv_aload_n (pc := 23) hx hb dX11_note_23 rfl (lv_at hl 0 rfl) ?_
      refine ge_RX11_37_M_0_0 (pc := 24) C hP dX11_note_24 ?_
      refine lv_bipush (v := (20 : Int32)) (pc := 27) hx hb dX11_note_27 (by decide) ?_
      refine lv_iload_n (pc := 29) hx hb dX11_note_29 rfl (lv_at hl 1 rfl) ?_
      refine lv_iadd (pc := 30) hx hb dX11_note_30 ?_
      obtain ⟨h2, hf⟩ := pt_g hf
      refine ld_M_0_10 (pc := 31) (j := (((20 : Int32) + x1)).toNatClampNeg) C hP h2 rfl dX11_note_31 ?_
      obtain ⟨h3, hf⟩ := pt_g hf
      refine sr_M_0_10 (pc := 32) (j := x1.toNatClampNeg) C hP hD hS h3 rfl dX11_note_32 (fun H locs hP hD hS => ?_)
      refine lv_iinc (v := (x1 + 1)) (lv' := [(1, .int ((x1 + 1))), (0, .ref (a 0))]) (pc := 33) hx hb dX11_note_33 hl (k := 1) rfl (by rfl) (by decide) rfl (fun ls hl => ?_)
      refine lv_goto (tgt := 11) (pc := 36) hx hb dX11_note_36 (by decide) ?_
      exact hg11 ((x1 + 1)) ((sti S 10 x1.toNatClampNeg ((S 10 ((((20 : Int32) + x1)).toNatClampNeg))))) hf _ _ _ hP hD hS (lv_sub hl [1, 0] rfl)
set_option maxRecDepth 100000 in
set_option maxHeartbeats 4000000 in
theorem wX11_note (C : Cx p s m args meth c D cA cX11_note 2 RX11 none) (hA : ∀ q : Nat, s.heap.size ≤ q → A q) {N : Nat} {z : St} {S : St} (hf : fX11_note N S = some z) {H : Heap} {locs : List Loc} {ls : Array Slot} (hP : va_P D vwCl (w_M cA a S) H) (hD : va_D A (w_M cA a S)) (hS : va_S A s.heap H locs) (hl : lv_has ls 2 [(0, .ref (a 0))]) : W p l e (rmU 0 0 0 0) s m args below meth c H locs 0 0 (MQ below (QV D A (w_M cA a z)) args s 0 0 A) (F0 m 0 ls []) := by
  obtain ⟨hx, hb, hml, hown, hts, hK, hN, hr, hlk⟩ := id C
  unfold fX11_note at hf
  refine lv_aload_n (pc := 0) hx hb dX11_note_0 rfl (lv_at hl 0 rfl) ?_
  refine ge_RX11_119_M_0_0 (pc := 1) C hP dX11_note_1 ?_
  refine lv_bipush (v := (8 : Int32)) (pc := 4) hx hb dX11_note_4 (by decide) ?_
  refine lv_icmp_ne (tgt := 49) (pc := 6) hx hb dX11_note_6 (by decide) (fun c1 => ?_) (fun c1 => ?_)
  · have hf := pt_f c1 hf
    exact wX11_note_49 C hA  hf hP hD hS (lv_sub hl [0] rfl)
  · have hf := pt_t c1 hf
    refine lv_iconst (v := (0 : Int32)) (pc := 9) hx hb dX11_note_9 (by decide) ?_
    refine lv_istore_n (lv' := [(1, .int ((0 : Int32))), (0, .ref (a 0))]) (pc := 10) hx hb dX11_note_10 rfl hl (by decide) rfl (fun ls hl => ?_)
    exact wX11_note_11 C hA  _ ((0 : Int32)) S hf _ _ _ hP hD hS (lv_sub hl [1, 0] rfl)
set_option maxRecDepth 100000 in
set_option maxHeartbeats 4000000 in
theorem kX11_note (l : Launch) (D : va_G) (cA : Nat → ClassId) (a : Nat → Nat) {N : Nat} {S : St} {z : St} (hf : fX11_note N S = some z) : CtV l yX11_note cX11_note 2 none 0 0 D cA (w_M cA a S) (w_M cA a z) [.ref (a 0)] := by
  intro sz
  refine Met.ofW (cc := cX11_note) (maxL := 2) (ret := none) (by decide) rfl ?_
  intro p e s m args below meth c s₁ B hml hv
  obtain ⟨rfl, hsz, hP, hK, hD0⟩ := hv
  subst hsz
  have C : Cx p s m _ meth c D cA cX11_note 2 RX11 none := Cx.of B hml hK
  have hD := hD0.self (sz := s.heap.size)
  have hA : ∀ q : Nat, s.heap.size ≤ q → va_A (w_M cA a S) s.heap.size q := fun q h => Or.inr h
  have hS : va_S (va_A (w_M cA a S) s.heap.size) s.heap s.heap [] := va_S.rf
  have hl := lv_entry ([.ref (a 0)]) (n := 2) (Nat.le_of_ble_eq_true rfl)
  rw [lg_entry_eq]
  generalize (lg_sl ([.ref (a 0)]) ++ List.replicate (2 - (lg_sl ([.ref (a 0)])).length) Slot.unset).toArray = ls at hl ⊢
  exact wX11_note C hA hf hP hD hS hl
theorem lk_RX11_131 : LkV RX11 131 yX11_note cX11_note 2 none 0 := ⟨⟨by decide +kernel, by decide +kernel, by decide +kernel, by decide +kernel, by decide +kernel, by decide +kernel⟩, by decide +kernel, by decide +kernel⟩
def fX11_strike (N : Nat) (S : St) (p1 : Int32) (p2 : Int32) : Option (Int32 × St) :=
  Option.bind (fX11_isFigure N p1) (fun q1 => if q1 = 0 then (some ((-1 : Int32), S)) else (Option.bind (fX11_in N p2.toInt64 ((0 : Int64)) ((1 : Int64))) (fun q3 => if q3 = 0 then (some ((-1 : Int32), S)) else (if ¬ (p1 < 0 ∨ 20 ≤ p1.toNatClampNeg) then (if (S 9 p1.toNatClampNeg) = p2 then (some ((-2 : Int32), S)) else (Option.bind (fX11_note N S) (fun q7 => if ¬ (p1 < 0 ∨ 20 ≤ p1.toNatClampNeg) then (Option.bind (fX11_strikers N (sti q7 9 p1.toNatClampNeg p2)) (fun q9 => some (q9, (sti q7 9 p1.toNatClampNeg p2)))) else none))) else none))))
set_option maxRecDepth 100000 in
set_option maxHeartbeats 4000000 in
theorem wX11_strike (C : Cx p s m args meth c D cA cX11_strike 3 RX11 (some .int)) (hA : ∀ q : Nat, s.heap.size ≤ q → A q) {N : Nat} {z : Int32 × St} {S : St} {p1 : Int32} {p2 : Int32} (hf : fX11_strike N S p1 p2 = some z) {H : Heap} {locs : List Loc} {ls : Array Slot} (hP : va_P D vwCl (w_M cA a S) H) (hD : va_D A (w_M cA a S)) (hS : va_S A s.heap H locs) (hl : lv_has ls 3 [(0, .ref (a 0)), (1, .int p1), (2, .int p2)]) : W p l e (rmU 2 45 0 0) s m args below meth c H locs 0 0 (MQ below (QI D A z.1 (w_M cA a z.2)) args s 0 0 A) (F0 m 0 ls []) := by
  obtain ⟨hx, hb, hml, hown, hts, hK, hN, hr, hlk⟩ := id C
  unfold fX11_strike at hf
  refine lv_iload_n (pc := 0) hx hb dX11_strike_0 rfl (lv_at hl 1 rfl) ?_
  obtain ⟨q1, hq1, hf⟩ := pt_b hf
  have hPc : va_P D vwCl ([] : va_W) H := hP.sub [] rfl
  have hDc : va_D A ([] : va_W) := hD.sub [] (by decide) rfl
  refine prt_i (runU_S (pc := 1) (As := [.int p1]) (rest := []) C lk_RX11_128 (kX11_isFigure l D cA hq1 H.size) ⟨Nat.le_of_ble_eq_true rfl, Nat.le_of_ble_eq_true rfl⟩ ⟨Nat.le_refl _, Nat.le_refl _⟩ hPc hDc hl.1 rfl (Nat.le_of_ble_eq_true rfl) dX11_strike_1) hP hD hS hA [] rfl (fun H locs hP hD hS => ?_)
  refine lv_if_eq (tgt := 17) (pc := 4) hx hb dX11_strike_4 (by decide) (fun c2 => ?_) (fun c2 => ?_)
  · have hf := pt_t c2 hf
    refine lv_iconst (v := (-1 : Int32)) (pc := 17) hx hb dX11_strike_17 (by decide) ?_
    cases hf
    exact ret_i C hP hD hS dX11_strike_18
  · have hf := pt_f c2 hf
    refine lv_iload_n (pc := 7) hx hb dX11_strike_7 rfl (lv_at hl 2 rfl) ?_
    refine lv_i2l (v := p2.toInt64) (pc := 8) hx hb dX11_strike_8 rfl ?_
    refine lv_lconst (v := (0 : Int64)) (pc := 9) hx hb dX11_strike_9 (by decide) ?_
    refine lv_lconst (v := (1 : Int64)) (pc := 10) hx hb dX11_strike_10 (by decide) ?_
    obtain ⟨q3, hq3, hf⟩ := pt_b hf
    have hPc : va_P D vwCl ([] : va_W) H := hP.sub [] rfl
    have hDc : va_D A ([] : va_W) := hD.sub [] (by decide) rfl
    refine prt_i (runU_S (pc := 11) (As := [.long p2.toInt64, .long ((0 : Int64)), .long ((1 : Int64))]) (rest := []) C lk_RX11_72 (kX11_in l D cA hq3 H.size) ⟨Nat.le_of_ble_eq_true rfl, Nat.le_of_ble_eq_true rfl⟩ ⟨Nat.le_refl _, Nat.le_refl _⟩ hPc hDc hl.1 rfl (Nat.le_of_ble_eq_true rfl) dX11_strike_11) hP hD hS hA [] rfl (fun H locs hP hD hS => ?_)
    refine lv_if_ne (tgt := 19) (pc := 14) hx hb dX11_strike_14 (by decide) (fun c4 => ?_) (fun c4 => ?_)
    · have hf := pt_f c4 hf
      refine lv_aload_n (pc := 19) hx hb dX11_strike_19 rfl (lv_at hl 0 rfl) ?_
      refine ge_RX11_34_M_0_0 (pc := 20) C hP dX11_strike_20 ?_
      refine lv_iload_n (pc := 23) hx hb dX11_strike_23 rfl (lv_at hl 1 rfl) ?_
      obtain ⟨h5, hf⟩ := pt_g hf
      refine ld_M_0_9 (pc := 24) (j := p1.toNatClampNeg) C hP h5 rfl dX11_strike_24 ?_
      refine lv_iload_n (pc := 25) hx hb dX11_strike_25 rfl (lv_at hl 2 rfl) ?_
      refine lv_icmp_ne (tgt := 32) (pc := 26) hx hb dX11_strike_26 (by decide) (fun c6 => ?_) (fun c6 => ?_)
      · have hf := pt_f c6 hf
        refine lv_aload_n (pc := 32) hx hb dX11_strike_32 rfl (lv_at hl 0 rfl) ?_
        obtain ⟨q7, hq7, hf⟩ := pt_b hf
        refine all_v (runU_V (pc := 33) (As := []) (b := a 0) (rest := []) (ci := 10) (q0 := 0) C lk_RX11_131 (kX11_note l D cA a hq7 H.size) ⟨Nat.le_of_ble_eq_true rfl, Nat.le_of_ble_eq_true rfl⟩ ⟨Nat.le_refl _, Nat.le_refl _⟩ hP hD rfl rfl rfl hl.1 rfl (Nat.le_of_ble_eq_true rfl) dX11_strike_33) hD hS hA (fun H locs hP hD hS => ?_)
        refine lv_aload_n (pc := 36) hx hb dX11_strike_36 rfl (lv_at hl 0 rfl) ?_
        refine ge_RX11_34_M_0_0 (pc := 37) C hP dX11_strike_37 ?_
        refine lv_iload_n (pc := 40) hx hb dX11_strike_40 rfl (lv_at hl 1 rfl) ?_
        refine lv_iload_n (pc := 41) hx hb dX11_strike_41 rfl (lv_at hl 2 rfl) ?_
        obtain ⟨h8, hf⟩ := pt_g hf
        refine sr_M_0_9 (pc := 42) (j := p1.toNatClampNeg) C hP hD hS h8 rfl dX11_strike_42 (fun H locs hP hD hS => ?_)
        refine lv_aload_n (pc := 43) hx hb dX11_strike_43 rfl (lv_at hl 0 rfl) ?_
        obtain ⟨q9, hq9, hf⟩ := pt_b hf
        refine all_i (runU_V (pc := 44) (As := []) (b := a 0) (rest := []) (ci := 10) (q0 := 0) C lk_RX11_116 (kX11_strikers l D cA a hq9 H.size) ⟨Nat.le_of_ble_eq_true rfl, Nat.le_of_ble_eq_true rfl⟩ ⟨Nat.le_refl _, Nat.le_refl _⟩ hP hD rfl rfl rfl hl.1 rfl (Nat.le_of_ble_eq_true rfl) dX11_strike_44) hD hS hA (fun H locs hP hD hS => ?_)
        cases hf
        exact ret_i C hP hD hS dX11_strike_47
      · have hf := pt_t c6 hf
        refine lv_bipush (v := (-2 : Int32)) (pc := 29) hx hb dX11_strike_29 (by decide) ?_
        cases hf
        exact ret_i C hP hD hS dX11_strike_31
    · have hf := pt_t c4 hf
      refine lv_iconst (v := (-1 : Int32)) (pc := 17) hx hb dX11_strike_17 (by decide) ?_
      cases hf
      exact ret_i C hP hD hS dX11_strike_18
set_option maxRecDepth 100000 in
set_option maxHeartbeats 4000000 in
theorem kX11_strike (l : Launch) (D : va_G) (cA : Nat → ClassId) (a : Nat → Nat) {N : Nat} {S : St} {p1 : Int32} {p2 : Int32} {z : Int32 × St} (hf : fX11_strike N S p1 p2 = some z) : CtI l yX11_strike cX11_strike 3 (some .int) 2 45 D cA (w_M cA a S) (w_M cA a z.2) [.ref (a 0), .int p1, .int p2] z.1 := by
  intro sz
  refine Met.ofW (cc := cX11_strike) (maxL := 3) (ret := (some .int)) (by decide) rfl ?_
  intro p e s m args below meth c s₁ B hml hv
  obtain ⟨rfl, hsz, hP, hK, hD0⟩ := hv
  subst hsz
  have C : Cx p s m _ meth c D cA cX11_strike 3 RX11 (some .int) := Cx.of B hml hK
  have hD := hD0.self (sz := s.heap.size)
  have hA : ∀ q : Nat, s.heap.size ≤ q → va_A (w_M cA a S) s.heap.size q := fun q h => Or.inr h
  have hS : va_S (va_A (w_M cA a S) s.heap.size) s.heap s.heap [] := va_S.rf
  have hl := lv_entry ([.ref (a 0), .int p1, .int p2]) (n := 3) (Nat.le_of_ble_eq_true rfl)
  rw [lg_entry_eq]
  generalize (lg_sl ([.ref (a 0), .int p1, .int p2]) ++ List.replicate (3 - (lg_sl ([.ref (a 0), .int p1, .int p2])).length) Slot.unset).toArray = ls at hl ⊢
  exact wX11_strike C hA hf hP hD hS hl
def fX11_standIn (N : Nat) (S : St) (p1 : Int32) (p2 : Int32) : Option (Int32 × St) :=
  Option.bind (fX11_isFigure N p1) (fun q1 => if q1 = 0 then (some ((-1 : Int32), S)) else (Option.bind (fX11_isFigure N p2) (fun q3 => if q3 = 0 then (some ((-1 : Int32), S)) else (Option.bind (fX11_note N S) (fun q5 => if ¬ (((10 : Int32) + p1) < 0 ∨ 20 ≤ (((10 : Int32) + p1)).toNatClampNeg) then (nm ((q5 9 ((((10 : Int32) + p1)).toNatClampNeg))) (fun v7 => if ¬ (((10 : Int32) + p1) < 0 ∨ 20 ≤ (((10 : Int32) + p1)).toNatClampNeg) then (some (v7, (sti q5 9 ((((10 : Int32) + p1)).toNatClampNeg) p2))) else none)) else none)))))
set_option maxRecDepth 100000 in
set_option maxHeartbeats 4000000 in
theorem wX11_standIn (C : Cx p s m args meth c D cA cX11_standIn 4 RX11 (some .int)) (hA : ∀ q : Nat, s.heap.size ≤ q → A q) {N : Nat} {z : Int32 × St} {S : St} {p1 : Int32} {p2 : Int32} (hf : fX11_standIn N S p1 p2 = some z) {H : Heap} {locs : List Loc} {ls : Array Slot} (hP : va_P D vwCl (w_M cA a S) H) (hD : va_D A (w_M cA a S)) (hS : va_S A s.heap H locs) (hl : lv_has ls 4 [(0, .ref (a 0)), (1, .int p1), (2, .int p2)]) : W p l e (rmU 2 45 0 0) s m args below meth c H locs 0 0 (MQ below (QI D A z.1 (w_M cA a z.2)) args s 0 0 A) (F0 m 0 ls []) := by
  obtain ⟨hx, hb, hml, hown, hts, hK, hN, hr, hlk⟩ := id C
  unfold fX11_standIn at hf
  refine lv_iload_n (pc := 0) hx hb dX11_standIn_0 rfl (lv_at hl 1 rfl) ?_
  obtain ⟨q1, hq1, hf⟩ := pt_b hf
  have hPc : va_P D vwCl ([] : va_W) H := hP.sub [] rfl
  have hDc : va_D A ([] : va_W) := hD.sub [] (by decide) rfl
  refine prt_i (runU_S (pc := 1) (As := [.int p1]) (rest := []) C lk_RX11_128 (kX11_isFigure l D cA hq1 H.size) ⟨Nat.le_of_ble_eq_true rfl, Nat.le_of_ble_eq_true rfl⟩ ⟨Nat.le_refl _, Nat.le_refl _⟩ hPc hDc hl.1 rfl (Nat.le_of_ble_eq_true rfl) dX11_standIn_1) hP hD hS hA [] rfl (fun H locs hP hD hS => ?_)
  refine lv_if_eq (tgt := 14) (pc := 4) hx hb dX11_standIn_4 (by decide) (fun c2 => ?_) (fun c2 => ?_)
  · have hf := pt_t c2 hf
    refine lv_iconst (v := (-1 : Int32)) (pc := 14) hx hb dX11_standIn_14 (by decide) ?_
    cases hf
    exact ret_i C hP hD hS dX11_standIn_15
  · have hf := pt_f c2 hf
    refine lv_iload_n (pc := 7) hx hb dX11_standIn_7 rfl (lv_at hl 2 rfl) ?_
    obtain ⟨q3, hq3, hf⟩ := pt_b hf
    have hPc : va_P D vwCl ([] : va_W) H := hP.sub [] rfl
    have hDc : va_D A ([] : va_W) := hD.sub [] (by decide) rfl
    refine prt_i (runU_S (pc := 8) (As := [.int p2]) (rest := []) C lk_RX11_128 (kX11_isFigure l D cA hq3 H.size) ⟨Nat.le_of_ble_eq_true rfl, Nat.le_of_ble_eq_true rfl⟩ ⟨Nat.le_refl _, Nat.le_refl _⟩ hPc hDc hl.1 rfl (Nat.le_of_ble_eq_true rfl) dX11_standIn_8) hP hD hS hA [] rfl (fun H locs hP hD hS => ?_)
    refine lv_if_ne (tgt := 16) (pc := 11) hx hb dX11_standIn_11 (by decide) (fun c4 => ?_) (fun c4 => ?_)
    · have hf := pt_f c4 hf
      refine lv_aload_n (pc := 16) hx hb dX11_standIn_16 rfl (lv_at hl 0 rfl) ?_
      obtain ⟨q5, hq5, hf⟩ := pt_b hf
      refine all_v (runU_V (pc := 17) (As := []) (b := a 0) (rest := []) (ci := 10) (q0 := 0) C lk_RX11_131 (kX11_note l D cA a hq5 H.size) ⟨Nat.le_of_ble_eq_true rfl, Nat.le_of_ble_eq_true rfl⟩ ⟨Nat.le_refl _, Nat.le_refl _⟩ hP hD rfl rfl rfl hl.1 rfl (Nat.le_of_ble_eq_true rfl) dX11_standIn_17) hD hS hA (fun H locs hP hD hS => ?_)
      refine lv_aload_n (pc := 20) hx hb dX11_standIn_20 rfl (lv_at hl 0 rfl) ?_
      refine ge_RX11_34_M_0_0 (pc := 21) C hP dX11_standIn_21 ?_
      refine lv_bipush (v := (10 : Int32)) (pc := 24) hx hb dX11_standIn_24 (by decide) ?_
      refine lv_iload_n (pc := 26) hx hb dX11_standIn_26 rfl (lv_at hl 1 rfl) ?_
      refine lv_iadd (pc := 27) hx hb dX11_standIn_27 ?_
      obtain ⟨h6, hf⟩ := pt_g hf
      refine ld_M_0_9 (pc := 28) (j := (((10 : Int32) + p1)).toNatClampNeg) C hP h6 rfl dX11_standIn_28 ?_
      refine lv_topi (fun v7 ev7 => ?_)
      have hf := pt_n ev7 hf
      refine lv_istore_n (lv' := [(3, .int v7), (0, .ref (a 0)), (1, .int p1), (2, .int p2)]) (pc := 29) hx hb dX11_standIn_29 rfl hl (by decide) rfl (fun ls hl => ?_)
      refine lv_aload_n (pc := 30) hx hb dX11_standIn_30 rfl (lv_at hl 1 rfl) ?_
      refine ge_RX11_34_M_0_0 (pc := 31) C hP dX11_standIn_31 ?_
      refine lv_bipush (v := (10 : Int32)) (pc := 34) hx hb dX11_standIn_34 (by decide) ?_
      refine lv_iload_n (pc := 36) hx hb dX11_standIn_36 rfl (lv_at hl 2 rfl) ?_
      refine lv_iadd (pc := 37) hx hb dX11_standIn_37 ?_
      refine lv_iload_n (pc := 38) hx hb dX11_standIn_38 rfl (lv_at hl 3 rfl) ?_
      obtain ⟨h8, hf⟩ := pt_g hf
      refine sr_M_0_9 (pc := 39) (j := (((10 : Int32) + p1)).toNatClampNeg) C hP hD hS h8 rfl dX11_standIn_39 (fun H locs hP hD hS => ?_)
      refine lv_iload_n (pc := 40) hx hb dX11_standIn_40 rfl (lv_at hl 0 rfl) ?_
      cases hf
      exact ret_i C hP hD hS dX11_standIn_41
    · have hf := pt_t c4 hf
      refine lv_iconst (v := (-1 : Int32)) (pc := 14) hx hb dX11_standIn_14 (by decide) ?_
      cases hf
      exact ret_i C hP hD hS dX11_standIn_15
set_option maxRecDepth 100000 in
set_option maxHeartbeats 4000000 in
theorem kX11_standIn (l : Launch) (D : va_G) (cA : Nat → ClassId) (a : Nat → Nat) {N : Nat} {S : St} {p1 : Int32} {p2 : Int32} {z : Int32 × St} (hf : fX11_standIn N S p1 p2 = some z) : CtI l yX11_standIn cX11_standIn 4 (some .int) 2 45 D cA (w_M cA a S) (w_M cA a z.2) [.ref (a 0), .int p1, .int p2] z.1 := by
  intro sz
  refine Met.ofW (cc := cX11_standIn) (maxL := 4) (ret := (some .int)) (by decide) rfl ?_
  intro p e s m args below meth c s₁ B hml hv
  obtain ⟨rfl, hsz, hP, hK, hD0⟩ := hv
  subst hsz
  have C : Cx p s m _ meth c D cA cX11_standIn 4 RX11 (some .int) := Cx.of B hml hK
  have hD := hD0.self (sz := s.heap.size)
  have hA : ∀ q : Nat, s.heap.size ≤ q → va_A (w_M cA a S) s.heap.size q := fun q h => Or.inr h
  have hS : va_S (va_A (w_M cA a S) s.heap.size) s.heap s.heap [] := va_S.rf
  have hl := lv_entry ([.ref (a 0), .int p1, .int p2]) (n := 4) (Nat.le_of_ble_eq_true rfl)
  rw [lg_entry_eq]
  generalize (lg_sl ([.ref (a 0), .int p1, .int p2]) ++ List.replicate (4 - (lg_sl ([.ref (a 0), .int p1, .int p2])).length) Slot.unset).toArray = ls at hl ⊢
  exact wX11_standIn C hA hf hP hD hS hl
def fX11_undo_j54 (N : Nat) (S : St) : Option (Int32 × St) :=
  some ((S 11 0), S)
def fX11_undo_b22 (N : Nat) (g22 : Int32 × St → Option (Int32 × St)) (x1 : Int32) (S : St) : Option (Int32 × St) :=
  if (20 : Int32) ≤ x1 then (fX11_undo_j54 N S) else (if ¬ ((((20 : Int32) * (S 11 0)) + x1) < 0 ∨ 160 ≤ ((((20 : Int32) * (S 11 0)) + x1)).toNatClampNeg) then (if ¬ (x1 < 0 ∨ 20 ≤ x1.toNatClampNeg) then (g22 (((x1 + 1), (sti S 9 x1.toNatClampNeg ((S 10 (((((20 : Int32) * (S 11 0)) + x1)).toNatClampNeg))))))) else none) else none)
def fX11_undo_l22 (N : Nat) (k : Nat) (q : Int32 × St) : Option (Int32 × St) := lpN (fun g q => fX11_undo_b22 N  g q.1 q.2) k q
def fX11_undo (N : Nat) (S : St) : Option (Int32 × St) :=
  if (S 11 0) = 0 then (some ((-2 : Int32), S)) else (fX11_undo_l22 N  N (((0 : Int32), (stf S 11 (((S 11 0) - (1 : Int32)))))))
set_option maxRecDepth 100000 in
set_option maxHeartbeats 4000000 in
theorem wX11_undo_54 (C : Cx p s m args meth c D cA cX11_undo 2 RX11 (some .int)) (hA : ∀ q : Nat, s.heap.size ≤ q → A q) {N : Nat} {z : Int32 × St} {S : St} (hf : fX11_undo_j54 N S = some z) {H : Heap} {locs : List Loc} {ls : Array Slot} (hP : va_P D vwCl (w_M cA a S) H) (hD : va_D A (w_M cA a S)) (hS : va_S A s.heap H locs) (hl : lv_has ls 2 [(0, .ref (a 0))]) : W p l e (rmU 0 0 0 0) s m args below meth c H locs 0 0 (MQ below (QI D A z.1 (w_M cA a z.2)) args s 0 0 A) (F0 m 54 ls []) := by
  obtain ⟨hx, hb, hml, hown, hts, hK, hN, hr, hlk⟩ := id C
  unfold fX11_undo_j54 at hf
  refine lv_aload_n (pc := 54) hx hb dX11_undo_54 rfl (lv_at hl 0 rfl) ?_
  refine ge_RX11_119_M_0_0 (pc := 55) C hP dX11_undo_55 ?_
  cases hf
  exact ret_i C hP hD hS dX11_undo_58
set_option maxRecDepth 100000 in
set_option maxHeartbeats 4000000 in
theorem wX11_undo_22 (C : Cx p s m args meth c D cA cX11_undo 2 RX11 (some .int)) (hA : ∀ q : Nat, s.heap.size ≤ q → A q) {N : Nat} {z : Int32 × St} : ∀ (k : Nat) (x1 : Int32) (S : St), fX11_undo_l22 N  k (x1, S) = some z → ∀ (H : Heap) (locs : List Loc) (ls : Array Slot), va_P D vwCl (w_M cA a S) H → va_D A (w_M cA a S) → va_S A s.heap H locs → lv_has ls 2 [(0, .ref (a 0)), (1, .int x1)] → W p l e (rmU 0 0 0 0) s m args below meth c H locs 0 0 (MQ below (QI D A z.1 (w_M cA a z.2)) args s 0 0 A) (F0 m 22 ls []) := by
  obtain ⟨hx, hb, hml, hown, hts, hK, hN, hr, hlk⟩ := id C
  intro k
  induction k with
  | zero =>
    intro x1 S hf
    have hf : (none : Option (Int32 × St)) = some z := hf
    cases hf
  | succ k hg22 =>
    intro x1 S hf H locs ls hP hD hS hl
    have hf : fX11_undo_b22 N  (fX11_undo_l22 N  k) x1 S = some z := hf
    unfold fX11_undo_b22 at hf
    refine lv_iload_n (pc := 22) hx hb dX11_undo_22 rfl (lv_at hl 1 rfl) ?_
    refine lv_bipush (v := (20 : Int32)) (pc := 23) hx hb dX11_undo_23 (by decide) ?_
    refine lv_icmp_ge (tgt := 54) (pc := 25) hx hb dX11_undo_25 (by decide) (fun c1 => ?_) (fun c1 => ?_)
    · have hf := pt_t c1 hf
      exact wX11_undo_54 C hA  hf hP hD hS (lv_sub hl [0] rfl)
    · have hf := pt_f c1 hf
      refine lv_aload_n (pc := 28) hx hb dX11_undo_28 rfl (lv_at hl 0 rfl) ?_
      refine ge_RX11_34_M_0_0 (pc := 29) C hP dX11_undo_29 ?_
      refine lv_iload_n (pc := 32) hx hb dX11_undo_32 rfl (lv_at hl 1 rfl) ?_
      refine lv_aload_n (pc := 33) hx hb dX11_undo_33 rfl (lv_at hl 0 rfl) ?_
      refine ge_RX11_37_M_0_0 (pc := 34) C hP dX11_undo_34 ?_
      refine lv_bipush (v := (20 : Int32)) (pc := 37) hx hb dX11_undo_37 (by decide) ?_
      refine lv_aload_n (pc := 39) hx hb dX11_undo_39 rfl (lv_at hl 0 rfl) ?_
      refine ge_RX11_119_M_0_0 (pc := 40) C hP dX11_undo_40 ?_
      refine lv_imul (pc := 43) hx hb dX11_undo_43 ?_
      refine lv_iload_n (pc := 44) hx hb dX11_undo_44 rfl (lv_at hl 1 rfl) ?_
      refine lv_iadd (pc := 45) hx hb dX11_undo_45 ?_
      obtain ⟨h2, hf⟩ := pt_g hf
      refine ld_M_0_10 (pc := 46) (j := ((((20 : Int32) * (S 11 0)) + x1)).toNatClampNeg) C hP h2 rfl dX11_undo_46 ?_
      obtain ⟨h3, hf⟩ := pt_g hf
      refine sr_M_0_9 (pc := 47) (j := x1.toNatClampNeg) C hP hD hS h3 rfl dX11_undo_47 (fun H locs hP hD hS => ?_)
      refine lv_iinc (v := (x1 + 1)) (lv' := [(1, .int ((x1 + 1))), (0, .ref (a 0))]) (pc := 48) hx hb dX11_undo_48 hl (k := 1) rfl (by rfl) (by decide) rfl (fun ls hl => ?_)
      refine lv_goto (tgt := 22) (pc := 51) hx hb dX11_undo_51 (by decide) ?_
      exact hg22 ((x1 + 1)) ((sti S 9 x1.toNatClampNeg ((S 10 (((((20 : Int32) * (S 11 0)) + x1)).toNatClampNeg))))) hf _ _ _ hP hD hS (lv_sub hl [1, 0] rfl)
set_option maxRecDepth 100000 in
set_option maxHeartbeats 4000000 in
theorem wX11_undo (C : Cx p s m args meth c D cA cX11_undo 2 RX11 (some .int)) (hA : ∀ q : Nat, s.heap.size ≤ q → A q) {N : Nat} {z : Int32 × St} {S : St} (hf : fX11_undo N S = some z) {H : Heap} {locs : List Loc} {ls : Array Slot} (hP : va_P D vwCl (w_M cA a S) H) (hD : va_D A (w_M cA a S)) (hS : va_S A s.heap H locs) (hl : lv_has ls 2 [(0, .ref (a 0))]) : W p l e (rmU 0 0 0 0) s m args below meth c H locs 0 0 (MQ below (QI D A z.1 (w_M cA a z.2)) args s 0 0 A) (F0 m 0 ls []) := by
  obtain ⟨hx, hb, hml, hown, hts, hK, hN, hr, hlk⟩ := id C
  unfold fX11_undo at hf
  refine lv_aload_n (pc := 0) hx hb dX11_undo_0 rfl (lv_at hl 0 rfl) ?_
  refine ge_RX11_119_M_0_0 (pc := 1) C hP dX11_undo_1 ?_
  refine lv_if_ne (tgt := 10) (pc := 4) hx hb dX11_undo_4 (by decide) (fun c1 => ?_) (fun c1 => ?_)
  · have hf := pt_f c1 hf
    refine lv_aload_n (pc := 10) hx hb dX11_undo_10 rfl (lv_at hl 0 rfl) ?_
    refine lv_dup (pc := 11) hx hb dX11_undo_11 rfl ?_
    refine ge_RX11_119_M_0_0 (pc := 12) C hP dX11_undo_12 ?_
    refine lv_iconst (v := (1 : Int32)) (pc := 15) hx hb dX11_undo_15 (by decide) ?_
    refine lv_isub (pc := 16) hx hb dX11_undo_16 ?_
    refine pu_RX11_119_M_0_0 (pc := 17) C hP hD hS dX11_undo_17 (fun H locs hP hD hS => ?_)
    refine lv_iconst (v := (0 : Int32)) (pc := 20) hx hb dX11_undo_20 (by decide) ?_
    refine lv_istore_n (lv' := [(1, .int ((0 : Int32))), (0, .ref (a 0))]) (pc := 21) hx hb dX11_undo_21 rfl hl (by decide) rfl (fun ls hl => ?_)
    exact wX11_undo_22 C hA  _ ((0 : Int32)) ((stf S 11 (((S 11 0) - (1 : Int32))))) hf _ _ _ hP hD hS (lv_sub hl [1, 0] rfl)
  · have hf := pt_t c1 hf
    refine lv_bipush (v := (-2 : Int32)) (pc := 7) hx hb dX11_undo_7 (by decide) ?_
    cases hf
    exact ret_i C hP hD hS dX11_undo_9
set_option maxRecDepth 100000 in
set_option maxHeartbeats 4000000 in
theorem kX11_undo (l : Launch) (D : va_G) (cA : Nat → ClassId) (a : Nat → Nat) {N : Nat} {S : St} {z : Int32 × St} (hf : fX11_undo N S = some z) : CtI l yX11_undo cX11_undo 2 (some .int) 0 0 D cA (w_M cA a S) (w_M cA a z.2) [.ref (a 0)] z.1 := by
  intro sz
  refine Met.ofW (cc := cX11_undo) (maxL := 2) (ret := (some .int)) (by decide) rfl ?_
  intro p e s m args below meth c s₁ B hml hv
  obtain ⟨rfl, hsz, hP, hK, hD0⟩ := hv
  subst hsz
  have C : Cx p s m _ meth c D cA cX11_undo 2 RX11 (some .int) := Cx.of B hml hK
  have hD := hD0.self (sz := s.heap.size)
  have hA : ∀ q : Nat, s.heap.size ≤ q → va_A (w_M cA a S) s.heap.size q := fun q h => Or.inr h
  have hS : va_S (va_A (w_M cA a S) s.heap.size) s.heap s.heap [] := va_S.rf
  have hl := lv_entry ([.ref (a 0)]) (n := 2) (Nat.le_of_ble_eq_true rfl)
  rw [lg_entry_eq]
  generalize (lg_sl ([.ref (a 0)]) ++ List.replicate (2 - (lg_sl ([.ref (a 0)])).length) Slot.unset).toArray = ls at hl ⊢
  exact wX11_undo C hA hf hP hD hS hl
end PMoA
