section PNum
variable {p : Program} {l : Launch} {e : Env} {R : Room} {s : State} {m : MethodId} {args : Array Value} {below : List Frame} {meth : Method} {c : Code} {H : Heap} {locs : List Loc} {cells slots : Nat} {Q : State → Prop}
variable {D : va_G} {cA : Nat → ClassId} {cc : ByteArray} {nL : Nat} {own : String} {ret : Option FieldType} {pc : Nat} {ls : Array Slot} {rest : List Value} {A : Nat → Prop} {a b d : Nat → Nat} {S T U : St}
theorem kc_RJ6_265 : Cond.constant RJ6 265 (1431655765) ∈ wsL_law := by decide +kernel
theorem kc_RJ6_266 : Cond.constant RJ6 266 (858993459) ∈ wsL_law := by decide +kernel
theorem kc_RJ6_267 : Cond.constant RJ6 267 (252645135) ∈ wsL_law := by decide +kernel
def fJ6_bitCount_0f7a4 (N : Nat) (p0 : Int32) : Option (Int32) :=
  nm ((p0 - ((Int32.toUInt32 p0 >>> (Int32.toUInt32 ((1 : Int32)) &&& Int32.toUInt32 31)).toInt32 &&& (1431655765 : Int32)))) (fun v1 => nm (((v1 &&& (858993459 : Int32)) + ((Int32.toUInt32 v1 >>> (Int32.toUInt32 ((2 : Int32)) &&& Int32.toUInt32 31)).toInt32 &&& (858993459 : Int32)))) (fun v2 => nm (((v2 + (Int32.toUInt32 v2 >>> (Int32.toUInt32 ((4 : Int32)) &&& Int32.toUInt32 31)).toInt32) &&& (252645135 : Int32))) (fun v3 => nm ((v3 + (Int32.toUInt32 v3 >>> (Int32.toUInt32 ((8 : Int32)) &&& Int32.toUInt32 31)).toInt32)) (fun v4 => nm ((v4 + (Int32.toUInt32 v4 >>> (Int32.toUInt32 ((16 : Int32)) &&& Int32.toUInt32 31)).toInt32)) (fun v5 => some ((v5 &&& (63 : Int32))))))))
set_option maxRecDepth 100000 in
set_option maxHeartbeats 4000000 in
theorem wJ6_bitCount_0f7a4 (C : Cx p s m args meth c D cA cJ6_bitCount_0f7a4 1 RJ6 (some .int)) (hA : ∀ q : Nat, s.heap.size ≤ q → A q) {N : Nat} {z : Int32} {p0 : Int32} (hf : fJ6_bitCount_0f7a4 N p0 = some z) {H : Heap} {locs : List Loc} {ls : Array Slot} (hP : va_P D vwCl ([] : va_W) H) (hD : va_D A ([] : va_W)) (hS : va_S A s.heap H locs) (hl : lv_has ls 1 [(0, .int p0)]) : W p l e (rmU 0 0 0 0) s m args below meth c H locs 0 0 (MQ below (QI D A z ([] : va_W)) args s 0 0 A) (F0 m 0 ls []) := by
  obtain ⟨hx, hb, hml, hown, hts, hK, hN, hr, hlk⟩ := id C
  unfold fJ6_bitCount_0f7a4 at hf
  refine lv_iload_n (pc := 0) hx hb dJ6_bitCount_0f7a4_0 rfl (lv_at hl 0 rfl) ?_
  refine lv_iload_n (pc := 1) hx hb dJ6_bitCount_0f7a4_1 rfl (lv_at hl 0 rfl) ?_
  refine lv_iconst (v := (1 : Int32)) (pc := 2) hx hb dJ6_bitCount_0f7a4_2 (by decide) ?_
  refine lv_iushr (v := (Int32.toUInt32 p0 >>> (Int32.toUInt32 ((1 : Int32)) &&& Int32.toUInt32 31)).toInt32) (pc := 3) hx hb dJ6_bitCount_0f7a4_3 rfl ?_
  refine lv_ldcw (pc := 4) (v := (1431655765 : Int32)) hx hb hown (hts _ kc_RJ6_265) dJ6_bitCount_0f7a4_4 ?_
  refine lv_iand (pc := 7) hx hb dJ6_bitCount_0f7a4_7 ?_
  refine lv_isub (pc := 8) hx hb dJ6_bitCount_0f7a4_8 ?_
  refine lv_topi (fun v1 ev1 => ?_)
  have hf := pt_n ev1 hf
  refine lv_istore_n (lv' := [(0, .int v1)]) (pc := 9) hx hb dJ6_bitCount_0f7a4_9 rfl hl (by decide) rfl (fun ls hl => ?_)
  refine lv_iload_n (pc := 10) hx hb dJ6_bitCount_0f7a4_10 rfl (lv_at hl 0 rfl) ?_
  refine lv_ldcw (pc := 11) (v := (858993459 : Int32)) hx hb hown (hts _ kc_RJ6_266) dJ6_bitCount_0f7a4_11 ?_
  refine lv_iand (pc := 14) hx hb dJ6_bitCount_0f7a4_14 ?_
  refine lv_iload_n (pc := 15) hx hb dJ6_bitCount_0f7a4_15 rfl (lv_at hl 0 rfl) ?_
  refine lv_iconst (v := (2 : Int32)) (pc := 16) hx hb dJ6_bitCount_0f7a4_16 (by decide) ?_
  refine lv_iushr (v := (Int32.toUInt32 v1 >>> (Int32.toUInt32 ((2 : Int32)) &&& Int32.toUInt32 31)).toInt32) (pc := 17) hx hb dJ6_bitCount_0f7a4_17 rfl ?_
  refine lv_ldcw (pc := 18) (v := (858993459 : Int32)) hx hb hown (hts _ kc_RJ6_266) dJ6_bitCount_0f7a4_18 ?_
  refine lv_iand (pc := 21) hx hb dJ6_bitCount_0f7a4_21 ?_
  refine lv_iadd (pc := 22) hx hb dJ6_bitCount_0f7a4_22 ?_
  refine lv_topi (fun v2 ev2 => ?_)
  have hf := pt_n ev2 hf
  refine lv_istore_n (lv' := [(0, .int v2)]) (pc := 23) hx hb dJ6_bitCount_0f7a4_23 rfl hl (by decide) rfl (fun ls hl => ?_)
  refine lv_iload_n (pc := 24) hx hb dJ6_bitCount_0f7a4_24 rfl (lv_at hl 0 rfl) ?_
  refine lv_iload_n (pc := 25) hx hb dJ6_bitCount_0f7a4_25 rfl (lv_at hl 0 rfl) ?_
  refine lv_iconst (v := (4 : Int32)) (pc := 26) hx hb dJ6_bitCount_0f7a4_26 (by decide) ?_
  refine lv_iushr (v := (Int32.toUInt32 v2 >>> (Int32.toUInt32 ((4 : Int32)) &&& Int32.toUInt32 31)).toInt32) (pc := 27) hx hb dJ6_bitCount_0f7a4_27 rfl ?_
  refine lv_iadd (pc := 28) hx hb dJ6_bitCount_0f7a4_28 ?_
  refine lv_ldcw (pc := 29) (v := (252645135 : Int32)) hx hb hown (hts _ kc_RJ6_267) dJ6_bitCount_0f7a4_29 ?_
  refine lv_iand (pc := 32) hx hb dJ6_bitCount_0f7a4_32 ?_
  refine lv_topi (fun v3 ev3 => ?_)
  have hf := pt_n ev3 hf
  refine lv_istore_n (lv' := [(0, .int v3)]) (pc := 33) hx hb dJ6_bitCount_0f7a4_33 rfl hl (by decide) rfl (fun ls hl => ?_)
  refine lv_iload_n (pc := 34) hx hb dJ6_bitCount_0f7a4_34 rfl (lv_at hl 0 rfl) ?_
  refine lv_iload_n (pc := 35) hx hb dJ6_bitCount_0f7a4_35 rfl (lv_at hl 0 rfl) ?_
  refine lv_bipush (v := (8 : Int32)) (pc := 36) hx hb dJ6_bitCount_0f7a4_36 (by decide) ?_
  refine lv_iushr (v := (Int32.toUInt32 v3 >>> (Int32.toUInt32 ((8 : Int32)) &&& Int32.toUInt32 31)).toInt32) (pc := 38) hx hb dJ6_bitCount_0f7a4_38 rfl ?_
  refine lv_iadd (pc := 39) hx hb dJ6_bitCount_0f7a4_39 ?_
  refine lv_topi (fun v4 ev4 => ?_)
  have hf := pt_n ev4 hf
  refine lv_istore_n (lv' := [(0, .int v4)]) (pc := 40) hx hb dJ6_bitCount_0f7a4_40 rfl hl (by decide) rfl (fun ls hl => ?_)
  refine lv_iload_n (pc := 41) hx hb dJ6_bitCount_0f7a4_41 rfl (lv_at hl 0 rfl) ?_
  refine lv_iload_n (pc := 42) hx hb dJ6_bitCount_0f7a4_42 rfl (lv_at hl 0 rfl) ?_
  refine lv_bipush (v := (16 : Int32)) (pc := 43) hx hb dJ6_bitCount_0f7a4_43 (by decide) ?_
  refine lv_iushr (v := (Int32.toUInt32 v4 >>> (Int32.toUInt32 ((16 : Int32)) &&& Int32.toUInt32 31)).toInt32) (pc := 45) hx hb dJ6_bitCount_0f7a4_45 rfl ?_
  refine lv_iadd (pc := 46) hx hb dJ6_bitCount_0f7a4_46 ?_
  refine lv_topi (fun v5 ev5 => ?_)
  have hf := pt_n ev5 hf
  refine lv_istore_n (lv' := [(0, .int v5)]) (pc := 47) hx hb dJ6_bitCount_0f7a4_47 rfl hl (by decide) rfl (fun ls hl => ?_)
  refine lv_iload_n (pc := 48) hx hb dJ6_bitCount_0f7a4_48 rfl (lv_at hl 0 rfl) ?_
  refine lv_bipush (v := (63 : Int32)) (pc := 49) hx hb dJ6_bitCount_0f7a4_49 (by decide) ?_
  refine lv_iand (pc := 51) hx hb dJ6_bitCount_0f7a4_51 ?_
  cases hf
  exact ret_i C hP hD hS dJ6_bitCount_0f7a4_52
set_option maxRecDepth 100000 in
set_option maxHeartbeats 4000000 in
theorem kJ6_bitCount_0f7a4 (l : Launch) (D : va_G) (cA : Nat → ClassId) {N : Nat} {p0 : Int32} {z : Int32} (hf : fJ6_bitCount_0f7a4 N p0 = some z) : CtI l yJ6_bitCount_0f7a4 cJ6_bitCount_0f7a4 1 (some .int) 0 0 D cA ([] : va_W) ([] : va_W) [.int p0] z := by
  intro sz
  refine Met.ofW (cc := cJ6_bitCount_0f7a4) (maxL := 1) (ret := (some .int)) (by decide) rfl ?_
  intro p e s m args below meth c s₁ B hml hv
  obtain ⟨rfl, hsz, hP, hK, hD0⟩ := hv
  subst hsz
  have C : Cx p s m _ meth c D cA cJ6_bitCount_0f7a4 1 RJ6 (some .int) := Cx.of B hml hK
  have hD := hD0.self (sz := s.heap.size)
  have hA : ∀ q : Nat, s.heap.size ≤ q → va_A ([] : va_W) s.heap.size q := fun q h => Or.inr h
  have hS : va_S (va_A ([] : va_W) s.heap.size) s.heap s.heap [] := va_S.rf
  have hl := lv_entry ([.int p0]) (n := 1) (Nat.le_of_ble_eq_true rfl)
  rw [lg_entry_eq]
  generalize (lg_sl ([.int p0]) ++ List.replicate (1 - (lg_sl ([.int p0])).length) Slot.unset).toArray = ls at hl ⊢
  exact wJ6_bitCount_0f7a4 C hA hf hP hD hS hl
def fX3_lengthOf (N : Nat) (p0 : Int32) : Option (Int32) :=
  if (100 : Int32) ≤ p0 then (if (10000 : Int32) ≤ p0 then (some ((5 : Int32))) else (if (1000 : Int32) ≤ p0 then (some ((4 : Int32))) else (some ((3 : Int32))))) else (if (10 : Int32) ≤ p0 then (some ((2 : Int32))) else (some ((1 : Int32))))
set_option maxRecDepth 100000 in
set_option maxHeartbeats 4000000 in
theorem wX3_lengthOf (C : Cx p s m args meth c D cA cX3_lengthOf 1 RX3 (some .int)) (hA : ∀ q : Nat, s.heap.size ≤ q → A q) {N : Nat} {z : Int32} {p0 : Int32} (hf : fX3_lengthOf N p0 = some z) {H : Heap} {locs : List Loc} {ls : Array Slot} (hP : va_P D vwCl ([] : va_W) H) (hD : va_D A ([] : va_W)) (hS : va_S A s.heap H locs) (hl : lv_has ls 1 [(0, .int p0)]) : W p l e (rmU 0 0 0 0) s m args below meth c H locs 0 0 (MQ below (QI D A z ([] : va_W)) args s 0 0 A) (F0 m 0 ls []) := by
  obtain ⟨hx, hb, hml, hown, hts, hK, hN, hr, hlk⟩ := id C
  unfold fX3_lengthOf at hf
  refine lv_iload_n (pc := 0) hx hb dX3_lengthOf_0 rfl (lv_at hl 0 rfl) ?_
  refine lv_bipush (v := (100 : Int32)) (pc := 1) hx hb dX3_lengthOf_1 (by decide) ?_
  refine lv_icmp_ge (tgt := 18) (pc := 3) hx hb dX3_lengthOf_3 (by decide) (fun c1 => ?_) (fun c1 => ?_)
  · have hf := pt_t c1 hf
    refine lv_iload_n (pc := 18) hx hb dX3_lengthOf_18 rfl (lv_at hl 0 rfl) ?_
    refine lv_sipush (v := (10000 : Int32)) (pc := 19) hx hb dX3_lengthOf_19 (by decide) ?_
    refine lv_icmp_ge (tgt := 38) (pc := 22) hx hb dX3_lengthOf_22 (by decide) (fun c2 => ?_) (fun c2 => ?_)
    · have hf := pt_t c2 hf
      refine lv_iconst (v := (5 : Int32)) (pc := 38) hx hb dX3_lengthOf_38 (by decide) ?_
      cases hf
      exact ret_i C hP hD hS dX3_lengthOf_39
    · have hf := pt_f c2 hf
      refine lv_iload_n (pc := 25) hx hb dX3_lengthOf_25 rfl (lv_at hl 0 rfl) ?_
      refine lv_sipush (v := (1000 : Int32)) (pc := 26) hx hb dX3_lengthOf_26 (by decide) ?_
      refine lv_icmp_ge (tgt := 36) (pc := 29) hx hb dX3_lengthOf_29 (by decide) (fun c3 => ?_) (fun c3 => ?_)
      · have hf := pt_t c3 hf
        refine lv_iconst (v := (4 : Int32)) (pc := 36) hx hb dX3_lengthOf_36 (by decide) ?_
        cases hf
        exact ret_i C hP hD hS dX3_lengthOf_37
      · have hf := pt_f c3 hf
        refine lv_iconst (v := (3 : Int32)) (pc := 32) hx hb dX3_lengthOf_32 (by decide) ?_
        refine lv_goto (tgt := 37) (pc := 33) hx hb dX3_lengthOf_33 (by decide) ?_
        cases hf
        exact ret_i C hP hD hS dX3_lengthOf_37
  · have hf := pt_f c1 hf
    refine lv_iload_n (pc := 6) hx hb dX3_lengthOf_6 rfl (lv_at hl 0 rfl) ?_
    refine lv_bipush (v := (10 : Int32)) (pc := 7) hx hb dX3_lengthOf_7 (by decide) ?_
    refine lv_icmp_ge (tgt := 16) (pc := 9) hx hb dX3_lengthOf_9 (by decide) (fun c4 => ?_) (fun c4 => ?_)
    · have hf := pt_t c4 hf
      refine lv_iconst (v := (2 : Int32)) (pc := 16) hx hb dX3_lengthOf_16 (by decide) ?_
      cases hf
      exact ret_i C hP hD hS dX3_lengthOf_17
    · have hf := pt_f c4 hf
      refine lv_iconst (v := (1 : Int32)) (pc := 12) hx hb dX3_lengthOf_12 (by decide) ?_
      refine lv_goto (tgt := 17) (pc := 13) hx hb dX3_lengthOf_13 (by decide) ?_
      cases hf
      exact ret_i C hP hD hS dX3_lengthOf_17
set_option maxRecDepth 100000 in
set_option maxHeartbeats 4000000 in
theorem kX3_lengthOf (l : Launch) (D : va_G) (cA : Nat → ClassId) {N : Nat} {p0 : Int32} {z : Int32} (hf : fX3_lengthOf N p0 = some z) : CtI l yX3_lengthOf cX3_lengthOf 1 (some .int) 0 0 D cA ([] : va_W) ([] : va_W) [.int p0] z := by
  intro sz
  refine Met.ofW (cc := cX3_lengthOf) (maxL := 1) (ret := (some .int)) (by decide) rfl ?_
  intro p e s m args below meth c s₁ B hml hv
  obtain ⟨rfl, hsz, hP, hK, hD0⟩ := hv
  subst hsz
  have C : Cx p s m _ meth c D cA cX3_lengthOf 1 RX3 (some .int) := Cx.of B hml hK
  have hD := hD0.self (sz := s.heap.size)
  have hA : ∀ q : Nat, s.heap.size ≤ q → va_A ([] : va_W) s.heap.size q := fun q h => Or.inr h
  have hS : va_S (va_A ([] : va_W) s.heap.size) s.heap s.heap [] := va_S.rf
  have hl := lv_entry ([.int p0]) (n := 1) (Nat.le_of_ble_eq_true rfl)
  rw [lg_entry_eq]
  generalize (lg_sl ([.int p0]) ++ List.replicate (1 - (lg_sl ([.int p0])).length) Slot.unset).toArray = ls at hl ⊢
  exact wX3_lengthOf C hA hf hP hD hS hl
def fX3_canSay_b4 (N : Nat) (p0 : Int32) (p1 : Int32) (g4 : Int32 × Int32 → Option (Int32)) (x2 : Int32) (x3 : Int32) : Option (Int32) :=
  if (5 : Int32) ≤ x3 then (some ((1 : Int32))) else (if ((p0 >>> ((x2 - x2 / (10 : Int32) * (10 : Int32)) &&& 31)) &&& (1 : Int32)) = (1 : Int32) then (some ((0 : Int32))) else (if (x2 / (10 : Int32)) = 0 then (some ((1 : Int32))) else (g4 (((x2 / (10 : Int32)), (x3 + 1))))))
def fX3_canSay_l4 (N : Nat) (p0 : Int32) (p1 : Int32) (k : Nat) (q : Int32 × Int32) : Option (Int32) := lpN (fun g q => fX3_canSay_b4 N p0 p1 g q.1 q.2) k q
def fX3_canSay (N : Nat) (p0 : Int32) (p1 : Int32) : Option (Int32) :=
  fX3_canSay_l4 N p0 p1 N ((p1, (0 : Int32)))
set_option maxRecDepth 100000 in
set_option maxHeartbeats 4000000 in
theorem wX3_canSay_4 (C : Cx p s m args meth c D cA cX3_canSay 4 RX3 (some .boolean)) (hA : ∀ q : Nat, s.heap.size ≤ q → A q) {N : Nat} {z : Int32} {p0 : Int32} {p1 : Int32} : ∀ (k : Nat) (x2 : Int32) (x3 : Int32), fX3_canSay_l4 N p0 p1 k (x2, x3) = some z → ∀ (H : Heap) (locs : List Loc) (ls : Array Slot), va_P D vwCl ([] : va_W) H → va_D A ([] : va_W) → va_S A s.heap H locs → lv_has ls 4 [(0, .int p0), (2, .int x2), (3, .int x3)] → W p l e (rmU 0 0 0 0) s m args below meth c H locs 0 0 (MQ below (QI D A z ([] : va_W)) args s 0 0 A) (F0 m 4 ls []) := by
  obtain ⟨hx, hb, hml, hown, hts, hK, hN, hr, hlk⟩ := id C
  intro k
  induction k with
  | zero =>
    intro x2 x3 hf
    have hf : (none : Option (Int32)) = some z := hf
    cases hf
  | succ k hg4 =>
    intro x2 x3 hf H locs ls hP hD hS hl
    have hf : fX3_canSay_b4 N p0 p1 (fX3_canSay_l4 N p0 p1 k) x2 x3 = some z := hf
    unfold fX3_canSay_b4 at hf
    refine lv_iload_n (pc := 4) hx hb dX3_canSay_4 rfl (lv_at hl 2 rfl) ?_
    refine lv_iconst (v := (5 : Int32)) (pc := 5) hx hb dX3_canSay_5 (by decide) ?_
    refine lv_icmp_ge (tgt := 40) (pc := 6) hx hb dX3_canSay_6 (by decide) (fun c1 => ?_) (fun c1 => ?_)
    · have hf := pt_t c1 hf
      refine lv_iconst (v := (1 : Int32)) (pc := 40) hx hb dX3_canSay_40 (by decide) ?_
      cases hf
      exact ret_z C (Or.inr rfl) hP hD hS dX3_canSay_41
    · have hf := pt_f c1 hf
      refine lv_iload_n (pc := 9) hx hb dX3_canSay_9 rfl (lv_at hl 0 rfl) ?_
      refine lv_iload_n (pc := 10) hx hb dX3_canSay_10 rfl (lv_at hl 1 rfl) ?_
      refine lv_bipush (v := (10 : Int32)) (pc := 11) hx hb dX3_canSay_11 (by decide) ?_
      refine lv_irem (pc := 13) hx hb dX3_canSay_13 (by decide) ?_
      refine lv_ishr (pc := 14) hx hb dX3_canSay_14 ?_
      refine lv_iconst (v := (1 : Int32)) (pc := 15) hx hb dX3_canSay_15 (by decide) ?_
      refine lv_iand (pc := 16) hx hb dX3_canSay_16 ?_
      refine lv_iconst (v := (1 : Int32)) (pc := 17) hx hb dX3_canSay_17 (by decide) ?_
      refine lv_icmp_ne (tgt := 23) (pc := 18) hx hb dX3_canSay_18 (by decide) (fun c2 => ?_) (fun c2 => ?_)
      · have hf := pt_f c2 hf
        refine lv_iload_n (pc := 23) hx hb dX3_canSay_23 rfl (lv_at hl 1 rfl) ?_
        refine lv_bipush (v := (10 : Int32)) (pc := 24) hx hb dX3_canSay_24 (by decide) ?_
        refine lv_idiv (pc := 26) hx hb dX3_canSay_26 (by decide) ?_
        refine lv_istore_n (lv' := [(2, .int ((x2 / (10 : Int32)))), (0, .int p0), (3, .int x3)]) (pc := 27) hx hb dX3_canSay_27 rfl hl (by decide) rfl (fun ls hl => ?_)
        refine lv_iload_n (pc := 28) hx hb dX3_canSay_28 rfl (lv_at hl 0 rfl) ?_
        refine lv_if_ne (tgt := 34) (pc := 29) hx hb dX3_canSay_29 (by decide) (fun c3 => ?_) (fun c3 => ?_)
        · have hf := pt_f c3 hf
          refine lv_iinc (v := (x3 + 1)) (lv' := [(3, .int ((x3 + 1))), (2, .int ((x2 / (10 : Int32)))), (0, .int p0)]) (pc := 34) hx hb dX3_canSay_34 hl (k := 2) rfl (by rfl) (by decide) rfl (fun ls hl => ?_)
          refine lv_goto (tgt := 4) (pc := 37) hx hb dX3_canSay_37 (by decide) ?_
          exact hg4 ((x2 / (10 : Int32))) ((x3 + 1)) hf _ _ _ hP hD hS (lv_sub hl [2, 1, 0] rfl)
        · have hf := pt_t c3 hf
          refine lv_iconst (v := (1 : Int32)) (pc := 32) hx hb dX3_canSay_32 (by decide) ?_
          cases hf
          exact ret_z C (Or.inr rfl) hP hD hS dX3_canSay_33
      · have hf := pt_t c2 hf
        refine lv_iconst (v := (0 : Int32)) (pc := 21) hx hb dX3_canSay_21 (by decide) ?_
        cases hf
        exact ret_z C (Or.inl rfl) hP hD hS dX3_canSay_22
set_option maxRecDepth 100000 in
set_option maxHeartbeats 4000000 in
theorem wX3_canSay (C : Cx p s m args meth c D cA cX3_canSay 4 RX3 (some .boolean)) (hA : ∀ q : Nat, s.heap.size ≤ q → A q) {N : Nat} {z : Int32} {p0 : Int32} {p1 : Int32} (hf : fX3_canSay N p0 p1 = some z) {H : Heap} {locs : List Loc} {ls : Array Slot} (hP : va_P D vwCl ([] : va_W) H) (hD : va_D A ([] : va_W)) (hS : va_S A s.heap H locs) (hl : lv_has ls 4 [(0, .int p0), (1, .int p1)]) : W p l e (rmU 0 0 0 0) s m args below meth c H locs 0 0 (MQ below (QI D A z ([] : va_W)) args s 0 0 A) (F0 m 0 ls []) := by
  obtain ⟨hx, hb, hml, hown, hts, hK, hN, hr, hlk⟩ := id C
  unfold fX3_canSay at hf
  refine lv_iload_n (pc := 0) hx hb dX3_canSay_0 rfl (lv_at hl 1 rfl) ?_
  refine lv_istore_n (lv' := [(2, .int p1), (0, .int p0), (1, .int p1)]) (pc := 1) hx hb dX3_canSay_1 rfl hl (by decide) rfl (fun ls hl => ?_)
  refine lv_iconst (v := (0 : Int32)) (pc := 2) hx hb dX3_canSay_2 (by decide) ?_
  refine lv_istore_n (lv' := [(3, .int ((0 : Int32))), (2, .int p1), (0, .int p0), (1, .int p1)]) (pc := 3) hx hb dX3_canSay_3 rfl hl (by decide) rfl (fun ls hl => ?_)
  exact wX3_canSay_4 C hA  _ p1 ((0 : Int32)) hf _ _ _ hP hD hS (lv_sub hl [2, 1, 0] rfl)
set_option maxRecDepth 100000 in
set_option maxHeartbeats 4000000 in
theorem kX3_canSay (l : Launch) (D : va_G) (cA : Nat → ClassId) {N : Nat} {p0 : Int32} {p1 : Int32} {z : Int32} (hf : fX3_canSay N p0 p1 = some z) : CtI l yX3_canSay cX3_canSay 4 (some .boolean) 0 0 D cA ([] : va_W) ([] : va_W) [.int p0, .int p1] z := by
  intro sz
  refine Met.ofW (cc := cX3_canSay) (maxL := 4) (ret := (some .boolean)) (by decide) rfl ?_
  intro p e s m args below meth c s₁ B hml hv
  obtain ⟨rfl, hsz, hP, hK, hD0⟩ := hv
  subst hsz
  have C : Cx p s m _ meth c D cA cX3_canSay 4 RX3 (some .boolean) := Cx.of B hml hK
  have hD := hD0.self (sz := s.heap.size)
  have hA : ∀ q : Nat, s.heap.size ≤ q → va_A ([] : va_W) s.heap.size q := fun q h => Or.inr h
  have hS : va_S (va_A ([] : va_W) s.heap.size) s.heap s.heap [] := va_S.rf
  have hl := lv_entry ([.int p0, .int p1]) (n := 4) (Nat.le_of_ble_eq_true rfl)
  rw [lg_entry_eq]
  generalize (lg_sl ([.int p0, .int p1]) ++ List.replicate (4 - (lg_sl ([.int p0, .int p1])).length) Slot.unset).toArray = ls at hl ⊢
  exact wX3_canSay C hA hf hP hD hS hl
theorem lk_RX3_23 : LkS RX3 23 yJ6_bitCount_0f7a4 cJ6_bitCount_0f7a4 1 (some .int) 1 := ⟨⟨by decide +kernel, by decide +kernel, by decide +kernel, by decide +kernel, by decide +kernel, by decide +kernel⟩, by decide +kernel⟩
def fX3_workingUpTo (N : Nat) (p0 : Int32) (p1 : Int32) : Option (Int32) :=
  Option.bind (fJ6_bitCount_0f7a4 N (((p0 ^^^ (-1 : Int32)) &&& (((2 : Int32) <<< (p1 &&& 31)) - (1 : Int32))))) (fun q1 => some q1)
set_option maxRecDepth 100000 in
set_option maxHeartbeats 4000000 in
theorem wX3_workingUpTo (C : Cx p s m args meth c D cA cX3_workingUpTo 2 RX3 (some .int)) (hA : ∀ q : Nat, s.heap.size ≤ q → A q) {N : Nat} {z : Int32} {p0 : Int32} {p1 : Int32} (hf : fX3_workingUpTo N p0 p1 = some z) {H : Heap} {locs : List Loc} {ls : Array Slot} (hP : va_P D vwCl ([] : va_W) H) (hD : va_D A ([] : va_W)) (hS : va_S A s.heap H locs) (hl : lv_has ls 2 [(0, .int p0), (1, .int p1)]) : W p l e (rmU 1 20 0 0) s m args below meth c H locs 0 0 (MQ below (QI D A z ([] : va_W)) args s 0 0 A) (F0 m 0 ls []) := by
  obtain ⟨hx, hb, hml, hown, hts, hK, hN, hr, hlk⟩ := id C
  unfold fX3_workingUpTo at hf
  refine lv_iload_n (pc := 0) hx hb dX3_workingUpTo_0 rfl (lv_at hl 0 rfl) ?_
  refine lv_iconst (v := (-1 : Int32)) (pc := 1) hx hb dX3_workingUpTo_1 (by decide) ?_
  refine lv_ixor (pc := 2) hx hb dX3_workingUpTo_2 ?_
  refine lv_iconst (v := (2 : Int32)) (pc := 3) hx hb dX3_workingUpTo_3 (by decide) ?_
  refine lv_iload_n (pc := 4) hx hb dX3_workingUpTo_4 rfl (lv_at hl 1 rfl) ?_
  refine lv_ishl (pc := 5) hx hb dX3_workingUpTo_5 ?_
  refine lv_iconst (v := (1 : Int32)) (pc := 6) hx hb dX3_workingUpTo_6 (by decide) ?_
  refine lv_isub (pc := 7) hx hb dX3_workingUpTo_7 ?_
  refine lv_iand (pc := 8) hx hb dX3_workingUpTo_8 ?_
  obtain ⟨q1, hq1, hf⟩ := pt_b hf
  refine all_i (runU_S (pc := 9) (As := [.int (((p0 ^^^ (-1 : Int32)) &&& (((2 : Int32) <<< (p1 &&& 31)) - (1 : Int32))))]) (rest := []) C lk_RX3_23 (kJ6_bitCount_0f7a4 l D cA hq1 H.size) ⟨Nat.le_of_ble_eq_true rfl, Nat.le_of_ble_eq_true rfl⟩ ⟨Nat.le_refl _, Nat.le_refl _⟩ hP hD hl.1 rfl (Nat.le_of_ble_eq_true rfl) dX3_workingUpTo_9) hD hS hA (fun H locs hP hD hS => ?_)
  cases hf
  exact ret_i C hP hD hS dX3_workingUpTo_12
set_option maxRecDepth 100000 in
set_option maxHeartbeats 4000000 in
theorem kX3_workingUpTo (l : Launch) (D : va_G) (cA : Nat → ClassId) {N : Nat} {p0 : Int32} {p1 : Int32} {z : Int32} (hf : fX3_workingUpTo N p0 p1 = some z) : CtI l yX3_workingUpTo cX3_workingUpTo 2 (some .int) 1 20 D cA ([] : va_W) ([] : va_W) [.int p0, .int p1] z := by
  intro sz
  refine Met.ofW (cc := cX3_workingUpTo) (maxL := 2) (ret := (some .int)) (by decide) rfl ?_
  intro p e s m args below meth c s₁ B hml hv
  obtain ⟨rfl, hsz, hP, hK, hD0⟩ := hv
  subst hsz
  have C : Cx p s m _ meth c D cA cX3_workingUpTo 2 RX3 (some .int) := Cx.of B hml hK
  have hD := hD0.self (sz := s.heap.size)
  have hA : ∀ q : Nat, s.heap.size ≤ q → va_A ([] : va_W) s.heap.size q := fun q h => Or.inr h
  have hS : va_S (va_A ([] : va_W) s.heap.size) s.heap s.heap [] := va_S.rf
  have hl := lv_entry ([.int p0, .int p1]) (n := 2) (Nat.le_of_ble_eq_true rfl)
  rw [lg_entry_eq]
  generalize (lg_sl ([.int p0, .int p1]) ++ List.replicate (2 - (lg_sl ([.int p0, .int p1])).length) Slot.unset).toArray = ls at hl ⊢
  exact wX3_workingUpTo C hA hf hP hD hS hl
theorem lk_RX3_11 : LkS RX3 11 yX3_workingUpTo cX3_workingUpTo 2 (some .int) 2 := ⟨⟨by decide +kernel, by decide +kernel, by decide +kernel, by decide +kernel, by decide +kernel, by decide +kernel⟩, by decide +kernel⟩
theorem lk_RX3_19 : LkS RX3 19 yX3_canSay cX3_canSay 4 (some .boolean) 2 := ⟨⟨by decide +kernel, by decide +kernel, by decide +kernel, by decide +kernel, by decide +kernel, by decide +kernel⟩, by decide +kernel⟩
theorem lk_RX3_15 : LkS RX3 15 yX3_lengthOf cX3_lengthOf 1 (some .int) 1 := ⟨⟨by decide +kernel, by decide +kernel, by decide +kernel, by decide +kernel, by decide +kernel, by decide +kernel⟩, by decide +kernel⟩
def fX3_sayable_j86 (N : Nat) (p0 : Int32) (p1 : Int32) (g58 : Int32 × Int32 × Int32 × Int32 → Option (Int32)) (x2 : Int32) (x3 : Int32) (x4 : Int32) (x5 : Int32) (y0 : Int32) : Option (Int32) :=
  if ¬ x4 = 0 then (Option.bind (fX3_workingUpTo N p0 (((p1 / x4) - (p1 / x4) / (10 : Int32) * (10 : Int32)))) (fun q2 => nm (((x2 + (((x5 - y0) - x3) * x2)) + (y0 * q2))) (fun v3 => g58 ((x2, x3, (x4 / (10 : Int32)), v3))))) else none
def fX3_sayable_b58 (N : Nat) (p0 : Int32) (p1 : Int32) (g58 : Int32 × Int32 × Int32 × Int32 → Option (Int32)) (x2 : Int32) (x3 : Int32) (x4 : Int32) (x5 : Int32) : Option (Int32) :=
  if x4 ≤ 0 then (some x5) else (if ¬ x4 = 0 then (Option.bind (fX3_canSay N p0 (((p1 / x4) / (10 : Int32)))) (fun q3 => if q3 = 0 then (fX3_sayable_j86 N p0 p1 g58 x2 x3 x4 x5 ((0 : Int32))) else (fX3_sayable_j86 N p0 p1 g58 x2 x3 x4 x5 ((1 : Int32))))) else none)
def fX3_sayable_l58 (N : Nat) (p0 : Int32) (p1 : Int32) (k : Nat) (q : Int32 × Int32 × Int32 × Int32) : Option (Int32) := lpN (fun g q => fX3_sayable_b58 N p0 p1 g q.1 q.2.1 q.2.2.1 q.2.2.2) k q
def fX3_sayable_j41 (N : Nat) (p0 : Int32) (p1 : Int32) (x2 : Int32) (x3 : Int32) (x4 : Int32) : Option (Int32) :=
  if ¬ x4 = 0 then (Option.bind (fX3_workingUpTo N p0 ((p1 / x4))) (fun q2 => fX3_sayable_l58 N p0 p1 N ((x2, x3, (x4 / (10 : Int32)), q2)))) else none
def fX3_sayable_b22 (N : Nat) (p0 : Int32) (p1 : Int32) (g22 : Int32 × Int32 × Int32 × Int32 → Option (Int32)) (x2 : Int32) (x3 : Int32) (x4 : Int32) (x5 : Int32) : Option (Int32) :=
  if x5 ≤ (1 : Int32) then (fX3_sayable_j41 N p0 p1 x2 x3 x4) else (g22 ((x2, x3, (x4 * (10 : Int32)), (x5 + (-1)))))
def fX3_sayable_l22 (N : Nat) (p0 : Int32) (p1 : Int32) (k : Nat) (q : Int32 × Int32 × Int32 × Int32) : Option (Int32) := lpN (fun g q => fX3_sayable_b22 N p0 p1 g q.1 q.2.1 q.2.2.1 q.2.2.2) k q
def fX3_sayable (N : Nat) (p0 : Int32) (p1 : Int32) : Option (Int32) :=
  Option.bind (fX3_workingUpTo N p0 ((9 : Int32))) (fun q1 => Option.bind (fX3_workingUpTo N p0 ((0 : Int32))) (fun q2 => Option.bind (fX3_lengthOf N p1) (fun q3 => fX3_sayable_l22 N p0 p1 N ((q1, q2, (1 : Int32), q3)))))
set_option maxRecDepth 100000 in
set_option maxHeartbeats 4000000 in
theorem wX3_sayable_86 (C : Cx p s m args meth c D cA cX3_sayable 9 RX3 (some .int)) (hA : ∀ q : Nat, s.heap.size ≤ q → A q) {N : Nat} {z : Int32} {p0 : Int32} {p1 : Int32} {g58 : Int32 × Int32 × Int32 × Int32 → Option (Int32)} (hg58 : ∀ (x2 : Int32) (x3 : Int32) (x4 : Int32) (x5 : Int32), g58 (x2, x3, x4, x5) = some z → ∀ (H : Heap) (locs : List Loc) (ls : Array Slot), va_P D vwCl ([] : va_W) H → va_D A ([] : va_W) → va_S A s.heap H locs → lv_has ls 9 [(0, .int p0), (1, .int p1), (2, .int x2), (3, .int x3), (4, .int x4), (5, .int x5)] → W p l e (rmU 2 41 0 0) s m args below meth c H locs 0 0 (MQ below (QI D A z ([] : va_W)) args s 0 0 A) (F0 m 58 ls [])) {x2 : Int32} {x3 : Int32} {x4 : Int32} {x5 : Int32} {y0 : Int32} (hf : fX3_sayable_j86 N p0 p1 g58 x2 x3 x4 x5 y0 = some z) {H : Heap} {locs : List Loc} {ls : Array Slot} (hP : va_P D vwCl ([] : va_W) H) (hD : va_D A ([] : va_W)) (hS : va_S A s.heap H locs) (hl : lv_has ls 9 [(0, .int p0), (1, .int p1), (2, .int x2), (3, .int x3), (4, .int x4), (5, .int x5)]) : W p l e (rmU 2 41 0 0) s m args below meth c H locs 0 0 (MQ below (QI D A z ([] : va_W)) args s 0 0 A) (F0 m 86 ls [.int y0]) := by
  obtain ⟨hx, hb, hml, hown, hts, hK, hN, hr, hlk⟩ := id C
  unfold fX3_sayable_j86 at hf
  refine lv_istore (lv' := [(7, .int y0), (0, .int p0), (1, .int p1), (2, .int x2), (3, .int x3), (4, .int x4), (5, .int x5)]) (pc := 86) hx hb dX3_sayable_86 hl (by decide) rfl (fun ls hl => ?_)
  refine lv_iload (pc := 88) hx hb dX3_sayable_88 (lv_at hl 6 rfl) ?_
  refine lv_iload (pc := 90) hx hb dX3_sayable_90 (lv_at hl 0 rfl) ?_
  refine lv_isub (pc := 92) hx hb dX3_sayable_92 ?_
  refine lv_iload_n (pc := 93) hx hb dX3_sayable_93 rfl (lv_at hl 4 rfl) ?_
  refine lv_isub (pc := 94) hx hb dX3_sayable_94 ?_
  refine lv_istore (lv' := [(8, .int (((x5 - y0) - x3))), (7, .int y0), (0, .int p0), (1, .int p1), (2, .int x2), (3, .int x3), (4, .int x4), (5, .int x5)]) (pc := 95) hx hb dX3_sayable_95 hl (by decide) rfl (fun ls hl => ?_)
  refine lv_iload_n (pc := 97) hx hb dX3_sayable_97 rfl (lv_at hl 4 rfl) ?_
  refine lv_iload (pc := 98) hx hb dX3_sayable_98 (lv_at hl 0 rfl) ?_
  refine lv_iload_n (pc := 100) hx hb dX3_sayable_100 rfl (lv_at hl 4 rfl) ?_
  refine lv_imul (pc := 101) hx hb dX3_sayable_101 ?_
  refine lv_iadd (pc := 102) hx hb dX3_sayable_102 ?_
  refine lv_iload (pc := 103) hx hb dX3_sayable_103 (lv_at hl 1 rfl) ?_
  refine lv_iload_n (pc := 105) hx hb dX3_sayable_105 rfl (lv_at hl 2 rfl) ?_
  refine lv_iload_n (pc := 106) hx hb dX3_sayable_106 rfl (lv_at hl 3 rfl) ?_
  refine lv_iload (pc := 107) hx hb dX3_sayable_107 (lv_at hl 6 rfl) ?_
  obtain ⟨h1, hf⟩ := pt_g hf
  refine lv_idiv (pc := 109) hx hb dX3_sayable_109 h1 ?_
  refine lv_bipush (v := (10 : Int32)) (pc := 110) hx hb dX3_sayable_110 (by decide) ?_
  refine lv_irem (pc := 112) hx hb dX3_sayable_112 (by decide) ?_
  obtain ⟨q2, hq2, hf⟩ := pt_b hf
  refine all_i (runU_S (pc := 113) (As := [.int p0, .int (((p1 / x4) - (p1 / x4) / (10 : Int32) * (10 : Int32)))]) (rest := [.int y0, .int ((x2 + (((x5 - y0) - x3) * x2)))]) C lk_RX3_11 (kX3_workingUpTo l D cA hq2 H.size) ⟨Nat.le_of_ble_eq_true rfl, Nat.le_of_ble_eq_true rfl⟩ ⟨Nat.le_refl _, Nat.le_refl _⟩ hP hD hl.1 rfl (Nat.le_of_ble_eq_true rfl) dX3_sayable_113) hD hS hA (fun H locs hP hD hS => ?_)
  refine lv_imul (pc := 116) hx hb dX3_sayable_116 ?_
  refine lv_iadd (pc := 117) hx hb dX3_sayable_117 ?_
  refine lv_topi (fun v3 ev3 => ?_)
  have hf := pt_n ev3 hf
  refine lv_istore (lv' := [(5, .int v3), (8, .int (((x5 - y0) - x3))), (7, .int y0), (0, .int p0), (1, .int p1), (2, .int x2), (3, .int x3), (4, .int x4)]) (pc := 118) hx hb dX3_sayable_118 hl (by decide) rfl (fun ls hl => ?_)
  refine lv_iload (pc := 120) hx hb dX3_sayable_120 (lv_at hl 7 rfl) ?_
  refine lv_bipush (v := (10 : Int32)) (pc := 122) hx hb dX3_sayable_122 (by decide) ?_
  refine lv_idiv (pc := 124) hx hb dX3_sayable_124 (by decide) ?_
  refine lv_istore (lv' := [(4, .int ((x4 / (10 : Int32)))), (5, .int v3), (8, .int (((x5 - y0) - x3))), (7, .int y0), (0, .int p0), (1, .int p1), (2, .int x2), (3, .int x3)]) (pc := 125) hx hb dX3_sayable_125 hl (by decide) rfl (fun ls hl => ?_)
  refine lv_goto (tgt := 58) (pc := 127) hx hb dX3_sayable_127 (by decide) ?_
  exact hg58 x2 x3 ((x4 / (10 : Int32))) v3 hf _ _ _ hP hD hS (lv_sub hl [4, 5, 6, 7, 0, 1] rfl)
set_option maxRecDepth 100000 in
set_option maxHeartbeats 4000000 in
theorem wX3_sayable_58 (C : Cx p s m args meth c D cA cX3_sayable 9 RX3 (some .int)) (hA : ∀ q : Nat, s.heap.size ≤ q → A q) {N : Nat} {z : Int32} {p0 : Int32} {p1 : Int32} : ∀ (k : Nat) (x2 : Int32) (x3 : Int32) (x4 : Int32) (x5 : Int32), fX3_sayable_l58 N p0 p1 k (x2, x3, x4, x5) = some z → ∀ (H : Heap) (locs : List Loc) (ls : Array Slot), va_P D vwCl ([] : va_W) H → va_D A ([] : va_W) → va_S A s.heap H locs → lv_has ls 9 [(0, .int p0), (1, .int p1), (2, .int x2), (3, .int x3), (4, .int x4), (5, .int x5)] → W p l e (rmU 2 41 0 0) s m args below meth c H locs 0 0 (MQ below (QI D A z ([] : va_W)) args s 0 0 A) (F0 m 58 ls []) := by
  obtain ⟨hx, hb, hml, hown, hts, hK, hN, hr, hlk⟩ := id C
  intro k
  induction k with
  | zero =>
    intro x2 x3 x4 x5 hf
    have hf : (none : Option (Int32)) = some z := hf
    cases hf
  | succ k hg58 =>
    intro x2 x3 x4 x5 hf H locs ls hP hD hS hl
    have hf : fX3_sayable_b58 N p0 p1 (fX3_sayable_l58 N p0 p1 k) x2 x3 x4 x5 = some z := hf
    unfold fX3_sayable_b58 at hf
    refine lv_iload (pc := 58) hx hb dX3_sayable_58 (lv_at hl 4 rfl) ?_
    refine lv_if_le (tgt := 130) (pc := 60) hx hb dX3_sayable_60 (by decide) (fun c1 => ?_) (fun c1 => ?_)
    · have hf := pt_t c1 hf
      refine lv_iload (pc := 130) hx hb dX3_sayable_130 (lv_at hl 5 rfl) ?_
      cases hf
      exact ret_i C hP hD hS dX3_sayable_132
    · have hf := pt_f c1 hf
      refine lv_iload_n (pc := 63) hx hb dX3_sayable_63 rfl (lv_at hl 1 rfl) ?_
      refine lv_iload (pc := 64) hx hb dX3_sayable_64 (lv_at hl 4 rfl) ?_
      obtain ⟨h2, hf⟩ := pt_g hf
      refine lv_idiv (pc := 66) hx hb dX3_sayable_66 h2 ?_
      refine lv_bipush (v := (10 : Int32)) (pc := 67) hx hb dX3_sayable_67 (by decide) ?_
      refine lv_idiv (pc := 69) hx hb dX3_sayable_69 (by decide) ?_
      refine lv_istore (lv' := [(6, .int (((p1 / x4) / (10 : Int32)))), (0, .int p0), (1, .int p1), (2, .int x2), (3, .int x3), (4, .int x4), (5, .int x5)]) (pc := 70) hx hb dX3_sayable_70 hl (by decide) rfl (fun ls hl => ?_)
      refine lv_iload_n (pc := 72) hx hb dX3_sayable_72 rfl (lv_at hl 1 rfl) ?_
      refine lv_iload (pc := 73) hx hb dX3_sayable_73 (lv_at hl 0 rfl) ?_
      obtain ⟨q3, hq3, hf⟩ := pt_b hf
      refine all_i (runU_S (pc := 75) (As := [.int p0, .int (((p1 / x4) / (10 : Int32)))]) (rest := []) C lk_RX3_19 (kX3_canSay l D cA hq3 H.size) ⟨Nat.le_of_ble_eq_true rfl, Nat.le_of_ble_eq_true rfl⟩ ⟨Nat.le_refl _, Nat.le_refl _⟩ hP hD hl.1 rfl (Nat.le_of_ble_eq_true rfl) dX3_sayable_75) hD hS hA (fun H locs hP hD hS => ?_)
      refine lv_if_eq (tgt := 85) (pc := 78) hx hb dX3_sayable_78 (by decide) (fun c4 => ?_) (fun c4 => ?_)
      · have hf := pt_t c4 hf
        refine lv_iconst (v := (0 : Int32)) (pc := 85) hx hb dX3_sayable_85 (by decide) ?_
        exact wX3_sayable_86 C hA hg58 hf hP hD hS (lv_sub hl [1, 2, 3, 4, 5, 6] rfl)
      · have hf := pt_f c4 hf
        refine lv_iconst (v := (1 : Int32)) (pc := 81) hx hb dX3_sayable_81 (by decide) ?_
        refine lv_goto (tgt := 86) (pc := 82) hx hb dX3_sayable_82 (by decide) ?_
        exact wX3_sayable_86 C hA hg58 hf hP hD hS (lv_sub hl [1, 2, 3, 4, 5, 6] rfl)
set_option maxRecDepth 100000 in
set_option maxHeartbeats 4000000 in
theorem wX3_sayable_41 (C : Cx p s m args meth c D cA cX3_sayable 9 RX3 (some .int)) (hA : ∀ q : Nat, s.heap.size ≤ q → A q) {N : Nat} {z : Int32} {p0 : Int32} {p1 : Int32} {x2 : Int32} {x3 : Int32} {x4 : Int32} (hf : fX3_sayable_j41 N p0 p1 x2 x3 x4 = some z) {H : Heap} {locs : List Loc} {ls : Array Slot} (hP : va_P D vwCl ([] : va_W) H) (hD : va_D A ([] : va_W)) (hS : va_S A s.heap H locs) (hl : lv_has ls 9 [(0, .int p0), (1, .int p1), (2, .int x2), (3, .int x3), (4, .int x4)]) : W p l e (rmU 2 41 0 0) s m args below meth c H locs 0 0 (MQ below (QI D A z ([] : va_W)) args s 0 0 A) (F0 m 41 ls []) := by
  obtain ⟨hx, hb, hml, hown, hts, hK, hN, hr, hlk⟩ := id C
  unfold fX3_sayable_j41 at hf
  refine lv_iload_n (pc := 41) hx hb dX3_sayable_41 rfl (lv_at hl 0 rfl) ?_
  refine lv_iload_n (pc := 42) hx hb dX3_sayable_42 rfl (lv_at hl 1 rfl) ?_
  refine lv_iload (pc := 43) hx hb dX3_sayable_43 (lv_at hl 4 rfl) ?_
  obtain ⟨h1, hf⟩ := pt_g hf
  refine lv_idiv (pc := 45) hx hb dX3_sayable_45 h1 ?_
  obtain ⟨q2, hq2, hf⟩ := pt_b hf
  refine all_i (runU_S (pc := 46) (As := [.int p0, .int ((p1 / x4))]) (rest := []) C lk_RX3_11 (kX3_workingUpTo l D cA hq2 H.size) ⟨Nat.le_of_ble_eq_true rfl, Nat.le_of_ble_eq_true rfl⟩ ⟨Nat.le_refl _, Nat.le_refl _⟩ hP hD hl.1 rfl (Nat.le_of_ble_eq_true rfl) dX3_sayable_46) hD hS hA (fun H locs hP hD hS => ?_)
  refine lv_istore (lv' := [(5, .int q2), (0, .int p0), (1, .int p1), (2, .int x2), (3, .int x3), (4, .int x4)]) (pc := 49) hx hb dX3_sayable_49 hl (by decide) rfl (fun ls hl => ?_)
  refine lv_iload (pc := 51) hx hb dX3_sayable_51 (lv_at hl 5 rfl) ?_
  refine lv_bipush (v := (10 : Int32)) (pc := 53) hx hb dX3_sayable_53 (by decide) ?_
  refine lv_idiv (pc := 55) hx hb dX3_sayable_55 (by decide) ?_
  refine lv_istore (lv' := [(4, .int ((x4 / (10 : Int32)))), (5, .int q2), (0, .int p0), (1, .int p1), (2, .int x2), (3, .int x3)]) (pc := 56) hx hb dX3_sayable_56 hl (by decide) rfl (fun ls hl => ?_)
  exact wX3_sayable_58 C hA  _ x2 x3 ((x4 / (10 : Int32))) q2 hf _ _ _ hP hD hS (lv_sub hl [2, 3, 4, 5, 0, 1] rfl)
set_option maxRecDepth 100000 in
set_option maxHeartbeats 4000000 in
theorem wX3_sayable_22 (C : Cx p s m args meth c D cA cX3_sayable 9 RX3 (some .int)) (hA : ∀ q : Nat, s.heap.size ≤ q → A q) {N : Nat} {z : Int32} {p0 : Int32} {p1 : Int32} : ∀ (k : Nat) (x2 : Int32) (x3 : Int32) (x4 : Int32) (x5 : Int32), fX3_sayable_l22 N p0 p1 k (x2, x3, x4, x5) = some z → ∀ (H : Heap) (locs : List Loc) (ls : Array Slot), va_P D vwCl ([] : va_W) H → va_D A ([] : va_W) → va_S A s.heap H locs → lv_has ls 9 [(0, .int p0), (1, .int p1), (2, .int x2), (3, .int x3), (4, .int x4), (5, .int x5)] → W p l e (rmU 2 41 0 0) s m args below meth c H locs 0 0 (MQ below (QI D A z ([] : va_W)) args s 0 0 A) (F0 m 22 ls []) := by
  obtain ⟨hx, hb, hml, hown, hts, hK, hN, hr, hlk⟩ := id C
  intro k
  induction k with
  | zero =>
    intro x2 x3 x4 x5 hf
    have hf : (none : Option (Int32)) = some z := hf
    cases hf
  | succ k hg22 =>
    intro x2 x3 x4 x5 hf H locs ls hP hD hS hl
    have hf : fX3_sayable_b22 N p0 p1 (fX3_sayable_l22 N p0 p1 k) x2 x3 x4 x5 = some z := hf
    unfold fX3_sayable_b22 at hf
    refine lv_iload (pc := 22) hx hb dX3_sayable_22 (lv_at hl 5 rfl) ?_
    refine lv_iconst (v := (1 : Int32)) (pc := 24) hx hb dX3_sayable_24 (by decide) ?_
    refine lv_icmp_le (tgt := 41) (pc := 25) hx hb dX3_sayable_25 (by decide) (fun c1 => ?_) (fun c1 => ?_)
    · have hf := pt_t c1 hf
      exact wX3_sayable_41 C hA  hf hP hD hS (lv_sub hl [0, 1, 2, 3, 4] rfl)
    · have hf := pt_f c1 hf
      refine lv_iload (pc := 28) hx hb dX3_sayable_28 (lv_at hl 4 rfl) ?_
      refine lv_bipush (v := (10 : Int32)) (pc := 30) hx hb dX3_sayable_30 (by decide) ?_
      refine lv_imul (pc := 32) hx hb dX3_sayable_32 ?_
      refine lv_istore (lv' := [(4, .int ((x4 * (10 : Int32)))), (0, .int p0), (1, .int p1), (2, .int x2), (3, .int x3), (5, .int x5)]) (pc := 33) hx hb dX3_sayable_33 hl (by decide) rfl (fun ls hl => ?_)
      refine lv_iinc (v := (x5 + (-1))) (lv' := [(5, .int ((x5 + (-1)))), (4, .int ((x4 * (10 : Int32)))), (0, .int p0), (1, .int p1), (2, .int x2), (3, .int x3)]) (pc := 35) hx hb dX3_sayable_35 hl (k := 5) rfl (by rfl) (by decide) rfl (fun ls hl => ?_)
      refine lv_goto (tgt := 22) (pc := 38) hx hb dX3_sayable_38 (by decide) ?_
      exact hg22 x2 x3 ((x4 * (10 : Int32))) ((x5 + (-1))) hf _ _ _ hP hD hS (lv_sub hl [2, 3, 4, 5, 1, 0] rfl)
set_option maxRecDepth 100000 in
set_option maxHeartbeats 4000000 in
theorem wX3_sayable (C : Cx p s m args meth c D cA cX3_sayable 9 RX3 (some .int)) (hA : ∀ q : Nat, s.heap.size ≤ q → A q) {N : Nat} {z : Int32} {p0 : Int32} {p1 : Int32} (hf : fX3_sayable N p0 p1 = some z) {H : Heap} {locs : List Loc} {ls : Array Slot} (hP : va_P D vwCl ([] : va_W) H) (hD : va_D A ([] : va_W)) (hS : va_S A s.heap H locs) (hl : lv_has ls 9 [(0, .int p0), (1, .int p1)]) : W p l e (rmU 2 41 0 0) s m args below meth c H locs 0 0 (MQ below (QI D A z ([] : va_W)) args s 0 0 A) (F0 m 0 ls []) := by
  obtain ⟨hx, hb, hml, hown, hts, hK, hN, hr, hlk⟩ := id C
  unfold fX3_sayable at hf
  refine lv_iload_n (pc := 0) hx hb dX3_sayable_0 rfl (lv_at hl 0 rfl) ?_
  refine lv_bipush (v := (9 : Int32)) (pc := 1) hx hb dX3_sayable_1 (by decide) ?_
  obtain ⟨q1, hq1, hf⟩ := pt_b hf
  refine all_i (runU_S (pc := 3) (As := [.int p0, .int ((9 : Int32))]) (rest := []) C lk_RX3_11 (kX3_workingUpTo l D cA hq1 H.size) ⟨Nat.le_of_ble_eq_true rfl, Nat.le_of_ble_eq_true rfl⟩ ⟨Nat.le_refl _, Nat.le_refl _⟩ hP hD hl.1 rfl (Nat.le_of_ble_eq_true rfl) dX3_sayable_3) hD hS hA (fun H locs hP hD hS => ?_)
  refine lv_istore_n (lv' := [(2, .int q1), (0, .int p0), (1, .int p1)]) (pc := 6) hx hb dX3_sayable_6 rfl hl (by decide) rfl (fun ls hl => ?_)
  refine lv_iload_n (pc := 7) hx hb dX3_sayable_7 rfl (lv_at hl 1 rfl) ?_
  refine lv_iconst (v := (0 : Int32)) (pc := 8) hx hb dX3_sayable_8 (by decide) ?_
  obtain ⟨q2, hq2, hf⟩ := pt_b hf
  refine all_i (runU_S (pc := 9) (As := [.int p0, .int ((0 : Int32))]) (rest := []) C lk_RX3_11 (kX3_workingUpTo l D cA hq2 H.size) ⟨Nat.le_of_ble_eq_true rfl, Nat.le_of_ble_eq_true rfl⟩ ⟨Nat.le_refl _, Nat.le_refl _⟩ hP hD hl.1 rfl (Nat.le_of_ble_eq_true rfl) dX3_sayable_9) hD hS hA (fun H locs hP hD hS => ?_)
  refine lv_istore_n (lv' := [(3, .int q2), (2, .int q1), (0, .int p0), (1, .int p1)]) (pc := 12) hx hb dX3_sayable_12 rfl hl (by decide) rfl (fun ls hl => ?_)
  refine lv_iconst (v := (1 : Int32)) (pc := 13) hx hb dX3_sayable_13 (by decide) ?_
  refine lv_istore (lv' := [(4, .int ((1 : Int32))), (3, .int q2), (2, .int q1), (0, .int p0), (1, .int p1)]) (pc := 14) hx hb dX3_sayable_14 hl (by decide) rfl (fun ls hl => ?_)
  refine lv_iload_n (pc := 16) hx hb dX3_sayable_16 rfl (lv_at hl 4 rfl) ?_
  obtain ⟨q3, hq3, hf⟩ := pt_b hf
  refine all_i (runU_S (pc := 17) (As := [.int p1]) (rest := []) C lk_RX3_15 (kX3_lengthOf l D cA hq3 H.size) ⟨Nat.le_of_ble_eq_true rfl, Nat.le_of_ble_eq_true rfl⟩ ⟨Nat.le_refl _, Nat.le_refl _⟩ hP hD hl.1 rfl (Nat.le_of_ble_eq_true rfl) dX3_sayable_17) hD hS hA (fun H locs hP hD hS => ?_)
  refine lv_istore (lv' := [(5, .int q3), (4, .int ((1 : Int32))), (3, .int q2), (2, .int q1), (0, .int p0), (1, .int p1)]) (pc := 20) hx hb dX3_sayable_20 hl (by decide) rfl (fun ls hl => ?_)
  exact wX3_sayable_22 C hA  _ q1 q2 ((1 : Int32)) q3 hf _ _ _ hP hD hS (lv_sub hl [4, 5, 3, 2, 1, 0] rfl)
set_option maxRecDepth 100000 in
set_option maxHeartbeats 4000000 in
theorem kX3_sayable (l : Launch) (D : va_G) (cA : Nat → ClassId) {N : Nat} {p0 : Int32} {p1 : Int32} {z : Int32} (hf : fX3_sayable N p0 p1 = some z) : CtI l yX3_sayable cX3_sayable 9 (some .int) 2 41 D cA ([] : va_W) ([] : va_W) [.int p0, .int p1] z := by
  intro sz
  refine Met.ofW (cc := cX3_sayable) (maxL := 9) (ret := (some .int)) (by decide) rfl ?_
  intro p e s m args below meth c s₁ B hml hv
  obtain ⟨rfl, hsz, hP, hK, hD0⟩ := hv
  subst hsz
  have C : Cx p s m _ meth c D cA cX3_sayable 9 RX3 (some .int) := Cx.of B hml hK
  have hD := hD0.self (sz := s.heap.size)
  have hA : ∀ q : Nat, s.heap.size ≤ q → va_A ([] : va_W) s.heap.size q := fun q h => Or.inr h
  have hS : va_S (va_A ([] : va_W) s.heap.size) s.heap s.heap [] := va_S.rf
  have hl := lv_entry ([.int p0, .int p1]) (n := 9) (Nat.le_of_ble_eq_true rfl)
  rw [lg_entry_eq]
  generalize (lg_sl ([.int p0, .int p1]) ++ List.replicate (9 - (lg_sl ([.int p0, .int p1])).length) Slot.unset).toArray = ls at hl ⊢
  exact wX3_sayable C hA hf hP hD hS hl
theorem kc_RX3_29 : Cond.constant RX3 29 (99999) ∈ wsL_law := by decide +kernel
theorem lk_RX3_30 : LkS RX3 30 yX3_sayable cX3_sayable 9 (some .int) 2 := ⟨⟨by decide +kernel, by decide +kernel, by decide +kernel, by decide +kernel, by decide +kernel, by decide +kernel⟩, by decide +kernel⟩
theorem kc_RX3_28 : Cond.constant RX3 28 (65536) ∈ wsL_law := by decide +kernel
def fX3_atRank_j44 (N : Nat) (p0 : Int32) (p1 : Int32) (x2 : Int32) : Option (Int32) :=
  if (99999 : Int32) < x2 then (some ((-4 : Int32))) else (some x2)
def fX3_atRank_j37 (N : Nat) (p0 : Int32) (p1 : Int32) (g5 : Int32 × Int32 → Option (Int32)) (x2 : Int32) (x3 : Int32) : Option (Int32) :=
  g5 ((x2, (x3 / (2 : Int32))))
def fX3_atRank_b5 (N : Nat) (p0 : Int32) (p1 : Int32) (g5 : Int32 × Int32 → Option (Int32)) (x2 : Int32) (x3 : Int32) : Option (Int32) :=
  if x3 ≤ 0 then (fX3_atRank_j44 N p0 p1 x2) else (if (99999 : Int32) < ((x2 + x3) - (1 : Int32)) then (fX3_atRank_j37 N p0 p1 g5 x2 x3) else (Option.bind (fX3_sayable N p0 (((x2 + x3) - (1 : Int32)))) (fun q3 => if p1 < q3 then (fX3_atRank_j37 N p0 p1 g5 x2 x3) else (fX3_atRank_j37 N p0 p1 g5 ((x2 + x3)) x3))))
def fX3_atRank_l5 (N : Nat) (p0 : Int32) (p1 : Int32) (k : Nat) (q : Int32 × Int32) : Option (Int32) := lpN (fun g q => fX3_atRank_b5 N p0 p1 g q.1 q.2) k q
def fX3_atRank (N : Nat) (p0 : Int32) (p1 : Int32) : Option (Int32) :=
  fX3_atRank_l5 N p0 p1 N (((0 : Int32), (65536 : Int32)))
set_option maxRecDepth 100000 in
set_option maxHeartbeats 4000000 in
theorem wX3_atRank_44 (C : Cx p s m args meth c D cA cX3_atRank 5 RX3 (some .int)) (hA : ∀ q : Nat, s.heap.size ≤ q → A q) {N : Nat} {z : Int32} {p0 : Int32} {p1 : Int32} {x2 : Int32} (hf : fX3_atRank_j44 N p0 p1 x2 = some z) {H : Heap} {locs : List Loc} {ls : Array Slot} (hP : va_P D vwCl ([] : va_W) H) (hD : va_D A ([] : va_W)) (hS : va_S A s.heap H locs) (hl : lv_has ls 5 [(2, .int x2)]) : W p l e (rmU 3 69 0 0) s m args below meth c H locs 0 0 (MQ below (QI D A z ([] : va_W)) args s 0 0 A) (F0 m 44 ls []) := by
  obtain ⟨hx, hb, hml, hown, hts, hK, hN, hr, hlk⟩ := id C
  unfold fX3_atRank_j44 at hf
  refine lv_iload_n (pc := 44) hx hb dX3_atRank_44 rfl (lv_at hl 0 rfl) ?_
  refine lv_ldc (pc := 45) (v := (99999 : Int32)) hx hb hown (hts _ kc_RX3_29) dX3_atRank_45 ?_
  refine lv_icmp_gt (tgt := 54) (pc := 47) hx hb dX3_atRank_47 (by decide) (fun c1 => ?_) (fun c1 => ?_)
  · have hf := pt_t c1 hf
    refine lv_bipush (v := (-4 : Int32)) (pc := 54) hx hb dX3_atRank_54 (by decide) ?_
    cases hf
    exact ret_i C hP hD hS dX3_atRank_56
  · have hf := pt_f c1 hf
    refine lv_iload_n (pc := 50) hx hb dX3_atRank_50 rfl (lv_at hl 0 rfl) ?_
    refine lv_goto (tgt := 56) (pc := 51) hx hb dX3_atRank_51 (by decide) ?_
    cases hf
    exact ret_i C hP hD hS dX3_atRank_56
set_option maxRecDepth 100000 in
set_option maxHeartbeats 4000000 in
theorem wX3_atRank_37 (C : Cx p s m args meth c D cA cX3_atRank 5 RX3 (some .int)) (hA : ∀ q : Nat, s.heap.size ≤ q → A q) {N : Nat} {z : Int32} {p0 : Int32} {p1 : Int32} {g5 : Int32 × Int32 → Option (Int32)} (hg5 : ∀ (x2 : Int32) (x3 : Int32), g5 (x2, x3) = some z → ∀ (H : Heap) (locs : List Loc) (ls : Array Slot), va_P D vwCl ([] : va_W) H → va_D A ([] : va_W) → va_S A s.heap H locs → lv_has ls 5 [(0, .int p0), (1, .int p1), (2, .int x2), (3, .int x3)] → W p l e (rmU 3 69 0 0) s m args below meth c H locs 0 0 (MQ below (QI D A z ([] : va_W)) args s 0 0 A) (F0 m 5 ls [])) {x2 : Int32} {x3 : Int32} (hf : fX3_atRank_j37 N p0 p1 g5 x2 x3 = some z) {H : Heap} {locs : List Loc} {ls : Array Slot} (hP : va_P D vwCl ([] : va_W) H) (hD : va_D A ([] : va_W)) (hS : va_S A s.heap H locs) (hl : lv_has ls 5 [(0, .int p0), (1, .int p1), (2, .int x2), (3, .int x3)]) : W p l e (rmU 3 69 0 0) s m args below meth c H locs 0 0 (MQ below (QI D A z ([] : va_W)) args s 0 0 A) (F0 m 37 ls []) := by
  obtain ⟨hx, hb, hml, hown, hts, hK, hN, hr, hlk⟩ := id C
  unfold fX3_atRank_j37 at hf
  refine lv_iload_n (pc := 37) hx hb dX3_atRank_37 rfl (lv_at hl 3 rfl) ?_
  refine lv_iconst (v := (2 : Int32)) (pc := 38) hx hb dX3_atRank_38 (by decide) ?_
  refine lv_idiv (pc := 39) hx hb dX3_atRank_39 (by decide) ?_
  refine lv_istore_n (lv' := [(3, .int ((x3 / (2 : Int32)))), (0, .int p0), (1, .int p1), (2, .int x2)]) (pc := 40) hx hb dX3_atRank_40 rfl hl (by decide) rfl (fun ls hl => ?_)
  refine lv_goto (tgt := 5) (pc := 41) hx hb dX3_atRank_41 (by decide) ?_
  exact hg5 x2 ((x3 / (2 : Int32))) hf _ _ _ hP hD hS (lv_sub hl [1, 2, 3, 0] rfl)
set_option maxRecDepth 100000 in
set_option maxHeartbeats 4000000 in
theorem wX3_atRank_5 (C : Cx p s m args meth c D cA cX3_atRank 5 RX3 (some .int)) (hA : ∀ q : Nat, s.heap.size ≤ q → A q) {N : Nat} {z : Int32} {p0 : Int32} {p1 : Int32} : ∀ (k : Nat) (x2 : Int32) (x3 : Int32), fX3_atRank_l5 N p0 p1 k (x2, x3) = some z → ∀ (H : Heap) (locs : List Loc) (ls : Array Slot), va_P D vwCl ([] : va_W) H → va_D A ([] : va_W) → va_S A s.heap H locs → lv_has ls 5 [(0, .int p0), (1, .int p1), (2, .int x2), (3, .int x3)] → W p l e (rmU 3 69 0 0) s m args below meth c H locs 0 0 (MQ below (QI D A z ([] : va_W)) args s 0 0 A) (F0 m 5 ls []) := by
  obtain ⟨hx, hb, hml, hown, hts, hK, hN, hr, hlk⟩ := id C
  intro k
  induction k with
  | zero =>
    intro x2 x3 hf
    have hf : (none : Option (Int32)) = some z := hf
    cases hf
  | succ k hg5 =>
    intro x2 x3 hf H locs ls hP hD hS hl
    have hf : fX3_atRank_b5 N p0 p1 (fX3_atRank_l5 N p0 p1 k) x2 x3 = some z := hf
    unfold fX3_atRank_b5 at hf
    refine lv_iload_n (pc := 5) hx hb dX3_atRank_5 rfl (lv_at hl 3 rfl) ?_
    refine lv_if_le (tgt := 44) (pc := 6) hx hb dX3_atRank_6 (by decide) (fun c1 => ?_) (fun c1 => ?_)
    · have hf := pt_t c1 hf
      exact wX3_atRank_44 C hA  hf hP hD hS (lv_sub hl [2] rfl)
    · have hf := pt_f c1 hf
      refine lv_iload_n (pc := 9) hx hb dX3_atRank_9 rfl (lv_at hl 2 rfl) ?_
      refine lv_iload_n (pc := 10) hx hb dX3_atRank_10 rfl (lv_at hl 3 rfl) ?_
      refine lv_iadd (pc := 11) hx hb dX3_atRank_11 ?_
      refine lv_iconst (v := (1 : Int32)) (pc := 12) hx hb dX3_atRank_12 (by decide) ?_
      refine lv_isub (pc := 13) hx hb dX3_atRank_13 ?_
      refine lv_istore (lv' := [(4, .int (((x2 + x3) - (1 : Int32)))), (0, .int p0), (1, .int p1), (2, .int x2), (3, .int x3)]) (pc := 14) hx hb dX3_atRank_14 hl (by decide) rfl (fun ls hl => ?_)
      refine lv_iload (pc := 16) hx hb dX3_atRank_16 (lv_at hl 0 rfl) ?_
      refine lv_ldc (pc := 18) (v := (99999 : Int32)) hx hb hown (hts _ kc_RX3_29) dX3_atRank_18 ?_
      refine lv_icmp_gt (tgt := 37) (pc := 20) hx hb dX3_atRank_20 (by decide) (fun c2 => ?_) (fun c2 => ?_)
      · have hf := pt_t c2 hf
        exact wX3_atRank_37 C hA hg5 hf hP hD hS (lv_sub hl [1, 2, 3, 4] rfl)
      · have hf := pt_f c2 hf
        refine lv_iload_n (pc := 23) hx hb dX3_atRank_23 rfl (lv_at hl 1 rfl) ?_
        refine lv_iload (pc := 24) hx hb dX3_atRank_24 (lv_at hl 0 rfl) ?_
        obtain ⟨q3, hq3, hf⟩ := pt_b hf
        refine all_i (runU_S (pc := 26) (As := [.int p0, .int (((x2 + x3) - (1 : Int32)))]) (rest := []) C lk_RX3_30 (kX3_sayable l D cA hq3 H.size) ⟨Nat.le_of_ble_eq_true rfl, Nat.le_of_ble_eq_true rfl⟩ ⟨Nat.le_refl _, Nat.le_refl _⟩ hP hD hl.1 rfl (Nat.le_of_ble_eq_true rfl) dX3_atRank_26) hD hS hA (fun H locs hP hD hS => ?_)
        refine lv_iload_n (pc := 29) hx hb dX3_atRank_29 rfl (lv_at hl 2 rfl) ?_
        refine lv_icmp_gt (tgt := 37) (pc := 30) hx hb dX3_atRank_30 (by decide) (fun c4 => ?_) (fun c4 => ?_)
        · have hf := pt_t c4 hf
          exact wX3_atRank_37 C hA hg5 hf hP hD hS (lv_sub hl [1, 2, 3, 4] rfl)
        · have hf := pt_f c4 hf
          refine lv_iload_n (pc := 33) hx hb dX3_atRank_33 rfl (lv_at hl 3 rfl) ?_
          refine lv_iload_n (pc := 34) hx hb dX3_atRank_34 rfl (lv_at hl 4 rfl) ?_
          refine lv_iadd (pc := 35) hx hb dX3_atRank_35 ?_
          refine lv_istore_n (lv' := [(2, .int ((x2 + x3))), (4, .int (((x2 + x3) - (1 : Int32)))), (0, .int p0), (1, .int p1), (3, .int x3)]) (pc := 36) hx hb dX3_atRank_36 rfl hl (by decide) rfl (fun ls hl => ?_)
          exact wX3_atRank_37 C hA hg5 hf hP hD hS (lv_sub hl [2, 3, 0, 4] rfl)
set_option maxRecDepth 100000 in
set_option maxHeartbeats 4000000 in
theorem wX3_atRank (C : Cx p s m args meth c D cA cX3_atRank 5 RX3 (some .int)) (hA : ∀ q : Nat, s.heap.size ≤ q → A q) {N : Nat} {z : Int32} {p0 : Int32} {p1 : Int32} (hf : fX3_atRank N p0 p1 = some z) {H : Heap} {locs : List Loc} {ls : Array Slot} (hP : va_P D vwCl ([] : va_W) H) (hD : va_D A ([] : va_W)) (hS : va_S A s.heap H locs) (hl : lv_has ls 5 [(0, .int p0), (1, .int p1)]) : W p l e (rmU 3 69 0 0) s m args below meth c H locs 0 0 (MQ below (QI D A z ([] : va_W)) args s 0 0 A) (F0 m 0 ls []) := by
  obtain ⟨hx, hb, hml, hown, hts, hK, hN, hr, hlk⟩ := id C
  unfold fX3_atRank at hf
  refine lv_iconst (v := (0 : Int32)) (pc := 0) hx hb dX3_atRank_0 (by decide) ?_
  refine lv_istore_n (lv' := [(2, .int ((0 : Int32))), (0, .int p0), (1, .int p1)]) (pc := 1) hx hb dX3_atRank_1 rfl hl (by decide) rfl (fun ls hl => ?_)
  refine lv_ldc (pc := 2) (v := (65536 : Int32)) hx hb hown (hts _ kc_RX3_28) dX3_atRank_2 ?_
  refine lv_istore_n (lv' := [(3, .int ((65536 : Int32))), (2, .int ((0 : Int32))), (0, .int p0), (1, .int p1)]) (pc := 4) hx hb dX3_atRank_4 rfl hl (by decide) rfl (fun ls hl => ?_)
  exact wX3_atRank_5 C hA  _ ((0 : Int32)) ((65536 : Int32)) hf _ _ _ hP hD hS (lv_sub hl [2, 3, 1, 0] rfl)
set_option maxRecDepth 100000 in
set_option maxHeartbeats 4000000 in
theorem kX3_atRank (l : Launch) (D : va_G) (cA : Nat → ClassId) {N : Nat} {p0 : Int32} {p1 : Int32} {z : Int32} (hf : fX3_atRank N p0 p1 = some z) : CtI l yX3_atRank cX3_atRank 5 (some .int) 3 69 D cA ([] : va_W) ([] : va_W) [.int p0, .int p1] z := by
  intro sz
  refine Met.ofW (cc := cX3_atRank) (maxL := 5) (ret := (some .int)) (by decide) rfl ?_
  intro p e s m args below meth c s₁ B hml hv
  obtain ⟨rfl, hsz, hP, hK, hD0⟩ := hv
  subst hsz
  have C : Cx p s m _ meth c D cA cX3_atRank 5 RX3 (some .int) := Cx.of B hml hK
  have hD := hD0.self (sz := s.heap.size)
  have hA : ∀ q : Nat, s.heap.size ≤ q → va_A ([] : va_W) s.heap.size q := fun q h => Or.inr h
  have hS : va_S (va_A ([] : va_W) s.heap.size) s.heap s.heap [] := va_S.rf
  have hl := lv_entry ([.int p0, .int p1]) (n := 5) (Nat.le_of_ble_eq_true rfl)
  rw [lg_entry_eq]
  generalize (lg_sl ([.int p0, .int p1]) ++ List.replicate (5 - (lg_sl ([.int p0, .int p1])).length) Slot.unset).toArray = ls at hl ⊢
  exact wX3_atRank C hA hf hP hD hS hl
def fX3_lowestTerms_j38 (N : Nat) (p0 : Int32) (p1 : Int32) (p2 : Int32) (g13 : Int32 × Int32 → Option (Int32)) (x3 : Int32) (x4 : Int32) : Option (Int32) :=
  g13 ((x3, (x4 + (-1))))
def fX3_lowestTerms_j33 (N : Nat) (p0 : Int32) (p1 : Int32) (p2 : Int32) (x3 : Int32) (x4 : Int32) : Option (Int32) :=
  if ¬ x4 = 0 then (some ((x3 / x4))) else none
def fX3_lowestTerms_b13 (N : Nat) (p0 : Int32) (p1 : Int32) (p2 : Int32) (g13 : Int32 × Int32 → Option (Int32)) (x3 : Int32) (x4 : Int32) : Option (Int32) :=
  if x4 ≤ (1 : Int32) then (some x3) else (if ¬ x4 = 0 then (if (p0 - p0 / x4 * x4) = 0 then (if ¬ x4 = 0 then (if (p1 - p1 / x4 * x4) = 0 then (fX3_lowestTerms_j33 N p0 p1 p2 x3 x4) else (fX3_lowestTerms_j38 N p0 p1 p2 g13 x3 x4)) else none) else (fX3_lowestTerms_j38 N p0 p1 p2 g13 x3 x4)) else none)
def fX3_lowestTerms_l13 (N : Nat) (p0 : Int32) (p1 : Int32) (p2 : Int32) (k : Nat) (q : Int32 × Int32) : Option (Int32) := lpN (fun g q => fX3_lowestTerms_b13 N p0 p1 p2 g q.1 q.2) k q
def fX3_lowestTerms_j9 (N : Nat) (p0 : Int32) (p1 : Int32) (p2 : Int32) (y0 : Int32) : Option (Int32) :=
  fX3_lowestTerms_l13 N p0 p1 p2 N ((y0, p1))
def fX3_lowestTerms (N : Nat) (p0 : Int32) (p1 : Int32) (p2 : Int32) : Option (Int32) :=
  if p2 = 0 then (fX3_lowestTerms_j9 N p0 p1 p2 p0) else (fX3_lowestTerms_j9 N p0 p1 p2 p1)
set_option maxRecDepth 100000 in
set_option maxHeartbeats 4000000 in
theorem wX3_lowestTerms_38 (C : Cx p s m args meth c D cA cX3_lowestTerms 5 RX3 (some .int)) (hA : ∀ q : Nat, s.heap.size ≤ q → A q) {N : Nat} {z : Int32} {p0 : Int32} {p1 : Int32} {p2 : Int32} {g13 : Int32 × Int32 → Option (Int32)} (hg13 : ∀ (x3 : Int32) (x4 : Int32), g13 (x3, x4) = some z → ∀ (H : Heap) (locs : List Loc) (ls : Array Slot), va_P D vwCl ([] : va_W) H → va_D A ([] : va_W) → va_S A s.heap H locs → lv_has ls 5 [(0, .int p0), (1, .int p1), (3, .int x3), (4, .int x4)] → W p l e (rmU 0 0 0 0) s m args below meth c H locs 0 0 (MQ below (QI D A z ([] : va_W)) args s 0 0 A) (F0 m 13 ls [])) {x3 : Int32} {x4 : Int32} (hf : fX3_lowestTerms_j38 N p0 p1 p2 g13 x3 x4 = some z) {H : Heap} {locs : List Loc} {ls : Array Slot} (hP : va_P D vwCl ([] : va_W) H) (hD : va_D A ([] : va_W)) (hS : va_S A s.heap H locs) (hl : lv_has ls 5 [(0, .int p0), (1, .int p1), (3, .int x3), (4, .int x4)]) : W p l e (rmU 0 0 0 0) s m args below meth c H locs 0 0 (MQ below (QI D A z ([] : va_W)) args s 0 0 A) (F0 m 38 ls []) := by
  obtain ⟨hx, hb, hml, hown, hts, hK, hN, hr, hlk⟩ := id C
  unfold fX3_lowestTerms_j38 at hf
  refine lv_iinc (v := (x4 + (-1))) (lv' := [(4, .int ((x4 + (-1)))), (0, .int p0), (1, .int p1), (3, .int x3)]) (pc := 38) hx hb dX3_lowestTerms_38 hl (k := 3) rfl (by rfl) (by decide) rfl (fun ls hl => ?_)
  refine lv_goto (tgt := 13) (pc := 41) hx hb dX3_lowestTerms_41 (by decide) ?_
  exact hg13 x3 ((x4 + (-1))) hf _ _ _ hP hD hS (lv_sub hl [1, 2, 3, 0] rfl)
set_option maxRecDepth 100000 in
set_option maxHeartbeats 4000000 in
theorem wX3_lowestTerms_33 (C : Cx p s m args meth c D cA cX3_lowestTerms 5 RX3 (some .int)) (hA : ∀ q : Nat, s.heap.size ≤ q → A q) {N : Nat} {z : Int32} {p0 : Int32} {p1 : Int32} {p2 : Int32} {x3 : Int32} {x4 : Int32} (hf : fX3_lowestTerms_j33 N p0 p1 p2 x3 x4 = some z) {H : Heap} {locs : List Loc} {ls : Array Slot} (hP : va_P D vwCl ([] : va_W) H) (hD : va_D A ([] : va_W)) (hS : va_S A s.heap H locs) (hl : lv_has ls 5 [(3, .int x3), (4, .int x4)]) : W p l e (rmU 0 0 0 0) s m args below meth c H locs 0 0 (MQ below (QI D A z ([] : va_W)) args s 0 0 A) (F0 m 33 ls []) := by
  obtain ⟨hx, hb, hml, hown, hts, hK, hN, hr, hlk⟩ := id C
  unfold fX3_lowestTerms_j33 at hf
  refine lv_iload_n (pc := 33) hx hb dX3_lowestTerms_33 rfl (lv_at hl 0 rfl) ?_
  refine lv_iload (pc := 34) hx hb dX3_lowestTerms_34 (lv_at hl 1 rfl) ?_
  obtain ⟨h1, hf⟩ := pt_g hf
  refine lv_idiv (pc := 36) hx hb dX3_lowestTerms_36 h1 ?_
  cases hf
  exact ret_i C hP hD hS dX3_lowestTerms_37
set_option maxRecDepth 100000 in
set_option maxHeartbeats 4000000 in
theorem wX3_lowestTerms_13 (C : Cx p s m args meth c D cA cX3_lowestTerms 5 RX3 (some .int)) (hA : ∀ q : Nat, s.heap.size ≤ q → A q) {N : Nat} {z : Int32} {p0 : Int32} {p1 : Int32} {p2 : Int32} : ∀ (k : Nat) (x3 : Int32) (x4 : Int32), fX3_lowestTerms_l13 N p0 p1 p2 k (x3, x4) = some z → ∀ (H : Heap) (locs : List Loc) (ls : Array Slot), va_P D vwCl ([] : va_W) H → va_D A ([] : va_W) → va_S A s.heap H locs → lv_has ls 5 [(0, .int p0), (1, .int p1), (3, .int x3), (4, .int x4)] → W p l e (rmU 0 0 0 0) s m args below meth c H locs 0 0 (MQ below (QI D A z ([] : va_W)) args s 0 0 A) (F0 m 13 ls []) := by
  obtain ⟨hx, hb, hml, hown, hts, hK, hN, hr, hlk⟩ := id C
  intro k
  induction k with
  | zero =>
    intro x3 x4 hf
    have hf : (none : Option (Int32)) = some z := hf
    cases hf
  | succ k hg13 =>
    intro x3 x4 hf H locs ls hP hD hS hl
    have hf : fX3_lowestTerms_b13 N p0 p1 p2 (fX3_lowestTerms_l13 N p0 p1 p2 k) x3 x4 = some z := hf
    unfold fX3_lowestTerms_b13 at hf
    refine lv_iload (pc := 13) hx hb dX3_lowestTerms_13 (lv_at hl 3 rfl) ?_
    refine lv_iconst (v := (1 : Int32)) (pc := 15) hx hb dX3_lowestTerms_15 (by decide) ?_
    refine lv_icmp_le (tgt := 44) (pc := 16) hx hb dX3_lowestTerms_16 (by decide) (fun c1 => ?_) (fun c1 => ?_)
    · have hf := pt_t c1 hf
      refine lv_iload_n (pc := 44) hx hb dX3_lowestTerms_44 rfl (lv_at hl 2 rfl) ?_
      cases hf
      exact ret_i C hP hD hS dX3_lowestTerms_45
    · have hf := pt_f c1 hf
      refine lv_iload_n (pc := 19) hx hb dX3_lowestTerms_19 rfl (lv_at hl 0 rfl) ?_
      refine lv_iload (pc := 20) hx hb dX3_lowestTerms_20 (lv_at hl 3 rfl) ?_
      obtain ⟨h2, hf⟩ := pt_g hf
      refine lv_irem (pc := 22) hx hb dX3_lowestTerms_22 h2 ?_
      refine lv_if_ne (tgt := 38) (pc := 23) hx hb dX3_lowestTerms_23 (by decide) (fun c3 => ?_) (fun c3 => ?_)
      · have hf := pt_f c3 hf
        exact wX3_lowestTerms_38 C hA hg13 hf hP hD hS (lv_sub hl [0, 1, 2, 3] rfl)
      · have hf := pt_t c3 hf
        refine lv_iload_n (pc := 26) hx hb dX3_lowestTerms_26 rfl (lv_at hl 1 rfl) ?_
        refine lv_iload (pc := 27) hx hb dX3_lowestTerms_27 (lv_at hl 3 rfl) ?_
        obtain ⟨h4, hf⟩ := pt_g hf
        refine lv_irem (pc := 29) hx hb dX3_lowestTerms_29 h4 ?_
        refine lv_if_ne (tgt := 38) (pc := 30) hx hb dX3_lowestTerms_30 (by decide) (fun c5 => ?_) (fun c5 => ?_)
        · have hf := pt_f c5 hf
          exact wX3_lowestTerms_38 C hA hg13 hf hP hD hS (lv_sub hl [0, 1, 2, 3] rfl)
        · have hf := pt_t c5 hf
          exact wX3_lowestTerms_33 C hA  hf hP hD hS (lv_sub hl [2, 3] rfl)
set_option maxRecDepth 100000 in
set_option maxHeartbeats 4000000 in
theorem wX3_lowestTerms_9 (C : Cx p s m args meth c D cA cX3_lowestTerms 5 RX3 (some .int)) (hA : ∀ q : Nat, s.heap.size ≤ q → A q) {N : Nat} {z : Int32} {p0 : Int32} {p1 : Int32} {p2 : Int32} {y0 : Int32} (hf : fX3_lowestTerms_j9 N p0 p1 p2 y0 = some z) {H : Heap} {locs : List Loc} {ls : Array Slot} (hP : va_P D vwCl ([] : va_W) H) (hD : va_D A ([] : va_W)) (hS : va_S A s.heap H locs) (hl : lv_has ls 5 [(0, .int p0), (1, .int p1)]) : W p l e (rmU 0 0 0 0) s m args below meth c H locs 0 0 (MQ below (QI D A z ([] : va_W)) args s 0 0 A) (F0 m 9 ls [.int y0]) := by
  obtain ⟨hx, hb, hml, hown, hts, hK, hN, hr, hlk⟩ := id C
  unfold fX3_lowestTerms_j9 at hf
  refine lv_istore_n (lv' := [(3, .int y0), (0, .int p0), (1, .int p1)]) (pc := 9) hx hb dX3_lowestTerms_9 rfl hl (by decide) rfl (fun ls hl => ?_)
  refine lv_iload_n (pc := 10) hx hb dX3_lowestTerms_10 rfl (lv_at hl 2 rfl) ?_
  refine lv_istore (lv' := [(4, .int p1), (3, .int y0), (0, .int p0), (1, .int p1)]) (pc := 11) hx hb dX3_lowestTerms_11 hl (by decide) rfl (fun ls hl => ?_)
  exact wX3_lowestTerms_13 C hA  _ y0 p1 hf _ _ _ hP hD hS (lv_sub hl [2, 3, 1, 0] rfl)
set_option maxRecDepth 100000 in
set_option maxHeartbeats 4000000 in
theorem wX3_lowestTerms (C : Cx p s m args meth c D cA cX3_lowestTerms 5 RX3 (some .int)) (hA : ∀ q : Nat, s.heap.size ≤ q → A q) {N : Nat} {z : Int32} {p0 : Int32} {p1 : Int32} {p2 : Int32} (hf : fX3_lowestTerms N p0 p1 p2 = some z) {H : Heap} {locs : List Loc} {ls : Array Slot} (hP : va_P D vwCl ([] : va_W) H) (hD : va_D A ([] : va_W)) (hS : va_S A s.heap H locs) (hl : lv_has ls 5 [(0, .int p0), (1, .int p1), (2, .int p2)]) : W p l e (rmU 0 0 0 0) s m args below meth c H locs 0 0 (MQ below (QI D A z ([] : va_W)) args s 0 0 A) (F0 m 0 ls []) := by
  obtain ⟨hx, hb, hml, hown, hts, hK, hN, hr, hlk⟩ := id C
  unfold fX3_lowestTerms at hf
  refine lv_iload_n (pc := 0) hx hb dX3_lowestTerms_0 rfl (lv_at hl 2 rfl) ?_
  refine lv_if_ne (tgt := 8) (pc := 1) hx hb dX3_lowestTerms_1 (by decide) (fun c1 => ?_) (fun c1 => ?_)
  · have hf := pt_f c1 hf
    refine lv_iload_n (pc := 8) hx hb dX3_lowestTerms_8 rfl (lv_at hl 1 rfl) ?_
    exact wX3_lowestTerms_9 C hA  hf hP hD hS (lv_sub hl [0, 1] rfl)
  · have hf := pt_t c1 hf
    refine lv_iload_n (pc := 4) hx hb dX3_lowestTerms_4 rfl (lv_at hl 0 rfl) ?_
    refine lv_goto (tgt := 9) (pc := 5) hx hb dX3_lowestTerms_5 (by decide) ?_
    exact wX3_lowestTerms_9 C hA  hf hP hD hS (lv_sub hl [0, 1] rfl)
set_option maxRecDepth 100000 in
set_option maxHeartbeats 4000000 in
theorem kX3_lowestTerms (l : Launch) (D : va_G) (cA : Nat → ClassId) {N : Nat} {p0 : Int32} {p1 : Int32} {p2 : Int32} {z : Int32} (hf : fX3_lowestTerms N p0 p1 p2 = some z) : CtI l yX3_lowestTerms cX3_lowestTerms 5 (some .int) 0 0 D cA ([] : va_W) ([] : va_W) [.int p0, .int p1, .int p2] z := by
  intro sz
  refine Met.ofW (cc := cX3_lowestTerms) (maxL := 5) (ret := (some .int)) (by decide) rfl ?_
  intro p e s m args below meth c s₁ B hml hv
  obtain ⟨rfl, hsz, hP, hK, hD0⟩ := hv
  subst hsz
  have C : Cx p s m _ meth c D cA cX3_lowestTerms 5 RX3 (some .int) := Cx.of B hml hK
  have hD := hD0.self (sz := s.heap.size)
  have hA : ∀ q : Nat, s.heap.size ≤ q → va_A ([] : va_W) s.heap.size q := fun q h => Or.inr h
  have hS : va_S (va_A ([] : va_W) s.heap.size) s.heap s.heap [] := va_S.rf
  have hl := lv_entry ([.int p0, .int p1, .int p2]) (n := 5) (Nat.le_of_ble_eq_true rfl)
  rw [lg_entry_eq]
  generalize (lg_sl ([.int p0, .int p1, .int p2]) ++ List.replicate (5 - (lg_sl ([.int p0, .int p1, .int p2])).length) Slot.unset).toArray = ls at hl ⊢
  exact wX3_lowestTerms C hA hf hP hD hS hl
def fX10_isWithin (N : Nat) (p0 : Int32) (p1 : Int32) (p2 : Int32) : Option (Int32) :=
  if p0 < p1 then (some ((0 : Int32))) else (if p2 < p0 then (some ((0 : Int32))) else (some ((1 : Int32))))
set_option maxRecDepth 100000 in
set_option maxHeartbeats 4000000 in
theorem wX10_isWithin (C : Cx p s m args meth c D cA cX10_isWithin 3 RX10 (some .boolean)) (hA : ∀ q : Nat, s.heap.size ≤ q → A q) {N : Nat} {z : Int32} {p0 : Int32} {p1 : Int32} {p2 : Int32} (hf : fX10_isWithin N p0 p1 p2 = some z) {H : Heap} {locs : List Loc} {ls : Array Slot} (hP : va_P D vwCl ([] : va_W) H) (hD : va_D A ([] : va_W)) (hS : va_S A s.heap H locs) (hl : lv_has ls 3 [(0, .int p0), (1, .int p1), (2, .int p2)]) : W p l e (rmU 0 0 0 0) s m args below meth c H locs 0 0 (MQ below (QI D A z ([] : va_W)) args s 0 0 A) (F0 m 0 ls []) := by
  obtain ⟨hx, hb, hml, hown, hts, hK, hN, hr, hlk⟩ := id C
  unfold fX10_isWithin at hf
  refine lv_iload_n (pc := 0) hx hb dX10_isWithin_0 rfl (lv_at hl 0 rfl) ?_
  refine lv_iload_n (pc := 1) hx hb dX10_isWithin_1 rfl (lv_at hl 1 rfl) ?_
  refine lv_icmp_lt (tgt := 14) (pc := 2) hx hb dX10_isWithin_2 (by decide) (fun c1 => ?_) (fun c1 => ?_)
  · have hf := pt_t c1 hf
    refine lv_iconst (v := (0 : Int32)) (pc := 14) hx hb dX10_isWithin_14 (by decide) ?_
    cases hf
    exact ret_z C (Or.inl rfl) hP hD hS dX10_isWithin_15
  · have hf := pt_f c1 hf
    refine lv_iload_n (pc := 5) hx hb dX10_isWithin_5 rfl (lv_at hl 0 rfl) ?_
    refine lv_iload_n (pc := 6) hx hb dX10_isWithin_6 rfl (lv_at hl 2 rfl) ?_
    refine lv_icmp_gt (tgt := 14) (pc := 7) hx hb dX10_isWithin_7 (by decide) (fun c2 => ?_) (fun c2 => ?_)
    · have hf := pt_t c2 hf
      refine lv_iconst (v := (0 : Int32)) (pc := 14) hx hb dX10_isWithin_14 (by decide) ?_
      cases hf
      exact ret_z C (Or.inl rfl) hP hD hS dX10_isWithin_15
    · have hf := pt_f c2 hf
      refine lv_iconst (v := (1 : Int32)) (pc := 10) hx hb dX10_isWithin_10 (by decide) ?_
      refine lv_goto (tgt := 15) (pc := 11) hx hb dX10_isWithin_11 (by decide) ?_
      cases hf
      exact ret_z C (Or.inr rfl) hP hD hS dX10_isWithin_15
set_option maxRecDepth 100000 in
set_option maxHeartbeats 4000000 in
theorem kX10_isWithin (l : Launch) (D : va_G) (cA : Nat → ClassId) {N : Nat} {p0 : Int32} {p1 : Int32} {p2 : Int32} {z : Int32} (hf : fX10_isWithin N p0 p1 p2 = some z) : CtI l yX10_isWithin cX10_isWithin 3 (some .boolean) 0 0 D cA ([] : va_W) ([] : va_W) [.int p0, .int p1, .int p2] z := by
  intro sz
  refine Met.ofW (cc := cX10_isWithin) (maxL := 3) (ret := (some .boolean)) (by decide) rfl ?_
  intro p e s m args below meth c s₁ B hml hv
  obtain ⟨rfl, hsz, hP, hK, hD0⟩ := hv
  subst hsz
  have C : Cx p s m _ meth c D cA cX10_isWithin 3 RX10 (some .boolean) := Cx.of B hml hK
  have hD := hD0.self (sz := s.heap.size)
  have hA : ∀ q : Nat, s.heap.size ≤ q → va_A ([] : va_W) s.heap.size q := fun q h => Or.inr h
  have hS : va_S (va_A ([] : va_W) s.heap.size) s.heap s.heap [] := va_S.rf
  have hl := lv_entry ([.int p0, .int p1, .int p2]) (n := 3) (Nat.le_of_ble_eq_true rfl)
  rw [lg_entry_eq]
  generalize (lg_sl ([.int p0, .int p1, .int p2]) ++ List.replicate (3 - (lg_sl ([.int p0, .int p1, .int p2])).length) Slot.unset).toArray = ls at hl ⊢
  exact wX10_isWithin C hA hf hP hD hS hl
theorem lk_RX10_100 : LkS RX10 100 yX10_isWithin cX10_isWithin 3 (some .boolean) 3 := ⟨⟨by decide +kernel, by decide +kernel, by decide +kernel, by decide +kernel, by decide +kernel, by decide +kernel⟩, by decide +kernel⟩
def fX10_isFigure (N : Nat) (p0 : Int32) : Option (Int32) :=
  Option.bind (fX10_isWithin N p0 ((0 : Int32)) ((9 : Int32))) (fun q1 => if q1 = 0 ∨ q1 = 1 then (some q1) else none)
set_option maxRecDepth 100000 in
set_option maxHeartbeats 4000000 in
theorem wX10_isFigure (C : Cx p s m args meth c D cA cX10_isFigure 1 RX10 (some .boolean)) (hA : ∀ q : Nat, s.heap.size ≤ q → A q) {N : Nat} {z : Int32} {p0 : Int32} (hf : fX10_isFigure N p0 = some z) {H : Heap} {locs : List Loc} {ls : Array Slot} (hP : va_P D vwCl ([] : va_W) H) (hD : va_D A ([] : va_W)) (hS : va_S A s.heap H locs) (hl : lv_has ls 1 [(0, .int p0)]) : W p l e (rmU 1 22 0 0) s m args below meth c H locs 0 0 (MQ below (QI D A z ([] : va_W)) args s 0 0 A) (F0 m 0 ls []) := by
  obtain ⟨hx, hb, hml, hown, hts, hK, hN, hr, hlk⟩ := id C
  unfold fX10_isFigure at hf
  refine lv_iload_n (pc := 0) hx hb dX10_isFigure_0 rfl (lv_at hl 0 rfl) ?_
  refine lv_iconst (v := (0 : Int32)) (pc := 1) hx hb dX10_isFigure_1 (by decide) ?_
  refine lv_bipush (v := (9 : Int32)) (pc := 2) hx hb dX10_isFigure_2 (by decide) ?_
  obtain ⟨q1, hq1, hf⟩ := pt_b hf
  refine all_i (runU_S (pc := 4) (As := [.int p0, .int ((0 : Int32)), .int ((9 : Int32))]) (rest := []) C lk_RX10_100 (kX10_isWithin l D cA hq1 H.size) ⟨Nat.le_of_ble_eq_true rfl, Nat.le_of_ble_eq_true rfl⟩ ⟨Nat.le_refl _, Nat.le_refl _⟩ hP hD hl.1 rfl (Nat.le_of_ble_eq_true rfl) dX10_isFigure_4) hD hS hA (fun H locs hP hD hS => ?_)
  obtain ⟨h2, hf⟩ := pt_g hf
  cases hf
  exact ret_z C h2 hP hD hS dX10_isFigure_7
set_option maxRecDepth 100000 in
set_option maxHeartbeats 4000000 in
theorem kX10_isFigure (l : Launch) (D : va_G) (cA : Nat → ClassId) {N : Nat} {p0 : Int32} {z : Int32} (hf : fX10_isFigure N p0 = some z) : CtI l yX10_isFigure cX10_isFigure 1 (some .boolean) 1 22 D cA ([] : va_W) ([] : va_W) [.int p0] z := by
  intro sz
  refine Met.ofW (cc := cX10_isFigure) (maxL := 1) (ret := (some .boolean)) (by decide) rfl ?_
  intro p e s m args below meth c s₁ B hml hv
  obtain ⟨rfl, hsz, hP, hK, hD0⟩ := hv
  subst hsz
  have C : Cx p s m _ meth c D cA cX10_isFigure 1 RX10 (some .boolean) := Cx.of B hml hK
  have hD := hD0.self (sz := s.heap.size)
  have hA : ∀ q : Nat, s.heap.size ≤ q → va_A ([] : va_W) s.heap.size q := fun q h => Or.inr h
  have hS : va_S (va_A ([] : va_W) s.heap.size) s.heap s.heap [] := va_S.rf
  have hl := lv_entry ([.int p0]) (n := 1) (Nat.le_of_ble_eq_true rfl)
  rw [lg_entry_eq]
  generalize (lg_sl ([.int p0]) ++ List.replicate (1 - (lg_sl ([.int p0])).length) Slot.unset).toArray = ls at hl ⊢
  exact wX10_isFigure C hA hf hP hD hS hl
end PNum
