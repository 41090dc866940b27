section PMoB
variable {p : Program} {l : Launch} {e : Env} {R : Room} {s : State} {m : MethodId} {args : Array Value} {below : List Frame} {meth : Method} {c : Code} {H : Heap} {locs : List Loc} {cells slots : Nat} {Q : State → Prop}
variable {D : va_G} {cA : Nat → ClassId} {cc : ByteArray} {nL : Nat} {own : String} {ret : Option FieldType} {pc : Nat} {ls : Array Slot} {rest : List Value} {A : Nat → Prop} {a b d : Nat → Nat} {S T U : St}
def fX11_canSay_j48 (N : Nat) (S : St) (p1 : Int32) (g23 : Int32 × Int32 → Option (Int32)) (x2 : Int32) (y0 : Int32) : Option (Int32) :=
  g23 (((x2 / (10 : Int32)), y0))
def fX11_canSay_b23 (N : Nat) (S : St) (p1 : Int32) (g23 : Int32 × Int32 → Option (Int32)) (x2 : Int32) (x3 : Int32) : Option (Int32) :=
  if x2 ≤ 0 then (if x3 = 0 ∨ x3 = 1 then (some x3) else none) else (if x3 = 0 then (if x3 = 0 ∨ x3 = 1 then (some x3) else none) else (if ¬ ((x2 - x2 / (10 : Int32) * (10 : Int32)) < 0 ∨ 20 ≤ ((x2 - x2 / (10 : Int32) * (10 : Int32))).toNatClampNeg) then (if (S 9 (((x2 - x2 / (10 : Int32) * (10 : Int32))).toNatClampNeg)) = 0 then (fX11_canSay_j48 N S p1 g23 x2 ((1 : Int32))) else (fX11_canSay_j48 N S p1 g23 x2 ((0 : Int32)))) else none))
def fX11_canSay_l23 (N : Nat) (S : St) (p1 : Int32) (k : Nat) (q : Int32 × Int32) : Option (Int32) := lpN (fun g q => fX11_canSay_b23 N S p1 g q.1 q.2) k q
def fX11_canSay_j22 (N : Nat) (S : St) (p1 : Int32) (x2 : Int32) (y0 : Int32) : Option (Int32) :=
  fX11_canSay_l23 N S p1 N ((x2, y0))
def fX11_canSay (N : Nat) (S : St) (p1 : Int32) : Option (Int32) :=
  if ¬ ((p1 - p1 / (10 : Int32) * (10 : Int32)) < 0 ∨ 20 ≤ ((p1 - p1 / (10 : Int32) * (10 : Int32))).toNatClampNeg) then (if (S 9 (((p1 - p1 / (10 : Int32) * (10 : Int32))).toNatClampNeg)) = 0 then (fX11_canSay_j22 N S p1 ((p1 / (10 : Int32))) ((1 : Int32))) else (fX11_canSay_j22 N S p1 ((p1 / (10 : Int32))) ((0 : Int32)))) else none
set_option maxRecDepth 100000 in
set_option maxHeartbeats 4000000 in
theorem wX11_canSay_48 (C : Cx p s m args meth c D cA cX11_canSay 4 RX11 (some .boolean)) (hA : ∀ q : Nat, s.heap.size ≤ q → A q) {N : Nat} {z : Int32} {S : St} {p1 : Int32} {g23 : Int32 × Int32 → Option (Int32)} (hg23 : ∀ (x2 : Int32) (x3 : Int32), g23 (x2, x3) = some z → ∀ (H : Heap) (locs : List Loc) (ls : Array Slot), va_P D vwCl (w_M cA a S) H → va_D A (w_M cA a S) → va_S A s.heap H locs → lv_has ls 4 [(0, .ref (a 0)), (2, .int x2), (3, .int x3)] → W p l e (rmU 0 0 0 0) s m args below meth c H locs 0 0 (MQ below (QI D A z (w_M cA a S)) args s 0 0 A) (F0 m 23 ls [])) {x2 : Int32} {y0 : Int32} (hf : fX11_canSay_j48 N S p1 g23 x2 y0 = some z) {H : Heap} {locs : List Loc} {ls : Array Slot} (hP : va_P D vwCl (w_M cA a S) H) (hD : va_D A (w_M cA a S)) (hS : va_S A s.heap H locs) (hl : lv_has ls 4 [(0, .ref (a 0)), (2, .int x2)]) : W p l e (rmU 0 0 0 0) s m args below meth c H locs 0 0 (MQ below (QI D A z (w_M cA a S)) args s 0 0 A) (F0 m 48 ls [.int y0]) := by
  obtain ⟨hx, hb, hml, hown, hts, hK, hN, hr, hlk⟩ := id C
  unfold fX11_canSay_j48 at hf
  refine lv_istore_n (lv' := [(3, .int y0), (0, .ref (a 0)), (2, .int x2)]) (pc := 48) hx hb dX11_canSay_48 rfl hl (by decide) rfl (fun ls hl => ?_)
  refine lv_iload_n (pc := 49) hx hb dX11_canSay_49 rfl (lv_at hl 2 rfl) ?_
  refine lv_bipush (v := (10 : Int32)) (pc := 50) hx hb dX11_canSay_50 (by decide) ?_
  refine lv_idiv (pc := 52) hx hb dX11_canSay_52 (by decide) ?_
  refine lv_istore_n (lv' := [(2, .int ((x2 / (10 : Int32)))), (3, .int y0), (0, .ref (a 0))]) (pc := 53) hx hb dX11_canSay_53 rfl hl (by decide) rfl (fun ls hl => ?_)
  refine lv_goto (tgt := 23) (pc := 54) hx hb dX11_canSay_54 (by decide) ?_
  exact hg23 ((x2 / (10 : Int32))) y0 hf _ _ _ hP hD hS (lv_sub hl [2, 0, 1] rfl)
set_option maxRecDepth 100000 in
set_option maxHeartbeats 4000000 in
theorem wX11_canSay_23 (C : Cx p s m args meth c D cA cX11_canSay 4 RX11 (some .boolean)) (hA : ∀ q : Nat, s.heap.size ≤ q → A q) {N : Nat} {z : Int32} {S : St} {p1 : Int32} : ∀ (k : Nat) (x2 : Int32) (x3 : Int32), fX11_canSay_l23 N S p1 k (x2, x3) = some z → ∀ (H : Heap) (locs : List Loc) (ls : Array Slot), va_P D vwCl (w_M cA a S) H → va_D A (w_M cA a S) → va_S A s.heap H locs → lv_has ls 4 [(0, .ref (a 0)), (2, .int x2), (3, .int x3)] → W p l e (rmU 0 0 0 0) s m args below meth c H locs 0 0 (MQ below (QI D A z (w_M cA a S)) args s 0 0 A) (F0 m 23 ls []) := by
  obtain ⟨hx, hb, hml, hown, hts, hK, hN, hr, hlk⟩ := id C
  intro k
  induction k with
  | zero =>
    intro x2 x3 hf
    have hf : (none : Option (Int32)) = some z := hf
    cases hf
  | succ k hg23 =>
    intro x2 x3 hf H locs ls hP hD hS hl
    have hf : fX11_canSay_b23 N S p1 (fX11_canSay_l23 N S p1 k) x2 x3 = some z := hf
    unfold fX11_canSay_b23 at hf
    refine lv_iload_n (pc := 23) hx hb dX11_canSay_23 rfl (lv_at hl 1 rfl) ?_
    refine lv_if_le (tgt := 57) (pc := 24) hx hb dX11_canSay_24 (by decide) (fun c1 => ?_) (fun c1 => ?_)
    · have hf := pt_t c1 hf
      refine lv_iload_n (pc := 57) hx hb dX11_canSay_57 rfl (lv_at hl 2 rfl) ?_
      obtain ⟨h2, hf⟩ := pt_g hf
      cases hf
      exact ret_z C h2 hP hD hS dX11_canSay_58
    · have hf := pt_f c1 hf
      refine lv_iload_n (pc := 27) hx hb dX11_canSay_27 rfl (lv_at hl 2 rfl) ?_
      refine lv_if_eq (tgt := 57) (pc := 28) hx hb dX11_canSay_28 (by decide) (fun c3 => ?_) (fun c3 => ?_)
      · have hf := pt_t c3 hf
        refine lv_iload_n (pc := 57) hx hb dX11_canSay_57 rfl (lv_at hl 2 rfl) ?_
        obtain ⟨h4, hf⟩ := pt_g hf
        cases hf
        exact ret_z C h4 hP hD hS dX11_canSay_58
      · have hf := pt_f c3 hf
        refine lv_aload_n (pc := 31) hx hb dX11_canSay_31 rfl (lv_at hl 0 rfl) ?_
        refine ge_RX11_34_M_0_0 (pc := 32) C hP dX11_canSay_32 ?_
        refine lv_iload_n (pc := 35) hx hb dX11_canSay_35 rfl (lv_at hl 1 rfl) ?_
        refine lv_bipush (v := (10 : Int32)) (pc := 36) hx hb dX11_canSay_36 (by decide) ?_
        refine lv_irem (pc := 38) hx hb dX11_canSay_38 (by decide) ?_
        obtain ⟨h5, hf⟩ := pt_g hf
        refine ld_M_0_9 (pc := 39) (j := ((x2 - x2 / (10 : Int32) * (10 : Int32))).toNatClampNeg) C hP h5 rfl dX11_canSay_39 ?_
        refine lv_if_ne (tgt := 47) (pc := 40) hx hb dX11_canSay_40 (by decide) (fun c6 => ?_) (fun c6 => ?_)
        · have hf := pt_f c6 hf
          refine lv_iconst (v := (0 : Int32)) (pc := 47) hx hb dX11_canSay_47 (by decide) ?_
          exact wX11_canSay_48 C hA hg23 hf hP hD hS (lv_sub hl [0, 1] rfl)
        · have hf := pt_t c6 hf
          refine lv_iconst (v := (1 : Int32)) (pc := 43) hx hb dX11_canSay_43 (by decide) ?_
          refine lv_goto (tgt := 48) (pc := 44) hx hb dX11_canSay_44 (by decide) ?_
          exact wX11_canSay_48 C hA hg23 hf hP hD hS (lv_sub hl [0, 1] rfl)
set_option maxRecDepth 100000 in
set_option maxHeartbeats 4000000 in
theorem wX11_canSay_22 (C : Cx p s m args meth c D cA cX11_canSay 4 RX11 (some .boolean)) (hA : ∀ q : Nat, s.heap.size ≤ q → A q) {N : Nat} {z : Int32} {S : St} {p1 : Int32} {x2 : Int32} {y0 : Int32} (hf : fX11_canSay_j22 N S p1 x2 y0 = some z) {H : Heap} {locs : List Loc} {ls : Array Slot} (hP : va_P D vwCl (w_M cA a S) H) (hD : va_D A (w_M cA a S)) (hS : va_S A s.heap H locs) (hl : lv_has ls 4 [(0, .ref (a 0)), (2, .int x2)]) : W p l e (rmU 0 0 0 0) s m args below meth c H locs 0 0 (MQ below (QI D A z (w_M cA a S)) args s 0 0 A) (F0 m 22 ls [.int y0]) := by
  obtain ⟨hx, hb, hml, hown, hts, hK, hN, hr, hlk⟩ := id C
  unfold fX11_canSay_j22 at hf
  refine lv_istore_n (lv' := [(3, .int y0), (0, .ref (a 0)), (2, .int x2)]) (pc := 22) hx hb dX11_canSay_22 rfl hl (by decide) rfl (fun ls hl => ?_)
  exact wX11_canSay_23 C hA  _ x2 y0 hf _ _ _ hP hD hS (lv_sub hl [1, 2, 0] rfl)
set_option maxRecDepth 100000 in
set_option maxHeartbeats 4000000 in
theorem wX11_canSay (C : Cx p s m args meth c D cA cX11_canSay 4 RX11 (some .boolean)) (hA : ∀ q : Nat, s.heap.size ≤ q → A q) {N : Nat} {z : Int32} {S : St} {p1 : Int32} (hf : fX11_canSay N S p1 = some z) {H : Heap} {locs : List Loc} {ls : Array Slot} (hP : va_P D vwCl (w_M cA a S) H) (hD : va_D A (w_M cA a S)) (hS : va_S A s.heap H locs) (hl : lv_has ls 4 [(0, .ref (a 0)), (1, .int p1)]) : W p l e (rmU 0 0 0 0) s m args below meth c H locs 0 0 (MQ below (QI D A z (w_M cA a S)) args s 0 0 A) (F0 m 0 ls []) := by
  obtain ⟨hx, hb, hml, hown, hts, hK, hN, hr, hlk⟩ := id C
  unfold fX11_canSay at hf
  refine lv_iload_n (pc := 0) hx hb dX11_canSay_0 rfl (lv_at hl 1 rfl) ?_
  refine lv_bipush (v := (10 : Int32)) (pc := 1) hx hb dX11_canSay_1 (by decide) ?_
  refine lv_idiv (pc := 3) hx hb dX11_canSay_3 (by decide) ?_
  refine lv_istore_n (lv' := [(2, .int ((p1 / (10 : Int32)))), (0, .ref (a 0)), (1, .int p1)]) (pc := 4) hx hb dX11_canSay_4 rfl hl (by decide) rfl (fun ls hl => ?_)
  refine lv_aload_n (pc := 5) hx hb dX11_canSay_5 rfl (lv_at hl 1 rfl) ?_
  refine ge_RX11_34_M_0_0 (pc := 6) C hP dX11_canSay_6 ?_
  refine lv_iload_n (pc := 9) hx hb dX11_canSay_9 rfl (lv_at hl 2 rfl) ?_
  refine lv_bipush (v := (10 : Int32)) (pc := 10) hx hb dX11_canSay_10 (by decide) ?_
  refine lv_irem (pc := 12) hx hb dX11_canSay_12 (by decide) ?_
  obtain ⟨h1, hf⟩ := pt_g hf
  refine ld_M_0_9 (pc := 13) (j := ((p1 - p1 / (10 : Int32) * (10 : Int32))).toNatClampNeg) C hP h1 rfl dX11_canSay_13 ?_
  refine lv_if_ne (tgt := 21) (pc := 14) hx hb dX11_canSay_14 (by decide) (fun c2 => ?_) (fun c2 => ?_)
  · have hf := pt_f c2 hf
    refine lv_iconst (v := (0 : Int32)) (pc := 21) hx hb dX11_canSay_21 (by decide) ?_
    exact wX11_canSay_22 C hA  hf hP hD hS (lv_sub hl [1, 0] rfl)
  · have hf := pt_t c2 hf
    refine lv_iconst (v := (1 : Int32)) (pc := 17) hx hb dX11_canSay_17 (by decide) ?_
    refine lv_goto (tgt := 22) (pc := 18) hx hb dX11_canSay_18 (by decide) ?_
    exact wX11_canSay_22 C hA  hf hP hD hS (lv_sub hl [1, 0] rfl)
set_option maxRecDepth 100000 in
set_option maxHeartbeats 4000000 in
theorem kX11_canSay (l : Launch) (D : va_G) (cA : Nat → ClassId) (a : Nat → Nat) {N : Nat} {S : St} {p1 : Int32} {z : Int32} (hf : fX11_canSay N S p1 = some z) : CtI l yX11_canSay cX11_canSay 4 (some .boolean) 0 0 D cA (w_M cA a S) (w_M cA a S) [.ref (a 0), .int p1] z := by
  intro sz
  refine Met.ofW (cc := cX11_canSay) (maxL := 4) (ret := (some .boolean)) (by decide) rfl ?_
  intro p e s m args below meth c s₁ B hml hv
  obtain ⟨rfl, hsz, hP, hK, hD0⟩ := hv
  subst hsz
  have C : Cx p s m _ meth c D cA cX11_canSay 4 RX11 (some .boolean) := Cx.of B hml hK
  have hD := hD0.self (sz := s.heap.size)
  have hA : ∀ q : Nat, s.heap.size ≤ q → va_A (w_M cA a S) s.heap.size q := fun q h => Or.inr h
  have hS : va_S (va_A (w_M cA a S) s.heap.size) s.heap s.heap [] := va_S.rf
  have hl := lv_entry ([.ref (a 0), .int p1]) (n := 4) (Nat.le_of_ble_eq_true rfl)
  rw [lg_entry_eq]
  generalize (lg_sl ([.ref (a 0), .int p1]) ++ List.replicate (4 - (lg_sl ([.ref (a 0), .int p1])).length) Slot.unset).toArray = ls at hl ⊢
  exact wX11_canSay C hA hf hP hD hS hl
theorem lk_RX11_134 : LkV RX11 134 yX11_canSay cX11_canSay 4 (some .boolean) 1 := ⟨⟨by decide +kernel, by decide +kernel, by decide +kernel, by decide +kernel, by decide +kernel, by decide +kernel⟩, by decide +kernel, by decide +kernel⟩
def fX11_sayable_j23 (N : Nat) (S : St) (p1 : Int32) (g4 : Int32 × Int32 → Option (Int32)) (x3 : Int32) (y0 : Int32) (y1 : Int32) : Option (Int32) :=
  g4 (((y0 + y1), (x3 + 1)))
def fX11_sayable_b4 (N : Nat) (S : St) (p1 : Int32) (g4 : Int32 × Int32 → Option (Int32)) (x2 : Int32) (x3 : Int32) : Option (Int32) :=
  if p1 < x3 then (some x2) else (Option.bind (fX11_canSay N S x3) (fun q2 => if q2 = 0 then (fX11_sayable_j23 N S p1 g4 x3 x2 ((0 : Int32))) else (fX11_sayable_j23 N S p1 g4 x3 x2 ((1 : Int32)))))
def fX11_sayable_l4 (N : Nat) (S : St) (p1 : Int32) (k : Nat) (q : Int32 × Int32) : Option (Int32) := lpN (fun g q => fX11_sayable_b4 N S p1 g q.1 q.2) k q
def fX11_sayable (N : Nat) (S : St) (p1 : Int32) : Option (Int32) :=
  fX11_sayable_l4 N S p1 N (((0 : Int32), (0 : Int32)))
set_option maxRecDepth 100000 in
set_option maxHeartbeats 4000000 in
theorem wX11_sayable_23 (C : Cx p s m args meth c D cA cX11_sayable 4 RX11 (some .int)) (hA : ∀ q : Nat, s.heap.size ≤ q → A q) {N : Nat} {z : Int32} {S : St} {p1 : Int32} {g4 : Int32 × Int32 → Option (Int32)} (hg4 : ∀ (x2 : Int32) (x3 : Int32), g4 (x2, x3) = some z → ∀ (H : Heap) (locs : List Loc) (ls : Array Slot), va_P D vwCl (w_M cA a S) H → va_D A (w_M cA a S) → va_S A s.heap H locs → lv_has ls 4 [(0, .ref (a 0)), (1, .int p1), (2, .int x2), (3, .int x3)] → W p l e (rmU 1 23 0 0) s m args below meth c H locs 0 0 (MQ below (QI D A z (w_M cA a S)) args s 0 0 A) (F0 m 4 ls [])) {x3 : Int32} {y0 : Int32} {y1 : Int32} (hf : fX11_sayable_j23 N S p1 g4 x3 y0 y1 = some z) {H : Heap} {locs : List Loc} {ls : Array Slot} (hP : va_P D vwCl (w_M cA a S) H) (hD : va_D A (w_M cA a S)) (hS : va_S A s.heap H locs) (hl : lv_has ls 4 [(0, .ref (a 0)), (1, .int p1), (3, .int x3)]) : W p l e (rmU 1 23 0 0) s m args below meth c H locs 0 0 (MQ below (QI D A z (w_M cA a S)) args s 0 0 A) (F0 m 23 ls [.int y1, .int y0]) := by
  obtain ⟨hx, hb, hml, hown, hts, hK, hN, hr, hlk⟩ := id C
  unfold fX11_sayable_j23 at hf
  refine lv_iadd (pc := 23) hx hb dX11_sayable_23 ?_
  refine lv_istore_n (lv' := [(2, .int ((y0 + y1))), (0, .ref (a 0)), (1, .int p1), (3, .int x3)]) (pc := 24) hx hb dX11_sayable_24 rfl hl (by decide) rfl (fun ls hl => ?_)
  refine lv_iinc (v := (x3 + 1)) (lv' := [(3, .int ((x3 + 1))), (2, .int ((y0 + y1))), (0, .ref (a 0)), (1, .int p1)]) (pc := 25) hx hb dX11_sayable_25 hl (k := 3) rfl (by rfl) (by decide) rfl (fun ls hl => ?_)
  refine lv_goto (tgt := 4) (pc := 28) hx hb dX11_sayable_28 (by decide) ?_
  exact hg4 ((y0 + y1)) ((x3 + 1)) hf _ _ _ hP hD hS (lv_sub hl [2, 3, 1, 0] rfl)
set_option maxRecDepth 100000 in
set_option maxHeartbeats 4000000 in
theorem wX11_sayable_4 (C : Cx p s m args meth c D cA cX11_sayable 4 RX11 (some .int)) (hA : ∀ q : Nat, s.heap.size ≤ q → A q) {N : Nat} {z : Int32} {S : St} {p1 : Int32} : ∀ (k : Nat) (x2 : Int32) (x3 : Int32), fX11_sayable_l4 N S p1 k (x2, x3) = some z → ∀ (H : Heap) (locs : List Loc) (ls : Array Slot), va_P D vwCl (w_M cA a S) H → va_D A (w_M cA a S) → va_S A s.heap H locs → lv_has ls 4 [(0, .ref (a 0)), (1, .int p1), (2, .int x2), (3, .int x3)] → W p l e (rmU 1 23 0 0) s m args below meth c H locs 0 0 (MQ below (QI D A z (w_M cA a S)) args s 0 0 A) (F0 m 4 ls []) := by
  obtain ⟨hx, hb, hml, hown, hts, hK, hN, hr, hlk⟩ := id C
  intro k
  induction k with
  | zero =>
    intro x2 x3 hf
    have hf : (none : Option (Int32)) = some z := hf
    cases hf
  | succ k hg4 =>
    intro x2 x3 hf H locs ls hP hD hS hl
    have hf : fX11_sayable_b4 N S p1 (fX11_sayable_l4 N S p1 k) x2 x3 = some z := hf
    unfold fX11_sayable_b4 at hf
    refine lv_iload_n (pc := 4) hx hb dX11_sayable_4 rfl (lv_at hl 3 rfl) ?_
    refine lv_iload_n (pc := 5) hx hb dX11_sayable_5 rfl (lv_at hl 1 rfl) ?_
    refine lv_icmp_gt (tgt := 31) (pc := 6) hx hb dX11_sayable_6 (by decide) (fun c1 => ?_) (fun c1 => ?_)
    · have hf := pt_t c1 hf
      refine lv_iload_n (pc := 31) hx hb dX11_sayable_31 rfl (lv_at hl 2 rfl) ?_
      cases hf
      exact ret_i C hP hD hS dX11_sayable_32
    · have hf := pt_f c1 hf
      refine lv_iload_n (pc := 9) hx hb dX11_sayable_9 rfl (lv_at hl 2 rfl) ?_
      refine lv_aload_n (pc := 10) hx hb dX11_sayable_10 rfl (lv_at hl 0 rfl) ?_
      refine lv_iload_n (pc := 11) hx hb dX11_sayable_11 rfl (lv_at hl 3 rfl) ?_
      obtain ⟨q2, hq2, hf⟩ := pt_b hf
      refine all_i (runU_V (pc := 12) (As := [.int x3]) (b := a 0) (rest := [.int x2]) (ci := 10) (q0 := 0) C lk_RX11_134 (kX11_canSay l D cA a hq2 H.size) ⟨Nat.le_of_ble_eq_true rfl, Nat.le_of_ble_eq_true rfl⟩ ⟨Nat.le_refl _, Nat.le_refl _⟩ hP hD rfl rfl rfl hl.1 rfl (Nat.le_of_ble_eq_true rfl) dX11_sayable_12) hD hS hA (fun H locs hP hD hS => ?_)
      refine lv_if_eq (tgt := 22) (pc := 15) hx hb dX11_sayable_15 (by decide) (fun c3 => ?_) (fun c3 => ?_)
      · have hf := pt_t c3 hf
        refine lv_iconst (v := (0 : Int32)) (pc := 22) hx hb dX11_sayable_22 (by decide) ?_
        exact wX11_sayable_23 C hA hg4 hf hP hD hS (lv_sub hl [0, 1, 3] rfl)
      · have hf := pt_f c3 hf
        refine lv_iconst (v := (1 : Int32)) (pc := 18) hx hb dX11_sayable_18 (by decide) ?_
        refine lv_goto (tgt := 23) (pc := 19) hx hb dX11_sayable_19 (by decide) ?_
        exact wX11_sayable_23 C hA hg4 hf hP hD hS (lv_sub hl [0, 1, 3] rfl)
set_option maxRecDepth 100000 in
set_option maxHeartbeats 4000000 in
theorem wX11_sayable (C : Cx p s m args meth c D cA cX11_sayable 4 RX11 (some .int)) (hA : ∀ q : Nat, s.heap.size ≤ q → A q) {N : Nat} {z : Int32} {S : St} {p1 : Int32} (hf : fX11_sayable N S p1 = some z) {H : Heap} {locs : List Loc} {ls : Array Slot} (hP : va_P D vwCl (w_M cA a S) H) (hD : va_D A (w_M cA a S)) (hS : va_S A s.heap H locs) (hl : lv_has ls 4 [(0, .ref (a 0)), (1, .int p1)]) : W p l e (rmU 1 23 0 0) s m args below meth c H locs 0 0 (MQ below (QI D A z (w_M cA a S)) args s 0 0 A) (F0 m 0 ls []) := by
  obtain ⟨hx, hb, hml, hown, hts, hK, hN, hr, hlk⟩ := id C
  unfold fX11_sayable at hf
  refine lv_iconst (v := (0 : Int32)) (pc := 0) hx hb dX11_sayable_0 (by decide) ?_
  refine lv_istore_n (lv' := [(2, .int ((0 : Int32))), (0, .ref (a 0)), (1, .int p1)]) (pc := 1) hx hb dX11_sayable_1 rfl hl (by decide) rfl (fun ls hl => ?_)
  refine lv_iconst (v := (0 : Int32)) (pc := 2) hx hb dX11_sayable_2 (by decide) ?_
  refine lv_istore_n (lv' := [(3, .int ((0 : Int32))), (2, .int ((0 : Int32))), (0, .ref (a 0)), (1, .int p1)]) (pc := 3) hx hb dX11_sayable_3 rfl hl (by decide) rfl (fun ls hl => ?_)
  exact wX11_sayable_4 C hA  _ ((0 : Int32)) ((0 : Int32)) hf _ _ _ hP hD hS (lv_sub hl [2, 3, 1, 0] rfl)
set_option maxRecDepth 100000 in
set_option maxHeartbeats 4000000 in
theorem kX11_sayable (l : Launch) (D : va_G) (cA : Nat → ClassId) (a : Nat → Nat) {N : Nat} {S : St} {p1 : Int32} {z : Int32} (hf : fX11_sayable N S p1 = some z) : CtI l yX11_sayable cX11_sayable 4 (some .int) 1 23 D cA (w_M cA a S) (w_M cA a S) [.ref (a 0), .int p1] z := by
  intro sz
  refine Met.ofW (cc := cX11_sayable) (maxL := 4) (ret := (some .int)) (by decide) rfl ?_
  intro p e s m args below meth c s₁ B hml hv
  obtain ⟨rfl, hsz, hP, hK, hD0⟩ := hv
  subst hsz
  have C : Cx p s m _ meth c D cA cX11_sayable 4 RX11 (some .int) := Cx.of B hml hK
  have hD := hD0.self (sz := s.heap.size)
  have hA : ∀ q : Nat, s.heap.size ≤ q → va_A (w_M cA a S) s.heap.size q := fun q h => Or.inr h
  have hS : va_S (va_A (w_M cA a S) s.heap.size) s.heap s.heap [] := va_S.rf
  have hl := lv_entry ([.ref (a 0), .int p1]) (n := 4) (Nat.le_of_ble_eq_true rfl)
  rw [lg_entry_eq]
  generalize (lg_sl ([.ref (a 0), .int p1]) ++ List.replicate (4 - (lg_sl ([.ref (a 0), .int p1])).length) Slot.unset).toArray = ls at hl ⊢
  exact wX11_sayable C hA hf hP hD hS hl
theorem kl_RX11_137 : Cond.constantLong RX11 137 (99999) ∈ wsL_law := by decide +kernel
def fX11_said (N : Nat) (S : St) (p1 : Int32) : Option (Int32) :=
  Option.bind (fX11_in N p1.toInt64 ((0 : Int64)) ((99999 : Int64))) (fun q1 => if q1 = 0 then (some ((-1 : Int32))) else (Option.bind (fX11_canSay N S p1) (fun q3 => if q3 = 0 then (some ((0 : Int32))) else (some ((1 : Int32))))))
set_option maxRecDepth 100000 in
set_option maxHeartbeats 4000000 in
theorem wX11_said (C : Cx p s m args meth c D cA cX11_said 2 RX11 (some .int)) (hA : ∀ q : Nat, s.heap.size ≤ q → A q) {N : Nat} {z : Int32} {S : St} {p1 : Int32} (hf : fX11_said N S p1 = some z) {H : Heap} {locs : List Loc} {ls : Array Slot} (hP : va_P D vwCl (w_M cA a S) H) (hD : va_D A (w_M cA a S)) (hS : va_S A s.heap H locs) (hl : lv_has ls 2 [(0, .ref (a 0)), (1, .int p1)]) : W p l e (rmU 1 25 0 0) s m args below meth c H locs 0 0 (MQ below (QI D A z (w_M cA a S)) args s 0 0 A) (F0 m 0 ls []) := by
  obtain ⟨hx, hb, hml, hown, hts, hK, hN, hr, hlk⟩ := id C
  unfold fX11_said at hf
  refine lv_iload_n (pc := 0) hx hb dX11_said_0 rfl (lv_at hl 1 rfl) ?_
  refine lv_i2l (v := p1.toInt64) (pc := 1) hx hb dX11_said_1 rfl ?_
  refine lv_lconst (v := (0 : Int64)) (pc := 2) hx hb dX11_said_2 (by decide) ?_
  refine lv_ldc2 (pc := 3) (v := (99999 : Int64)) hx hb hown (hts _ kl_RX11_137) dX11_said_3 ?_
  obtain ⟨q1, hq1, hf⟩ := pt_b hf
  have hPc : va_P D vwCl ([] : va_W) H := hP.sub [] rfl
  have hDc : va_D A ([] : va_W) := hD.sub [] (by decide) rfl
  refine prt_i (runU_S (pc := 6) (As := [.long p1.toInt64, .long ((0 : Int64)), .long ((99999 : Int64))]) (rest := []) C lk_RX11_72 (kX11_in l D cA hq1 H.size) ⟨Nat.le_of_ble_eq_true rfl, Nat.le_of_ble_eq_true rfl⟩ ⟨Nat.le_refl _, Nat.le_refl _⟩ hPc hDc hl.1 rfl (Nat.le_of_ble_eq_true rfl) dX11_said_6) hP hD hS hA [] rfl (fun H locs hP hD hS => ?_)
  refine lv_if_ne (tgt := 16) (pc := 9) hx hb dX11_said_9 (by decide) (fun c2 => ?_) (fun c2 => ?_)
  · have hf := pt_f c2 hf
    refine lv_aload_n (pc := 16) hx hb dX11_said_16 rfl (lv_at hl 0 rfl) ?_
    refine lv_iload_n (pc := 17) hx hb dX11_said_17 rfl (lv_at hl 1 rfl) ?_
    obtain ⟨q3, hq3, hf⟩ := pt_b hf
    refine all_i (runU_V (pc := 18) (As := [.int p1]) (b := a 0) (rest := []) (ci := 10) (q0 := 0) C lk_RX11_134 (kX11_canSay l D cA a hq3 H.size) ⟨Nat.le_of_ble_eq_true rfl, Nat.le_of_ble_eq_true rfl⟩ ⟨Nat.le_refl _, Nat.le_refl _⟩ hP hD rfl rfl rfl hl.1 rfl (Nat.le_of_ble_eq_true rfl) dX11_said_18) hD hS hA (fun H locs hP hD hS => ?_)
    refine lv_if_eq (tgt := 28) (pc := 21) hx hb dX11_said_21 (by decide) (fun c4 => ?_) (fun c4 => ?_)
    · have hf := pt_t c4 hf
      refine lv_iconst (v := (0 : Int32)) (pc := 28) hx hb dX11_said_28 (by decide) ?_
      cases hf
      exact ret_i C hP hD hS dX11_said_29
    · have hf := pt_f c4 hf
      refine lv_iconst (v := (1 : Int32)) (pc := 24) hx hb dX11_said_24 (by decide) ?_
      refine lv_goto (tgt := 29) (pc := 25) hx hb dX11_said_25 (by decide) ?_
      cases hf
      exact ret_i C hP hD hS dX11_said_29
  · have hf := pt_t c2 hf
    refine lv_iconst (v := (-1 : Int32)) (pc := 12) hx hb dX11_said_12 (by decide) ?_
    refine lv_goto (tgt := 29) (pc := 13) hx hb dX11_said_13 (by decide) ?_
    cases hf
    exact ret_i C hP hD hS dX11_said_29
set_option maxRecDepth 100000 in
set_option maxHeartbeats 4000000 in
theorem kX11_said (l : Launch) (D : va_G) (cA : Nat → ClassId) (a : Nat → Nat) {N : Nat} {S : St} {p1 : Int32} {z : Int32} (hf : fX11_said N S p1 = some z) : CtI l yX11_said cX11_said 2 (some .int) 1 25 D cA (w_M cA a S) (w_M cA a S) [.ref (a 0), .int p1] z := by
  intro sz
  refine Met.ofW (cc := cX11_said) (maxL := 2) (ret := (some .int)) (by decide) rfl ?_
  intro p e s m args below meth c s₁ B hml hv
  obtain ⟨rfl, hsz, hP, hK, hD0⟩ := hv
  subst hsz
  have C : Cx p s m _ meth c D cA cX11_said 2 RX11 (some .int) := Cx.of B hml hK
  have hD := hD0.self (sz := s.heap.size)
  have hA : ∀ q : Nat, s.heap.size ≤ q → va_A (w_M cA a S) s.heap.size q := fun q h => Or.inr h
  have hS : va_S (va_A (w_M cA a S) s.heap.size) s.heap s.heap [] := va_S.rf
  have hl := lv_entry ([.ref (a 0), .int p1]) (n := 2) (Nat.le_of_ble_eq_true rfl)
  rw [lg_entry_eq]
  generalize (lg_sl ([.ref (a 0), .int p1]) ++ List.replicate (2 - (lg_sl ([.ref (a 0), .int p1])).length) Slot.unset).toArray = ls at hl ⊢
  exact wX11_said C hA hf hP hD hS hl
theorem kc_RX11_139 : Cond.constant RX11 139 (99999) ∈ wsL_law := by decide +kernel
def fX11_next_j38 (N : Nat) (S : St) (p1 : Int32) (x2 : Int32) : Option (Int32) :=
  if (99999 : Int32) < x2 then (some ((-4 : Int32))) else (some x2)
def fX11_next_b18 (N : Nat) (S : St) (p1 : Int32) (g18 : Int32 → Option (Int32)) (x2 : Int32) : Option (Int32) :=
  if (99999 : Int32) < x2 then (fX11_next_j38 N S p1 x2) else (Option.bind (fX11_canSay N S x2) (fun q2 => if q2 = 0 then (g18 ((x2 + 1))) else (fX11_next_j38 N S p1 x2)))
def fX11_next_l18 (N : Nat) (S : St) (p1 : Int32) (k : Nat) (q : Int32) : Option (Int32) := lpN (fun g q => fX11_next_b18 N S p1 g q) k q
def fX11_next (N : Nat) (S : St) (p1 : Int32) : Option (Int32) :=
  Option.bind (fX11_in N p1.toInt64 ((0 : Int64)) ((99999 : Int64))) (fun q1 => if q1 = 0 then (some ((-1 : Int32))) else (fX11_next_l18 N S p1 N ((p1 + (1 : Int32)))))
set_option maxRecDepth 100000 in
set_option maxHeartbeats 4000000 in
theorem wX11_next_38 (C : Cx p s m args meth c D cA cX11_next 3 RX11 (some .int)) (hA : ∀ q : Nat, s.heap.size ≤ q → A q) {N : Nat} {z : Int32} {S : St} {p1 : Int32} {x2 : Int32} (hf : fX11_next_j38 N S p1 x2 = some z) {H : Heap} {locs : List Loc} {ls : Array Slot} (hP : va_P D vwCl (w_M cA a S) H) (hD : va_D A (w_M cA a S)) (hS : va_S A s.heap H locs) (hl : lv_has ls 3 [(2, .int x2)]) : W p l e (rmU 1 25 0 0) s m args below meth c H locs 0 0 (MQ below (QI D A z (w_M cA a S)) args s 0 0 A) (F0 m 38 ls []) := by
  obtain ⟨hx, hb, hml, hown, hts, hK, hN, hr, hlk⟩ := id C
  unfold fX11_next_j38 at hf
  refine lv_iload_n (pc := 38) hx hb dX11_next_38 rfl (lv_at hl 0 rfl) ?_
  refine lv_ldc (pc := 39) (v := (99999 : Int32)) hx hb hown (hts _ kc_RX11_139) dX11_next_39 ?_
  refine lv_icmp_gt (tgt := 48) (pc := 41) hx hb dX11_next_41 (by decide) (fun c1 => ?_) (fun c1 => ?_)
  · have hf := pt_t c1 hf
    refine lv_bipush (v := (-4 : Int32)) (pc := 48) hx hb dX11_next_48 (by decide) ?_
    cases hf
    exact ret_i C hP hD hS dX11_next_50
  · have hf := pt_f c1 hf
    refine lv_iload_n (pc := 44) hx hb dX11_next_44 rfl (lv_at hl 0 rfl) ?_
    refine lv_goto (tgt := 50) (pc := 45) hx hb dX11_next_45 (by decide) ?_
    cases hf
    exact ret_i C hP hD hS dX11_next_50
set_option maxRecDepth 100000 in
set_option maxHeartbeats 4000000 in
theorem wX11_next_18 (C : Cx p s m args meth c D cA cX11_next 3 RX11 (some .int)) (hA : ∀ q : Nat, s.heap.size ≤ q → A q) {N : Nat} {z : Int32} {S : St} {p1 : Int32} : ∀ (k : Nat) (x2 : Int32), fX11_next_l18 N S p1 k x2 = some z → ∀ (H : Heap) (locs : List Loc) (ls : Array Slot), va_P D vwCl (w_M cA a S) H → va_D A (w_M cA a S) → va_S A s.heap H locs → lv_has ls 3 [(0, .ref (a 0)), (2, .int x2)] → W p l e (rmU 1 25 0 0) s m args below meth c H locs 0 0 (MQ below (QI D A z (w_M cA a S)) args s 0 0 A) (F0 m 18 ls []) := by
  obtain ⟨hx, hb, hml, hown, hts, hK, hN, hr, hlk⟩ := id C
  intro k
  induction k with
  | zero =>
    intro x2 hf
    have hf : (none : Option (Int32)) = some z := hf
    cases hf
  | succ k hg18 =>
    intro x2 hf H locs ls hP hD hS hl
    have hf : fX11_next_b18 N S p1 (fX11_next_l18 N S p1 k) x2 = some z := hf
    unfold fX11_next_b18 at hf
    refine lv_iload_n (pc := 18) hx hb dX11_next_18 rfl (lv_at hl 1 rfl) ?_
    refine lv_ldc (pc := 19) (v := (99999 : Int32)) hx hb hown (hts _ kc_RX11_139) dX11_next_19 ?_
    refine lv_icmp_gt (tgt := 38) (pc := 21) hx hb dX11_next_21 (by decide) (fun c1 => ?_) (fun c1 => ?_)
    · have hf := pt_t c1 hf
      exact wX11_next_38 C hA  hf hP hD hS (lv_sub hl [1] rfl)
    · have hf := pt_f c1 hf
      refine lv_aload_n (pc := 24) hx hb dX11_next_24 rfl (lv_at hl 0 rfl) ?_
      refine lv_iload_n (pc := 25) hx hb dX11_next_25 rfl (lv_at hl 1 rfl) ?_
      obtain ⟨q2, hq2, hf⟩ := pt_b hf
      refine all_i (runU_V (pc := 26) (As := [.int x2]) (b := a 0) (rest := []) (ci := 10) (q0 := 0) C lk_RX11_134 (kX11_canSay l D cA a hq2 H.size) ⟨Nat.le_of_ble_eq_true rfl, Nat.le_of_ble_eq_true rfl⟩ ⟨Nat.le_refl _, Nat.le_refl _⟩ hP hD rfl rfl rfl hl.1 rfl (Nat.le_of_ble_eq_true rfl) dX11_next_26) hD hS hA (fun H locs hP hD hS => ?_)
      refine lv_if_ne (tgt := 38) (pc := 29) hx hb dX11_next_29 (by decide) (fun c3 => ?_) (fun c3 => ?_)
      · have hf := pt_f c3 hf
        exact wX11_next_38 C hA  hf hP hD hS (lv_sub hl [1] rfl)
      · have hf := pt_t c3 hf
        refine lv_iinc (v := (x2 + 1)) (lv' := [(2, .int ((x2 + 1))), (0, .ref (a 0))]) (pc := 32) hx hb dX11_next_32 hl (k := 1) rfl (by rfl) (by decide) rfl (fun ls hl => ?_)
        refine lv_goto (tgt := 18) (pc := 35) hx hb dX11_next_35 (by decide) ?_
        exact hg18 ((x2 + 1)) hf _ _ _ hP hD hS (lv_sub hl [1, 0] rfl)
set_option maxRecDepth 100000 in
set_option maxHeartbeats 4000000 in
theorem wX11_next (C : Cx p s m args meth c D cA cX11_next 3 RX11 (some .int)) (hA : ∀ q : Nat, s.heap.size ≤ q → A q) {N : Nat} {z : Int32} {S : St} {p1 : Int32} (hf : fX11_next N S p1 = some z) {H : Heap} {locs : List Loc} {ls : Array Slot} (hP : va_P D vwCl (w_M cA a S) H) (hD : va_D A (w_M cA a S)) (hS : va_S A s.heap H locs) (hl : lv_has ls 3 [(0, .ref (a 0)), (1, .int p1)]) : W p l e (rmU 1 25 0 0) s m args below meth c H locs 0 0 (MQ below (QI D A z (w_M cA a S)) args s 0 0 A) (F0 m 0 ls []) := by
  obtain ⟨hx, hb, hml, hown, hts, hK, hN, hr, hlk⟩ := id C
  unfold fX11_next at hf
  refine lv_iload_n (pc := 0) hx hb dX11_next_0 rfl (lv_at hl 1 rfl) ?_
  refine lv_i2l (v := p1.toInt64) (pc := 1) hx hb dX11_next_1 rfl ?_
  refine lv_lconst (v := (0 : Int64)) (pc := 2) hx hb dX11_next_2 (by decide) ?_
  refine lv_ldc2 (pc := 3) (v := (99999 : Int64)) hx hb hown (hts _ kl_RX11_137) dX11_next_3 ?_
  obtain ⟨q1, hq1, hf⟩ := pt_b hf
  have hPc : va_P D vwCl ([] : va_W) H := hP.sub [] rfl
  have hDc : va_D A ([] : va_W) := hD.sub [] (by decide) rfl
  refine prt_i (runU_S (pc := 6) (As := [.long p1.toInt64, .long ((0 : Int64)), .long ((99999 : Int64))]) (rest := []) C lk_RX11_72 (kX11_in l D cA hq1 H.size) ⟨Nat.le_of_ble_eq_true rfl, Nat.le_of_ble_eq_true rfl⟩ ⟨Nat.le_refl _, Nat.le_refl _⟩ hPc hDc hl.1 rfl (Nat.le_of_ble_eq_true rfl) dX11_next_6) hP hD hS hA [] rfl (fun H locs hP hD hS => ?_)
  refine lv_if_ne (tgt := 14) (pc := 9) hx hb dX11_next_9 (by decide) (fun c2 => ?_) (fun c2 => ?_)
  · have hf := pt_f c2 hf
    refine lv_iload_n (pc := 14) hx hb dX11_next_14 rfl (lv_at hl 1 rfl) ?_
    refine lv_iconst (v := (1 : Int32)) (pc := 15) hx hb dX11_next_15 (by decide) ?_
    refine lv_iadd (pc := 16) hx hb dX11_next_16 ?_
    refine lv_istore_n (lv' := [(2, .int ((p1 + (1 : Int32)))), (0, .ref (a 0)), (1, .int p1)]) (pc := 17) hx hb dX11_next_17 rfl hl (by decide) rfl (fun ls hl => ?_)
    exact wX11_next_18 C hA  _ ((p1 + (1 : Int32))) hf _ _ _ hP hD hS (lv_sub hl [1, 0] rfl)
  · have hf := pt_t c2 hf
    refine lv_iconst (v := (-1 : Int32)) (pc := 12) hx hb dX11_next_12 (by decide) ?_
    cases hf
    exact ret_i C hP hD hS dX11_next_13
set_option maxRecDepth 100000 in
set_option maxHeartbeats 4000000 in
theorem kX11_next (l : Launch) (D : va_G) (cA : Nat → ClassId) (a : Nat → Nat) {N : Nat} {S : St} {p1 : Int32} {z : Int32} (hf : fX11_next N S p1 = some z) : CtI l yX11_next cX11_next 3 (some .int) 1 25 D cA (w_M cA a S) (w_M cA a S) [.ref (a 0), .int p1] z := by
  intro sz
  refine Met.ofW (cc := cX11_next) (maxL := 3) (ret := (some .int)) (by decide) rfl ?_
  intro p e s m args below meth c s₁ B hml hv
  obtain ⟨rfl, hsz, hP, hK, hD0⟩ := hv
  subst hsz
  have C : Cx p s m _ meth c D cA cX11_next 3 RX11 (some .int) := Cx.of B hml hK
  have hD := hD0.self (sz := s.heap.size)
  have hA : ∀ q : Nat, s.heap.size ≤ q → va_A (w_M cA a S) s.heap.size q := fun q h => Or.inr h
  have hS : va_S (va_A (w_M cA a S) s.heap.size) s.heap s.heap [] := va_S.rf
  have hl := lv_entry ([.ref (a 0), .int p1]) (n := 3) (Nat.le_of_ble_eq_true rfl)
  rw [lg_entry_eq]
  generalize (lg_sl ([.ref (a 0), .int p1]) ++ List.replicate (3 - (lg_sl ([.ref (a 0), .int p1])).length) Slot.unset).toArray = ls at hl ⊢
  exact wX11_next C hA hf hP hD hS hl
theorem lk_RX11_140 : LkV RX11 140 yX11_sayable cX11_sayable 4 (some .int) 1 := ⟨⟨by decide +kernel, by decide +kernel, by decide +kernel, by decide +kernel, by decide +kernel, by decide +kernel⟩, by decide +kernel, by decide +kernel⟩
def fX11_rank (N : Nat) (S : St) (p1 : Int32) : Option (Int32) :=
  Option.bind (fX11_in N p1.toInt64 ((0 : Int64)) ((99999 : Int64))) (fun q1 => if q1 = 0 then (some ((-1 : Int32))) else (Option.bind (fX11_sayable N S p1) (fun q3 => some q3)))
set_option maxRecDepth 100000 in
set_option maxHeartbeats 4000000 in
theorem wX11_rank (C : Cx p s m args meth c D cA cX11_rank 2 RX11 (some .int)) (hA : ∀ q : Nat, s.heap.size ≤ q → A q) {N : Nat} {z : Int32} {S : St} {p1 : Int32} (hf : fX11_rank N S p1 = some z) {H : Heap} {locs : List Loc} {ls : Array Slot} (hP : va_P D vwCl (w_M cA a S) H) (hD : va_D A (w_M cA a S)) (hS : va_S A s.heap H locs) (hl : lv_has ls 2 [(0, .ref (a 0)), (1, .int p1)]) : W p l e (rmU 2 46 0 0) s m args below meth c H locs 0 0 (MQ below (QI D A z (w_M cA a S)) args s 0 0 A) (F0 m 0 ls []) := by
  obtain ⟨hx, hb, hml, hown, hts, hK, hN, hr, hlk⟩ := id C
  unfold fX11_rank at hf
  refine lv_iload_n (pc := 0) hx hb dX11_rank_0 rfl (lv_at hl 1 rfl) ?_
  refine lv_i2l (v := p1.toInt64) (pc := 1) hx hb dX11_rank_1 rfl ?_
  refine lv_lconst (v := (0 : Int64)) (pc := 2) hx hb dX11_rank_2 (by decide) ?_
  refine lv_ldc2 (pc := 3) (v := (99999 : Int64)) hx hb hown (hts _ kl_RX11_137) dX11_rank_3 ?_
  obtain ⟨q1, hq1, hf⟩ := pt_b hf
  have hPc : va_P D vwCl ([] : va_W) H := hP.sub [] rfl
  have hDc : va_D A ([] : va_W) := hD.sub [] (by decide) rfl
  refine prt_i (runU_S (pc := 6) (As := [.long p1.toInt64, .long ((0 : Int64)), .long ((99999 : Int64))]) (rest := []) C lk_RX11_72 (kX11_in l D cA hq1 H.size) ⟨Nat.le_of_ble_eq_true rfl, Nat.le_of_ble_eq_true rfl⟩ ⟨Nat.le_refl _, Nat.le_refl _⟩ hPc hDc hl.1 rfl (Nat.le_of_ble_eq_true rfl) dX11_rank_6) hP hD hS hA [] rfl (fun H locs hP hD hS => ?_)
  refine lv_if_eq (tgt := 20) (pc := 9) hx hb dX11_rank_9 (by decide) (fun c2 => ?_) (fun c2 => ?_)
  · have hf := pt_t c2 hf
    refine lv_iconst (v := (-1 : Int32)) (pc := 20) hx hb dX11_rank_20 (by decide) ?_
    cases hf
    exact ret_i C hP hD hS dX11_rank_21
  · have hf := pt_f c2 hf
    refine lv_aload_n (pc := 12) hx hb dX11_rank_12 rfl (lv_at hl 0 rfl) ?_
    refine lv_iload_n (pc := 13) hx hb dX11_rank_13 rfl (lv_at hl 1 rfl) ?_
    obtain ⟨q3, hq3, hf⟩ := pt_b hf
    refine all_i (runU_V (pc := 14) (As := [.int p1]) (b := a 0) (rest := []) (ci := 10) (q0 := 0) C lk_RX11_140 (kX11_sayable l D cA a hq3 H.size) ⟨Nat.le_of_ble_eq_true rfl, Nat.le_of_ble_eq_true rfl⟩ ⟨Nat.le_refl _, Nat.le_refl _⟩ hP hD rfl rfl rfl hl.1 rfl (Nat.le_of_ble_eq_true rfl) dX11_rank_14) hD hS hA (fun H locs hP hD hS => ?_)
    refine lv_goto (tgt := 21) (pc := 17) hx hb dX11_rank_17 (by decide) ?_
    cases hf
    exact ret_i C hP hD hS dX11_rank_21
set_option maxRecDepth 100000 in
set_option maxHeartbeats 4000000 in
theorem kX11_rank (l : Launch) (D : va_G) (cA : Nat → ClassId) (a : Nat → Nat) {N : Nat} {S : St} {p1 : Int32} {z : Int32} (hf : fX11_rank N S p1 = some z) : CtI l yX11_rank cX11_rank 2 (some .int) 2 46 D cA (w_M cA a S) (w_M cA a S) [.ref (a 0), .int p1] z := by
  intro sz
  refine Met.ofW (cc := cX11_rank) (maxL := 2) (ret := (some .int)) (by decide) rfl ?_
  intro p e s m args below meth c s₁ B hml hv
  obtain ⟨rfl, hsz, hP, hK, hD0⟩ := hv
  subst hsz
  have C : Cx p s m _ meth c D cA cX11_rank 2 RX11 (some .int) := Cx.of B hml hK
  have hD := hD0.self (sz := s.heap.size)
  have hA : ∀ q : Nat, s.heap.size ≤ q → va_A (w_M cA a S) s.heap.size q := fun q h => Or.inr h
  have hS : va_S (va_A (w_M cA a S) s.heap.size) s.heap s.heap [] := va_S.rf
  have hl := lv_entry ([.ref (a 0), .int p1]) (n := 2) (Nat.le_of_ble_eq_true rfl)
  rw [lg_entry_eq]
  generalize (lg_sl ([.ref (a 0), .int p1]) ++ List.replicate (2 - (lg_sl ([.ref (a 0), .int p1])).length) Slot.unset).toArray = ls at hl ⊢
  exact wX11_rank C hA hf hP hD hS hl
def fX11_kth_j42 (N : Nat) (S : St) (p1 : Int32) (g18 : Int32 × Int32 → Option (Int32)) (x2 : Int32) (x3 : Int32) : Option (Int32) :=
  g18 ((x2, (x3 + 1)))
def fX11_kth_b18 (N : Nat) (S : St) (p1 : Int32) (g18 : Int32 × Int32 → Option (Int32)) (x2 : Int32) (x3 : Int32) : Option (Int32) :=
  if (99999 : Int32) < x3 then (some ((-4 : Int32))) else (Option.bind (fX11_canSay N S x3) (fun q2 => if q2 = 0 then (fX11_kth_j42 N S p1 g18 x2 x3) else (if x2 = p1 then (some x3) else (fX11_kth_j42 N S p1 g18 ((x2 + 1)) x3))))
def fX11_kth_l18 (N : Nat) (S : St) (p1 : Int32) (k : Nat) (q : Int32 × Int32) : Option (Int32) := lpN (fun g q => fX11_kth_b18 N S p1 g q.1 q.2) k q
def fX11_kth (N : Nat) (S : St) (p1 : Int32) : Option (Int32) :=
  Option.bind (fX11_in N p1.toInt64 ((0 : Int64)) ((99999 : Int64))) (fun q1 => if q1 = 0 then (some ((-1 : Int32))) else (fX11_kth_l18 N S p1 N (((0 : Int32), (0 : Int32)))))
set_option maxRecDepth 100000 in
set_option maxHeartbeats 4000000 in
theorem wX11_kth_42 (C : Cx p s m args meth c D cA cX11_kth 4 RX11 (some .int)) (hA : ∀ q : Nat, s.heap.size ≤ q → A q) {N : Nat} {z : Int32} {S : St} {p1 : Int32} {g18 : Int32 × Int32 → Option (Int32)} (hg18 : ∀ (x2 : Int32) (x3 : Int32), g18 (x2, x3) = some z → ∀ (H : Heap) (locs : List Loc) (ls : Array Slot), va_P D vwCl (w_M cA a S) H → va_D A (w_M cA a S) → va_S A s.heap H locs → lv_has ls 4 [(0, .ref (a 0)), (1, .int p1), (2, .int x2), (3, .int x3)] → W p l e (rmU 1 25 0 0) s m args below meth c H locs 0 0 (MQ below (QI D A z (w_M cA a S)) args s 0 0 A) (F0 m 18 ls [])) {x2 : Int32} {x3 : Int32} (hf : fX11_kth_j42 N S p1 g18 x2 x3 = some z) {H : Heap} {locs : List Loc} {ls : Array Slot} (hP : va_P D vwCl (w_M cA a S) H) (hD : va_D A (w_M cA a S)) (hS : va_S A s.heap H locs) (hl : lv_has ls 4 [(0, .ref (a 0)), (1, .int p1), (2, .int x2), (3, .int x3)]) : W p l e (rmU 1 25 0 0) s m args below meth c H locs 0 0 (MQ below (QI D A z (w_M cA a S)) args s 0 0 A) (F0 m 42 ls []) := by
  obtain ⟨hx, hb, hml, hown, hts, hK, hN, hr, hlk⟩ := id C
  unfold fX11_kth_j42 at hf
  refine lv_iinc (v := (x3 + 1)) (lv' := [(3, .int ((x3 + 1))), (0, .ref (a 0)), (1, .int p1), (2, .int x2)]) (pc := 42) hx hb dX11_kth_42 hl (k := 3) rfl (by rfl) (by decide) rfl (fun ls hl => ?_)
  refine lv_goto (tgt := 18) (pc := 45) hx hb dX11_kth_45 (by decide) ?_
  exact hg18 x2 ((x3 + 1)) hf _ _ _ hP hD hS (lv_sub hl [1, 2, 3, 0] rfl)
set_option maxRecDepth 100000 in
set_option maxHeartbeats 4000000 in
theorem wX11_kth_18 (C : Cx p s m args meth c D cA cX11_kth 4 RX11 (some .int)) (hA : ∀ q : Nat, s.heap.size ≤ q → A q) {N : Nat} {z : Int32} {S : St} {p1 : Int32} : ∀ (k : Nat) (x2 : Int32) (x3 : Int32), fX11_kth_l18 N S p1 k (x2, x3) = some z → ∀ (H : Heap) (locs : List Loc) (ls : Array Slot), va_P D vwCl (w_M cA a S) H → va_D A (w_M cA a S) → va_S A s.heap H locs → lv_has ls 4 [(0, .ref (a 0)), (1, .int p1), (2, .int x2), (3, .int x3)] → W p l e (rmU 1 25 0 0) s m args below meth c H locs 0 0 (MQ below (QI D A z (w_M cA a S)) args s 0 0 A) (F0 m 18 ls []) := by
  obtain ⟨hx, hb, hml, hown, hts, hK, hN, hr, hlk⟩ := id C
  intro k
  induction k with
  | zero =>
    intro x2 x3 hf
    have hf : (none : Option (Int32)) = some z := hf
    cases hf
  | succ k hg18 =>
    intro x2 x3 hf H locs ls hP hD hS hl
    have hf : fX11_kth_b18 N S p1 (fX11_kth_l18 N S p1 k) x2 x3 = some z := hf
    unfold fX11_kth_b18 at hf
    refine lv_iload_n (pc := 18) hx hb dX11_kth_18 rfl (lv_at hl 3 rfl) ?_
    refine lv_ldc (pc := 19) (v := (99999 : Int32)) hx hb hown (hts _ kc_RX11_139) dX11_kth_19 ?_
    refine lv_icmp_gt (tgt := 48) (pc := 21) hx hb dX11_kth_21 (by decide) (fun c1 => ?_) (fun c1 => ?_)
    · have hf := pt_t c1 hf
      refine lv_bipush (v := (-4 : Int32)) (pc := 48) hx hb dX11_kth_48 (by decide) ?_
      cases hf
      exact ret_i C hP hD hS dX11_kth_50
    · have hf := pt_f c1 hf
      refine lv_aload_n (pc := 24) hx hb dX11_kth_24 rfl (lv_at hl 0 rfl) ?_
      refine lv_iload_n (pc := 25) hx hb dX11_kth_25 rfl (lv_at hl 3 rfl) ?_
      obtain ⟨q2, hq2, hf⟩ := pt_b hf
      refine all_i (runU_V (pc := 26) (As := [.int x3]) (b := a 0) (rest := []) (ci := 10) (q0 := 0) C lk_RX11_134 (kX11_canSay l D cA a hq2 H.size) ⟨Nat.le_of_ble_eq_true rfl, Nat.le_of_ble_eq_true rfl⟩ ⟨Nat.le_refl _, Nat.le_refl _⟩ hP hD rfl rfl rfl hl.1 rfl (Nat.le_of_ble_eq_true rfl) dX11_kth_26) hD hS hA (fun H locs hP hD hS => ?_)
      refine lv_if_eq (tgt := 42) (pc := 29) hx hb dX11_kth_29 (by decide) (fun c3 => ?_) (fun c3 => ?_)
      · have hf := pt_t c3 hf
        exact wX11_kth_42 C hA hg18 hf hP hD hS (lv_sub hl [0, 1, 2, 3] rfl)
      · have hf := pt_f c3 hf
        refine lv_iload_n (pc := 32) hx hb dX11_kth_32 rfl (lv_at hl 2 rfl) ?_
        refine lv_iload_n (pc := 33) hx hb dX11_kth_33 rfl (lv_at hl 1 rfl) ?_
        refine lv_icmp_ne (tgt := 39) (pc := 34) hx hb dX11_kth_34 (by decide) (fun c4 => ?_) (fun c4 => ?_)
        · have hf := pt_f c4 hf
          refine lv_iinc (v := (x2 + 1)) (lv' := [(2, .int ((x2 + 1))), (0, .ref (a 0)), (1, .int p1), (3, .int x3)]) (pc := 39) hx hb dX11_kth_39 hl (k := 2) rfl (by rfl) (by decide) rfl (fun ls hl => ?_)
          exact wX11_kth_42 C hA hg18 hf hP hD hS (lv_sub hl [1, 2, 0, 3] rfl)
        · have hf := pt_t c4 hf
          refine lv_iload_n (pc := 37) hx hb dX11_kth_37 rfl (lv_at hl 3 rfl) ?_
          cases hf
          exact ret_i C hP hD hS dX11_kth_38
set_option maxRecDepth 100000 in
set_option maxHeartbeats 4000000 in
theorem wX11_kth (C : Cx p s m args meth c D cA cX11_kth 4 RX11 (some .int)) (hA : ∀ q : Nat, s.heap.size ≤ q → A q) {N : Nat} {z : Int32} {S : St} {p1 : Int32} (hf : fX11_kth N S p1 = some z) {H : Heap} {locs : List Loc} {ls : Array Slot} (hP : va_P D vwCl (w_M cA a S) H) (hD : va_D A (w_M cA a S)) (hS : va_S A s.heap H locs) (hl : lv_has ls 4 [(0, .ref (a 0)), (1, .int p1)]) : W p l e (rmU 1 25 0 0) s m args below meth c H locs 0 0 (MQ below (QI D A z (w_M cA a S)) args s 0 0 A) (F0 m 0 ls []) := by
  obtain ⟨hx, hb, hml, hown, hts, hK, hN, hr, hlk⟩ := id C
  unfold fX11_kth at hf
  refine lv_iload_n (pc := 0) hx hb dX11_kth_0 rfl (lv_at hl 1 rfl) ?_
  refine lv_i2l (v := p1.toInt64) (pc := 1) hx hb dX11_kth_1 rfl ?_
  refine lv_lconst (v := (0 : Int64)) (pc := 2) hx hb dX11_kth_2 (by decide) ?_
  refine lv_ldc2 (pc := 3) (v := (99999 : Int64)) hx hb hown (hts _ kl_RX11_137) dX11_kth_3 ?_
  obtain ⟨q1, hq1, hf⟩ := pt_b hf
  have hPc : va_P D vwCl ([] : va_W) H := hP.sub [] rfl
  have hDc : va_D A ([] : va_W) := hD.sub [] (by decide) rfl
  refine prt_i (runU_S (pc := 6) (As := [.long p1.toInt64, .long ((0 : Int64)), .long ((99999 : Int64))]) (rest := []) C lk_RX11_72 (kX11_in l D cA hq1 H.size) ⟨Nat.le_of_ble_eq_true rfl, Nat.le_of_ble_eq_true rfl⟩ ⟨Nat.le_refl _, Nat.le_refl _⟩ hPc hDc hl.1 rfl (Nat.le_of_ble_eq_true rfl) dX11_kth_6) hP hD hS hA [] rfl (fun H locs hP hD hS => ?_)
  refine lv_if_ne (tgt := 14) (pc := 9) hx hb dX11_kth_9 (by decide) (fun c2 => ?_) (fun c2 => ?_)
  · have hf := pt_f c2 hf
    refine lv_iconst (v := (0 : Int32)) (pc := 14) hx hb dX11_kth_14 (by decide) ?_
    refine lv_istore_n (lv' := [(2, .int ((0 : Int32))), (0, .ref (a 0)), (1, .int p1)]) (pc := 15) hx hb dX11_kth_15 rfl hl (by decide) rfl (fun ls hl => ?_)
    refine lv_iconst (v := (0 : Int32)) (pc := 16) hx hb dX11_kth_16 (by decide) ?_
    refine lv_istore_n (lv' := [(3, .int ((0 : Int32))), (2, .int ((0 : Int32))), (0, .ref (a 0)), (1, .int p1)]) (pc := 17) hx hb dX11_kth_17 rfl hl (by decide) rfl (fun ls hl => ?_)
    exact wX11_kth_18 C hA  _ ((0 : Int32)) ((0 : Int32)) hf _ _ _ hP hD hS (lv_sub hl [2, 3, 1, 0] rfl)
  · have hf := pt_t c2 hf
    refine lv_iconst (v := (-1 : Int32)) (pc := 12) hx hb dX11_kth_12 (by decide) ?_
    cases hf
    exact ret_i C hP hD hS dX11_kth_13
set_option maxRecDepth 100000 in
set_option maxHeartbeats 4000000 in
theorem kX11_kth (l : Launch) (D : va_G) (cA : Nat → ClassId) (a : Nat → Nat) {N : Nat} {S : St} {p1 : Int32} {z : Int32} (hf : fX11_kth N S p1 = some z) : CtI l yX11_kth cX11_kth 4 (some .int) 1 25 D cA (w_M cA a S) (w_M cA a S) [.ref (a 0), .int p1] z := by
  intro sz
  refine Met.ofW (cc := cX11_kth) (maxL := 4) (ret := (some .int)) (by decide) rfl ?_
  intro p e s m args below meth c s₁ B hml hv
  obtain ⟨rfl, hsz, hP, hK, hD0⟩ := hv
  subst hsz
  have C : Cx p s m _ meth c D cA cX11_kth 4 RX11 (some .int) := Cx.of B hml hK
  have hD := hD0.self (sz := s.heap.size)
  have hA : ∀ q : Nat, s.heap.size ≤ q → va_A (w_M cA a S) s.heap.size q := fun q h => Or.inr h
  have hS : va_S (va_A (w_M cA a S) s.heap.size) s.heap s.heap [] := va_S.rf
  have hl := lv_entry ([.ref (a 0), .int p1]) (n := 4) (Nat.le_of_ble_eq_true rfl)
  rw [lg_entry_eq]
  generalize (lg_sl ([.ref (a 0), .int p1]) ++ List.replicate (4 - (lg_sl ([.ref (a 0), .int p1])).length) Slot.unset).toArray = ls at hl ⊢
  exact wX11_kth C hA hf hP hD hS hl
theorem kl_RX11_143 : Cond.constantLong RX11 143 (2000000000) ∈ wsL_law := by decide +kernel
theorem kl_RX11_145 : Cond.constantLong RX11 145 (-2000000000) ∈ wsL_law := by decide +kernel
def fX11_within (N : Nat) (p0 : Int64) : Option (Int64) :=
  if (lg_cmp p0 ((2000000000 : Int64))) ≤ 0 then (if 0 ≤ (lg_cmp p0 ((-2000000000 : Int64))) then (some p0) else (some ((-2000000000 : Int64)))) else (some ((2000000000 : Int64)))
set_option maxRecDepth 100000 in
set_option maxHeartbeats 4000000 in
theorem wX11_within (C : Cx p s m args meth c D cA cX11_within 2 RX11 (some .long)) (hA : ∀ q : Nat, s.heap.size ≤ q → A q) {N : Nat} {z : Int64} {p0 : Int64} (hf : fX11_within N p0 = some z) {H : Heap} {locs : List Loc} {ls : Array Slot} (hP : va_P D vwCl ([] : va_W) H) (hD : va_D A ([] : va_W)) (hS : va_S A s.heap H locs) (hl : lv_has ls 2 [(0, .long p0)]) : W p l e (rmU 0 0 0 0) s m args below meth c H locs 0 0 (MQ below (QL D A z ([] : va_W)) args s 0 0 A) (F0 m 0 ls []) := by
  obtain ⟨hx, hb, hml, hown, hts, hK, hN, hr, hlk⟩ := id C
  unfold fX11_within at hf
  refine lv_lload_n (pc := 0) hx hb dX11_within_0 rfl (lv_at hl 0 rfl) ?_
  refine lv_ldc2 (pc := 1) (v := (2000000000 : Int64)) hx hb hown (hts _ kl_RX11_143) dX11_within_1 ?_
  refine W.lcmp (pc := 4) hx hb dX11_within_4 ?_
  refine lv_if_le (tgt := 14) (pc := 5) hx hb dX11_within_5 (by decide) (fun c1 => ?_) (fun c1 => ?_)
  · have hf := pt_t c1 hf
    refine lv_lload_n (pc := 14) hx hb dX11_within_14 rfl (lv_at hl 0 rfl) ?_
    refine lv_ldc2 (pc := 15) (v := (-2000000000 : Int64)) hx hb hown (hts _ kl_RX11_145) dX11_within_15 ?_
    refine W.lcmp (pc := 18) hx hb dX11_within_18 ?_
    refine lv_if_ge (tgt := 28) (pc := 19) hx hb dX11_within_19 (by decide) (fun c2 => ?_) (fun c2 => ?_)
    · have hf := pt_t c2 hf
      refine lv_lload_n (pc := 28) hx hb dX11_within_28 rfl (lv_at hl 0 rfl) ?_
      cases hf
      exact ret_l C hP hD hS dX11_within_29
    · have hf := pt_f c2 hf
      refine lv_ldc2 (pc := 22) (v := (-2000000000 : Int64)) hx hb hown (hts _ kl_RX11_145) dX11_within_22 ?_
      refine lv_goto (tgt := 29) (pc := 25) hx hb dX11_within_25 (by decide) ?_
      cases hf
      exact ret_l C hP hD hS dX11_within_29
  · have hf := pt_f c1 hf
    refine lv_ldc2 (pc := 8) (v := (2000000000 : Int64)) hx hb hown (hts _ kl_RX11_143) dX11_within_8 ?_
    refine lv_goto (tgt := 29) (pc := 11) hx hb dX11_within_11 (by decide) ?_
    cases hf
    exact ret_l C hP hD hS dX11_within_29
set_option maxRecDepth 100000 in
set_option maxHeartbeats 4000000 in
theorem kX11_within (l : Launch) (D : va_G) (cA : Nat → ClassId) {N : Nat} {p0 : Int64} {z : Int64} (hf : fX11_within N p0 = some z) : CtL l yX11_within cX11_within 2 (some .long) 0 0 D cA ([] : va_W) ([] : va_W) [.long p0] z := by
  intro sz
  refine Met.ofW (cc := cX11_within) (maxL := 2) (ret := (some .long)) (by decide) rfl ?_
  intro p e s m args below meth c s₁ B hml hv
  obtain ⟨rfl, hsz, hP, hK, hD0⟩ := hv
  subst hsz
  have C : Cx p s m _ meth c D cA cX11_within 2 RX11 (some .long) := Cx.of B hml hK
  have hD := hD0.self (sz := s.heap.size)
  have hA : ∀ q : Nat, s.heap.size ≤ q → va_A ([] : va_W) s.heap.size q := fun q h => Or.inr h
  have hS : va_S (va_A ([] : va_W) s.heap.size) s.heap s.heap [] := va_S.rf
  have hl := lv_entry ([.long p0]) (n := 2) (Nat.le_of_ble_eq_true rfl)
  rw [lg_entry_eq]
  generalize (lg_sl ([.long p0]) ++ List.replicate (2 - (lg_sl ([.long p0])).length) Slot.unset).toArray = ls at hl ⊢
  exact wX11_within C hA hf hP hD hS hl
theorem fl_RX11_147 : Cond.fieldLink RX11 147 "SevenOnStrikeModel" "sumSpot" "I" ∈ wsL_law := by decide +kernel
theorem ge_RX11_147_M_0_0 (C : Cx p s m args meth c D cA cc nL RX11 ret) (hP : va_P D vwCl (w_M cA a S) H) (hdg : decode cc pc = .ok (.getfield 147, 3)) (kk : W p l e R s m args below meth c H locs cells slots Q (F0 m (pc + 3) ls (.int (S 19 0) :: rest))) : W p l e R s m args below meth c H locs cells slots Q (F0 m pc ls (.ref (a 0) :: rest)) := by
  obtain ⟨hx, hb, -, hown, hts, hK, -, -, -⟩ := C
  exact va_get (D := D) (ci := 10) (v := .int (S 19 0)) (C := RX11) (T := TX11) (N := 28) hx hb hts inlX11 hown hK hP 0 rfl rfl 19 (by decide) (hts _ fl_RX11_147) (fun _ h9 => h9) rfl hdg kk
theorem pu_RX11_147_M_0_0 {v : Int32} (C : Cx p s m args meth c D cA cc nL RX11 ret) (hP : va_P D vwCl (w_M cA a S) H) (hD : va_D A (w_M cA a S)) (hS : va_S A s.heap H locs) (hdg : decode cc pc = .ok (.putfield 147, 3)) (kk : ∀ (H1 : Heap) (locs1 : List Loc), va_P D vwCl (w_M cA a (stf S 19 v)) H1 → va_D A (w_M cA a (stf S 19 v)) → va_S A s.heap H1 locs1 → W p l e R s m args below meth c H1 locs1 cells slots Q (F0 m (pc + 3) ls rest)) : W p l e R s m args below meth c H locs cells slots Q (F0 m pc ls (.int v :: .ref (a 0) :: rest)) := by
  obtain ⟨hx, hb, -, hown, hts, hK, -, -, -⟩ := C
  exact va_put (D := D) (ci := 10) (v := .int v) (ty := .int) (C := RX11) (T := TX11) (N := 28) hx hb hts inlX11 tyX11 tyX11_ok nmX11 hown hK hP hD hS 0 rfl rfl 19 (by decide) (hts _ fl_RX11_147) (fun _ h9 => h9) rfl (by decide +kernel) rfl rfl (Nat.le_of_ble_eq_true rfl) hdg (fun H1 locs1 h1 h2 h3 => kk H1 locs1 h1 h2 h3)
theorem kl_RX11_150 : Cond.constantLong RX11 150 (10) ∈ wsL_law := by decide +kernel
def fX11_numberOf_j79 (N : Nat) (p1 : Int32) (g2 : Int64 × St → Option (Int64 × St)) (y0 : Int64) (y1 : Int32) (S : St) : Option (Int64 × St) :=
  g2 (((y0 + y1.toInt64), (stf S 19 (((S 19 0) + (1 : Int32))))))
def fX11_numberOf_j77 (N : Nat) (p1 : Int32) (g2 : Int64 × St → Option (Int64 × St)) (x4 : Int32) (y0 : Int64) (S : St) : Option (Int64 × St) :=
  fX11_numberOf_j79 N p1 g2 y0 x4 S
def fX11_numberOf_b2 (N : Nat) (p1 : Int32) (g2 : Int64 × St → Option (Int64 × St)) (x2 : Int64) (S : St) : Option (Int64 × St) :=
  if (S 8 0) ≤ (S 19 0) then (some (x2, S)) else (if ¬ ((S 19 0) < 0 ∨ 40 ≤ ((S 19 0)).toNatClampNeg) then (Option.bind (fX11_isSign N ((S 7 (((S 19 0)).toNatClampNeg)))) (fun q3 => if q3 = 0 then (if ¬ ((S 19 0) < 0 ∨ 40 ≤ ((S 19 0)).toNatClampNeg) then (nm (((S 7 (((S 19 0)).toNatClampNeg)) - (48 : Int32))) (fun v6 => if p1 = 0 then (fX11_numberOf_j77 N p1 g2 v6 (((10 : Int64) * x2)) S) else (if ¬ (v6 < 0 ∨ 20 ≤ v6.toNatClampNeg) then (if (S 9 v6.toNatClampNeg) = (1 : Int32) then (if ¬ (((10 : Int32) + v6) < 0 ∨ 20 ≤ (((10 : Int32) + v6)).toNatClampNeg) then (fX11_numberOf_j79 N p1 g2 (((10 : Int64) * x2)) ((S 9 ((((10 : Int32) + v6)).toNatClampNeg))) S) else none) else (fX11_numberOf_j77 N p1 g2 v6 (((10 : Int64) * x2)) S)) else none))) else none) else (some (x2, S)))) else none)
def fX11_numberOf_l2 (N : Nat) (p1 : Int32) (k : Nat) (q : Int64 × St) : Option (Int64 × St) := lpN (fun g q => fX11_numberOf_b2 N p1 g q.1 q.2) k q
def fX11_numberOf (N : Nat) (S : St) (p1 : Int32) : Option (Int64 × St) :=
  fX11_numberOf_l2 N p1 N (((0 : Int64), S))
set_option maxRecDepth 100000 in
set_option maxHeartbeats 4000000 in
theorem wX11_numberOf_79 (C : Cx p s m args meth c D cA cX11_numberOf 5 RX11 (some .long)) (hA : ∀ q : Nat, s.heap.size ≤ q → A q) {N : Nat} {z : Int64 × St} {p1 : Int32} {g2 : Int64 × St → Option (Int64 × St)} (hg2 : ∀ (x2 : Int64) (S : St), g2 (x2, S) = some z → ∀ (H : Heap) (locs : List Loc) (ls : Array Slot), va_P D vwCl (w_M cA a S) H → va_D A (w_M cA a S) → va_S A s.heap H locs → lv_has ls 5 [(0, .ref (a 0)), (1, .int p1), (2, .long x2)] → W p l e (rmU 1 20 0 0) s m args below meth c H locs 0 0 (MQ below (QL D A z.1 (w_M cA a z.2)) args s 0 0 A) (F0 m 2 ls [])) {y0 : Int64} {y1 : Int32} {S : St} (hf : fX11_numberOf_j79 N p1 g2 y0 y1 S = some z) {H : Heap} {locs : List Loc} {ls : Array Slot} (hP : va_P D vwCl (w_M cA a S) H) (hD : va_D A (w_M cA a S)) (hS : va_S A s.heap H locs) (hl : lv_has ls 5 [(0, .ref (a 0)), (1, .int p1)]) : W p l e (rmU 1 20 0 0) s m args below meth c H locs 0 0 (MQ below (QL D A z.1 (w_M cA a z.2)) args s 0 0 A) (F0 m 79 ls [.int y1, .long y0]) := by
  obtain ⟨hx, hb, hml, hown, hts, hK, hN, hr, hlk⟩ := id C
  unfold fX11_numberOf_j79 at hf
  refine lv_i2l (v := y1.toInt64) (pc := 79) hx hb dX11_numberOf_79 rfl ?_
  refine lv_ladd (pc := 80) hx hb dX11_numberOf_80 ?_
  refine lv_lstore_n (lv' := [(2, .long ((y0 + y1.toInt64))), (0, .ref (a 0)), (1, .int p1)]) (pc := 81) hx hb dX11_numberOf_81 rfl hl (by decide) rfl (fun ls hl => ?_)
  refine lv_aload_n (pc := 82) hx hb dX11_numberOf_82 rfl (lv_at hl 1 rfl) ?_
  refine lv_dup (pc := 83) hx hb dX11_numberOf_83 rfl ?_
  refine ge_RX11_147_M_0_0 (pc := 84) C hP dX11_numberOf_84 ?_
  refine lv_iconst (v := (1 : Int32)) (pc := 87) hx hb dX11_numberOf_87 (by decide) ?_
  refine lv_iadd (pc := 88) hx hb dX11_numberOf_88 ?_
  refine pu_RX11_147_M_0_0 (pc := 89) C hP hD hS dX11_numberOf_89 (fun H locs hP hD hS => ?_)
  refine lv_goto (tgt := 2) (pc := 92) hx hb dX11_numberOf_92 (by decide) ?_
  exact hg2 ((y0 + y1.toInt64)) ((stf S 19 (((S 19 0) + (1 : Int32))))) hf _ _ _ hP hD hS (lv_sub hl [1, 2, 0] rfl)
set_option maxRecDepth 100000 in
set_option maxHeartbeats 4000000 in
theorem wX11_numberOf_77 (C : Cx p s m args meth c D cA cX11_numberOf 5 RX11 (some .long)) (hA : ∀ q : Nat, s.heap.size ≤ q → A q) {N : Nat} {z : Int64 × St} {p1 : Int32} {g2 : Int64 × St → Option (Int64 × St)} (hg2 : ∀ (x2 : Int64) (S : St), g2 (x2, S) = some z → ∀ (H : Heap) (locs : List Loc) (ls : Array Slot), va_P D vwCl (w_M cA a S) H → va_D A (w_M cA a S) → va_S A s.heap H locs → lv_has ls 5 [(0, .ref (a 0)), (1, .int p1), (2, .long x2)] → W p l e (rmU 1 20 0 0) s m args below meth c H locs 0 0 (MQ below (QL D A z.1 (w_M cA a z.2)) args s 0 0 A) (F0 m 2 ls [])) {x4 : Int32} {y0 : Int64} {S : St} (hf : fX11_numberOf_j77 N p1 g2 x4 y0 S = some z) {H : Heap} {locs : List Loc} {ls : Array Slot} (hP : va_P D vwCl (w_M cA a S) H) (hD : va_D A (w_M cA a S)) (hS : va_S A s.heap H locs) (hl : lv_has ls 5 [(0, .ref (a 0)), (1, .int p1), (4, .int x4)]) : W p l e (rmU 1 20 0 0) s m args below meth c H locs 0 0 (MQ below (QL D A z.1 (w_M cA a z.2)) args s 0 0 A) (F0 m 77 ls [.long y0]) := by
  obtain ⟨hx, hb, hml, hown, hts, hK, hN, hr, hlk⟩ := id C
  unfold fX11_numberOf_j77 at hf
  refine lv_iload (pc := 77) hx hb dX11_numberOf_77 (lv_at hl 2 rfl) ?_
  exact wX11_numberOf_79 C hA hg2 hf hP hD hS (lv_sub hl [0, 1] rfl)
set_option maxRecDepth 100000 in
set_option maxHeartbeats 4000000 in
theorem wX11_numberOf_2 (C : Cx p s m args meth c D cA cX11_numberOf 5 RX11 (some .long)) (hA : ∀ q : Nat, s.heap.size ≤ q → A q) {N : Nat} {z : Int64 × St} {p1 : Int32} : ∀ (k : Nat) (x2 : Int64) (S : St), fX11_numberOf_l2 N p1 k (x2, S) = some z → ∀ (H : Heap) (locs : List Loc) (ls : Array Slot), va_P D vwCl (w_M cA a S) H → va_D A (w_M cA a S) → va_S A s.heap H locs → lv_has ls 5 [(0, .ref (a 0)), (1, .int p1), (2, .long x2)] → W p l e (rmU 1 20 0 0) s m args below meth c H locs 0 0 (MQ below (QL D A z.1 (w_M cA a z.2)) args s 0 0 A) (F0 m 2 ls []) := by
  obtain ⟨hx, hb, hml, hown, hts, hK, hN, hr, hlk⟩ := id C
  intro k
  induction k with
  | zero =>
    intro x2 S hf
    have hf : (none : Option (Int64 × St)) = some z := hf
    cases hf
  | succ k hg2 =>
    intro x2 S hf H locs ls hP hD hS hl
    have hf : fX11_numberOf_b2 N p1 (fX11_numberOf_l2 N p1 k) x2 S = some z := hf
    unfold fX11_numberOf_b2 at hf
    refine lv_aload_n (pc := 2) hx hb dX11_numberOf_2 rfl (lv_at hl 0 rfl) ?_
    refine ge_RX11_147_M_0_0 (pc := 3) C hP dX11_numberOf_3 ?_
    refine lv_aload_n (pc := 6) hx hb dX11_numberOf_6 rfl (lv_at hl 0 rfl) ?_
    refine ge_RX11_31_M_0_0 (pc := 7) C hP dX11_numberOf_7 ?_
    refine lv_iconst (v := (0 : Int32)) (pc := 10) hx hb dX11_numberOf_10 (by decide) ?_
    refine ld_M_0_8 (pc := 11) (j := 0) C hP (inK rfl) rfl dX11_numberOf_11 ?_
    refine lv_icmp_ge (tgt := 95) (pc := 12) hx hb dX11_numberOf_12 (by decide) (fun c1 => ?_) (fun c1 => ?_)
    · have hf := pt_t c1 hf
      refine lv_lload_n (pc := 95) hx hb dX11_numberOf_95 rfl (lv_at hl 2 rfl) ?_
      cases hf
      exact ret_l C hP hD hS dX11_numberOf_96
    · have hf := pt_f c1 hf
      refine lv_aload_n (pc := 15) hx hb dX11_numberOf_15 rfl (lv_at hl 0 rfl) ?_
      refine ge_RX11_28_M_0_0 (pc := 16) C hP dX11_numberOf_16 ?_
      refine lv_aload_n (pc := 19) hx hb dX11_numberOf_19 rfl (lv_at hl 0 rfl) ?_
      refine ge_RX11_147_M_0_0 (pc := 20) C hP dX11_numberOf_20 ?_
      obtain ⟨h2, hf⟩ := pt_g hf
      refine ld_M_0_7 (pc := 23) (j := ((S 19 0)).toNatClampNeg) C hP h2 rfl dX11_numberOf_23 ?_
      obtain ⟨q3, hq3, hf⟩ := pt_b hf
      have hPc : va_P D vwCl ([] : va_W) H := hP.sub [] rfl
      have hDc : va_D A ([] : va_W) := hD.sub [] (by decide) rfl
      refine prt_i (runU_S (pc := 24) (As := [.int ((S 7 (((S 19 0)).toNatClampNeg)))]) (rest := []) C lk_RX11_97 (kX11_isSign l D cA hq3 H.size) ⟨Nat.le_of_ble_eq_true rfl, Nat.le_of_ble_eq_true rfl⟩ ⟨Nat.le_refl _, Nat.le_refl _⟩ hPc hDc hl.1 rfl (Nat.le_of_ble_eq_true rfl) dX11_numberOf_24) hP hD hS hA [] rfl (fun H locs hP hD hS => ?_)
      refine lv_if_ne (tgt := 95) (pc := 27) hx hb dX11_numberOf_27 (by decide) (fun c4 => ?_) (fun c4 => ?_)
      · have hf := pt_f c4 hf
        refine lv_lload_n (pc := 95) hx hb dX11_numberOf_95 rfl (lv_at hl 2 rfl) ?_
        cases hf
        exact ret_l C hP hD hS dX11_numberOf_96
      · have hf := pt_t c4 hf
        refine lv_aload_n (pc := 30) hx hb dX11_numberOf_30 rfl (lv_at hl 0 rfl) ?_
        refine ge_RX11_28_M_0_0 (pc := 31) C hP dX11_numberOf_31 ?_
        refine lv_aload_n (pc := 34) hx hb dX11_numberOf_34 rfl (lv_at hl 0 rfl) ?_
        refine ge_RX11_147_M_0_0 (pc := 35) C hP dX11_numberOf_35 ?_
        obtain ⟨h5, hf⟩ := pt_g hf
        refine ld_M_0_7 (pc := 38) (j := ((S 19 0)).toNatClampNeg) C hP h5 rfl dX11_numberOf_38 ?_
        refine lv_bipush (v := (48 : Int32)) (pc := 39) hx hb dX11_numberOf_39 (by decide) ?_
        refine lv_isub (pc := 41) hx hb dX11_numberOf_41 ?_
        refine lv_topi (fun v6 ev6 => ?_)
        have hf := pt_n ev6 hf
        refine lv_istore (lv' := [(4, .int v6), (0, .ref (a 0)), (1, .int p1), (2, .long x2)]) (pc := 42) hx hb dX11_numberOf_42 hl (by decide) rfl (fun ls hl => ?_)
        refine lv_ldc2 (pc := 44) (v := (10 : Int64)) hx hb hown (hts _ kl_RX11_150) dX11_numberOf_44 ?_
        refine lv_lload_n (pc := 47) hx hb dX11_numberOf_47 rfl (lv_at hl 3 rfl) ?_
        refine lv_lmul (pc := 48) hx hb dX11_numberOf_48 ?_
        refine lv_iload_n (pc := 49) hx hb dX11_numberOf_49 rfl (lv_at hl 2 rfl) ?_
        refine lv_if_eq (tgt := 77) (pc := 50) hx hb dX11_numberOf_50 (by decide) (fun c7 => ?_) (fun c7 => ?_)
        · have hf := pt_t c7 hf
          exact wX11_numberOf_77 C hA hg2 hf hP hD hS (lv_sub hl [1, 2, 0] rfl)
        · have hf := pt_f c7 hf
          refine lv_aload_n (pc := 53) hx hb dX11_numberOf_53 rfl (lv_at hl 1 rfl) ?_
          refine ge_RX11_34_M_0_0 (pc := 54) C hP dX11_numberOf_54 ?_
          refine lv_iload (pc := 57) hx hb dX11_numberOf_57 (lv_at hl 0 rfl) ?_
          obtain ⟨h8, hf⟩ := pt_g hf
          refine ld_M_0_9 (pc := 59) (j := v6.toNatClampNeg) C hP h8 rfl dX11_numberOf_59 ?_
          refine lv_iconst (v := (1 : Int32)) (pc := 60) hx hb dX11_numberOf_60 (by decide) ?_
          refine lv_icmp_ne (tgt := 77) (pc := 61) hx hb dX11_numberOf_61 (by decide) (fun c9 => ?_) (fun c9 => ?_)
          · have hf := pt_f c9 hf
            exact wX11_numberOf_77 C hA hg2 hf hP hD hS (lv_sub hl [1, 2, 0] rfl)
          · have hf := pt_t c9 hf
            refine lv_aload_n (pc := 64) hx hb dX11_numberOf_64 rfl (lv_at hl 1 rfl) ?_
            refine ge_RX11_34_M_0_0 (pc := 65) C hP dX11_numberOf_65 ?_
            refine lv_bipush (v := (10 : Int32)) (pc := 68) hx hb dX11_numberOf_68 (by decide) ?_
            refine lv_iload (pc := 70) hx hb dX11_numberOf_70 (lv_at hl 0 rfl) ?_
            refine lv_iadd (pc := 72) hx hb dX11_numberOf_72 ?_
            obtain ⟨h10, hf⟩ := pt_g hf
            refine ld_M_0_9 (pc := 73) (j := (((10 : Int32) + v6)).toNatClampNeg) C hP h10 rfl dX11_numberOf_73 ?_
            refine lv_goto (tgt := 79) (pc := 74) hx hb dX11_numberOf_74 (by decide) ?_
            exact wX11_numberOf_79 C hA hg2 hf hP hD hS (lv_sub hl [1, 2] rfl)
set_option maxRecDepth 100000 in
set_option maxHeartbeats 4000000 in
theorem wX11_numberOf (C : Cx p s m args meth c D cA cX11_numberOf 5 RX11 (some .long)) (hA : ∀ q : Nat, s.heap.size ≤ q → A q) {N : Nat} {z : Int64 × St} {S : St} {p1 : Int32} (hf : fX11_numberOf N S p1 = some z) {H : Heap} {locs : List Loc} {ls : Array Slot} (hP : va_P D vwCl (w_M cA a S) H) (hD : va_D A (w_M cA a S)) (hS : va_S A s.heap H locs) (hl : lv_has ls 5 [(0, .ref (a 0)), (1, .int p1)]) : W p l e (rmU 1 20 0 0) s m args below meth c H locs 0 0 (MQ below (QL D A z.1 (w_M cA a z.2)) args s 0 0 A) (F0 m 0 ls []) := by
  obtain ⟨hx, hb, hml, hown, hts, hK, hN, hr, hlk⟩ := id C
  unfold fX11_numberOf at hf
  refine lv_lconst (v := (0 : Int64)) (pc := 0) hx hb dX11_numberOf_0 (by decide) ?_
  refine lv_lstore_n (lv' := [(2, .long ((0 : Int64))), (0, .ref (a 0)), (1, .int p1)]) (pc := 1) hx hb dX11_numberOf_1 rfl hl (by decide) rfl (fun ls hl => ?_)
  exact wX11_numberOf_2 C hA  _ ((0 : Int64)) S hf _ _ _ hP hD hS (lv_sub hl [1, 2, 0] rfl)
set_option maxRecDepth 100000 in
set_option maxHeartbeats 4000000 in
theorem kX11_numberOf (l : Launch) (D : va_G) (cA : Nat → ClassId) (a : Nat → Nat) {N : Nat} {S : St} {p1 : Int32} {z : Int64 × St} (hf : fX11_numberOf N S p1 = some z) : CtL l yX11_numberOf cX11_numberOf 5 (some .long) 1 20 D cA (w_M cA a S) (w_M cA a z.2) [.ref (a 0), .int p1] z.1 := by
  intro sz
  refine Met.ofW (cc := cX11_numberOf) (maxL := 5) (ret := (some .long)) (by decide) rfl ?_
  intro p e s m args below meth c s₁ B hml hv
  obtain ⟨rfl, hsz, hP, hK, hD0⟩ := hv
  subst hsz
  have C : Cx p s m _ meth c D cA cX11_numberOf 5 RX11 (some .long) := Cx.of B hml hK
  have hD := hD0.self (sz := s.heap.size)
  have hA : ∀ q : Nat, s.heap.size ≤ q → va_A (w_M cA a S) s.heap.size q := fun q h => Or.inr h
  have hS : va_S (va_A (w_M cA a S) s.heap.size) s.heap s.heap [] := va_S.rf
  have hl := lv_entry ([.ref (a 0), .int p1]) (n := 5) (Nat.le_of_ble_eq_true rfl)
  rw [lg_entry_eq]
  generalize (lg_sl ([.ref (a 0), .int p1]) ++ List.replicate (5 - (lg_sl ([.ref (a 0), .int p1])).length) Slot.unset).toArray = ls at hl ⊢
  exact wX11_numberOf C hA hf hP hD hS hl
theorem lk_RX11_152 : LkV RX11 152 yX11_numberOf cX11_numberOf 5 (some .long) 1 := ⟨⟨by decide +kernel, by decide +kernel, by decide +kernel, by decide +kernel, by decide +kernel, by decide +kernel⟩, by decide +kernel, by decide +kernel⟩
theorem lk_RX11_156 : LkS RX11 156 yX11_within cX11_within 2 (some .long) 1 := ⟨⟨by decide +kernel, by decide +kernel, by decide +kernel, by decide +kernel, by decide +kernel, by decide +kernel⟩, by decide +kernel⟩
def fX11_productOf_b6 (N : Nat) (p1 : Int32) (g6 : Int64 × St → Option (Int64 × St)) (x2 : Int64) (S : St) : Option (Int64 × St) :=
  if (S 8 0) ≤ (S 19 0) then (some (x2, S)) else (if ¬ ((S 19 0) < 0 ∨ 40 ≤ ((S 19 0)).toNatClampNeg) then (if (S 7 (((S 19 0)).toNatClampNeg)) = (42 : Int32) then (Option.bind (fX11_numberOf N (stf S 19 (((S 19 0) + (1 : Int32)))) p1) (fun q4 => Option.bind (fX11_within N ((x2 * q4.1))) (fun q5 => g6 ((q5, q4.2))))) else (some (x2, S))) else none)
def fX11_productOf_l6 (N : Nat) (p1 : Int32) (k : Nat) (q : Int64 × St) : Option (Int64 × St) := lpN (fun g q => fX11_productOf_b6 N p1 g q.1 q.2) k q
def fX11_productOf (N : Nat) (S : St) (p1 : Int32) : Option (Int64 × St) :=
  Option.bind (fX11_numberOf N S p1) (fun q1 => fX11_productOf_l6 N p1 N ((q1.1, q1.2)))
set_option maxRecDepth 100000 in
set_option maxHeartbeats 4000000 in
theorem wX11_productOf_6 (C : Cx p s m args meth c D cA cX11_productOf 4 RX11 (some .long)) (hA : ∀ q : Nat, s.heap.size ≤ q → A q) {N : Nat} {z : Int64 × St} {p1 : Int32} : ∀ (k : Nat) (x2 : Int64) (S : St), fX11_productOf_l6 N p1 k (x2, S) = some z → ∀ (H : Heap) (locs : List Loc) (ls : Array Slot), va_P D vwCl (w_M cA a S) H → va_D A (w_M cA a S) → va_S A s.heap H locs → lv_has ls 4 [(0, .ref (a 0)), (1, .int p1), (2, .long x2)] → W p l e (rmU 2 44 0 0) s m args below meth c H locs 0 0 (MQ below (QL D A z.1 (w_M cA a z.2)) args s 0 0 A) (F0 m 6 ls []) := by
  obtain ⟨hx, hb, hml, hown, hts, hK, hN, hr, hlk⟩ := id C
  intro k
  induction k with
  | zero =>
    intro x2 S hf
    have hf : (none : Option (Int64 × St)) = some z := hf
    cases hf
  | succ k hg6 =>
    intro x2 S hf H locs ls hP hD hS hl
    have hf : fX11_productOf_b6 N p1 (fX11_productOf_l6 N p1 k) x2 S = some z := hf
    unfold fX11_productOf_b6 at hf
    refine lv_aload_n (pc := 6) hx hb dX11_productOf_6 rfl (lv_at hl 0 rfl) ?_
    refine ge_RX11_147_M_0_0 (pc := 7) C hP dX11_productOf_7 ?_
    refine lv_aload_n (pc := 10) hx hb dX11_productOf_10 rfl (lv_at hl 0 rfl) ?_
    refine ge_RX11_31_M_0_0 (pc := 11) C hP dX11_productOf_11 ?_
    refine lv_iconst (v := (0 : Int32)) (pc := 14) hx hb dX11_productOf_14 (by decide) ?_
    refine ld_M_0_8 (pc := 15) (j := 0) C hP (inK rfl) rfl dX11_productOf_15 ?_
    refine lv_icmp_ge (tgt := 57) (pc := 16) hx hb dX11_productOf_16 (by decide) (fun c1 => ?_) (fun c1 => ?_)
    · have hf := pt_t c1 hf
      refine lv_lload_n (pc := 57) hx hb dX11_productOf_57 rfl (lv_at hl 2 rfl) ?_
      cases hf
      exact ret_l C hP hD hS dX11_productOf_58
    · have hf := pt_f c1 hf
      refine lv_aload_n (pc := 19) hx hb dX11_productOf_19 rfl (lv_at hl 0 rfl) ?_
      refine ge_RX11_28_M_0_0 (pc := 20) C hP dX11_productOf_20 ?_
      refine lv_aload_n (pc := 23) hx hb dX11_productOf_23 rfl (lv_at hl 0 rfl) ?_
      refine ge_RX11_147_M_0_0 (pc := 24) C hP dX11_productOf_24 ?_
      obtain ⟨h2, hf⟩ := pt_g hf
      refine ld_M_0_7 (pc := 27) (j := ((S 19 0)).toNatClampNeg) C hP h2 rfl dX11_productOf_27 ?_
      refine lv_bipush (v := (42 : Int32)) (pc := 28) hx hb dX11_productOf_28 (by decide) ?_
      refine lv_icmp_ne (tgt := 57) (pc := 30) hx hb dX11_productOf_30 (by decide) (fun c3 => ?_) (fun c3 => ?_)
      · have hf := pt_f c3 hf
        refine lv_lload_n (pc := 57) hx hb dX11_productOf_57 rfl (lv_at hl 2 rfl) ?_
        cases hf
        exact ret_l C hP hD hS dX11_productOf_58
      · have hf := pt_t c3 hf
        refine lv_aload_n (pc := 33) hx hb dX11_productOf_33 rfl (lv_at hl 0 rfl) ?_
        refine lv_dup (pc := 34) hx hb dX11_productOf_34 rfl ?_
        refine ge_RX11_147_M_0_0 (pc := 35) C hP dX11_productOf_35 ?_
        refine lv_iconst (v := (1 : Int32)) (pc := 38) hx hb dX11_productOf_38 (by decide) ?_
        refine lv_iadd (pc := 39) hx hb dX11_productOf_39 ?_
        refine pu_RX11_147_M_0_0 (pc := 40) C hP hD hS dX11_productOf_40 (fun H locs hP hD hS => ?_)
        refine lv_lload_n (pc := 43) hx hb dX11_productOf_43 rfl (lv_at hl 2 rfl) ?_
        refine lv_aload_n (pc := 44) hx hb dX11_productOf_44 rfl (lv_at hl 0 rfl) ?_
        refine lv_iload_n (pc := 45) hx hb dX11_productOf_45 rfl (lv_at hl 1 rfl) ?_
        obtain ⟨q4, hq4, hf⟩ := pt_b hf
        refine all_l (runU_V (pc := 46) (As := [.int p1]) (b := a 0) (rest := [.long x2]) (ci := 10) (q0 := 0) C lk_RX11_152 (kX11_numberOf l D cA a hq4 H.size) ⟨Nat.le_of_ble_eq_true rfl, Nat.le_of_ble_eq_true rfl⟩ ⟨Nat.le_refl _, Nat.le_refl _⟩ hP hD rfl rfl rfl hl.1 rfl (Nat.le_of_ble_eq_true rfl) dX11_productOf_46) hD hS hA (fun H locs hP hD hS => ?_)
        refine lv_lmul (pc := 49) hx hb dX11_productOf_49 ?_
        obtain ⟨q5, hq5, hf⟩ := pt_b hf
        have hPc : va_P D vwCl ([] : va_W) H := hP.sub [] rfl
        have hDc : va_D A ([] : va_W) := hD.sub [] (by decide) rfl
        refine prt_l (runU_S (pc := 50) (As := [.long ((x2 * q4.1))]) (rest := []) C lk_RX11_156 (kX11_within l D cA hq5 H.size) ⟨Nat.le_of_ble_eq_true rfl, Nat.le_of_ble_eq_true rfl⟩ ⟨Nat.le_refl _, Nat.le_refl _⟩ hPc hDc hl.1 rfl (Nat.le_of_ble_eq_true rfl) dX11_productOf_50) hP hD hS hA [] rfl (fun H locs hP hD hS => ?_)
        refine lv_lstore_n (lv' := [(2, .long q5), (0, .ref (a 0)), (1, .int p1)]) (pc := 53) hx hb dX11_productOf_53 rfl hl (by decide) rfl (fun ls hl => ?_)
        refine lv_goto (tgt := 6) (pc := 54) hx hb dX11_productOf_54 (by decide) ?_
        exact hg6 q5 q4.2 hf _ _ _ hP hD hS (lv_sub hl [1, 2, 0] rfl)
set_option maxRecDepth 100000 in
set_option maxHeartbeats 4000000 in
theorem wX11_productOf (C : Cx p s m args meth c D cA cX11_productOf 4 RX11 (some .long)) (hA : ∀ q : Nat, s.heap.size ≤ q → A q) {N : Nat} {z : Int64 × St} {S : St} {p1 : Int32} (hf : fX11_productOf N S p1 = some z) {H : Heap} {locs : List Loc} {ls : Array Slot} (hP : va_P D vwCl (w_M cA a S) H) (hD : va_D A (w_M cA a S)) (hS : va_S A s.heap H locs) (hl : lv_has ls 4 [(0, .ref (a 0)), (1, .int p1)]) : W p l e (rmU 2 44 0 0) s m args below meth c H locs 0 0 (MQ below (QL D A z.1 (w_M cA a z.2)) args s 0 0 A) (F0 m 0 ls []) := by
  obtain ⟨hx, hb, hml, hown, hts, hK, hN, hr, hlk⟩ := id C
  unfold fX11_productOf at hf
  refine lv_aload_n (pc := 0) hx hb dX11_productOf_0 rfl (lv_at hl 0 rfl) ?_
  refine lv_iload_n (pc := 1) hx hb dX11_productOf_1 rfl (lv_at hl 1 rfl) ?_
  obtain ⟨q1, hq1, hf⟩ := pt_b hf
  refine all_l (runU_V (pc := 2) (As := [.int p1]) (b := a 0) (rest := []) (ci := 10) (q0 := 0) C lk_RX11_152 (kX11_numberOf l D cA a hq1 H.size) ⟨Nat.le_of_ble_eq_true rfl, Nat.le_of_ble_eq_true rfl⟩ ⟨Nat.le_refl _, Nat.le_refl _⟩ hP hD rfl rfl rfl hl.1 rfl (Nat.le_of_ble_eq_true rfl) dX11_productOf_2) hD hS hA (fun H locs hP hD hS => ?_)
  refine lv_lstore_n (lv' := [(2, .long q1.1), (0, .ref (a 0)), (1, .int p1)]) (pc := 5) hx hb dX11_productOf_5 rfl hl (by decide) rfl (fun ls hl => ?_)
  exact wX11_productOf_6 C hA  _ q1.1 q1.2 hf _ _ _ hP hD hS (lv_sub hl [1, 2, 0] rfl)
set_option maxRecDepth 100000 in
set_option maxHeartbeats 4000000 in
theorem kX11_productOf (l : Launch) (D : va_G) (cA : Nat → ClassId) (a : Nat → Nat) {N : Nat} {S : St} {p1 : Int32} {z : Int64 × St} (hf : fX11_productOf N S p1 = some z) : CtL l yX11_productOf cX11_productOf 4 (some .long) 2 44 D cA (w_M cA a S) (w_M cA a z.2) [.ref (a 0), .int p1] z.1 := by
  intro sz
  refine Met.ofW (cc := cX11_productOf) (maxL := 4) (ret := (some .long)) (by decide) rfl ?_
  intro p e s m args below meth c s₁ B hml hv
  obtain ⟨rfl, hsz, hP, hK, hD0⟩ := hv
  subst hsz
  have C : Cx p s m _ meth c D cA cX11_productOf 4 RX11 (some .long) := Cx.of B hml hK
  have hD := hD0.self (sz := s.heap.size)
  have hA : ∀ q : Nat, s.heap.size ≤ q → va_A (w_M cA a S) s.heap.size q := fun q h => Or.inr h
  have hS : va_S (va_A (w_M cA a S) s.heap.size) s.heap s.heap [] := va_S.rf
  have hl := lv_entry ([.ref (a 0), .int p1]) (n := 4) (Nat.le_of_ble_eq_true rfl)
  rw [lg_entry_eq]
  generalize (lg_sl ([.ref (a 0), .int p1]) ++ List.replicate (4 - (lg_sl ([.ref (a 0), .int p1])).length) Slot.unset).toArray = ls at hl ⊢
  exact wX11_productOf C hA hf hP hD hS hl
theorem lk_RX11_160 : LkV RX11 160 yX11_productOf cX11_productOf 4 (some .long) 1 := ⟨⟨by decide +kernel, by decide +kernel, by decide +kernel, by decide +kernel, by decide +kernel, by decide +kernel⟩, by decide +kernel, by decide +kernel⟩
def fX11_worth_j70 (N : Nat) (p1 : Int32) (g11 : Int64 × St → Option (Int32 × St)) (y0 : Int64) (S : St) : Option (Int32 × St) :=
  Option.bind (fX11_within N y0) (fun q1 => g11 ((q1, S)))
def fX11_worth_b11 (N : Nat) (p1 : Int32) (g11 : Int64 × St → Option (Int32 × St)) (x2 : Int64) (S : St) : Option (Int32 × St) :=
  if (S 8 0) ≤ (S 19 0) then (some (x2.toInt32, S)) else (if ¬ ((S 19 0) < 0 ∨ 40 ≤ ((S 19 0)).toNatClampNeg) then (nm ((S 7 (((S 19 0)).toNatClampNeg))) (fun v3 => Option.bind (fX11_productOf N (stf S 19 (((S 19 0) + (1 : Int32)))) p1) (fun q4 => if v3 = (43 : Int32) then (fX11_worth_j70 N p1 g11 ((x2 + q4.1)) q4.2) else (fX11_worth_j70 N p1 g11 ((x2 - q4.1)) q4.2)))) else none)
def fX11_worth_l11 (N : Nat) (p1 : Int32) (k : Nat) (q : Int64 × St) : Option (Int32 × St) := lpN (fun g q => fX11_worth_b11 N p1 g q.1 q.2) k q
def fX11_worth (N : Nat) (S : St) (p1 : Int32) : Option (Int32 × St) :=
  Option.bind (fX11_productOf N (stf S 19 ((0 : Int32))) p1) (fun q1 => fX11_worth_l11 N p1 N ((q1.1, q1.2)))
set_option maxRecDepth 100000 in
set_option maxHeartbeats 4000000 in
theorem wX11_worth_70 (C : Cx p s m args meth c D cA cX11_worth 7 RX11 (some .int)) (hA : ∀ q : Nat, s.heap.size ≤ q → A q) {N : Nat} {z : Int32 × St} {p1 : Int32} {g11 : Int64 × St → Option (Int32 × St)} (hg11 : ∀ (x2 : Int64) (S : St), g11 (x2, S) = some z → ∀ (H : Heap) (locs : List Loc) (ls : Array Slot), va_P D vwCl (w_M cA a S) H → va_D A (w_M cA a S) → va_S A s.heap H locs → lv_has ls 7 [(0, .ref (a 0)), (1, .int p1), (2, .long x2)] → W p l e (rmU 3 67 0 0) s m args below meth c H locs 0 0 (MQ below (QI D A z.1 (w_M cA a z.2)) args s 0 0 A) (F0 m 11 ls [])) {y0 : Int64} {S : St} (hf : fX11_worth_j70 N p1 g11 y0 S = some z) {H : Heap} {locs : List Loc} {ls : Array Slot} (hP : va_P D vwCl (w_M cA a S) H) (hD : va_D A (w_M cA a S)) (hS : va_S A s.heap H locs) (hl : lv_has ls 7 [(0, .ref (a 0)), (1, .int p1)]) : W p l e (rmU 3 67 0 0) s m args below meth c H locs 0 0 (MQ below (QI D A z.1 (w_M cA a z.2)) args s 0 0 A) (F0 m 70 ls [.long y0]) := by
  obtain ⟨hx, hb, hml, hown, hts, hK, hN, hr, hlk⟩ := id C
  unfold fX11_worth_j70 at hf
  obtain ⟨q1, hq1, hf⟩ := pt_b hf
  have hPc : va_P D vwCl ([] : va_W) H := hP.sub [] rfl
  have hDc : va_D A ([] : va_W) := hD.sub [] (by decide) rfl
  refine prt_l (runU_S (pc := 70) (As := [.long y0]) (rest := []) C lk_RX11_156 (kX11_within l D cA hq1 H.size) ⟨Nat.le_of_ble_eq_true rfl, Nat.le_of_ble_eq_true rfl⟩ ⟨Nat.le_refl _, Nat.le_refl _⟩ hPc hDc hl.1 rfl (Nat.le_of_ble_eq_true rfl) dX11_worth_70) hP hD hS hA [] rfl (fun H locs hP hD hS => ?_)
  refine lv_lstore_n (lv' := [(2, .long q1), (0, .ref (a 0)), (1, .int p1)]) (pc := 73) hx hb dX11_worth_73 rfl hl (by decide) rfl (fun ls hl => ?_)
  refine lv_goto (tgt := 11) (pc := 74) hx hb dX11_worth_74 (by decide) ?_
  exact hg11 q1 S hf _ _ _ hP hD hS (lv_sub hl [1, 2, 0] rfl)
set_option maxRecDepth 100000 in
set_option maxHeartbeats 4000000 in
theorem wX11_worth_11 (C : Cx p s m args meth c D cA cX11_worth 7 RX11 (some .int)) (hA : ∀ q : Nat, s.heap.size ≤ q → A q) {N : Nat} {z : Int32 × St} {p1 : Int32} : ∀ (k : Nat) (x2 : Int64) (S : St), fX11_worth_l11 N p1 k (x2, S) = some z → ∀ (H : Heap) (locs : List Loc) (ls : Array Slot), va_P D vwCl (w_M cA a S) H → va_D A (w_M cA a S) → va_S A s.heap H locs → lv_has ls 7 [(0, .ref (a 0)), (1, .int p1), (2, .long x2)] → W p l e (rmU 3 67 0 0) s m args below meth c H locs 0 0 (MQ below (QI D A z.1 (w_M cA a z.2)) args s 0 0 A) (F0 m 11 ls []) := by
  obtain ⟨hx, hb, hml, hown, hts, hK, hN, hr, hlk⟩ := id C
  intro k
  induction k with
  | zero =>
    intro x2 S hf
    have hf : (none : Option (Int32 × St)) = some z := hf
    cases hf
  | succ k hg11 =>
    intro x2 S hf H locs ls hP hD hS hl
    have hf : fX11_worth_b11 N p1 (fX11_worth_l11 N p1 k) x2 S = some z := hf
    unfold fX11_worth_b11 at hf
    refine lv_aload_n (pc := 11) hx hb dX11_worth_11 rfl (lv_at hl 0 rfl) ?_
    refine ge_RX11_147_M_0_0 (pc := 12) C hP dX11_worth_12 ?_
    refine lv_aload_n (pc := 15) hx hb dX11_worth_15 rfl (lv_at hl 0 rfl) ?_
    refine ge_RX11_31_M_0_0 (pc := 16) C hP dX11_worth_16 ?_
    refine lv_iconst (v := (0 : Int32)) (pc := 19) hx hb dX11_worth_19 (by decide) ?_
    refine ld_M_0_8 (pc := 20) (j := 0) C hP (inK rfl) rfl dX11_worth_20 ?_
    refine lv_icmp_ge (tgt := 77) (pc := 21) hx hb dX11_worth_21 (by decide) (fun c1 => ?_) (fun c1 => ?_)
    · have hf := pt_t c1 hf
      refine lv_lload_n (pc := 77) hx hb dX11_worth_77 rfl (lv_at hl 2 rfl) ?_
      refine lv_l2i (v := x2.toInt32) (pc := 78) hx hb dX11_worth_78 rfl ?_
      cases hf
      exact ret_i C hP hD hS dX11_worth_79
    · have hf := pt_f c1 hf
      refine lv_aload_n (pc := 24) hx hb dX11_worth_24 rfl (lv_at hl 0 rfl) ?_
      refine ge_RX11_28_M_0_0 (pc := 25) C hP dX11_worth_25 ?_
      refine lv_aload_n (pc := 28) hx hb dX11_worth_28 rfl (lv_at hl 0 rfl) ?_
      refine ge_RX11_147_M_0_0 (pc := 29) C hP dX11_worth_29 ?_
      obtain ⟨h2, hf⟩ := pt_g hf
      refine ld_M_0_7 (pc := 32) (j := ((S 19 0)).toNatClampNeg) C hP h2 rfl dX11_worth_32 ?_
      refine lv_topi (fun v3 ev3 => ?_)
      have hf := pt_n ev3 hf
      refine lv_istore (lv' := [(4, .int v3), (0, .ref (a 0)), (1, .int p1), (2, .long x2)]) (pc := 33) hx hb dX11_worth_33 hl (by decide) rfl (fun ls hl => ?_)
      refine lv_aload_n (pc := 35) hx hb dX11_worth_35 rfl (lv_at hl 1 rfl) ?_
      refine lv_dup (pc := 36) hx hb dX11_worth_36 rfl ?_
      refine ge_RX11_147_M_0_0 (pc := 37) C hP dX11_worth_37 ?_
      refine lv_iconst (v := (1 : Int32)) (pc := 40) hx hb dX11_worth_40 (by decide) ?_
      refine lv_iadd (pc := 41) hx hb dX11_worth_41 ?_
      refine pu_RX11_147_M_0_0 (pc := 42) C hP hD hS dX11_worth_42 (fun H locs hP hD hS => ?_)
      refine lv_aload_n (pc := 45) hx hb dX11_worth_45 rfl (lv_at hl 1 rfl) ?_
      refine lv_iload_n (pc := 46) hx hb dX11_worth_46 rfl (lv_at hl 2 rfl) ?_
      obtain ⟨q4, hq4, hf⟩ := pt_b hf
      refine all_l (runU_V (pc := 47) (As := [.int p1]) (b := a 0) (rest := []) (ci := 10) (q0 := 0) C lk_RX11_160 (kX11_productOf l D cA a hq4 H.size) ⟨Nat.le_of_ble_eq_true rfl, Nat.le_of_ble_eq_true rfl⟩ ⟨Nat.le_refl _, Nat.le_refl _⟩ hP hD rfl rfl rfl hl.1 rfl (Nat.le_of_ble_eq_true rfl) dX11_worth_47) hD hS hA (fun H locs hP hD hS => ?_)
      refine lv_lstore (lv' := [(5, .long q4.1), (4, .int v3), (0, .ref (a 0)), (1, .int p1), (2, .long x2)]) (pc := 50) hx hb dX11_worth_50 hl (by decide) rfl (fun ls hl => ?_)
      refine lv_iload (pc := 52) hx hb dX11_worth_52 (lv_at hl 1 rfl) ?_
      refine lv_bipush (v := (43 : Int32)) (pc := 54) hx hb dX11_worth_54 (by decide) ?_
      refine lv_icmp_ne (tgt := 66) (pc := 56) hx hb dX11_worth_56 (by decide) (fun c5 => ?_) (fun c5 => ?_)
      · have hf := pt_f c5 hf
        refine lv_lload_n (pc := 66) hx hb dX11_worth_66 rfl (lv_at hl 4 rfl) ?_
        refine lv_lload (pc := 67) hx hb dX11_worth_67 (lv_at hl 0 rfl) ?_
        refine lv_lsub (pc := 69) hx hb dX11_worth_69 ?_
        exact wX11_worth_70 C hA hg11 hf hP hD hS (lv_sub hl [2, 3] rfl)
      · have hf := pt_t c5 hf
        refine lv_lload_n (pc := 59) hx hb dX11_worth_59 rfl (lv_at hl 4 rfl) ?_
        refine lv_lload (pc := 60) hx hb dX11_worth_60 (lv_at hl 0 rfl) ?_
        refine lv_ladd (pc := 62) hx hb dX11_worth_62 ?_
        refine lv_goto (tgt := 70) (pc := 63) hx hb dX11_worth_63 (by decide) ?_
        exact wX11_worth_70 C hA hg11 hf hP hD hS (lv_sub hl [2, 3] rfl)
set_option maxRecDepth 100000 in
set_option maxHeartbeats 4000000 in
theorem wX11_worth (C : Cx p s m args meth c D cA cX11_worth 7 RX11 (some .int)) (hA : ∀ q : Nat, s.heap.size ≤ q → A q) {N : Nat} {z : Int32 × St} {S : St} {p1 : Int32} (hf : fX11_worth N S p1 = some z) {H : Heap} {locs : List Loc} {ls : Array Slot} (hP : va_P D vwCl (w_M cA a S) H) (hD : va_D A (w_M cA a S)) (hS : va_S A s.heap H locs) (hl : lv_has ls 7 [(0, .ref (a 0)), (1, .int p1)]) : W p l e (rmU 3 67 0 0) s m args below meth c H locs 0 0 (MQ below (QI D A z.1 (w_M cA a z.2)) args s 0 0 A) (F0 m 0 ls []) := by
  obtain ⟨hx, hb, hml, hown, hts, hK, hN, hr, hlk⟩ := id C
  unfold fX11_worth at hf
  refine lv_aload_n (pc := 0) hx hb dX11_worth_0 rfl (lv_at hl 0 rfl) ?_
  refine lv_iconst (v := (0 : Int32)) (pc := 1) hx hb dX11_worth_1 (by decide) ?_
  refine pu_RX11_147_M_0_0 (pc := 2) C hP hD hS dX11_worth_2 (fun H locs hP hD hS => ?_)
  refine lv_aload_n (pc := 5) hx hb dX11_worth_5 rfl (lv_at hl 0 rfl) ?_
  refine lv_iload_n (pc := 6) hx hb dX11_worth_6 rfl (lv_at hl 1 rfl) ?_
  obtain ⟨q1, hq1, hf⟩ := pt_b hf
  refine all_l (runU_V (pc := 7) (As := [.int p1]) (b := a 0) (rest := []) (ci := 10) (q0 := 0) C lk_RX11_160 (kX11_productOf l D cA a hq1 H.size) ⟨Nat.le_of_ble_eq_true rfl, Nat.le_of_ble_eq_true rfl⟩ ⟨Nat.le_refl _, Nat.le_refl _⟩ hP hD rfl rfl rfl hl.1 rfl (Nat.le_of_ble_eq_true rfl) dX11_worth_7) hD hS hA (fun H locs hP hD hS => ?_)
  refine lv_lstore_n (lv' := [(2, .long q1.1), (0, .ref (a 0)), (1, .int p1)]) (pc := 10) hx hb dX11_worth_10 rfl hl (by decide) rfl (fun ls hl => ?_)
  exact wX11_worth_11 C hA  _ q1.1 q1.2 hf _ _ _ hP hD hS (lv_sub hl [1, 2, 0] rfl)
set_option maxRecDepth 100000 in
set_option maxHeartbeats 4000000 in
theorem kX11_worth (l : Launch) (D : va_G) (cA : Nat → ClassId) (a : Nat → Nat) {N : Nat} {S : St} {p1 : Int32} {z : Int32 × St} (hf : fX11_worth N S p1 = some z) : CtI l yX11_worth cX11_worth 7 (some .int) 3 67 D cA (w_M cA a S) (w_M cA a z.2) [.ref (a 0), .int p1] z.1 := by
  intro sz
  refine Met.ofW (cc := cX11_worth) (maxL := 7) (ret := (some .int)) (by decide) rfl ?_
  intro p e s m args below meth c s₁ B hml hv
  obtain ⟨rfl, hsz, hP, hK, hD0⟩ := hv
  subst hsz
  have C : Cx p s m _ meth c D cA cX11_worth 7 RX11 (some .int) := Cx.of B hml hK
  have hD := hD0.self (sz := s.heap.size)
  have hA : ∀ q : Nat, s.heap.size ≤ q → va_A (w_M cA a S) s.heap.size q := fun q h => Or.inr h
  have hS : va_S (va_A (w_M cA a S) s.heap.size) s.heap s.heap [] := va_S.rf
  have hl := lv_entry ([.ref (a 0), .int p1]) (n := 7) (Nat.le_of_ble_eq_true rfl)
  rw [lg_entry_eq]
  generalize (lg_sl ([.ref (a 0), .int p1]) ++ List.replicate (7 - (lg_sl ([.ref (a 0), .int p1])).length) Slot.unset).toArray = ls at hl ⊢
  exact wX11_worth C hA hf hP hD hS hl
theorem lk_RX11_163 : LkV RX11 163 yX11_worth cX11_worth 7 (some .int) 1 := ⟨⟨by decide +kernel, by decide +kernel, by decide +kernel, by decide +kernel, by decide +kernel, by decide +kernel⟩, by decide +kernel, by decide +kernel⟩
def fX11_sum_j87 (N : Nat) (p1 : Int32) (y1 : Int32) (S : St) : Option (Int32 × St) :=
  Option.bind (fX11_worth N S y1) (fun q1 => some (q1.1, q1.2))
def fX11_sum_j67 (N : Nat) (p1 : Int32) (x2 : Int32) (S : St) : Option (Int32 × St) :=
  if p1 = (2 : Int32) then (some (x2, S)) else (if p1 = (1 : Int32) then (fX11_sum_j87 N p1 ((1 : Int32)) S) else (fX11_sum_j87 N p1 ((0 : Int32)) S))
def fX11_sum_j59 (N : Nat) (p1 : Int32) (g31 : Int32 × Int32 × St → Option (Int32 × St)) (x3 : Int32) (y0 : Int32) (y1 : Int32) (S : St) : Option (Int32 × St) :=
  g31 (((y0 + y1), (x3 + 1), S))
def fX11_sum_b31 (N : Nat) (p1 : Int32) (g31 : Int32 × Int32 × St → Option (Int32 × St)) (x2 : Int32) (x3 : Int32) (S : St) : Option (Int32 × St) :=
  if (S 8 0) ≤ x3 then (fX11_sum_j67 N p1 x2 S) else (if ¬ (x3 < 0 ∨ 40 ≤ x3.toNatClampNeg) then (Option.bind (fX11_isSign N ((S 7 x3.toNatClampNeg))) (fun q3 => if q3 = 0 then (fX11_sum_j59 N p1 g31 x3 x2 ((0 : Int32)) S) else (fX11_sum_j59 N p1 g31 x3 x2 ((1 : Int32)) S))) else none)
def fX11_sum_l31 (N : Nat) (p1 : Int32) (k : Nat) (q : Int32 × Int32 × St) : Option (Int32 × St) := lpN (fun g q => fX11_sum_b31 N p1 g q.1 q.2.1 q.2.2) k q
def fX11_sum_j28 (N : Nat) (p1 : Int32) (y0 : Int32) (S : St) : Option (Int32 × St) :=
  fX11_sum_l31 N p1 N ((y0, (0 : Int32), S))
def fX11_sum (N : Nat) (S : St) (p1 : Int32) : Option (Int32 × St) :=
  Option.bind (fX11_in N p1.toInt64 ((0 : Int64)) ((2 : Int64))) (fun q1 => if q1 = 0 then (some ((-1 : Int32), S)) else (if (S 8 0) ≤ 0 then (fX11_sum_j28 N p1 ((0 : Int32)) S) else (fX11_sum_j28 N p1 ((1 : Int32)) S)))
set_option maxRecDepth 100000 in
set_option maxHeartbeats 4000000 in
theorem wX11_sum_87 (C : Cx p s m args meth c D cA cX11_sum 4 RX11 (some .int)) (hA : ∀ q : Nat, s.heap.size ≤ q → A q) {N : Nat} {z : Int32 × St} {p1 : Int32} {y1 : Int32} {S : St} (hf : fX11_sum_j87 N p1 y1 S = some z) {H : Heap} {locs : List Loc} {ls : Array Slot} (hP : va_P D vwCl (w_M cA a S) H) (hD : va_D A (w_M cA a S)) (hS : va_S A s.heap H locs) (hl : lv_has ls 4 []) : W p l e (rmU 4 93 0 0) s m args below meth c H locs 0 0 (MQ below (QI D A z.1 (w_M cA a z.2)) args s 0 0 A) (F0 m 87 ls [.int y1, .ref (a 0)]) := by
  obtain ⟨hx, hb, hml, hown, hts, hK, hN, hr, hlk⟩ := id C
  unfold fX11_sum_j87 at hf
  obtain ⟨q1, hq1, hf⟩ := pt_b hf
  refine all_i (runU_V (pc := 87) (As := [.int y1]) (b := a 0) (rest := []) (ci := 10) (q0 := 0) C lk_RX11_163 (kX11_worth l D cA a hq1 H.size) ⟨Nat.le_of_ble_eq_true rfl, Nat.le_of_ble_eq_true rfl⟩ ⟨Nat.le_refl _, Nat.le_refl _⟩ hP hD rfl rfl rfl hl.1 rfl (Nat.le_of_ble_eq_true rfl) dX11_sum_87) hD hS hA (fun H locs hP hD hS => ?_)
  cases hf
  exact ret_i C hP hD hS dX11_sum_90
set_option maxRecDepth 100000 in
set_option maxHeartbeats 4000000 in
theorem wX11_sum_67 (C : Cx p s m args meth c D cA cX11_sum 4 RX11 (some .int)) (hA : ∀ q : Nat, s.heap.size ≤ q → A q) {N : Nat} {z : Int32 × St} {p1 : Int32} {x2 : Int32} {S : St} (hf : fX11_sum_j67 N p1 x2 S = some z) {H : Heap} {locs : List Loc} {ls : Array Slot} (hP : va_P D vwCl (w_M cA a S) H) (hD : va_D A (w_M cA a S)) (hS : va_S A s.heap H locs) (hl : lv_has ls 4 [(0, .ref (a 0)), (1, .int p1), (2, .int x2)]) : W p l e (rmU 4 93 0 0) s m args below meth c H locs 0 0 (MQ below (QI D A z.1 (w_M cA a z.2)) args s 0 0 A) (F0 m 67 ls []) := by
  obtain ⟨hx, hb, hml, hown, hts, hK, hN, hr, hlk⟩ := id C
  unfold fX11_sum_j67 at hf
  refine lv_iload_n (pc := 67) hx hb dX11_sum_67 rfl (lv_at hl 1 rfl) ?_
  refine lv_iconst (v := (2 : Int32)) (pc := 68) hx hb dX11_sum_68 (by decide) ?_
  refine lv_icmp_ne (tgt := 76) (pc := 69) hx hb dX11_sum_69 (by decide) (fun c1 => ?_) (fun c1 => ?_)
  · have hf := pt_f c1 hf
    refine lv_aload_n (pc := 76) hx hb dX11_sum_76 rfl (lv_at hl 0 rfl) ?_
    refine lv_iload_n (pc := 77) hx hb dX11_sum_77 rfl (lv_at hl 1 rfl) ?_
    refine lv_iconst (v := (1 : Int32)) (pc := 78) hx hb dX11_sum_78 (by decide) ?_
    refine lv_icmp_ne (tgt := 86) (pc := 79) hx hb dX11_sum_79 (by decide) (fun c2 => ?_) (fun c2 => ?_)
    · have hf := pt_f c2 hf
      refine lv_iconst (v := (0 : Int32)) (pc := 86) hx hb dX11_sum_86 (by decide) ?_
      exact wX11_sum_87 C hA  hf hP hD hS (lv_sub hl [] rfl)
    · have hf := pt_t c2 hf
      refine lv_iconst (v := (1 : Int32)) (pc := 82) hx hb dX11_sum_82 (by decide) ?_
      refine lv_goto (tgt := 87) (pc := 83) hx hb dX11_sum_83 (by decide) ?_
      exact wX11_sum_87 C hA  hf hP hD hS (lv_sub hl [] rfl)
  · have hf := pt_t c1 hf
    refine lv_iload_n (pc := 72) hx hb dX11_sum_72 rfl (lv_at hl 2 rfl) ?_
    refine lv_goto (tgt := 90) (pc := 73) hx hb dX11_sum_73 (by decide) ?_
    cases hf
    exact ret_i C hP hD hS dX11_sum_90
set_option maxRecDepth 100000 in
set_option maxHeartbeats 4000000 in
theorem wX11_sum_59 (C : Cx p s m args meth c D cA cX11_sum 4 RX11 (some .int)) (hA : ∀ q : Nat, s.heap.size ≤ q → A q) {N : Nat} {z : Int32 × St} {p1 : Int32} {g31 : Int32 × Int32 × St → Option (Int32 × St)} (hg31 : ∀ (x2 : Int32) (x3 : Int32) (S : St), g31 (x2, x3, S) = some z → ∀ (H : Heap) (locs : List Loc) (ls : Array Slot), va_P D vwCl (w_M cA a S) H → va_D A (w_M cA a S) → va_S A s.heap H locs → lv_has ls 4 [(0, .ref (a 0)), (1, .int p1), (2, .int x2), (3, .int x3)] → W p l e (rmU 4 93 0 0) s m args below meth c H locs 0 0 (MQ below (QI D A z.1 (w_M cA a z.2)) args s 0 0 A) (F0 m 31 ls [])) {x3 : Int32} {y0 : Int32} {y1 : Int32} {S : St} (hf : fX11_sum_j59 N p1 g31 x3 y0 y1 S = some z) {H : Heap} {locs : List Loc} {ls : Array Slot} (hP : va_P D vwCl (w_M cA a S) H) (hD : va_D A (w_M cA a S)) (hS : va_S A s.heap H locs) (hl : lv_has ls 4 [(0, .ref (a 0)), (1, .int p1), (3, .int x3)]) : W p l e (rmU 4 93 0 0) s m args below meth c H locs 0 0 (MQ below (QI D A z.1 (w_M cA a z.2)) args s 0 0 A) (F0 m 59 ls [.int y1, .int y0]) := by
  obtain ⟨hx, hb, hml, hown, hts, hK, hN, hr, hlk⟩ := id C
  unfold fX11_sum_j59 at hf
  refine lv_iadd (pc := 59) hx hb dX11_sum_59 ?_
  refine lv_istore_n (lv' := [(2, .int ((y0 + y1))), (0, .ref (a 0)), (1, .int p1), (3, .int x3)]) (pc := 60) hx hb dX11_sum_60 rfl hl (by decide) rfl (fun ls hl => ?_)
  refine lv_iinc (v := (x3 + 1)) (lv' := [(3, .int ((x3 + 1))), (2, .int ((y0 + y1))), (0, .ref (a 0)), (1, .int p1)]) (pc := 61) hx hb dX11_sum_61 hl (k := 3) rfl (by rfl) (by decide) rfl (fun ls hl => ?_)
  refine lv_goto (tgt := 31) (pc := 64) hx hb dX11_sum_64 (by decide) ?_
  exact hg31 ((y0 + y1)) ((x3 + 1)) S hf _ _ _ hP hD hS (lv_sub hl [2, 3, 1, 0] rfl)
set_option maxRecDepth 100000 in
set_option maxHeartbeats 4000000 in
theorem wX11_sum_31 (C : Cx p s m args meth c D cA cX11_sum 4 RX11 (some .int)) (hA : ∀ q : Nat, s.heap.size ≤ q → A q) {N : Nat} {z : Int32 × St} {p1 : Int32} : ∀ (k : Nat) (x2 : Int32) (x3 : Int32) (S : St), fX11_sum_l31 N p1 k (x2, x3, S) = some z → ∀ (H : Heap) (locs : List Loc) (ls : Array Slot), va_P D vwCl (w_M cA a S) H → va_D A (w_M cA a S) → va_S A s.heap H locs → lv_has ls 4 [(0, .ref (a 0)), (1, .int p1), (2, .int x2), (3, .int x3)] → W p l e (rmU 4 93 0 0) s m args below meth c H locs 0 0 (MQ below (QI D A z.1 (w_M cA a z.2)) args s 0 0 A) (F0 m 31 ls []) := by
  obtain ⟨hx, hb, hml, hown, hts, hK, hN, hr, hlk⟩ := id C
  intro k
  induction k with
  | zero =>
    intro x2 x3 S hf
    have hf : (none : Option (Int32 × St)) = some z := hf
    cases hf
  | succ k hg31 =>
    intro x2 x3 S hf H locs ls hP hD hS hl
    have hf : fX11_sum_b31 N p1 (fX11_sum_l31 N p1 k) x2 x3 S = some z := hf
    unfold fX11_sum_b31 at hf
    refine lv_iload_n (pc := 31) hx hb dX11_sum_31 rfl (lv_at hl 3 rfl) ?_
    refine lv_aload_n (pc := 32) hx hb dX11_sum_32 rfl (lv_at hl 0 rfl) ?_
    refine ge_RX11_31_M_0_0 (pc := 33) C hP dX11_sum_33 ?_
    refine lv_iconst (v := (0 : Int32)) (pc := 36) hx hb dX11_sum_36 (by decide) ?_
    refine ld_M_0_8 (pc := 37) (j := 0) C hP (inK rfl) rfl dX11_sum_37 ?_
    refine lv_icmp_ge (tgt := 67) (pc := 38) hx hb dX11_sum_38 (by decide) (fun c1 => ?_) (fun c1 => ?_)
    · have hf := pt_t c1 hf
      exact wX11_sum_67 C hA  hf hP hD hS (lv_sub hl [0, 1, 2] rfl)
    · have hf := pt_f c1 hf
      refine lv_iload_n (pc := 41) hx hb dX11_sum_41 rfl (lv_at hl 2 rfl) ?_
      refine lv_aload_n (pc := 42) hx hb dX11_sum_42 rfl (lv_at hl 0 rfl) ?_
      refine ge_RX11_28_M_0_0 (pc := 43) C hP dX11_sum_43 ?_
      refine lv_iload_n (pc := 46) hx hb dX11_sum_46 rfl (lv_at hl 3 rfl) ?_
      obtain ⟨h2, hf⟩ := pt_g hf
      refine ld_M_0_7 (pc := 47) (j := x3.toNatClampNeg) C hP h2 rfl dX11_sum_47 ?_
      obtain ⟨q3, hq3, hf⟩ := pt_b hf
      have hPc : va_P D vwCl ([] : va_W) H := hP.sub [] rfl
      have hDc : va_D A ([] : va_W) := hD.sub [] (by decide) rfl
      refine prt_i (runU_S (pc := 48) (As := [.int ((S 7 x3.toNatClampNeg))]) (rest := [.int x2]) C lk_RX11_97 (kX11_isSign l D cA hq3 H.size) ⟨Nat.le_of_ble_eq_true rfl, Nat.le_of_ble_eq_true rfl⟩ ⟨Nat.le_refl _, Nat.le_refl _⟩ hPc hDc hl.1 rfl (Nat.le_of_ble_eq_true rfl) dX11_sum_48) hP hD hS hA [] rfl (fun H locs hP hD hS => ?_)
      refine lv_if_eq (tgt := 58) (pc := 51) hx hb dX11_sum_51 (by decide) (fun c4 => ?_) (fun c4 => ?_)
      · have hf := pt_t c4 hf
        refine lv_iconst (v := (0 : Int32)) (pc := 58) hx hb dX11_sum_58 (by decide) ?_
        exact wX11_sum_59 C hA hg31 hf hP hD hS (lv_sub hl [0, 1, 3] rfl)
      · have hf := pt_f c4 hf
        refine lv_iconst (v := (1 : Int32)) (pc := 54) hx hb dX11_sum_54 (by decide) ?_
        refine lv_goto (tgt := 59) (pc := 55) hx hb dX11_sum_55 (by decide) ?_
        exact wX11_sum_59 C hA hg31 hf hP hD hS (lv_sub hl [0, 1, 3] rfl)
set_option maxRecDepth 100000 in
set_option maxHeartbeats 4000000 in
theorem wX11_sum_28 (C : Cx p s m args meth c D cA cX11_sum 4 RX11 (some .int)) (hA : ∀ q : Nat, s.heap.size ≤ q → A q) {N : Nat} {z : Int32 × St} {p1 : Int32} {y0 : Int32} {S : St} (hf : fX11_sum_j28 N p1 y0 S = some z) {H : Heap} {locs : List Loc} {ls : Array Slot} (hP : va_P D vwCl (w_M cA a S) H) (hD : va_D A (w_M cA a S)) (hS : va_S A s.heap H locs) (hl : lv_has ls 4 [(0, .ref (a 0)), (1, .int p1)]) : W p l e (rmU 4 93 0 0) s m args below meth c H locs 0 0 (MQ below (QI D A z.1 (w_M cA a z.2)) args s 0 0 A) (F0 m 28 ls [.int y0]) := by
  obtain ⟨hx, hb, hml, hown, hts, hK, hN, hr, hlk⟩ := id C
  unfold fX11_sum_j28 at hf
  refine lv_istore_n (lv' := [(2, .int y0), (0, .ref (a 0)), (1, .int p1)]) (pc := 28) hx hb dX11_sum_28 rfl hl (by decide) rfl (fun ls hl => ?_)
  refine lv_iconst (v := (0 : Int32)) (pc := 29) hx hb dX11_sum_29 (by decide) ?_
  refine lv_istore_n (lv' := [(3, .int ((0 : Int32))), (2, .int y0), (0, .ref (a 0)), (1, .int p1)]) (pc := 30) hx hb dX11_sum_30 rfl hl (by decide) rfl (fun ls hl => ?_)
  exact wX11_sum_31 C hA  _ y0 ((0 : Int32)) S hf _ _ _ hP hD hS (lv_sub hl [2, 3, 1, 0] rfl)
set_option maxRecDepth 100000 in
set_option maxHeartbeats 4000000 in
theorem wX11_sum (C : Cx p s m args meth c D cA cX11_sum 4 RX11 (some .int)) (hA : ∀ q : Nat, s.heap.size ≤ q → A q) {N : Nat} {z : Int32 × St} {S : St} {p1 : Int32} (hf : fX11_sum N S p1 = some z) {H : Heap} {locs : List Loc} {ls : Array Slot} (hP : va_P D vwCl (w_M cA a S) H) (hD : va_D A (w_M cA a S)) (hS : va_S A s.heap H locs) (hl : lv_has ls 4 [(0, .ref (a 0)), (1, .int p1)]) : W p l e (rmU 4 93 0 0) s m args below meth c H locs 0 0 (MQ below (QI D A z.1 (w_M cA a z.2)) args s 0 0 A) (F0 m 0 ls []) := by
  obtain ⟨hx, hb, hml, hown, hts, hK, hN, hr, hlk⟩ := id C
  unfold fX11_sum at hf
  refine lv_iload_n (pc := 0) hx hb dX11_sum_0 rfl (lv_at hl 1 rfl) ?_
  refine lv_i2l (v := p1.toInt64) (pc := 1) hx hb dX11_sum_1 rfl ?_
  refine lv_lconst (v := (0 : Int64)) (pc := 2) hx hb dX11_sum_2 (by decide) ?_
  refine lv_ldc2 (pc := 3) (v := (2 : Int64)) hx hb hown (hts _ kl_RX11_91) dX11_sum_3 ?_
  obtain ⟨q1, hq1, hf⟩ := pt_b hf
  have hPc : va_P D vwCl ([] : va_W) H := hP.sub [] rfl
  have hDc : va_D A ([] : va_W) := hD.sub [] (by decide) rfl
  refine prt_i (runU_S (pc := 6) (As := [.long p1.toInt64, .long ((0 : Int64)), .long ((2 : Int64))]) (rest := []) C lk_RX11_72 (kX11_in l D cA hq1 H.size) ⟨Nat.le_of_ble_eq_true rfl, Nat.le_of_ble_eq_true rfl⟩ ⟨Nat.le_refl _, Nat.le_refl _⟩ hPc hDc hl.1 rfl (Nat.le_of_ble_eq_true rfl) dX11_sum_6) hP hD hS hA [] rfl (fun H locs hP hD hS => ?_)
  refine lv_if_ne (tgt := 14) (pc := 9) hx hb dX11_sum_9 (by decide) (fun c2 => ?_) (fun c2 => ?_)
  · have hf := pt_f c2 hf
    refine lv_aload_n (pc := 14) hx hb dX11_sum_14 rfl (lv_at hl 0 rfl) ?_
    refine ge_RX11_31_M_0_0 (pc := 15) C hP dX11_sum_15 ?_
    refine lv_iconst (v := (0 : Int32)) (pc := 18) hx hb dX11_sum_18 (by decide) ?_
    refine ld_M_0_8 (pc := 19) (j := 0) C hP (inK rfl) rfl dX11_sum_19 ?_
    refine lv_if_le (tgt := 27) (pc := 20) hx hb dX11_sum_20 (by decide) (fun c3 => ?_) (fun c3 => ?_)
    · have hf := pt_t c3 hf
      refine lv_iconst (v := (0 : Int32)) (pc := 27) hx hb dX11_sum_27 (by decide) ?_
      exact wX11_sum_28 C hA  hf hP hD hS (lv_sub hl [0, 1] rfl)
    · have hf := pt_f c3 hf
      refine lv_iconst (v := (1 : Int32)) (pc := 23) hx hb dX11_sum_23 (by decide) ?_
      refine lv_goto (tgt := 28) (pc := 24) hx hb dX11_sum_24 (by decide) ?_
      exact wX11_sum_28 C hA  hf hP hD hS (lv_sub hl [0, 1] rfl)
  · have hf := pt_t c2 hf
    refine lv_iconst (v := (-1 : Int32)) (pc := 12) hx hb dX11_sum_12 (by decide) ?_
    cases hf
    exact ret_i C hP hD hS dX11_sum_13
set_option maxRecDepth 100000 in
set_option maxHeartbeats 4000000 in
theorem kX11_sum (l : Launch) (D : va_G) (cA : Nat → ClassId) (a : Nat → Nat) {N : Nat} {S : St} {p1 : Int32} {z : Int32 × St} (hf : fX11_sum N S p1 = some z) : CtI l yX11_sum cX11_sum 4 (some .int) 4 93 D cA (w_M cA a S) (w_M cA a z.2) [.ref (a 0), .int p1] z.1 := by
  intro sz
  refine Met.ofW (cc := cX11_sum) (maxL := 4) (ret := (some .int)) (by decide) rfl ?_
  intro p e s m args below meth c s₁ B hml hv
  obtain ⟨rfl, hsz, hP, hK, hD0⟩ := hv
  subst hsz
  have C : Cx p s m _ meth c D cA cX11_sum 4 RX11 (some .int) := Cx.of B hml hK
  have hD := hD0.self (sz := s.heap.size)
  have hA : ∀ q : Nat, s.heap.size ≤ q → va_A (w_M cA a S) s.heap.size q := fun q h => Or.inr h
  have hS : va_S (va_A (w_M cA a S) s.heap.size) s.heap s.heap [] := va_S.rf
  have hl := lv_entry ([.ref (a 0), .int p1]) (n := 4) (Nat.le_of_ble_eq_true rfl)
  rw [lg_entry_eq]
  generalize (lg_sl ([.ref (a 0), .int p1]) ++ List.replicate (4 - (lg_sl ([.ref (a 0), .int p1])).length) Slot.unset).toArray = ls at hl ⊢
  exact wX11_sum C hA hf hP hD hS hl
def fX11_lettersOf_b7 (N : Nat) (p0 : Int32) (g7 : Int32 × Int32 → Option (Int32)) (x1 : Int32) (x2 : Int32) : Option (Int32) :=
  if x2 ≤ 0 then (some x1) else (g7 (((x1 + 1), (x2 / (10 : Int32)))))
def fX11_lettersOf_l7 (N : Nat) (p0 : Int32) (k : Nat) (q : Int32 × Int32) : Option (Int32) := lpN (fun g q => fX11_lettersOf_b7 N p0 g q.1 q.2) k q
def fX11_lettersOf (N : Nat) (p0 : Int32) : Option (Int32) :=
  fX11_lettersOf_l7 N p0 N (((1 : Int32), (p0 / (10 : Int32))))
set_option maxRecDepth 100000 in
set_option maxHeartbeats 4000000 in
theorem wX11_lettersOf_7 (C : Cx p s m args meth c D cA cX11_lettersOf 3 RX11 (some .int)) (hA : ∀ q : Nat, s.heap.size ≤ q → A q) {N : Nat} {z : Int32} {p0 : Int32} : ∀ (k : Nat) (x1 : Int32) (x2 : Int32), fX11_lettersOf_l7 N p0 k (x1, x2) = some z → ∀ (H : Heap) (locs : List Loc) (ls : Array Slot), va_P D vwCl ([] : va_W) H → va_D A ([] : va_W) → va_S A s.heap H locs → lv_has ls 3 [(1, .int x1), (2, .int x2)] → W p l e (rmU 0 0 0 0) s m args below meth c H locs 0 0 (MQ below (QI D A z ([] : va_W)) args s 0 0 A) (F0 m 7 ls []) := by
  obtain ⟨hx, hb, hml, hown, hts, hK, hN, hr, hlk⟩ := id C
  intro k
  induction k with
  | zero =>
    intro x1 x2 hf
    have hf : (none : Option (Int32)) = some z := hf
    cases hf
  | succ k hg7 =>
    intro x1 x2 hf H locs ls hP hD hS hl
    have hf : fX11_lettersOf_b7 N p0 (fX11_lettersOf_l7 N p0 k) x1 x2 = some z := hf
    unfold fX11_lettersOf_b7 at hf
    refine lv_iload_n (pc := 7) hx hb dX11_lettersOf_7 rfl (lv_at hl 1 rfl) ?_
    refine lv_if_le (tgt := 22) (pc := 8) hx hb dX11_lettersOf_8 (by decide) (fun c1 => ?_) (fun c1 => ?_)
    · have hf := pt_t c1 hf
      refine lv_iload_n (pc := 22) hx hb dX11_lettersOf_22 rfl (lv_at hl 0 rfl) ?_
      cases hf
      exact ret_i C hP hD hS dX11_lettersOf_23
    · have hf := pt_f c1 hf
      refine lv_iinc (v := (x1 + 1)) (lv' := [(1, .int ((x1 + 1))), (2, .int x2)]) (pc := 11) hx hb dX11_lettersOf_11 hl (k := 0) rfl (by rfl) (by decide) rfl (fun ls hl => ?_)
      refine lv_iload_n (pc := 14) hx hb dX11_lettersOf_14 rfl (lv_at hl 1 rfl) ?_
      refine lv_bipush (v := (10 : Int32)) (pc := 15) hx hb dX11_lettersOf_15 (by decide) ?_
      refine lv_idiv (pc := 17) hx hb dX11_lettersOf_17 (by decide) ?_
      refine lv_istore_n (lv' := [(2, .int ((x2 / (10 : Int32)))), (1, .int ((x1 + 1)))]) (pc := 18) hx hb dX11_lettersOf_18 rfl hl (by decide) rfl (fun ls hl => ?_)
      refine lv_goto (tgt := 7) (pc := 19) hx hb dX11_lettersOf_19 (by decide) ?_
      exact hg7 ((x1 + 1)) ((x2 / (10 : Int32))) hf _ _ _ hP hD hS (lv_sub hl [1, 0] rfl)
set_option maxRecDepth 100000 in
set_option maxHeartbeats 4000000 in
theorem wX11_lettersOf (C : Cx p s m args meth c D cA cX11_lettersOf 3 RX11 (some .int)) (hA : ∀ q : Nat, s.heap.size ≤ q → A q) {N : Nat} {z : Int32} {p0 : Int32} (hf : fX11_lettersOf N p0 = some z) {H : Heap} {locs : List Loc} {ls : Array Slot} (hP : va_P D vwCl ([] : va_W) H) (hD : va_D A ([] : va_W)) (hS : va_S A s.heap H locs) (hl : lv_has ls 3 [(0, .int p0)]) : W p l e (rmU 0 0 0 0) s m args below meth c H locs 0 0 (MQ below (QI D A z ([] : va_W)) args s 0 0 A) (F0 m 0 ls []) := by
  obtain ⟨hx, hb, hml, hown, hts, hK, hN, hr, hlk⟩ := id C
  unfold fX11_lettersOf at hf
  refine lv_iconst (v := (1 : Int32)) (pc := 0) hx hb dX11_lettersOf_0 (by decide) ?_
  refine lv_istore_n (lv' := [(1, .int ((1 : Int32))), (0, .int p0)]) (pc := 1) hx hb dX11_lettersOf_1 rfl hl (by decide) rfl (fun ls hl => ?_)
  refine lv_iload_n (pc := 2) hx hb dX11_lettersOf_2 rfl (lv_at hl 1 rfl) ?_
  refine lv_bipush (v := (10 : Int32)) (pc := 3) hx hb dX11_lettersOf_3 (by decide) ?_
  refine lv_idiv (pc := 5) hx hb dX11_lettersOf_5 (by decide) ?_
  refine lv_istore_n (lv' := [(2, .int ((p0 / (10 : Int32)))), (1, .int ((1 : Int32))), (0, .int p0)]) (pc := 6) hx hb dX11_lettersOf_6 rfl hl (by decide) rfl (fun ls hl => ?_)
  exact wX11_lettersOf_7 C hA  _ ((1 : Int32)) ((p0 / (10 : Int32))) hf _ _ _ hP hD hS (lv_sub hl [1, 0] rfl)
set_option maxRecDepth 100000 in
set_option maxHeartbeats 4000000 in
theorem kX11_lettersOf (l : Launch) (D : va_G) (cA : Nat → ClassId) {N : Nat} {p0 : Int32} {z : Int32} (hf : fX11_lettersOf N p0 = some z) : CtI l yX11_lettersOf cX11_lettersOf 3 (some .int) 0 0 D cA ([] : va_W) ([] : va_W) [.int p0] z := by
  intro sz
  refine Met.ofW (cc := cX11_lettersOf) (maxL := 3) (ret := (some .int)) (by decide) rfl ?_
  intro p e s m args below meth c s₁ B hml hv
  obtain ⟨rfl, hsz, hP, hK, hD0⟩ := hv
  subst hsz
  have C : Cx p s m _ meth c D cA cX11_lettersOf 3 RX11 (some .int) := Cx.of B hml hK
  have hD := hD0.self (sz := s.heap.size)
  have hA : ∀ q : Nat, s.heap.size ≤ q → va_A ([] : va_W) s.heap.size q := fun q h => Or.inr h
  have hS : va_S (va_A ([] : va_W) s.heap.size) s.heap s.heap [] := va_S.rf
  have hl := lv_entry ([.int p0]) (n := 3) (Nat.le_of_ble_eq_true rfl)
  rw [lg_entry_eq]
  generalize (lg_sl ([.int p0]) ++ List.replicate (3 - (lg_sl ([.int p0])).length) Slot.unset).toArray = ls at hl ⊢
  exact wX11_lettersOf C hA hf hP hD hS hl
theorem fl_RX11_170 : Cond.fieldLink RX11 170 "SevenOnStrikeModel" "ways" "I" ∈ wsL_law := by decide +kernel
theorem ge_RX11_170_M_0_0 (C : Cx p s m args meth c D cA cc nL RX11 ret) (hP : va_P D vwCl (w_M cA a S) H) (hdg : decode cc pc = .ok (.getfield 170, 3)) (kk : W p l e R s m args below meth c H locs cells slots Q (F0 m (pc + 3) ls (.int (S 20 0) :: rest))) : W p l e R s m args below meth c H locs cells slots Q (F0 m pc ls (.ref (a 0) :: rest)) := by
  obtain ⟨hx, hb, -, hown, hts, hK, -, -, -⟩ := C
  exact va_get (D := D) (ci := 10) (v := .int (S 20 0)) (C := RX11) (T := TX11) (N := 28) hx hb hts inlX11 hown hK hP 0 rfl rfl 20 (by decide) (hts _ fl_RX11_170) (fun _ h9 => h9) rfl hdg kk
theorem pu_RX11_170_M_0_0 {v : Int32} (C : Cx p s m args meth c D cA cc nL RX11 ret) (hP : va_P D vwCl (w_M cA a S) H) (hD : va_D A (w_M cA a S)) (hS : va_S A s.heap H locs) (hdg : decode cc pc = .ok (.putfield 170, 3)) (kk : ∀ (H1 : Heap) (locs1 : List Loc), va_P D vwCl (w_M cA a (stf S 20 v)) H1 → va_D A (w_M cA a (stf S 20 v)) → va_S A s.heap H1 locs1 → W p l e R s m args below meth c H1 locs1 cells slots Q (F0 m (pc + 3) ls rest)) : W p l e R s m args below meth c H locs cells slots Q (F0 m pc ls (.int v :: .ref (a 0) :: rest)) := by
  obtain ⟨hx, hb, -, hown, hts, hK, -, -, -⟩ := C
  exact va_put (D := D) (ci := 10) (v := .int v) (ty := .int) (C := RX11) (T := TX11) (N := 28) hx hb hts inlX11 tyX11 tyX11_ok nmX11 hown hK hP hD hS 0 rfl rfl 20 (by decide) (hts _ fl_RX11_170) (fun _ h9 => h9) rfl (by decide +kernel) rfl rfl (Nat.le_of_ble_eq_true rfl) hdg (fun H1 locs1 h1 h2 h3 => kk H1 locs1 h1 h2 h3)
theorem fl_RX11_173 : Cond.fieldLink RX11 173 "SevenOnStrikeModel" "shortLetters" "I" ∈ wsL_law := by decide +kernel
theorem pu_RX11_173_M_0_0 {v : Int32} (C : Cx p s m args meth c D cA cc nL RX11 ret) (hP : va_P D vwCl (w_M cA a S) H) (hD : va_D A (w_M cA a S)) (hS : va_S A s.heap H locs) (hdg : decode cc pc = .ok (.putfield 173, 3)) (kk : ∀ (H1 : Heap) (locs1 : List Loc), va_P D vwCl (w_M cA a (stf S 21 v)) H1 → va_D A (w_M cA a (stf S 21 v)) → va_S A s.heap H1 locs1 → W p l e R s m args below meth c H1 locs1 cells slots Q (F0 m (pc + 3) ls rest)) : W p l e R s m args below meth c H locs cells slots Q (F0 m pc ls (.int v :: .ref (a 0) :: rest)) := by
  obtain ⟨hx, hb, -, hown, hts, hK, -, -, -⟩ := C
  exact va_put (D := D) (ci := 10) (v := .int v) (ty := .int) (C := RX11) (T := TX11) (N := 28) hx hb hts inlX11 tyX11 tyX11_ok nmX11 hown hK hP hD hS 0 rfl rfl 21 (by decide) (hts _ fl_RX11_173) (fun _ h9 => h9) rfl (by decide +kernel) rfl rfl (Nat.le_of_ble_eq_true rfl) hdg (fun H1 locs1 h1 h2 h3 => kk H1 locs1 h1 h2 h3)
theorem fl_RX11_176 : Cond.fieldLink RX11 176 "SevenOnStrikeModel" "shortKind" "I" ∈ wsL_law := by decide +kernel
theorem pu_RX11_176_M_0_0 {v : Int32} (C : Cx p s m args meth c D cA cc nL RX11 ret) (hP : va_P D vwCl (w_M cA a S) H) (hD : va_D A (w_M cA a S)) (hS : va_S A s.heap H locs) (hdg : decode cc pc = .ok (.putfield 176, 3)) (kk : ∀ (H1 : Heap) (locs1 : List Loc), va_P D vwCl (w_M cA a (stf S 22 v)) H1 → va_D A (w_M cA a (stf S 22 v)) → va_S A s.heap H1 locs1 → W p l e R s m args below meth c H1 locs1 cells slots Q (F0 m (pc + 3) ls rest)) : W p l e R s m args below meth c H locs cells slots Q (F0 m pc ls (.int v :: .ref (a 0) :: rest)) := by
  obtain ⟨hx, hb, -, hown, hts, hK, -, -, -⟩ := C
  exact va_put (D := D) (ci := 10) (v := .int v) (ty := .int) (C := RX11) (T := TX11) (N := 28) hx hb hts inlX11 tyX11 tyX11_ok nmX11 hown hK hP hD hS 0 rfl rfl 22 (by decide) (hts _ fl_RX11_176) (fun _ h9 => h9) rfl (by decide +kernel) rfl rfl (Nat.le_of_ble_eq_true rfl) hdg (fun H1 locs1 h1 h2 h3 => kk H1 locs1 h1 h2 h3)
theorem fl_RX11_179 : Cond.fieldLink RX11 179 "SevenOnStrikeModel" "shortA" "I" ∈ wsL_law := by decide +kernel
theorem pu_RX11_179_M_0_0 {v : Int32} (C : Cx p s m args meth c D cA cc nL RX11 ret) (hP : va_P D vwCl (w_M cA a S) H) (hD : va_D A (w_M cA a S)) (hS : va_S A s.heap H locs) (hdg : decode cc pc = .ok (.putfield 179, 3)) (kk : ∀ (H1 : Heap) (locs1 : List Loc), va_P D vwCl (w_M cA a (stf S 23 v)) H1 → va_D A (w_M cA a (stf S 23 v)) → va_S A s.heap H1 locs1 → W p l e R s m args below meth c H1 locs1 cells slots Q (F0 m (pc + 3) ls rest)) : W p l e R s m args below meth c H locs cells slots Q (F0 m pc ls (.int v :: .ref (a 0) :: rest)) := by
  obtain ⟨hx, hb, -, hown, hts, hK, -, -, -⟩ := C
  exact va_put (D := D) (ci := 10) (v := .int v) (ty := .int) (C := RX11) (T := TX11) (N := 28) hx hb hts inlX11 tyX11 tyX11_ok nmX11 hown hK hP hD hS 0 rfl rfl 23 (by decide) (hts _ fl_RX11_179) (fun _ h9 => h9) rfl (by decide +kernel) rfl rfl (Nat.le_of_ble_eq_true rfl) hdg (fun H1 locs1 h1 h2 h3 => kk H1 locs1 h1 h2 h3)
theorem fl_RX11_182 : Cond.fieldLink RX11 182 "SevenOnStrikeModel" "shortB" "I" ∈ wsL_law := by decide +kernel
theorem pu_RX11_182_M_0_0 {v : Int32} (C : Cx p s m args meth c D cA cc nL RX11 ret) (hP : va_P D vwCl (w_M cA a S) H) (hD : va_D A (w_M cA a S)) (hS : va_S A s.heap H locs) (hdg : decode cc pc = .ok (.putfield 182, 3)) (kk : ∀ (H1 : Heap) (locs1 : List Loc), va_P D vwCl (w_M cA a (stf S 24 v)) H1 → va_D A (w_M cA a (stf S 24 v)) → va_S A s.heap H1 locs1 → W p l e R s m args below meth c H1 locs1 cells slots Q (F0 m (pc + 3) ls rest)) : W p l e R s m args below meth c H locs cells slots Q (F0 m pc ls (.int v :: .ref (a 0) :: rest)) := by
  obtain ⟨hx, hb, -, hown, hts, hK, -, -, -⟩ := C
  exact va_put (D := D) (ci := 10) (v := .int v) (ty := .int) (C := RX11) (T := TX11) (N := 28) hx hb hts inlX11 tyX11 tyX11_ok nmX11 hown hK hP hD hS 0 rfl rfl 24 (by decide) (hts _ fl_RX11_182) (fun _ h9 => h9) rfl (by decide +kernel) rfl rfl (Nat.le_of_ble_eq_true rfl) hdg (fun H1 locs1 h1 h2 h3 => kk H1 locs1 h1 h2 h3)
theorem ge_RX11_173_M_0_0 (C : Cx p s m args meth c D cA cc nL RX11 ret) (hP : va_P D vwCl (w_M cA a S) H) (hdg : decode cc pc = .ok (.getfield 173, 3)) (kk : W p l e R s m args below meth c H locs cells slots Q (F0 m (pc + 3) ls (.int (S 21 0) :: rest))) : W p l e R s m args below meth c H locs cells slots Q (F0 m pc ls (.ref (a 0) :: rest)) := by
  obtain ⟨hx, hb, -, hown, hts, hK, -, -, -⟩ := C
  exact va_get (D := D) (ci := 10) (v := .int (S 21 0)) (C := RX11) (T := TX11) (N := 28) hx hb hts inlX11 hown hK hP 0 rfl rfl 21 (by decide) (hts _ fl_RX11_173) (fun _ h9 => h9) rfl hdg kk
theorem lk_RX11_167 : LkS RX11 167 yX11_lettersOf cX11_lettersOf 3 (some .int) 1 := ⟨⟨by decide +kernel, by decide +kernel, by decide +kernel, by decide +kernel, by decide +kernel, by decide +kernel⟩, by decide +kernel⟩
def fX11_noteWay_j85 (N : Nat) (p1 : Int32) (p2 : Int32) (p3 : Int32) (p4 : Int32) (S : St) : Option (St) :=
  some ((stf S 20 (((S 20 0) + (1 : Int32)))))
def fX11_noteWay_j63 (N : Nat) (p1 : Int32) (p2 : Int32) (p3 : Int32) (p4 : Int32) (x5 : Int32) (S : St) : Option (St) :=
  fX11_noteWay_j85 N p1 p2 p3 p4 ((stf (stf (stf (stf S 21 x5) 22 p2) 23 p3) 24 p4))
def fX11_noteWay_j45 (N : Nat) (p1 : Int32) (p2 : Int32) (p3 : Int32) (p4 : Int32) (y0 : Int32) (S : St) : Option (St) :=
  if (S 20 0) = 0 then (fX11_noteWay_j63 N p1 p2 p3 p4 y0 S) else (if (S 21 0) ≤ y0 then (fX11_noteWay_j85 N p1 p2 p3 p4 S) else (fX11_noteWay_j63 N p1 p2 p3 p4 y0 S))
def fX11_noteWay_j22 (N : Nat) (p1 : Int32) (p2 : Int32) (p3 : Int32) (p4 : Int32) (S : St) : Option (St) :=
  if p2 = 0 then (Option.bind (fX11_lettersOf N p1) (fun q4 => fX11_noteWay_j45 N p1 p2 p3 p4 q4 S)) else (Option.bind (fX11_lettersOf N p3) (fun q2 => Option.bind (fX11_lettersOf N p4) (fun q3 => fX11_noteWay_j45 N p1 p2 p3 p4 (((q2 + (1 : Int32)) + q3)) S)))
def fX11_noteWay (N : Nat) (S : St) (p1 : Int32) (p2 : Int32) (p3 : Int32) (p4 : Int32) : Option (St) :=
  Option.bind (fX11_canSay N S p3) (fun q1 => if q1 = 0 then (some S) else (if p2 ≤ 0 then (fX11_noteWay_j22 N p1 p2 p3 p4 S) else (Option.bind (fX11_canSay N S p4) (fun q4 => if q4 = 0 then (some S) else (fX11_noteWay_j22 N p1 p2 p3 p4 S)))))
set_option maxRecDepth 100000 in
set_option maxHeartbeats 4000000 in
theorem wX11_noteWay_85 (C : Cx p s m args meth c D cA cX11_noteWay 6 RX11 none) (hA : ∀ q : Nat, s.heap.size ≤ q → A q) {N : Nat} {z : St} {p1 : Int32} {p2 : Int32} {p3 : Int32} {p4 : Int32} {S : St} (hf : fX11_noteWay_j85 N p1 p2 p3 p4 S = some z) {H : Heap} {locs : List Loc} {ls : Array Slot} (hP : va_P D vwCl (w_M cA a S) H) (hD : va_D A (w_M cA a S)) (hS : va_S A s.heap H locs) (hl : lv_has ls 6 [(0, .ref (a 0))]) : W p l e (rmU 1 23 0 0) s m args below meth c H locs 0 0 (MQ below (QV D A (w_M cA a z)) args s 0 0 A) (F0 m 85 ls []) := by
  obtain ⟨hx, hb, hml, hown, hts, hK, hN, hr, hlk⟩ := id C
  unfold fX11_noteWay_j85 at hf
  refine lv_aload_n (pc := 85) hx hb dX11_noteWay_85 rfl (lv_at hl 0 rfl) ?_
  refine lv_dup (pc := 86) hx hb dX11_noteWay_86 rfl ?_
  refine ge_RX11_170_M_0_0 (pc := 87) C hP dX11_noteWay_87 ?_
  refine lv_iconst (v := (1 : Int32)) (pc := 90) hx hb dX11_noteWay_90 (by decide) ?_
  refine lv_iadd (pc := 91) hx hb dX11_noteWay_91 ?_
  refine pu_RX11_170_M_0_0 (pc := 92) C hP hD hS dX11_noteWay_92 (fun H locs hP hD hS => ?_)
  cases hf
  exact ret_v C hP hD hS dX11_noteWay_95
set_option maxRecDepth 100000 in
set_option maxHeartbeats 4000000 in
theorem wX11_noteWay_63 (C : Cx p s m args meth c D cA cX11_noteWay 6 RX11 none) (hA : ∀ q : Nat, s.heap.size ≤ q → A q) {N : Nat} {z : St} {p1 : Int32} {p2 : Int32} {p3 : Int32} {p4 : Int32} {x5 : Int32} {S : St} (hf : fX11_noteWay_j63 N p1 p2 p3 p4 x5 S = some z) {H : Heap} {locs : List Loc} {ls : Array Slot} (hP : va_P D vwCl (w_M cA a S) H) (hD : va_D A (w_M cA a S)) (hS : va_S A s.heap H locs) (hl : lv_has ls 6 [(0, .ref (a 0)), (2, .int p2), (3, .int p3), (4, .int p4), (5, .int x5)]) : W p l e (rmU 1 23 0 0) s m args below meth c H locs 0 0 (MQ below (QV D A (w_M cA a z)) args s 0 0 A) (F0 m 63 ls []) := by
  obtain ⟨hx, hb, hml, hown, hts, hK, hN, hr, hlk⟩ := id C
  unfold fX11_noteWay_j63 at hf
  refine lv_aload_n (pc := 63) hx hb dX11_noteWay_63 rfl (lv_at hl 0 rfl) ?_
  refine lv_iload (pc := 64) hx hb dX11_noteWay_64 (lv_at hl 4 rfl) ?_
  refine pu_RX11_173_M_0_0 (pc := 66) C hP hD hS dX11_noteWay_66 (fun H locs hP hD hS => ?_)
  refine lv_aload_n (pc := 69) hx hb dX11_noteWay_69 rfl (lv_at hl 0 rfl) ?_
  refine lv_iload_n (pc := 70) hx hb dX11_noteWay_70 rfl (lv_at hl 1 rfl) ?_
  refine pu_RX11_176_M_0_0 (pc := 71) C hP hD hS dX11_noteWay_71 (fun H locs hP hD hS => ?_)
  refine lv_aload_n (pc := 74) hx hb dX11_noteWay_74 rfl (lv_at hl 0 rfl) ?_
  refine lv_iload_n (pc := 75) hx hb dX11_noteWay_75 rfl (lv_at hl 2 rfl) ?_
  refine pu_RX11_179_M_0_0 (pc := 76) C hP hD hS dX11_noteWay_76 (fun H locs hP hD hS => ?_)
  refine lv_aload_n (pc := 79) hx hb dX11_noteWay_79 rfl (lv_at hl 0 rfl) ?_
  refine lv_iload (pc := 80) hx hb dX11_noteWay_80 (lv_at hl 3 rfl) ?_
  refine pu_RX11_182_M_0_0 (pc := 82) C hP hD hS dX11_noteWay_82 (fun H locs hP hD hS => ?_)
  exact wX11_noteWay_85 C hA  hf hP hD hS (lv_sub hl [0] rfl)
set_option maxRecDepth 100000 in
set_option maxHeartbeats 4000000 in
theorem wX11_noteWay_45 (C : Cx p s m args meth c D cA cX11_noteWay 6 RX11 none) (hA : ∀ q : Nat, s.heap.size ≤ q → A q) {N : Nat} {z : St} {p1 : Int32} {p2 : Int32} {p3 : Int32} {p4 : Int32} {y0 : Int32} {S : St} (hf : fX11_noteWay_j45 N p1 p2 p3 p4 y0 S = some z) {H : Heap} {locs : List Loc} {ls : Array Slot} (hP : va_P D vwCl (w_M cA a S) H) (hD : va_D A (w_M cA a S)) (hS : va_S A s.heap H locs) (hl : lv_has ls 6 [(0, .ref (a 0)), (2, .int p2), (3, .int p3), (4, .int p4)]) : W p l e (rmU 1 23 0 0) s m args below meth c H locs 0 0 (MQ below (QV D A (w_M cA a z)) args s 0 0 A) (F0 m 45 ls [.int y0]) := by
  obtain ⟨hx, hb, hml, hown, hts, hK, hN, hr, hlk⟩ := id C
  unfold fX11_noteWay_j45 at hf
  refine lv_istore (lv' := [(5, .int y0), (0, .ref (a 0)), (2, .int p2), (3, .int p3), (4, .int p4)]) (pc := 45) hx hb dX11_noteWay_45 hl (by decide) rfl (fun ls hl => ?_)
  refine lv_aload_n (pc := 47) hx hb dX11_noteWay_47 rfl (lv_at hl 1 rfl) ?_
  refine ge_RX11_170_M_0_0 (pc := 48) C hP dX11_noteWay_48 ?_
  refine lv_if_eq (tgt := 63) (pc := 51) hx hb dX11_noteWay_51 (by decide) (fun c1 => ?_) (fun c1 => ?_)
  · have hf := pt_t c1 hf
    exact wX11_noteWay_63 C hA  hf hP hD hS (lv_sub hl [1, 2, 3, 4, 0] rfl)
  · have hf := pt_f c1 hf
    refine lv_iload (pc := 54) hx hb dX11_noteWay_54 (lv_at hl 0 rfl) ?_
    refine lv_aload_n (pc := 56) hx hb dX11_noteWay_56 rfl (lv_at hl 1 rfl) ?_
    refine ge_RX11_173_M_0_0 (pc := 57) C hP dX11_noteWay_57 ?_
    refine lv_icmp_ge (tgt := 85) (pc := 60) hx hb dX11_noteWay_60 (by decide) (fun c2 => ?_) (fun c2 => ?_)
    · have hf := pt_t c2 hf
      exact wX11_noteWay_85 C hA  hf hP hD hS (lv_sub hl [1] rfl)
    · have hf := pt_f c2 hf
      exact wX11_noteWay_63 C hA  hf hP hD hS (lv_sub hl [1, 2, 3, 4, 0] rfl)
set_option maxRecDepth 100000 in
set_option maxHeartbeats 4000000 in
theorem wX11_noteWay_22 (C : Cx p s m args meth c D cA cX11_noteWay 6 RX11 none) (hA : ∀ q : Nat, s.heap.size ≤ q → A q) {N : Nat} {z : St} {p1 : Int32} {p2 : Int32} {p3 : Int32} {p4 : Int32} {S : St} (hf : fX11_noteWay_j22 N p1 p2 p3 p4 S = some z) {H : Heap} {locs : List Loc} {ls : Array Slot} (hP : va_P D vwCl (w_M cA a S) H) (hD : va_D A (w_M cA a S)) (hS : va_S A s.heap H locs) (hl : lv_has ls 6 [(0, .ref (a 0)), (1, .int p1), (2, .int p2), (3, .int p3), (4, .int p4)]) : W p l e (rmU 1 23 0 0) s m args below meth c H locs 0 0 (MQ below (QV D A (w_M cA a z)) args s 0 0 A) (F0 m 22 ls []) := by
  obtain ⟨hx, hb, hml, hown, hts, hK, hN, hr, hlk⟩ := id C
  unfold fX11_noteWay_j22 at hf
  refine lv_iload_n (pc := 22) hx hb dX11_noteWay_22 rfl (lv_at hl 2 rfl) ?_
  refine lv_if_ne (tgt := 33) (pc := 23) hx hb dX11_noteWay_23 (by decide) (fun c1 => ?_) (fun c1 => ?_)
  · have hf := pt_f c1 hf
    refine lv_iload_n (pc := 33) hx hb dX11_noteWay_33 rfl (lv_at hl 3 rfl) ?_
    obtain ⟨q2, hq2, hf⟩ := pt_b hf
    have hPc : va_P D vwCl ([] : va_W) H := hP.sub [] rfl
    have hDc : va_D A ([] : va_W) := hD.sub [] (by decide) rfl
    refine prt_i (runU_S (pc := 34) (As := [.int p3]) (rest := []) C lk_RX11_167 (kX11_lettersOf l D cA hq2 H.size) ⟨Nat.le_of_ble_eq_true rfl, Nat.le_of_ble_eq_true rfl⟩ ⟨Nat.le_refl _, Nat.le_refl _⟩ hPc hDc hl.1 rfl (Nat.le_of_ble_eq_true rfl) dX11_noteWay_34) hP hD hS hA [] rfl (fun H locs hP hD hS => ?_)
    refine lv_iconst (v := (1 : Int32)) (pc := 37) hx hb dX11_noteWay_37 (by decide) ?_
    refine lv_iadd (pc := 38) hx hb dX11_noteWay_38 ?_
    refine lv_iload (pc := 39) hx hb dX11_noteWay_39 (lv_at hl 4 rfl) ?_
    obtain ⟨q3, hq3, hf⟩ := pt_b hf
    have hPc : va_P D vwCl ([] : va_W) H := hP.sub [] rfl
    have hDc : va_D A ([] : va_W) := hD.sub [] (by decide) rfl
    refine prt_i (runU_S (pc := 41) (As := [.int p4]) (rest := [.int ((q2 + (1 : Int32)))]) C lk_RX11_167 (kX11_lettersOf l D cA hq3 H.size) ⟨Nat.le_of_ble_eq_true rfl, Nat.le_of_ble_eq_true rfl⟩ ⟨Nat.le_refl _, Nat.le_refl _⟩ hPc hDc hl.1 rfl (Nat.le_of_ble_eq_true rfl) dX11_noteWay_41) hP hD hS hA [] rfl (fun H locs hP hD hS => ?_)
    refine lv_iadd (pc := 44) hx hb dX11_noteWay_44 ?_
    exact wX11_noteWay_45 C hA  hf hP hD hS (lv_sub hl [0, 2, 3, 4] rfl)
  · have hf := pt_t c1 hf
    refine lv_iload_n (pc := 26) hx hb dX11_noteWay_26 rfl (lv_at hl 1 rfl) ?_
    obtain ⟨q4, hq4, hf⟩ := pt_b hf
    have hPc : va_P D vwCl ([] : va_W) H := hP.sub [] rfl
    have hDc : va_D A ([] : va_W) := hD.sub [] (by decide) rfl
    refine prt_i (runU_S (pc := 27) (As := [.int p1]) (rest := []) C lk_RX11_167 (kX11_lettersOf l D cA hq4 H.size) ⟨Nat.le_of_ble_eq_true rfl, Nat.le_of_ble_eq_true rfl⟩ ⟨Nat.le_refl _, Nat.le_refl _⟩ hPc hDc hl.1 rfl (Nat.le_of_ble_eq_true rfl) dX11_noteWay_27) hP hD hS hA [] rfl (fun H locs hP hD hS => ?_)
    refine lv_goto (tgt := 45) (pc := 30) hx hb dX11_noteWay_30 (by decide) ?_
    exact wX11_noteWay_45 C hA  hf hP hD hS (lv_sub hl [0, 2, 3, 4] rfl)
set_option maxRecDepth 100000 in
set_option maxHeartbeats 4000000 in
theorem wX11_noteWay (C : Cx p s m args meth c D cA cX11_noteWay 6 RX11 none) (hA : ∀ q : Nat, s.heap.size ≤ q → A q) {N : Nat} {z : St} {S : St} {p1 : Int32} {p2 : Int32} {p3 : Int32} {p4 : Int32} (hf : fX11_noteWay N S p1 p2 p3 p4 = some z) {H : Heap} {locs : List Loc} {ls : Array Slot} (hP : va_P D vwCl (w_M cA a S) H) (hD : va_D A (w_M cA a S)) (hS : va_S A s.heap H locs) (hl : lv_has ls 6 [(0, .ref (a 0)), (1, .int p1), (2, .int p2), (3, .int p3), (4, .int p4)]) : W p l e (rmU 1 23 0 0) s m args below meth c H locs 0 0 (MQ below (QV D A (w_M cA a z)) args s 0 0 A) (F0 m 0 ls []) := by
  obtain ⟨hx, hb, hml, hown, hts, hK, hN, hr, hlk⟩ := id C
  unfold fX11_noteWay at hf
  refine lv_aload_n (pc := 0) hx hb dX11_noteWay_0 rfl (lv_at hl 0 rfl) ?_
  refine lv_iload_n (pc := 1) hx hb dX11_noteWay_1 rfl (lv_at hl 3 rfl) ?_
  obtain ⟨q1, hq1, hf⟩ := pt_b hf
  refine all_i (runU_V (pc := 2) (As := [.int p3]) (b := a 0) (rest := []) (ci := 10) (q0 := 0) C lk_RX11_134 (kX11_canSay l D cA a hq1 H.size) ⟨Nat.le_of_ble_eq_true rfl, Nat.le_of_ble_eq_true rfl⟩ ⟨Nat.le_refl _, Nat.le_refl _⟩ hP hD rfl rfl rfl hl.1 rfl (Nat.le_of_ble_eq_true rfl) dX11_noteWay_2) hD hS hA (fun H locs hP hD hS => ?_)
  refine lv_if_eq (tgt := 21) (pc := 5) hx hb dX11_noteWay_5 (by decide) (fun c2 => ?_) (fun c2 => ?_)
  · have hf := pt_t c2 hf
    cases hf
    exact ret_v C hP hD hS dX11_noteWay_21
  · have hf := pt_f c2 hf
    refine lv_iload_n (pc := 8) hx hb dX11_noteWay_8 rfl (lv_at hl 2 rfl) ?_
    refine lv_if_le (tgt := 22) (pc := 9) hx hb dX11_noteWay_9 (by decide) (fun c3 => ?_) (fun c3 => ?_)
    · have hf := pt_t c3 hf
      exact wX11_noteWay_22 C hA  hf hP hD hS (lv_sub hl [0, 1, 2, 3, 4] rfl)
    · have hf := pt_f c3 hf
      refine lv_aload_n (pc := 12) hx hb dX11_noteWay_12 rfl (lv_at hl 0 rfl) ?_
      refine lv_iload (pc := 13) hx hb dX11_noteWay_13 (lv_at hl 4 rfl) ?_
      obtain ⟨q4, hq4, hf⟩ := pt_b hf
      refine all_i (runU_V (pc := 15) (As := [.int p4]) (b := a 0) (rest := []) (ci := 10) (q0 := 0) C lk_RX11_134 (kX11_canSay l D cA a hq4 H.size) ⟨Nat.le_of_ble_eq_true rfl, Nat.le_of_ble_eq_true rfl⟩ ⟨Nat.le_refl _, Nat.le_refl _⟩ hP hD rfl rfl rfl hl.1 rfl (Nat.le_of_ble_eq_true rfl) dX11_noteWay_15) hD hS hA (fun H locs hP hD hS => ?_)
      refine lv_if_ne (tgt := 22) (pc := 18) hx hb dX11_noteWay_18 (by decide) (fun c5 => ?_) (fun c5 => ?_)
      · have hf := pt_f c5 hf
        exact wX11_noteWay_22 C hA  hf hP hD hS (lv_sub hl [0, 1, 2, 3, 4] rfl)
      · have hf := pt_t c5 hf
        cases hf
        exact ret_v C hP hD hS dX11_noteWay_21
set_option maxRecDepth 100000 in
set_option maxHeartbeats 4000000 in
theorem kX11_noteWay (l : Launch) (D : va_G) (cA : Nat → ClassId) (a : Nat → Nat) {N : Nat} {S : St} {p1 : Int32} {p2 : Int32} {p3 : Int32} {p4 : Int32} {z : St} (hf : fX11_noteWay N S p1 p2 p3 p4 = some z) : CtV l yX11_noteWay cX11_noteWay 6 none 1 23 D cA (w_M cA a S) (w_M cA a z) [.ref (a 0), .int p1, .int p2, .int p3, .int p4] := by
  intro sz
  refine Met.ofW (cc := cX11_noteWay) (maxL := 6) (ret := none) (by decide) rfl ?_
  intro p e s m args below meth c s₁ B hml hv
  obtain ⟨rfl, hsz, hP, hK, hD0⟩ := hv
  subst hsz
  have C : Cx p s m _ meth c D cA cX11_noteWay 6 RX11 none := Cx.of B hml hK
  have hD := hD0.self (sz := s.heap.size)
  have hA : ∀ q : Nat, s.heap.size ≤ q → va_A (w_M cA a S) s.heap.size q := fun q h => Or.inr h
  have hS : va_S (va_A (w_M cA a S) s.heap.size) s.heap s.heap [] := va_S.rf
  have hl := lv_entry ([.ref (a 0), .int p1, .int p2, .int p3, .int p4]) (n := 6) (Nat.le_of_ble_eq_true rfl)
  rw [lg_entry_eq]
  generalize (lg_sl ([.ref (a 0), .int p1, .int p2, .int p3, .int p4]) ++ List.replicate (6 - (lg_sl ([.ref (a 0), .int p1, .int p2, .int p3, .int p4])).length) Slot.unset).toArray = ls at hl ⊢
  exact wX11_noteWay C hA hf hP hD hS hl
theorem lk_RX11_185 : LkV RX11 185 yX11_noteWay cX11_noteWay 6 none 4 := ⟨⟨by decide +kernel, by decide +kernel, by decide +kernel, by decide +kernel, by decide +kernel, by decide +kernel⟩, by decide +kernel, by decide +kernel⟩
def fX11_goWays_j111 (N : Nat) (p1 : Int32) (g67 : Int32 × St → Option (St)) (x2 : Int32) (S : St) : Option (St) :=
  g67 (((x2 + 1), S))
def fX11_goWays_j105 (N : Nat) (p1 : Int32) (g67 : Int32 × St → Option (St)) (g76 : Int32 × Int32 × St → Option (St)) (x2 : Int32) (x3 : Int32) (S : St) : Option (St) :=
  g76 ((x2, (x3 + 1), S))
def fX11_goWays_b76 (N : Nat) (p1 : Int32) (g67 : Int32 × St → Option (St)) (g76 : Int32 × Int32 × St → Option (St)) (x2 : Int32) (x3 : Int32) (S : St) : Option (St) :=
  if (999 : Int32) < x3 then (fX11_goWays_j111 N p1 g67 x2 S) else (if p1 < (x2 * x3) then (fX11_goWays_j111 N p1 g67 x2 S) else (if (x2 * x3) = p1 then (Option.bind (fX11_noteWay N S p1 ((3 : Int32)) x2 x3) (fun q4 => fX11_goWays_j105 N p1 g67 g76 x2 x3 q4)) else (fX11_goWays_j105 N p1 g67 g76 x2 x3 S)))
def fX11_goWays_l76 (N : Nat) (p1 : Int32) (g67 : Int32 × St → Option (St)) (k : Nat) (q : Int32 × Int32 × St) : Option (St) := lpN (fun g q => fX11_goWays_b76 N p1 g67 g q.1 q.2.1 q.2.2) k q
def fX11_goWays_b67 (N : Nat) (p1 : Int32) (g67 : Int32 × St → Option (St)) (x2 : Int32) (S : St) : Option (St) :=
  if p1 < (x2 * x2) then (some S) else (fX11_goWays_l76 N p1 g67 N ((x2, x2, S)))
def fX11_goWays_l67 (N : Nat) (p1 : Int32) (k : Nat) (q : Int32 × St) : Option (St) := lpN (fun g q => fX11_goWays_b67 N p1 g q.1 q.2) k q
def fX11_goWays_j65 (N : Nat) (p1 : Int32) (S : St) : Option (St) :=
  fX11_goWays_l67 N p1 N (((0 : Int32), S))
def fX11_goWays_b42 (N : Nat) (p1 : Int32) (g42 : Int32 × St → Option (St)) (x2 : Int32) (S : St) : Option (St) :=
  if (999 : Int32) < x2 then (fX11_goWays_j65 N p1 S) else (Option.bind (fX11_noteWay N S p1 ((2 : Int32)) x2 ((x2 - p1))) (fun q2 => g42 (((x2 + 1), q2))))
def fX11_goWays_l42 (N : Nat) (p1 : Int32) (k : Nat) (q : Int32 × St) : Option (St) := lpN (fun g q => fX11_goWays_b42 N p1 g q.1 q.2) k q
def fX11_goWays_j38 (N : Nat) (p1 : Int32) (S : St) : Option (St) :=
  fX11_goWays_l42 N p1 N (((p1 + (1 : Int32)), S))
def fX11_goWays_b15 (N : Nat) (p1 : Int32) (g15 : Int32 × St → Option (St)) (x2 : Int32) (S : St) : Option (St) :=
  if p1 < ((2 : Int32) * x2) then (fX11_goWays_j38 N p1 S) else (Option.bind (fX11_noteWay N S p1 ((1 : Int32)) x2 ((p1 - x2))) (fun q2 => g15 (((x2 + 1), q2))))
def fX11_goWays_l15 (N : Nat) (p1 : Int32) (k : Nat) (q : Int32 × St) : Option (St) := lpN (fun g q => fX11_goWays_b15 N p1 g q.1 q.2) k q
def fX11_goWays (N : Nat) (S : St) (p1 : Int32) : Option (St) :=
  Option.bind (fX11_noteWay N (stf S 20 ((0 : Int32))) p1 ((0 : Int32)) p1 ((0 : Int32))) (fun q1 => fX11_goWays_l15 N p1 N (((0 : Int32), q1)))
set_option maxRecDepth 100000 in
set_option maxHeartbeats 4000000 in
theorem wX11_goWays_111 (C : Cx p s m args meth c D cA cX11_goWays 4 RX11 none) (hA : ∀ q : Nat, s.heap.size ≤ q → A q) {N : Nat} {z : St} {p1 : Int32} {g67 : Int32 × St → Option (St)} (hg67 : ∀ (x2 : Int32) (S : St), g67 (x2, S) = some z → ∀ (H : Heap) (locs : List Loc) (ls : Array Slot), va_P D vwCl (w_M cA a S) H → va_D A (w_M cA a S) → va_S A s.heap H locs → lv_has ls 4 [(0, .ref (a 0)), (1, .int p1), (2, .int x2)] → W p l e (rmU 2 48 0 0) s m args below meth c H locs 0 0 (MQ below (QV D A (w_M cA a z)) args s 0 0 A) (F0 m 67 ls [])) {x2 : Int32} {S : St} (hf : fX11_goWays_j111 N p1 g67 x2 S = some z) {H : Heap} {locs : List Loc} {ls : Array Slot} (hP : va_P D vwCl (w_M cA a S) H) (hD : va_D A (w_M cA a S)) (hS : va_S A s.heap H locs) (hl : lv_has ls 4 [(0, .ref (a 0)), (1, .int p1), (2, .int x2)]) : W p l e (rmU 2 48 0 0) s m args below meth c H locs 0 0 (MQ below (QV D A (w_M cA a z)) args s 0 0 A) (F0 m 111 ls []) := by
  obtain ⟨hx, hb, hml, hown, hts, hK, hN, hr, hlk⟩ := id C
  unfold fX11_goWays_j111 at hf
  refine lv_iinc (v := (x2 + 1)) (lv' := [(2, .int ((x2 + 1))), (0, .ref (a 0)), (1, .int p1)]) (pc := 111) hx hb dX11_goWays_111 hl (k := 2) rfl (by rfl) (by decide) rfl (fun ls hl => ?_)
  refine lv_goto (tgt := 67) (pc := 114) hx hb dX11_goWays_114 (by decide) ?_
  exact hg67 ((x2 + 1)) S hf _ _ _ hP hD hS (lv_sub hl [1, 2, 0] rfl)
set_option maxRecDepth 100000 in
set_option maxHeartbeats 4000000 in
theorem wX11_goWays_105 (C : Cx p s m args meth c D cA cX11_goWays 4 RX11 none) (hA : ∀ q : Nat, s.heap.size ≤ q → A q) {N : Nat} {z : St} {p1 : Int32} {g67 : Int32 × St → Option (St)} (hg67 : ∀ (x2 : Int32) (S : St), g67 (x2, S) = some z → ∀ (H : Heap) (locs : List Loc) (ls : Array Slot), va_P D vwCl (w_M cA a S) H → va_D A (w_M cA a S) → va_S A s.heap H locs → lv_has ls 4 [(0, .ref (a 0)), (1, .int p1), (2, .int x2)] → W p l e (rmU 2 48 0 0) s m args below meth c H locs 0 0 (MQ below (QV D A (w_M cA a z)) args s 0 0 A) (F0 m 67 ls [])) {g76 : Int32 × Int32 × St → Option (St)} (hg76 : ∀ (x2 : Int32) (x3 : Int32) (S : St), g76 (x2, x3, S) = some z → ∀ (H : Heap) (locs : List Loc) (ls : Array Slot), va_P D vwCl (w_M cA a S) H → va_D A (w_M cA a S) → va_S A s.heap H locs → lv_has ls 4 [(0, .ref (a 0)), (1, .int p1), (2, .int x2), (3, .int x3)] → W p l e (rmU 2 48 0 0) s m args below meth c H locs 0 0 (MQ below (QV D A (w_M cA a z)) args s 0 0 A) (F0 m 76 ls [])) {x2 : Int32} {x3 : Int32} {S : St} (hf : fX11_goWays_j105 N p1 g67 g76 x2 x3 S = some z) {H : Heap} {locs : List Loc} {ls : Array Slot} (hP : va_P D vwCl (w_M cA a S) H) (hD : va_D A (w_M cA a S)) (hS : va_S A s.heap H locs) (hl : lv_has ls 4 [(0, .ref (a 0)), (1, .int p1), (2, .int x2), (3, .int x3)]) : W p l e (rmU 2 48 0 0) s m args below meth c H locs 0 0 (MQ below (QV D A (w_M cA a z)) args s 0 0 A) (F0 m 105 ls []) := by
  obtain ⟨hx, hb, hml, hown, hts, hK, hN, hr, hlk⟩ := id C
  unfold fX11_goWays_j105 at hf
  refine lv_iinc (v := (x3 + 1)) (lv' := [(3, .int ((x3 + 1))), (0, .ref (a 0)), (1, .int p1), (2, .int x2)]) (pc := 105) hx hb dX11_goWays_105 hl (k := 3) rfl (by rfl) (by decide) rfl (fun ls hl => ?_)
  refine lv_goto (tgt := 76) (pc := 108) hx hb dX11_goWays_108 (by decide) ?_
  exact hg76 x2 ((x3 + 1)) S hf _ _ _ hP hD hS (lv_sub hl [1, 2, 3, 0] rfl)
set_option maxRecDepth 100000 in
set_option maxHeartbeats 4000000 in
theorem wX11_goWays_76 (C : Cx p s m args meth c D cA cX11_goWays 4 RX11 none) (hA : ∀ q : Nat, s.heap.size ≤ q → A q) {N : Nat} {z : St} {p1 : Int32} {g67 : Int32 × St → Option (St)} (hg67 : ∀ (x2 : Int32) (S : St), g67 (x2, S) = some z → ∀ (H : Heap) (locs : List Loc) (ls : Array Slot), va_P D vwCl (w_M cA a S) H → va_D A (w_M cA a S) → va_S A s.heap H locs → lv_has ls 4 [(0, .ref (a 0)), (1, .int p1), (2, .int x2)] → W p l e (rmU 2 48 0 0) s m args below meth c H locs 0 0 (MQ below (QV D A (w_M cA a z)) args s 0 0 A) (F0 m 67 ls [])) : ∀ (k : Nat) (x2 : Int32) (x3 : Int32) (S : St), fX11_goWays_l76 N p1 g67 k (x2, x3, S) = some z → ∀ (H : Heap) (locs : List Loc) (ls : Array Slot), va_P D vwCl (w_M cA a S) H → va_D A (w_M cA a S) → va_S A s.heap H locs → lv_has ls 4 [(0, .ref (a 0)), (1, .int p1), (2, .int x2), (3, .int x3)] → W p l e (rmU 2 48 0 0) s m args below meth c H locs 0 0 (MQ below (QV D A (w_M cA a z)) args s 0 0 A) (F0 m 76 ls []) := by
  obtain ⟨hx, hb, hml, hown, hts, hK, hN, hr, hlk⟩ := id C
  intro k
  induction k with
  | zero =>
    intro x2 x3 S hf
    have hf : (none : Option (St)) = some z := hf
    cases hf
  | succ k hg76 =>
    intro x2 x3 S hf H locs ls hP hD hS hl
    have hf : fX11_goWays_b76 N p1 g67 (fX11_goWays_l76 N p1 g67 k) x2 x3 S = some z := hf
    unfold fX11_goWays_b76 at hf
    refine lv_iload_n (pc := 76) hx hb dX11_goWays_76 rfl (lv_at hl 3 rfl) ?_
    refine lv_sipush (v := (999 : Int32)) (pc := 77) hx hb dX11_goWays_77 (by decide) ?_
    refine lv_icmp_gt (tgt := 111) (pc := 80) hx hb dX11_goWays_80 (by decide) (fun c1 => ?_) (fun c1 => ?_)
    · have hf := pt_t c1 hf
      exact wX11_goWays_111 C hA hg67 hf hP hD hS (lv_sub hl [0, 1, 2] rfl)
    · have hf := pt_f c1 hf
      refine lv_iload_n (pc := 83) hx hb dX11_goWays_83 rfl (lv_at hl 2 rfl) ?_
      refine lv_iload_n (pc := 84) hx hb dX11_goWays_84 rfl (lv_at hl 3 rfl) ?_
      refine lv_imul (pc := 85) hx hb dX11_goWays_85 ?_
      refine lv_iload_n (pc := 86) hx hb dX11_goWays_86 rfl (lv_at hl 1 rfl) ?_
      refine lv_icmp_gt (tgt := 111) (pc := 87) hx hb dX11_goWays_87 (by decide) (fun c2 => ?_) (fun c2 => ?_)
      · have hf := pt_t c2 hf
        exact wX11_goWays_111 C hA hg67 hf hP hD hS (lv_sub hl [0, 1, 2] rfl)
      · have hf := pt_f c2 hf
        refine lv_iload_n (pc := 90) hx hb dX11_goWays_90 rfl (lv_at hl 2 rfl) ?_
        refine lv_iload_n (pc := 91) hx hb dX11_goWays_91 rfl (lv_at hl 3 rfl) ?_
        refine lv_imul (pc := 92) hx hb dX11_goWays_92 ?_
        refine lv_iload_n (pc := 93) hx hb dX11_goWays_93 rfl (lv_at hl 1 rfl) ?_
        refine lv_icmp_ne (tgt := 105) (pc := 94) hx hb dX11_goWays_94 (by decide) (fun c3 => ?_) (fun c3 => ?_)
        · have hf := pt_f c3 hf
          exact wX11_goWays_105 C hA hg67 hg76 hf hP hD hS (lv_sub hl [0, 1, 2, 3] rfl)
        · have hf := pt_t c3 hf
          refine lv_aload_n (pc := 97) hx hb dX11_goWays_97 rfl (lv_at hl 0 rfl) ?_
          refine lv_iload_n (pc := 98) hx hb dX11_goWays_98 rfl (lv_at hl 1 rfl) ?_
          refine lv_iconst (v := (3 : Int32)) (pc := 99) hx hb dX11_goWays_99 (by decide) ?_
          refine lv_iload_n (pc := 100) hx hb dX11_goWays_100 rfl (lv_at hl 2 rfl) ?_
          refine lv_iload_n (pc := 101) hx hb dX11_goWays_101 rfl (lv_at hl 3 rfl) ?_
          obtain ⟨q4, hq4, hf⟩ := pt_b hf
          refine all_v (runU_V (pc := 102) (As := [.int p1, .int ((3 : Int32)), .int x2, .int x3]) (b := a 0) (rest := []) (ci := 10) (q0 := 0) C lk_RX11_185 (kX11_noteWay l D cA a hq4 H.size) ⟨Nat.le_of_ble_eq_true rfl, Nat.le_of_ble_eq_true rfl⟩ ⟨Nat.le_refl _, Nat.le_refl _⟩ hP hD rfl rfl rfl hl.1 rfl (Nat.le_of_ble_eq_true rfl) dX11_goWays_102) hD hS hA (fun H locs hP hD hS => ?_)
          exact wX11_goWays_105 C hA hg67 hg76 hf hP hD hS (lv_sub hl [0, 1, 2, 3] rfl)
set_option maxRecDepth 100000 in
set_option maxHeartbeats 4000000 in
theorem wX11_goWays_67 (C : Cx p s m args meth c D cA cX11_goWays 4 RX11 none) (hA : ∀ q : Nat, s.heap.size ≤ q → A q) {N : Nat} {z : St} {p1 : Int32} : ∀ (k : Nat) (x2 : Int32) (S : St), fX11_goWays_l67 N p1 k (x2, S) = some z → ∀ (H : Heap) (locs : List Loc) (ls : Array Slot), va_P D vwCl (w_M cA a S) H → va_D A (w_M cA a S) → va_S A s.heap H locs → lv_has ls 4 [(0, .ref (a 0)), (1, .int p1), (2, .int x2)] → W p l e (rmU 2 48 0 0) s m args below meth c H locs 0 0 (MQ below (QV D A (w_M cA a z)) args s 0 0 A) (F0 m 67 ls []) := by
  obtain ⟨hx, hb, hml, hown, hts, hK, hN, hr, hlk⟩ := id C
  intro k
  induction k with
  | zero =>
    intro x2 S hf
    have hf : (none : Option (St)) = some z := hf
    cases hf
  | succ k hg67 =>
    intro x2 S hf H locs ls hP hD hS hl
    have hf : fX11_goWays_b67 N p1 (fX11_goWays_l67 N p1 k) x2 S = some z := hf
    unfold fX11_goWays_b67 at hf
    refine lv_iload_n (pc := 67) hx hb dX11_goWays_67 rfl (lv_at hl 2 rfl) ?_
    refine lv_iload_n (pc := 68) hx hb dX11_goWays_68 rfl (lv_at hl 2 rfl) ?_
    refine lv_imul (pc := 69) hx hb dX11_goWays_69 ?_
    refine lv_iload_n (pc := 70) hx hb dX11_goWays_70 rfl (lv_at hl 1 rfl) ?_
    refine lv_icmp_gt (tgt := 117) (pc := 71) hx hb dX11_goWays_71 (by decide) (fun c1 => ?_) (fun c1 => ?_)
    · have hf := pt_t c1 hf
      cases hf
      exact ret_v C hP hD hS dX11_goWays_117
    · have hf := pt_f c1 hf
      refine lv_iload_n (pc := 74) hx hb dX11_goWays_74 rfl (lv_at hl 2 rfl) ?_
      refine lv_istore_n (lv' := [(3, .int x2), (0, .ref (a 0)), (1, .int p1), (2, .int x2)]) (pc := 75) hx hb dX11_goWays_75 rfl hl (by decide) rfl (fun ls hl => ?_)
      exact wX11_goWays_76 C hA hg67 _ x2 x2 S hf _ _ _ hP hD hS (lv_sub hl [1, 2, 3, 0] rfl)
set_option maxRecDepth 100000 in
set_option maxHeartbeats 4000000 in
theorem wX11_goWays_65 (C : Cx p s m args meth c D cA cX11_goWays 4 RX11 none) (hA : ∀ q : Nat, s.heap.size ≤ q → A q) {N : Nat} {z : St} {p1 : Int32} {S : St} (hf : fX11_goWays_j65 N p1 S = some z) {H : Heap} {locs : List Loc} {ls : Array Slot} (hP : va_P D vwCl (w_M cA a S) H) (hD : va_D A (w_M cA a S)) (hS : va_S A s.heap H locs) (hl : lv_has ls 4 [(0, .ref (a 0)), (1, .int p1)]) : W p l e (rmU 2 48 0 0) s m args below meth c H locs 0 0 (MQ below (QV D A (w_M cA a z)) args s 0 0 A) (F0 m 65 ls []) := by
  obtain ⟨hx, hb, hml, hown, hts, hK, hN, hr, hlk⟩ := id C
  unfold fX11_goWays_j65 at hf
  refine lv_iconst (v := (0 : Int32)) (pc := 65) hx hb dX11_goWays_65 (by decide) ?_
  refine lv_istore_n (lv' := [(2, .int ((0 : Int32))), (0, .ref (a 0)), (1, .int p1)]) (pc := 66) hx hb dX11_goWays_66 rfl hl (by decide) rfl (fun ls hl => ?_)
  exact wX11_goWays_67 C hA  _ ((0 : Int32)) S hf _ _ _ hP hD hS (lv_sub hl [1, 2, 0] rfl)
set_option maxRecDepth 100000 in
set_option maxHeartbeats 4000000 in
theorem wX11_goWays_42 (C : Cx p s m args meth c D cA cX11_goWays 4 RX11 none) (hA : ∀ q : Nat, s.heap.size ≤ q → A q) {N : Nat} {z : St} {p1 : Int32} : ∀ (k : Nat) (x2 : Int32) (S : St), fX11_goWays_l42 N p1 k (x2, S) = some z → ∀ (H : Heap) (locs : List Loc) (ls : Array Slot), va_P D vwCl (w_M cA a S) H → va_D A (w_M cA a S) → va_S A s.heap H locs → lv_has ls 4 [(0, .ref (a 0)), (1, .int p1), (2, .int x2)] → W p l e (rmU 2 48 0 0) s m args below meth c H locs 0 0 (MQ below (QV D A (w_M cA a z)) args s 0 0 A) (F0 m 42 ls []) := by
  obtain ⟨hx, hb, hml, hown, hts, hK, hN, hr, hlk⟩ := id C
  intro k
  induction k with
  | zero =>
    intro x2 S hf
    have hf : (none : Option (St)) = some z := hf
    cases hf
  | succ k hg42 =>
    intro x2 S hf H locs ls hP hD hS hl
    have hf : fX11_goWays_b42 N p1 (fX11_goWays_l42 N p1 k) x2 S = some z := hf
    unfold fX11_goWays_b42 at hf
    refine lv_iload_n (pc := 42) hx hb dX11_goWays_42 rfl (lv_at hl 2 rfl) ?_
    refine lv_sipush (v := (999 : Int32)) (pc := 43) hx hb dX11_goWays_43 (by decide) ?_
    refine lv_icmp_gt (tgt := 65) (pc := 46) hx hb dX11_goWays_46 (by decide) (fun c1 => ?_) (fun c1 => ?_)
    · have hf := pt_t c1 hf
      exact wX11_goWays_65 C hA  hf hP hD hS (lv_sub hl [0, 1] rfl)
    · have hf := pt_f c1 hf
      refine lv_aload_n (pc := 49) hx hb dX11_goWays_49 rfl (lv_at hl 0 rfl) ?_
      refine lv_iload_n (pc := 50) hx hb dX11_goWays_50 rfl (lv_at hl 1 rfl) ?_
      refine lv_iconst (v := (2 : Int32)) (pc := 51) hx hb dX11_goWays_51 (by decide) ?_
      refine lv_iload_n (pc := 52) hx hb dX11_goWays_52 rfl (lv_at hl 2 rfl) ?_
      refine lv_iload_n (pc := 53) hx hb dX11_goWays_53 rfl (lv_at hl 2 rfl) ?_
      refine lv_iload_n (pc := 54) hx hb dX11_goWays_54 rfl (lv_at hl 1 rfl) ?_
      refine lv_isub (pc := 55) hx hb dX11_goWays_55 ?_
      obtain ⟨q2, hq2, hf⟩ := pt_b hf
      refine all_v (runU_V (pc := 56) (As := [.int p1, .int ((2 : Int32)), .int x2, .int ((x2 - p1))]) (b := a 0) (rest := []) (ci := 10) (q0 := 0) C lk_RX11_185 (kX11_noteWay l D cA a hq2 H.size) ⟨Nat.le_of_ble_eq_true rfl, Nat.le_of_ble_eq_true rfl⟩ ⟨Nat.le_refl _, Nat.le_refl _⟩ hP hD rfl rfl rfl hl.1 rfl (Nat.le_of_ble_eq_true rfl) dX11_goWays_56) hD hS hA (fun H locs hP hD hS => ?_)
      refine lv_iinc (v := (x2 + 1)) (lv' := [(2, .int ((x2 + 1))), (0, .ref (a 0)), (1, .int p1)]) (pc := 59) hx hb dX11_goWays_59 hl (k := 2) rfl (by rfl) (by decide) rfl (fun ls hl => ?_)
      refine lv_goto (tgt := 42) (pc := 62) hx hb dX11_goWays_62 (by decide) ?_
      exact hg42 ((x2 + 1)) q2 hf _ _ _ hP hD hS (lv_sub hl [1, 2, 0] rfl)
set_option maxRecDepth 100000 in
set_option maxHeartbeats 4000000 in
theorem wX11_goWays_38 (C : Cx p s m args meth c D cA cX11_goWays 4 RX11 none) (hA : ∀ q : Nat, s.heap.size ≤ q → A q) {N : Nat} {z : St} {p1 : Int32} {S : St} (hf : fX11_goWays_j38 N p1 S = some z) {H : Heap} {locs : List Loc} {ls : Array Slot} (hP : va_P D vwCl (w_M cA a S) H) (hD : va_D A (w_M cA a S)) (hS : va_S A s.heap H locs) (hl : lv_has ls 4 [(0, .ref (a 0)), (1, .int p1)]) : W p l e (rmU 2 48 0 0) s m args below meth c H locs 0 0 (MQ below (QV D A (w_M cA a z)) args s 0 0 A) (F0 m 38 ls []) := by
  obtain ⟨hx, hb, hml, hown, hts, hK, hN, hr, hlk⟩ := id C
  unfold fX11_goWays_j38 at hf
  refine lv_iload_n (pc := 38) hx hb dX11_goWays_38 rfl (lv_at hl 1 rfl) ?_
  refine lv_iconst (v := (1 : Int32)) (pc := 39) hx hb dX11_goWays_39 (by decide) ?_
  refine lv_iadd (pc := 40) hx hb dX11_goWays_40 ?_
  refine lv_istore_n (lv' := [(2, .int ((p1 + (1 : Int32)))), (0, .ref (a 0)), (1, .int p1)]) (pc := 41) hx hb dX11_goWays_41 rfl hl (by decide) rfl (fun ls hl => ?_)
  exact wX11_goWays_42 C hA  _ ((p1 + (1 : Int32))) S hf _ _ _ hP hD hS (lv_sub hl [1, 2, 0] rfl)
set_option maxRecDepth 100000 in
set_option maxHeartbeats 4000000 in
theorem wX11_goWays_15 (C : Cx p s m args meth c D cA cX11_goWays 4 RX11 none) (hA : ∀ q : Nat, s.heap.size ≤ q → A q) {N : Nat} {z : St} {p1 : Int32} : ∀ (k : Nat) (x2 : Int32) (S : St), fX11_goWays_l15 N p1 k (x2, S) = some z → ∀ (H : Heap) (locs : List Loc) (ls : Array Slot), va_P D vwCl (w_M cA a S) H → va_D A (w_M cA a S) → va_S A s.heap H locs → lv_has ls 4 [(0, .ref (a 0)), (1, .int p1), (2, .int x2)] → W p l e (rmU 2 48 0 0) s m args below meth c H locs 0 0 (MQ below (QV D A (w_M cA a z)) args s 0 0 A) (F0 m 15 ls []) := by
  obtain ⟨hx, hb, hml, hown, hts, hK, hN, hr, hlk⟩ := id C
  intro k
  induction k with
  | zero =>
    intro x2 S hf
    have hf : (none : Option (St)) = some z := hf
    cases hf
  | succ k hg15 =>
    intro x2 S hf H locs ls hP hD hS hl
    have hf : fX11_goWays_b15 N p1 (fX11_goWays_l15 N p1 k) x2 S = some z := hf
    unfold fX11_goWays_b15 at hf
    refine lv_iconst (v := (2 : Int32)) (pc := 15) hx hb dX11_goWays_15 (by decide) ?_
    refine lv_iload_n (pc := 16) hx hb dX11_goWays_16 rfl (lv_at hl 2 rfl) ?_
    refine lv_imul (pc := 17) hx hb dX11_goWays_17 ?_
    refine lv_iload_n (pc := 18) hx hb dX11_goWays_18 rfl (lv_at hl 1 rfl) ?_
    refine lv_icmp_gt (tgt := 38) (pc := 19) hx hb dX11_goWays_19 (by decide) (fun c1 => ?_) (fun c1 => ?_)
    · have hf := pt_t c1 hf
      exact wX11_goWays_38 C hA  hf hP hD hS (lv_sub hl [0, 1] rfl)
    · have hf := pt_f c1 hf
      refine lv_aload_n (pc := 22) hx hb dX11_goWays_22 rfl (lv_at hl 0 rfl) ?_
      refine lv_iload_n (pc := 23) hx hb dX11_goWays_23 rfl (lv_at hl 1 rfl) ?_
      refine lv_iconst (v := (1 : Int32)) (pc := 24) hx hb dX11_goWays_24 (by decide) ?_
      refine lv_iload_n (pc := 25) hx hb dX11_goWays_25 rfl (lv_at hl 2 rfl) ?_
      refine lv_iload_n (pc := 26) hx hb dX11_goWays_26 rfl (lv_at hl 1 rfl) ?_
      refine lv_iload_n (pc := 27) hx hb dX11_goWays_27 rfl (lv_at hl 2 rfl) ?_
      refine lv_isub (pc := 28) hx hb dX11_goWays_28 ?_
      obtain ⟨q2, hq2, hf⟩ := pt_b hf
      refine all_v (runU_V (pc := 29) (As := [.int p1, .int ((1 : Int32)), .int x2, .int ((p1 - x2))]) (b := a 0) (rest := []) (ci := 10) (q0 := 0) C lk_RX11_185 (kX11_noteWay l D cA a hq2 H.size) ⟨Nat.le_of_ble_eq_true rfl, Nat.le_of_ble_eq_true rfl⟩ ⟨Nat.le_refl _, Nat.le_refl _⟩ hP hD rfl rfl rfl hl.1 rfl (Nat.le_of_ble_eq_true rfl) dX11_goWays_29) hD hS hA (fun H locs hP hD hS => ?_)
      refine lv_iinc (v := (x2 + 1)) (lv' := [(2, .int ((x2 + 1))), (0, .ref (a 0)), (1, .int p1)]) (pc := 32) hx hb dX11_goWays_32 hl (k := 2) rfl (by rfl) (by decide) rfl (fun ls hl => ?_)
      refine lv_goto (tgt := 15) (pc := 35) hx hb dX11_goWays_35 (by decide) ?_
      exact hg15 ((x2 + 1)) q2 hf _ _ _ hP hD hS (lv_sub hl [1, 2, 0] rfl)
set_option maxRecDepth 100000 in
set_option maxHeartbeats 4000000 in
theorem wX11_goWays (C : Cx p s m args meth c D cA cX11_goWays 4 RX11 none) (hA : ∀ q : Nat, s.heap.size ≤ q → A q) {N : Nat} {z : St} {S : St} {p1 : Int32} (hf : fX11_goWays N S p1 = some z) {H : Heap} {locs : List Loc} {ls : Array Slot} (hP : va_P D vwCl (w_M cA a S) H) (hD : va_D A (w_M cA a S)) (hS : va_S A s.heap H locs) (hl : lv_has ls 4 [(0, .ref (a 0)), (1, .int p1)]) : W p l e (rmU 2 48 0 0) s m args below meth c H locs 0 0 (MQ below (QV D A (w_M cA a z)) args s 0 0 A) (F0 m 0 ls []) := by
  obtain ⟨hx, hb, hml, hown, hts, hK, hN, hr, hlk⟩ := id C
  unfold fX11_goWays at hf
  refine lv_aload_n (pc := 0) hx hb dX11_goWays_0 rfl (lv_at hl 0 rfl) ?_
  refine lv_iconst (v := (0 : Int32)) (pc := 1) hx hb dX11_goWays_1 (by decide) ?_
  refine pu_RX11_170_M_0_0 (pc := 2) C hP hD hS dX11_goWays_2 (fun H locs hP hD hS => ?_)
  refine lv_aload_n (pc := 5) hx hb dX11_goWays_5 rfl (lv_at hl 0 rfl) ?_
  refine lv_iload_n (pc := 6) hx hb dX11_goWays_6 rfl (lv_at hl 1 rfl) ?_
  refine lv_iconst (v := (0 : Int32)) (pc := 7) hx hb dX11_goWays_7 (by decide) ?_
  refine lv_iload_n (pc := 8) hx hb dX11_goWays_8 rfl (lv_at hl 1 rfl) ?_
  refine lv_iconst (v := (0 : Int32)) (pc := 9) hx hb dX11_goWays_9 (by decide) ?_
  obtain ⟨q1, hq1, hf⟩ := pt_b hf
  refine all_v (runU_V (pc := 10) (As := [.int p1, .int ((0 : Int32)), .int p1, .int ((0 : Int32))]) (b := a 0) (rest := []) (ci := 10) (q0 := 0) C lk_RX11_185 (kX11_noteWay l D cA a hq1 H.size) ⟨Nat.le_of_ble_eq_true rfl, Nat.le_of_ble_eq_true rfl⟩ ⟨Nat.le_refl _, Nat.le_refl _⟩ hP hD rfl rfl rfl hl.1 rfl (Nat.le_of_ble_eq_true rfl) dX11_goWays_10) hD hS hA (fun H locs hP hD hS => ?_)
  refine lv_iconst (v := (0 : Int32)) (pc := 13) hx hb dX11_goWays_13 (by decide) ?_
  refine lv_istore_n (lv' := [(2, .int ((0 : Int32))), (0, .ref (a 0)), (1, .int p1)]) (pc := 14) hx hb dX11_goWays_14 rfl hl (by decide) rfl (fun ls hl => ?_)
  exact wX11_goWays_15 C hA  _ ((0 : Int32)) q1 hf _ _ _ hP hD hS (lv_sub hl [1, 2, 0] rfl)
set_option maxRecDepth 100000 in
set_option maxHeartbeats 4000000 in
theorem kX11_goWays (l : Launch) (D : va_G) (cA : Nat → ClassId) (a : Nat → Nat) {N : Nat} {S : St} {p1 : Int32} {z : St} (hf : fX11_goWays N S p1 = some z) : CtV l yX11_goWays cX11_goWays 4 none 2 48 D cA (w_M cA a S) (w_M cA a z) [.ref (a 0), .int p1] := by
  intro sz
  refine Met.ofW (cc := cX11_goWays) (maxL := 4) (ret := none) (by decide) rfl ?_
  intro p e s m args below meth c s₁ B hml hv
  obtain ⟨rfl, hsz, hP, hK, hD0⟩ := hv
  subst hsz
  have C : Cx p s m _ meth c D cA cX11_goWays 4 RX11 none := Cx.of B hml hK
  have hD := hD0.self (sz := s.heap.size)
  have hA : ∀ q : Nat, s.heap.size ≤ q → va_A (w_M cA a S) s.heap.size q := fun q h => Or.inr h
  have hS : va_S (va_A (w_M cA a S) s.heap.size) s.heap s.heap [] := va_S.rf
  have hl := lv_entry ([.ref (a 0), .int p1]) (n := 4) (Nat.le_of_ble_eq_true rfl)
  rw [lg_entry_eq]
  generalize (lg_sl ([.ref (a 0), .int p1]) ++ List.replicate (4 - (lg_sl ([.ref (a 0), .int p1])).length) Slot.unset).toArray = ls at hl ⊢
  exact wX11_goWays C hA hf hP hD hS hl
theorem kl_RX11_189 : Cond.constantLong RX11 189 (999) ∈ wsL_law := by decide +kernel
theorem lk_RX11_191 : LkV RX11 191 yX11_goWays cX11_goWays 4 none 1 := ⟨⟨by decide +kernel, by decide +kernel, by decide +kernel, by decide +kernel, by decide +kernel, by decide +kernel⟩, by decide +kernel, by decide +kernel⟩
def fX11_ways (N : Nat) (S : St) (p1 : Int32) : Option (Int32 × St) :=
  Option.bind (fX11_in N p1.toInt64 ((0 : Int64)) ((999 : Int64))) (fun q1 => if q1 = 0 then (some ((-1 : Int32), S)) else (Option.bind (fX11_goWays N S p1) (fun q3 => some ((q3 20 0), q3))))
set_option maxRecDepth 100000 in
set_option maxHeartbeats 4000000 in
theorem wX11_ways (C : Cx p s m args meth c D cA cX11_ways 2 RX11 (some .int)) (hA : ∀ q : Nat, s.heap.size ≤ q → A q) {N : Nat} {z : Int32 × St} {S : St} {p1 : Int32} (hf : fX11_ways N S p1 = some z) {H : Heap} {locs : List Loc} {ls : Array Slot} (hP : va_P D vwCl (w_M cA a S) H) (hD : va_D A (w_M cA a S)) (hS : va_S A s.heap H locs) (hl : lv_has ls 2 [(0, .ref (a 0)), (1, .int p1)]) : W p l e (rmU 3 71 0 0) s m args below meth c H locs 0 0 (MQ below (QI D A z.1 (w_M cA a z.2)) args s 0 0 A) (F0 m 0 ls []) := by
  obtain ⟨hx, hb, hml, hown, hts, hK, hN, hr, hlk⟩ := id C
  unfold fX11_ways at hf
  refine lv_iload_n (pc := 0) hx hb dX11_ways_0 rfl (lv_at hl 1 rfl) ?_
  refine lv_i2l (v := p1.toInt64) (pc := 1) hx hb dX11_ways_1 rfl ?_
  refine lv_lconst (v := (0 : Int64)) (pc := 2) hx hb dX11_ways_2 (by decide) ?_
  refine lv_ldc2 (pc := 3) (v := (999 : Int64)) hx hb hown (hts _ kl_RX11_189) dX11_ways_3 ?_
  obtain ⟨q1, hq1, hf⟩ := pt_b hf
  have hPc : va_P D vwCl ([] : va_W) H := hP.sub [] rfl
  have hDc : va_D A ([] : va_W) := hD.sub [] (by decide) rfl
  refine prt_i (runU_S (pc := 6) (As := [.long p1.toInt64, .long ((0 : Int64)), .long ((999 : Int64))]) (rest := []) C lk_RX11_72 (kX11_in l D cA hq1 H.size) ⟨Nat.le_of_ble_eq_true rfl, Nat.le_of_ble_eq_true rfl⟩ ⟨Nat.le_refl _, Nat.le_refl _⟩ hPc hDc hl.1 rfl (Nat.le_of_ble_eq_true rfl) dX11_ways_6) hP hD hS hA [] rfl (fun H locs hP hD hS => ?_)
  refine lv_if_ne (tgt := 14) (pc := 9) hx hb dX11_ways_9 (by decide) (fun c2 => ?_) (fun c2 => ?_)
  · have hf := pt_f c2 hf
    refine lv_aload_n (pc := 14) hx hb dX11_ways_14 rfl (lv_at hl 0 rfl) ?_
    refine lv_iload_n (pc := 15) hx hb dX11_ways_15 rfl (lv_at hl 1 rfl) ?_
    obtain ⟨q3, hq3, hf⟩ := pt_b hf
    refine all_v (runU_V (pc := 16) (As := [.int p1]) (b := a 0) (rest := []) (ci := 10) (q0 := 0) C lk_RX11_191 (kX11_goWays l D cA a hq3 H.size) ⟨Nat.le_of_ble_eq_true rfl, Nat.le_of_ble_eq_true rfl⟩ ⟨Nat.le_refl _, Nat.le_refl _⟩ hP hD rfl rfl rfl hl.1 rfl (Nat.le_of_ble_eq_true rfl) dX11_ways_16) hD hS hA (fun H locs hP hD hS => ?_)
    refine lv_aload_n (pc := 19) hx hb dX11_ways_19 rfl (lv_at hl 0 rfl) ?_
    refine ge_RX11_170_M_0_0 (pc := 20) C hP dX11_ways_20 ?_
    cases hf
    exact ret_i C hP hD hS dX11_ways_23
  · have hf := pt_t c2 hf
    refine lv_iconst (v := (-1 : Int32)) (pc := 12) hx hb dX11_ways_12 (by decide) ?_
    cases hf
    exact ret_i C hP hD hS dX11_ways_13
set_option maxRecDepth 100000 in
set_option maxHeartbeats 4000000 in
theorem kX11_ways (l : Launch) (D : va_G) (cA : Nat → ClassId) (a : Nat → Nat) {N : Nat} {S : St} {p1 : Int32} {z : Int32 × St} (hf : fX11_ways N S p1 = some z) : CtI l yX11_ways cX11_ways 2 (some .int) 3 71 D cA (w_M cA a S) (w_M cA a z.2) [.ref (a 0), .int p1] z.1 := by
  intro sz
  refine Met.ofW (cc := cX11_ways) (maxL := 2) (ret := (some .int)) (by decide) rfl ?_
  intro p e s m args below meth c s₁ B hml hv
  obtain ⟨rfl, hsz, hP, hK, hD0⟩ := hv
  subst hsz
  have C : Cx p s m _ meth c D cA cX11_ways 2 RX11 (some .int) := Cx.of B hml hK
  have hD := hD0.self (sz := s.heap.size)
  have hA : ∀ q : Nat, s.heap.size ≤ q → va_A (w_M cA a S) s.heap.size q := fun q h => Or.inr h
  have hS : va_S (va_A (w_M cA a S) s.heap.size) s.heap s.heap [] := va_S.rf
  have hl := lv_entry ([.ref (a 0), .int p1]) (n := 2) (Nat.le_of_ble_eq_true rfl)
  rw [lg_entry_eq]
  generalize (lg_sl ([.ref (a 0), .int p1]) ++ List.replicate (2 - (lg_sl ([.ref (a 0), .int p1])).length) Slot.unset).toArray = ls at hl ⊢
  exact wX11_ways C hA hf hP hD hS hl
theorem kl_RX11_194 : Cond.constantLong RX11 194 (3) ∈ wsL_law := by decide +kernel
theorem ge_RX11_182_M_0_0 (C : Cx p s m args meth c D cA cc nL RX11 ret) (hP : va_P D vwCl (w_M cA a S) H) (hdg : decode cc pc = .ok (.getfield 182, 3)) (kk : W p l e R s m args below meth c H locs cells slots Q (F0 m (pc + 3) ls (.int (S 24 0) :: rest))) : W p l e R s m args below meth c H locs cells slots Q (F0 m pc ls (.ref (a 0) :: rest)) := by
  obtain ⟨hx, hb, -, hown, hts, hK, -, -, -⟩ := C
  exact va_get (D := D) (ci := 10) (v := .int (S 24 0)) (C := RX11) (T := TX11) (N := 28) hx hb hts inlX11 hown hK hP 0 rfl rfl 24 (by decide) (hts _ fl_RX11_182) (fun _ h9 => h9) rfl hdg kk
theorem ge_RX11_179_M_0_0 (C : Cx p s m args meth c D cA cc nL RX11 ret) (hP : va_P D vwCl (w_M cA a S) H) (hdg : decode cc pc = .ok (.getfield 179, 3)) (kk : W p l e R s m args below meth c H locs cells slots Q (F0 m (pc + 3) ls (.int (S 23 0) :: rest))) : W p l e R s m args below meth c H locs cells slots Q (F0 m pc ls (.ref (a 0) :: rest)) := by
  obtain ⟨hx, hb, -, hown, hts, hK, -, -, -⟩ := C
  exact va_get (D := D) (ci := 10) (v := .int (S 23 0)) (C := RX11) (T := TX11) (N := 28) hx hb hts inlX11 hown hK hP 0 rfl rfl 23 (by decide) (hts _ fl_RX11_179) (fun _ h9 => h9) rfl hdg kk
theorem ge_RX11_176_M_0_0 (C : Cx p s m args meth c D cA cc nL RX11 ret) (hP : va_P D vwCl (w_M cA a S) H) (hdg : decode cc pc = .ok (.getfield 176, 3)) (kk : W p l e R s m args below meth c H locs cells slots Q (F0 m (pc + 3) ls (.int (S 22 0) :: rest))) : W p l e R s m args below meth c H locs cells slots Q (F0 m pc ls (.ref (a 0) :: rest)) := by
  obtain ⟨hx, hb, -, hown, hts, hK, -, -, -⟩ := C
  exact va_get (D := D) (ci := 10) (v := .int (S 22 0)) (C := RX11) (T := TX11) (N := 28) hx hb hts inlX11 hown hK hP 0 rfl rfl 22 (by decide) (hts _ fl_RX11_176) (fun _ h9 => h9) rfl hdg kk
def fX11_shortest (N : Nat) (S : St) (p1 : Int32) (p2 : Int32) : Option (Int32 × St) :=
  Option.bind (fX11_in N p1.toInt64 ((0 : Int64)) ((999 : Int64))) (fun q1 => if q1 = 0 then (some ((-1 : Int32), S)) else (Option.bind (fX11_in N p2.toInt64 ((0 : Int64)) ((3 : Int64))) (fun q3 => if q3 = 0 then (some ((-1 : Int32), S)) else (Option.bind (fX11_goWays N S p1) (fun q5 => if (q5 20 0) = 0 then (some ((-4 : Int32), q5)) else (if p2 = 0 then (some ((q5 21 0), q5)) else (if p2 = (1 : Int32) then (some ((q5 22 0), q5)) else (if p2 = (2 : Int32) then (some ((q5 23 0), q5)) else (some ((q5 24 0), q5))))))))))
set_option maxRecDepth 100000 in
set_option maxHeartbeats 4000000 in
theorem wX11_shortest (C : Cx p s m args meth c D cA cX11_shortest 3 RX11 (some .int)) (hA : ∀ q : Nat, s.heap.size ≤ q → A q) {N : Nat} {z : Int32 × St} {S : St} {p1 : Int32} {p2 : Int32} (hf : fX11_shortest N S p1 p2 = some z) {H : Heap} {locs : List Loc} {ls : Array Slot} (hP : va_P D vwCl (w_M cA a S) H) (hD : va_D A (w_M cA a S)) (hS : va_S A s.heap H locs) (hl : lv_has ls 3 [(0, .ref (a 0)), (1, .int p1), (2, .int p2)]) : W p l e (rmU 3 71 0 0) s m args below meth c H locs 0 0 (MQ below (QI D A z.1 (w_M cA a z.2)) args s 0 0 A) (F0 m 0 ls []) := by
  obtain ⟨hx, hb, hml, hown, hts, hK, hN, hr, hlk⟩ := id C
  unfold fX11_shortest at hf
  refine lv_iload_n (pc := 0) hx hb dX11_shortest_0 rfl (lv_at hl 1 rfl) ?_
  refine lv_i2l (v := p1.toInt64) (pc := 1) hx hb dX11_shortest_1 rfl ?_
  refine lv_lconst (v := (0 : Int64)) (pc := 2) hx hb dX11_shortest_2 (by decide) ?_
  refine lv_ldc2 (pc := 3) (v := (999 : Int64)) hx hb hown (hts _ kl_RX11_189) dX11_shortest_3 ?_
  obtain ⟨q1, hq1, hf⟩ := pt_b hf
  have hPc : va_P D vwCl ([] : va_W) H := hP.sub [] rfl
  have hDc : va_D A ([] : va_W) := hD.sub [] (by decide) rfl
  refine prt_i (runU_S (pc := 6) (As := [.long p1.toInt64, .long ((0 : Int64)), .long ((999 : Int64))]) (rest := []) C lk_RX11_72 (kX11_in l D cA hq1 H.size) ⟨Nat.le_of_ble_eq_true rfl, Nat.le_of_ble_eq_true rfl⟩ ⟨Nat.le_refl _, Nat.le_refl _⟩ hPc hDc hl.1 rfl (Nat.le_of_ble_eq_true rfl) dX11_shortest_6) hP hD hS hA [] rfl (fun H locs hP hD hS => ?_)
  refine lv_if_eq (tgt := 24) (pc := 9) hx hb dX11_shortest_9 (by decide) (fun c2 => ?_) (fun c2 => ?_)
  · have hf := pt_t c2 hf
    refine lv_iconst (v := (-1 : Int32)) (pc := 24) hx hb dX11_shortest_24 (by decide) ?_
    cases hf
    exact ret_i C hP hD hS dX11_shortest_25
  · have hf := pt_f c2 hf
    refine lv_iload_n (pc := 12) hx hb dX11_shortest_12 rfl (lv_at hl 2 rfl) ?_
    refine lv_i2l (v := p2.toInt64) (pc := 13) hx hb dX11_shortest_13 rfl ?_
    refine lv_lconst (v := (0 : Int64)) (pc := 14) hx hb dX11_shortest_14 (by decide) ?_
    refine lv_ldc2 (pc := 15) (v := (3 : Int64)) hx hb hown (hts _ kl_RX11_194) dX11_shortest_15 ?_
    obtain ⟨q3, hq3, hf⟩ := pt_b hf
    have hPc : va_P D vwCl ([] : va_W) H := hP.sub [] rfl
    have hDc : va_D A ([] : va_W) := hD.sub [] (by decide) rfl
    refine prt_i (runU_S (pc := 18) (As := [.long p2.toInt64, .long ((0 : Int64)), .long ((3 : Int64))]) (rest := []) C lk_RX11_72 (kX11_in l D cA hq3 H.size) ⟨Nat.le_of_ble_eq_true rfl, Nat.le_of_ble_eq_true rfl⟩ ⟨Nat.le_refl _, Nat.le_refl _⟩ hPc hDc hl.1 rfl (Nat.le_of_ble_eq_true rfl) dX11_shortest_18) hP hD hS hA [] rfl (fun H locs hP hD hS => ?_)
    refine lv_if_ne (tgt := 26) (pc := 21) hx hb dX11_shortest_21 (by decide) (fun c4 => ?_) (fun c4 => ?_)
    · have hf := pt_f c4 hf
      refine lv_aload_n (pc := 26) hx hb dX11_shortest_26 rfl (lv_at hl 0 rfl) ?_
      refine lv_iload_n (pc := 27) hx hb dX11_shortest_27 rfl (lv_at hl 1 rfl) ?_
      obtain ⟨q5, hq5, hf⟩ := pt_b hf
      refine all_v (runU_V (pc := 28) (As := [.int p1]) (b := a 0) (rest := []) (ci := 10) (q0 := 0) C lk_RX11_191 (kX11_goWays l D cA a hq5 H.size) ⟨Nat.le_of_ble_eq_true rfl, Nat.le_of_ble_eq_true rfl⟩ ⟨Nat.le_refl _, Nat.le_refl _⟩ hP hD rfl rfl rfl hl.1 rfl (Nat.le_of_ble_eq_true rfl) dX11_shortest_28) hD hS hA (fun H locs hP hD hS => ?_)
      refine lv_aload_n (pc := 31) hx hb dX11_shortest_31 rfl (lv_at hl 0 rfl) ?_
      refine ge_RX11_170_M_0_0 (pc := 32) C hP dX11_shortest_32 ?_
      refine lv_if_ne (tgt := 41) (pc := 35) hx hb dX11_shortest_35 (by decide) (fun c6 => ?_) (fun c6 => ?_)
      · have hf := pt_f c6 hf
        refine lv_iload_n (pc := 41) hx hb dX11_shortest_41 rfl (lv_at hl 2 rfl) ?_
        refine lv_if_ne (tgt := 52) (pc := 42) hx hb dX11_shortest_42 (by decide) (fun c7 => ?_) (fun c7 => ?_)
        · have hf := pt_f c7 hf
          refine lv_iload_n (pc := 52) hx hb dX11_shortest_52 rfl (lv_at hl 2 rfl) ?_
          refine lv_iconst (v := (1 : Int32)) (pc := 53) hx hb dX11_shortest_53 (by decide) ?_
          refine lv_icmp_ne (tgt := 64) (pc := 54) hx hb dX11_shortest_54 (by decide) (fun c8 => ?_) (fun c8 => ?_)
          · have hf := pt_f c8 hf
            refine lv_iload_n (pc := 64) hx hb dX11_shortest_64 rfl (lv_at hl 2 rfl) ?_
            refine lv_iconst (v := (2 : Int32)) (pc := 65) hx hb dX11_shortest_65 (by decide) ?_
            refine lv_icmp_ne (tgt := 76) (pc := 66) hx hb dX11_shortest_66 (by decide) (fun c9 => ?_) (fun c9 => ?_)
            · have hf := pt_f c9 hf
              refine lv_aload_n (pc := 76) hx hb dX11_shortest_76 rfl (lv_at hl 0 rfl) ?_
              refine ge_RX11_182_M_0_0 (pc := 77) C hP dX11_shortest_77 ?_
              cases hf
              exact ret_i C hP hD hS dX11_shortest_80
            · have hf := pt_t c9 hf
              refine lv_aload_n (pc := 69) hx hb dX11_shortest_69 rfl (lv_at hl 0 rfl) ?_
              refine ge_RX11_179_M_0_0 (pc := 70) C hP dX11_shortest_70 ?_
              refine lv_goto (tgt := 80) (pc := 73) hx hb dX11_shortest_73 (by decide) ?_
              cases hf
              exact ret_i C hP hD hS dX11_shortest_80
          · have hf := pt_t c8 hf
            refine lv_aload_n (pc := 57) hx hb dX11_shortest_57 rfl (lv_at hl 0 rfl) ?_
            refine ge_RX11_176_M_0_0 (pc := 58) C hP dX11_shortest_58 ?_
            refine lv_goto (tgt := 80) (pc := 61) hx hb dX11_shortest_61 (by decide) ?_
            cases hf
            exact ret_i C hP hD hS dX11_shortest_80
        · have hf := pt_t c7 hf
          refine lv_aload_n (pc := 45) hx hb dX11_shortest_45 rfl (lv_at hl 0 rfl) ?_
          refine ge_RX11_173_M_0_0 (pc := 46) C hP dX11_shortest_46 ?_
          refine lv_goto (tgt := 80) (pc := 49) hx hb dX11_shortest_49 (by decide) ?_
          cases hf
          exact ret_i C hP hD hS dX11_shortest_80
      · have hf := pt_t c6 hf
        refine lv_bipush (v := (-4 : Int32)) (pc := 38) hx hb dX11_shortest_38 (by decide) ?_
        cases hf
        exact ret_i C hP hD hS dX11_shortest_40
    · have hf := pt_t c4 hf
      refine lv_iconst (v := (-1 : Int32)) (pc := 24) hx hb dX11_shortest_24 (by decide) ?_
      cases hf
      exact ret_i C hP hD hS dX11_shortest_25
set_option maxRecDepth 100000 in
set_option maxHeartbeats 4000000 in
theorem kX11_shortest (l : Launch) (D : va_G) (cA : Nat → ClassId) (a : Nat → Nat) {N : Nat} {S : St} {p1 : Int32} {p2 : Int32} {z : Int32 × St} (hf : fX11_shortest N S p1 p2 = some z) : CtI l yX11_shortest cX11_shortest 3 (some .int) 3 71 D cA (w_M cA a S) (w_M cA a z.2) [.ref (a 0), .int p1, .int p2] z.1 := by
  intro sz
  refine Met.ofW (cc := cX11_shortest) (maxL := 3) (ret := (some .int)) (by decide) rfl ?_
  intro p e s m args below meth c s₁ B hml hv
  obtain ⟨rfl, hsz, hP, hK, hD0⟩ := hv
  subst hsz
  have C : Cx p s m _ meth c D cA cX11_shortest 3 RX11 (some .int) := Cx.of B hml hK
  have hD := hD0.self (sz := s.heap.size)
  have hA : ∀ q : Nat, s.heap.size ≤ q → va_A (w_M cA a S) s.heap.size q := fun q h => Or.inr h
  have hS : va_S (va_A (w_M cA a S) s.heap.size) s.heap s.heap [] := va_S.rf
  have hl := lv_entry ([.ref (a 0), .int p1, .int p2]) (n := 3) (Nat.le_of_ble_eq_true rfl)
  rw [lg_entry_eq]
  generalize (lg_sl ([.ref (a 0), .int p1, .int p2]) ++ List.replicate (3 - (lg_sl ([.ref (a 0), .int p1, .int p2])).length) Slot.unset).toArray = ls at hl ⊢
  exact wX11_shortest C hA hf hP hD hS hl
end PMoB
