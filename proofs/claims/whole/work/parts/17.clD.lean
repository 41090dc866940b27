section PClD
variable {p : Program} {l : Launch} {e : Env} {R : Room} {s : State} {m : MethodId} {args : Array Value} {below : List Frame} {meth : Method} {c : Code} {H : Heap} {locs : List Loc} {cells slots : Nat} {Q : State → Prop}
variable {D : va_G} {cA : Nat → ClassId} {cc : ByteArray} {nL : Nat} {own : String} {ret : Option FieldType} {pc : Nat} {ls : Array Slot} {rest : List Value} {A : Nat → Prop} {a b d : Nat → Nat} {S T U : St}
def fX10_shownBy (N : Nat) (S : St) (p1 : Int32) : Option (Int32) :=
  Option.bind (fX0_isOnStrike N (sh S 2) p1) (fun q1 => if q1 = 0 then (some p1) else (some ((0 : Int32))))
set_option maxRecDepth 100000 in
set_option maxHeartbeats 4000000 in
theorem wX10_shownBy (C : Cx p s m args meth c D cA cX10_shownBy 2 RX10 (some .int)) (hA : ∀ q : Nat, s.heap.size ≤ q → A q) {N : Nat} {z : Int32} {S : St} {p1 : Int32} (hf : fX10_shownBy N S p1 = some z) {H : Heap} {locs : List Loc} {ls : Array Slot} (hP : va_P D vwCl (w_X cA a S) H) (hD : va_D A (w_X cA a S)) (hS : va_S A s.heap H locs) (hl : lv_has ls 2 [(0, .ref (a 0)), (1, .int p1)]) : W p l e (rmU 1 21 0 0) s m args below meth c H locs 0 0 (MQ below (QI D A z (w_X cA a S)) args s 0 0 A) (F0 m 0 ls []) := by
  obtain ⟨hx, hb, hml, hown, hts, hK, hN, hr, hlk⟩ := id C
  unfold fX10_shownBy at hf
  refine lv_aload_n (pc := 0) hx hb dX10_shownBy_0 rfl (lv_at hl 0 rfl) ?_
  refine ge_RX10_19_X_0_0 (pc := 1) C hP dX10_shownBy_1 ?_
  refine lv_iload_n (pc := 4) hx hb dX10_shownBy_4 rfl (lv_at hl 1 rfl) ?_
  obtain ⟨q1, hq1, hf⟩ := pt_b hf
  have hPc : va_P D vwCl (w_F cA (sh a 3) (sh S 2)) H := hP.sub [3, 4] rfl
  have hDc : va_D A (w_F cA (sh a 3) (sh S 2)) := hD.sub [3, 4] (by decide) rfl
  refine prt_i (runU_V (pc := 5) (As := [.int p1]) (b := a 3) (rest := []) (ci := 0) (q0 := 0) C lk_RX10_104 (kX0_isOnStrike l D cA (sh a 3) hq1 H.size) ⟨Nat.le_of_ble_eq_true rfl, Nat.le_of_ble_eq_true rfl⟩ ⟨Nat.le_refl _, Nat.le_refl _⟩ hPc hDc rfl rfl rfl hl.1 rfl (Nat.le_of_ble_eq_true rfl) dX10_shownBy_5) hP hD hS hA [3, 4] rfl (fun H locs hP hD hS => ?_)
  refine lv_if_eq (tgt := 15) (pc := 8) hx hb dX10_shownBy_8 (by decide) (fun c2 => ?_) (fun c2 => ?_)
  · have hf := pt_t c2 hf
    refine lv_iload_n (pc := 15) hx hb dX10_shownBy_15 rfl (lv_at hl 1 rfl) ?_
    cases hf
    exact ret_i C hP hD hS dX10_shownBy_16
  · have hf := pt_f c2 hf
    refine lv_iconst (v := (0 : Int32)) (pc := 11) hx hb dX10_shownBy_11 (by decide) ?_
    refine lv_goto (tgt := 16) (pc := 12) hx hb dX10_shownBy_12 (by decide) ?_
    cases hf
    exact ret_i C hP hD hS dX10_shownBy_16
set_option maxRecDepth 100000 in
set_option maxHeartbeats 4000000 in
theorem kX10_shownBy (l : Launch) (D : va_G) (cA : Nat → ClassId) (a : Nat → Nat) {N : Nat} {S : St} {p1 : Int32} {z : Int32} (hf : fX10_shownBy N S p1 = some z) : CtI l yX10_shownBy cX10_shownBy 2 (some .int) 1 21 D cA (w_X cA a S) (w_X cA a S) [.ref (a 0), .int p1] z := by
  intro sz
  refine Met.ofW (cc := cX10_shownBy) (maxL := 2) (ret := (some .int)) (by decide) rfl ?_
  intro p e s m args below meth c s₁ B hml hv
  obtain ⟨rfl, hsz, hP, hK, hD0⟩ := hv
  subst hsz
  have C : Cx p s m _ meth c D cA cX10_shownBy 2 RX10 (some .int) := Cx.of B hml hK
  have hD := hD0.self (sz := s.heap.size)
  have hA : ∀ q : Nat, s.heap.size ≤ q → va_A (w_X cA a S) s.heap.size q := fun q h => Or.inr h
  have hS : va_S (va_A (w_X cA a S) s.heap.size) s.heap s.heap [] := va_S.rf
  have hl := lv_entry ([.ref (a 0), .int p1]) (n := 2) (Nat.le_of_ble_eq_true rfl)
  rw [lg_entry_eq]
  generalize (lg_sl ([.ref (a 0), .int p1]) ++ List.replicate (2 - (lg_sl ([.ref (a 0), .int p1])).length) Slot.unset).toArray = ls at hl ⊢
  exact wX10_shownBy C hA hf hP hD hS hl
theorem fl_RX10_195 : Cond.fieldLink RX10 195 "SevenOnStrike$Told" "sides" "I" ∈ wsL_law := by decide +kernel
theorem ge_RX10_195_X_0_21 (C : Cx p s m args meth c D cA cc nL RX10 ret) (hP : va_P D vwCl (w_X cA a S) H) (hdg : decode cc pc = .ok (.getfield 195, 3)) (kk : W p l e R s m args below meth c H locs cells slots Q (F0 m (pc + 3) ls (.int (S 24 0) :: rest))) : W p l e R s m args below meth c H locs cells slots Q (F0 m pc ls (.ref (a 21) :: rest)) := by
  obtain ⟨hx, hb, -, hown, hts, hK, -, -, -⟩ := C
  exact va_get (D := D) (ci := 8) (v := .int (S 24 0)) (C := RX9) (T := TX9) (N := 7) hx hb hts inlX9 hown hK hP 21 rfl rfl 3 (by decide) (hts _ fl_RX10_195) (fun _ h9 => h9) rfl hdg kk
theorem lk_RX10_202 : LkS RX10 202 yX3_lowestTerms cX3_lowestTerms 5 (some .int) 3 := ⟨⟨by decide +kernel, by decide +kernel, by decide +kernel, by decide +kernel, by decide +kernel, by decide +kernel⟩, by decide +kernel⟩
theorem lk_RX10_198 : LkV RX10 198 yX10_shownBy cX10_shownBy 2 (some .int) 1 := ⟨⟨by decide +kernel, by decide +kernel, by decide +kernel, by decide +kernel, by decide +kernel, by decide +kernel⟩, by decide +kernel, by decide +kernel⟩
def fX10_odds_j85 (N : Nat) (S : St) (p1 : Int32) (p2 : Int32) (x3 : Int32) : Option (Int32) :=
  Option.bind (fX3_lowestTerms N x3 (((S 24 0) * (S 24 0))) p2) (fun q1 => some q1)
def fX10_odds_j79 (N : Nat) (S : St) (p1 : Int32) (p2 : Int32) (g26 : Int32 × Int32 → Option (Int32)) (x3 : Int32) (x4 : Int32) : Option (Int32) :=
  g26 ((x3, (x4 + 1)))
def fX10_odds_j73 (N : Nat) (S : St) (p1 : Int32) (p2 : Int32) (g26 : Int32 × Int32 → Option (Int32)) (g41 : Int32 × Int32 × Int32 → Option (Int32)) (x3 : Int32) (x4 : Int32) (x5 : Int32) : Option (Int32) :=
  g41 ((x3, x4, (x5 + 1)))
def fX10_odds_b41 (N : Nat) (S : St) (p1 : Int32) (p2 : Int32) (g26 : Int32 × Int32 → Option (Int32)) (g41 : Int32 × Int32 × Int32 → Option (Int32)) (x3 : Int32) (x4 : Int32) (x5 : Int32) : Option (Int32) :=
  if (S 24 0) < x5 then (fX10_odds_j79 N S p1 p2 g26 x3 x4) else (Option.bind (fX10_shownBy N S x4) (fun q2 => Option.bind (fX10_shownBy N S x5) (fun q3 => if (q2 + q3) = p1 then (fX10_odds_j73 N S p1 p2 g26 g41 ((x3 + 1)) x4 x5) else (fX10_odds_j73 N S p1 p2 g26 g41 x3 x4 x5))))
def fX10_odds_l41 (N : Nat) (S : St) (p1 : Int32) (p2 : Int32) (g26 : Int32 × Int32 → Option (Int32)) (k : Nat) (q : Int32 × Int32 × Int32) : Option (Int32) := lpN (fun g q => fX10_odds_b41 N S p1 p2 g26 g q.1 q.2.1 q.2.2) k q
def fX10_odds_b26 (N : Nat) (S : St) (p1 : Int32) (p2 : Int32) (g26 : Int32 × Int32 → Option (Int32)) (x3 : Int32) (x4 : Int32) : Option (Int32) :=
  if (S 24 0) < x4 then (fX10_odds_j85 N S p1 p2 x3) else (fX10_odds_l41 N S p1 p2 g26 N ((x3, x4, (1 : Int32))))
def fX10_odds_l26 (N : Nat) (S : St) (p1 : Int32) (p2 : Int32) (k : Nat) (q : Int32 × Int32) : Option (Int32) := lpN (fun g q => fX10_odds_b26 N S p1 p2 g q.1 q.2) k q
def fX10_odds (N : Nat) (S : St) (p1 : Int32) (p2 : Int32) : Option (Int32) :=
  Option.bind (fX10_isWithin N p1 ((0 : Int32)) ((18 : Int32))) (fun q1 => if q1 = 0 then (some ((-1 : Int32))) else (Option.bind (fX10_isWithin N p2 ((0 : Int32)) ((1 : Int32))) (fun q3 => if q3 = 0 then (some ((-1 : Int32))) else (fX10_odds_l26 N S p1 p2 N (((0 : Int32), (1 : Int32)))))))
set_option maxRecDepth 100000 in
set_option maxHeartbeats 4000000 in
theorem wX10_odds_85 (C : Cx p s m args meth c D cA cX10_odds 6 RX10 (some .int)) (hA : ∀ q : Nat, s.heap.size ≤ q → A q) {N : Nat} {z : Int32} {S : St} {p1 : Int32} {p2 : Int32} {x3 : Int32} (hf : fX10_odds_j85 N S p1 p2 x3 = some z) {H : Heap} {locs : List Loc} {ls : Array Slot} (hP : va_P D vwCl (w_X cA a S) H) (hD : va_D A (w_X cA a S)) (hS : va_S A s.heap H locs) (hl : lv_has ls 6 [(0, .ref (a 0)), (2, .int p2), (3, .int x3)]) : W p l e (rmU 2 42 0 0) s m args below meth c H locs 0 0 (MQ below (QI D A z (w_X cA a S)) args s 0 0 A) (F0 m 85 ls []) := by
  obtain ⟨hx, hb, hml, hown, hts, hK, hN, hr, hlk⟩ := id C
  unfold fX10_odds_j85 at hf
  refine lv_iload_n (pc := 85) hx hb dX10_odds_85 rfl (lv_at hl 2 rfl) ?_
  refine lv_aload_n (pc := 86) hx hb dX10_odds_86 rfl (lv_at hl 0 rfl) ?_
  refine ge_RX10_61_X_0_0 (pc := 87) C hP dX10_odds_87 ?_
  refine ge_RX10_195_X_0_21 (pc := 90) C hP dX10_odds_90 ?_
  refine lv_aload_n (pc := 93) hx hb dX10_odds_93 rfl (lv_at hl 0 rfl) ?_
  refine ge_RX10_61_X_0_0 (pc := 94) C hP dX10_odds_94 ?_
  refine ge_RX10_195_X_0_21 (pc := 97) C hP dX10_odds_97 ?_
  refine lv_imul (pc := 100) hx hb dX10_odds_100 ?_
  refine lv_iload_n (pc := 101) hx hb dX10_odds_101 rfl (lv_at hl 1 rfl) ?_
  obtain ⟨q1, hq1, hf⟩ := pt_b hf
  have hPc : va_P D vwCl ([] : va_W) H := hP.sub [] rfl
  have hDc : va_D A ([] : va_W) := hD.sub [] (by decide) rfl
  refine prt_i (runU_S (pc := 102) (As := [.int x3, .int (((S 24 0) * (S 24 0))), .int p2]) (rest := []) C lk_RX10_202 (kX3_lowestTerms l D cA hq1 H.size) ⟨Nat.le_of_ble_eq_true rfl, Nat.le_of_ble_eq_true rfl⟩ ⟨Nat.le_refl _, Nat.le_refl _⟩ hPc hDc hl.1 rfl (Nat.le_of_ble_eq_true rfl) dX10_odds_102) hP hD hS hA [] rfl (fun H locs hP hD hS => ?_)
  cases hf
  exact ret_i C hP hD hS dX10_odds_105
set_option maxRecDepth 100000 in
set_option maxHeartbeats 4000000 in
theorem wX10_odds_79 (C : Cx p s m args meth c D cA cX10_odds 6 RX10 (some .int)) (hA : ∀ q : Nat, s.heap.size ≤ q → A q) {N : Nat} {z : Int32} {S : St} {p1 : Int32} {p2 : Int32} {g26 : Int32 × Int32 → Option (Int32)} (hg26 : ∀ (x3 : Int32) (x4 : Int32), g26 (x3, x4) = some z → ∀ (H : Heap) (locs : List Loc) (ls : Array Slot), va_P D vwCl (w_X cA a S) H → va_D A (w_X cA a S) → va_S A s.heap H locs → lv_has ls 6 [(0, .ref (a 0)), (1, .int p1), (2, .int p2), (3, .int x3), (4, .int x4)] → W p l e (rmU 2 42 0 0) s m args below meth c H locs 0 0 (MQ below (QI D A z (w_X cA a S)) args s 0 0 A) (F0 m 26 ls [])) {x3 : Int32} {x4 : Int32} (hf : fX10_odds_j79 N S p1 p2 g26 x3 x4 = some z) {H : Heap} {locs : List Loc} {ls : Array Slot} (hP : va_P D vwCl (w_X cA a S) H) (hD : va_D A (w_X cA a S)) (hS : va_S A s.heap H locs) (hl : lv_has ls 6 [(0, .ref (a 0)), (1, .int p1), (2, .int p2), (3, .int x3), (4, .int x4)]) : W p l e (rmU 2 42 0 0) s m args below meth c H locs 0 0 (MQ below (QI D A z (w_X cA a S)) args s 0 0 A) (F0 m 79 ls []) := by
  obtain ⟨hx, hb, hml, hown, hts, hK, hN, hr, hlk⟩ := id C
  unfold fX10_odds_j79 at hf
  refine lv_iinc (v := (x4 + 1)) (lv' := [(4, .int ((x4 + 1))), (0, .ref (a 0)), (1, .int p1), (2, .int p2), (3, .int x3)]) (pc := 79) hx hb dX10_odds_79 hl (k := 4) rfl (by rfl) (by decide) rfl (fun ls hl => ?_)
  refine lv_goto (tgt := 26) (pc := 82) hx hb dX10_odds_82 (by decide) ?_
  exact hg26 x3 ((x4 + 1)) hf _ _ _ hP hD hS (lv_sub hl [1, 2, 3, 4, 0] rfl)
set_option maxRecDepth 100000 in
set_option maxHeartbeats 4000000 in
theorem wX10_odds_73 (C : Cx p s m args meth c D cA cX10_odds 6 RX10 (some .int)) (hA : ∀ q : Nat, s.heap.size ≤ q → A q) {N : Nat} {z : Int32} {S : St} {p1 : Int32} {p2 : Int32} {g26 : Int32 × Int32 → Option (Int32)} (hg26 : ∀ (x3 : Int32) (x4 : Int32), g26 (x3, x4) = some z → ∀ (H : Heap) (locs : List Loc) (ls : Array Slot), va_P D vwCl (w_X cA a S) H → va_D A (w_X cA a S) → va_S A s.heap H locs → lv_has ls 6 [(0, .ref (a 0)), (1, .int p1), (2, .int p2), (3, .int x3), (4, .int x4)] → W p l e (rmU 2 42 0 0) s m args below meth c H locs 0 0 (MQ below (QI D A z (w_X cA a S)) args s 0 0 A) (F0 m 26 ls [])) {g41 : Int32 × Int32 × Int32 → Option (Int32)} (hg41 : ∀ (x3 : Int32) (x4 : Int32) (x5 : Int32), g41 (x3, x4, x5) = some z → ∀ (H : Heap) (locs : List Loc) (ls : Array Slot), va_P D vwCl (w_X cA a S) H → va_D A (w_X cA a S) → va_S A s.heap H locs → lv_has ls 6 [(0, .ref (a 0)), (1, .int p1), (2, .int p2), (3, .int x3), (4, .int x4), (5, .int x5)] → W p l e (rmU 2 42 0 0) s m args below meth c H locs 0 0 (MQ below (QI D A z (w_X cA a S)) args s 0 0 A) (F0 m 41 ls [])) {x3 : Int32} {x4 : Int32} {x5 : Int32} (hf : fX10_odds_j73 N S p1 p2 g26 g41 x3 x4 x5 = some z) {H : Heap} {locs : List Loc} {ls : Array Slot} (hP : va_P D vwCl (w_X cA a S) H) (hD : va_D A (w_X cA a S)) (hS : va_S A s.heap H locs) (hl : lv_has ls 6 [(0, .ref (a 0)), (1, .int p1), (2, .int p2), (3, .int x3), (4, .int x4), (5, .int x5)]) : W p l e (rmU 2 42 0 0) s m args below meth c H locs 0 0 (MQ below (QI D A z (w_X cA a S)) args s 0 0 A) (F0 m 73 ls []) := by
  obtain ⟨hx, hb, hml, hown, hts, hK, hN, hr, hlk⟩ := id C
  unfold fX10_odds_j73 at hf
  refine lv_iinc (v := (x5 + 1)) (lv' := [(5, .int ((x5 + 1))), (0, .ref (a 0)), (1, .int p1), (2, .int p2), (3, .int x3), (4, .int x4)]) (pc := 73) hx hb dX10_odds_73 hl (k := 5) rfl (by rfl) (by decide) rfl (fun ls hl => ?_)
  refine lv_goto (tgt := 41) (pc := 76) hx hb dX10_odds_76 (by decide) ?_
  exact hg41 x3 x4 ((x5 + 1)) hf _ _ _ hP hD hS (lv_sub hl [1, 2, 3, 4, 5, 0] rfl)
set_option maxRecDepth 100000 in
set_option maxHeartbeats 4000000 in
theorem wX10_odds_41 (C : Cx p s m args meth c D cA cX10_odds 6 RX10 (some .int)) (hA : ∀ q : Nat, s.heap.size ≤ q → A q) {N : Nat} {z : Int32} {S : St} {p1 : Int32} {p2 : Int32} {g26 : Int32 × Int32 → Option (Int32)} (hg26 : ∀ (x3 : Int32) (x4 : Int32), g26 (x3, x4) = some z → ∀ (H : Heap) (locs : List Loc) (ls : Array Slot), va_P D vwCl (w_X cA a S) H → va_D A (w_X cA a S) → va_S A s.heap H locs → lv_has ls 6 [(0, .ref (a 0)), (1, .int p1), (2, .int p2), (3, .int x3), (4, .int x4)] → W p l e (rmU 2 42 0 0) s m args below meth c H locs 0 0 (MQ below (QI D A z (w_X cA a S)) args s 0 0 A) (F0 m 26 ls [])) : ∀ (k : Nat) (x3 : Int32) (x4 : Int32) (x5 : Int32), fX10_odds_l41 N S p1 p2 g26 k (x3, x4, x5) = some z → ∀ (H : Heap) (locs : List Loc) (ls : Array Slot), va_P D vwCl (w_X cA a S) H → va_D A (w_X cA a S) → va_S A s.heap H locs → lv_has ls 6 [(0, .ref (a 0)), (1, .int p1), (2, .int p2), (3, .int x3), (4, .int x4), (5, .int x5)] → W p l e (rmU 2 42 0 0) s m args below meth c H locs 0 0 (MQ below (QI D A z (w_X cA a S)) args s 0 0 A) (F0 m 41 ls []) := by
  obtain ⟨hx, hb, hml, hown, hts, hK, hN, hr, hlk⟩ := id C
  intro k
  induction k with
  | zero =>
    intro x3 x4 x5 hf
    have hf : (none : Option (Int32)) = some z := hf
    cases hf
  | succ k hg41 =>
    intro x3 x4 x5 hf H locs ls hP hD hS hl
    have hf : fX10_odds_b41 N S p1 p2 g26 (fX10_odds_l41 N S p1 p2 g26 k) x3 x4 x5 = some z := hf
    unfold fX10_odds_b41 at hf
    refine lv_iload (pc := 41) hx hb dX10_odds_41 (lv_at hl 5 rfl) ?_
    refine lv_aload_n (pc := 43) hx hb dX10_odds_43 rfl (lv_at hl 0 rfl) ?_
    refine ge_RX10_61_X_0_0 (pc := 44) C hP dX10_odds_44 ?_
    refine ge_RX10_195_X_0_21 (pc := 47) C hP dX10_odds_47 ?_
    refine lv_icmp_gt (tgt := 79) (pc := 50) hx hb dX10_odds_50 (by decide) (fun c1 => ?_) (fun c1 => ?_)
    · have hf := pt_t c1 hf
      exact wX10_odds_79 C hA hg26 hf hP hD hS (lv_sub hl [0, 1, 2, 3, 4] rfl)
    · have hf := pt_f c1 hf
      refine lv_aload_n (pc := 53) hx hb dX10_odds_53 rfl (lv_at hl 0 rfl) ?_
      refine lv_iload (pc := 54) hx hb dX10_odds_54 (lv_at hl 4 rfl) ?_
      obtain ⟨q2, hq2, hf⟩ := pt_b hf
      refine all_i (runU_V (pc := 56) (As := [.int x4]) (b := a 0) (rest := []) (ci := 9) (q0 := 0) C lk_RX10_198 (kX10_shownBy l D cA a hq2 H.size) ⟨Nat.le_of_ble_eq_true rfl, Nat.le_of_ble_eq_true rfl⟩ ⟨Nat.le_refl _, Nat.le_refl _⟩ hP hD rfl rfl rfl hl.1 rfl (Nat.le_of_ble_eq_true rfl) dX10_odds_56) hD hS hA (fun H locs hP hD hS => ?_)
      refine lv_aload_n (pc := 59) hx hb dX10_odds_59 rfl (lv_at hl 0 rfl) ?_
      refine lv_iload (pc := 60) hx hb dX10_odds_60 (lv_at hl 5 rfl) ?_
      obtain ⟨q3, hq3, hf⟩ := pt_b hf
      refine all_i (runU_V (pc := 62) (As := [.int x5]) (b := a 0) (rest := [.int q2]) (ci := 9) (q0 := 0) C lk_RX10_198 (kX10_shownBy l D cA a hq3 H.size) ⟨Nat.le_of_ble_eq_true rfl, Nat.le_of_ble_eq_true rfl⟩ ⟨Nat.le_refl _, Nat.le_refl _⟩ hP hD rfl rfl rfl hl.1 rfl (Nat.le_of_ble_eq_true rfl) dX10_odds_62) hD hS hA (fun H locs hP hD hS => ?_)
      refine lv_iadd (pc := 65) hx hb dX10_odds_65 ?_
      refine lv_iload_n (pc := 66) hx hb dX10_odds_66 rfl (lv_at hl 1 rfl) ?_
      refine lv_icmp_ne (tgt := 73) (pc := 67) hx hb dX10_odds_67 (by decide) (fun c4 => ?_) (fun c4 => ?_)
      · have hf := pt_f c4 hf
        exact wX10_odds_73 C hA hg26 hg41 hf hP hD hS (lv_sub hl [0, 1, 2, 3, 4, 5] rfl)
      · have hf := pt_t c4 hf
        refine lv_iinc (v := (x3 + 1)) (lv' := [(3, .int ((x3 + 1))), (0, .ref (a 0)), (1, .int p1), (2, .int p2), (4, .int x4), (5, .int x5)]) (pc := 70) hx hb dX10_odds_70 hl (k := 3) rfl (by rfl) (by decide) rfl (fun ls hl => ?_)
        exact wX10_odds_73 C hA hg26 hg41 hf hP hD hS (lv_sub hl [1, 2, 3, 0, 4, 5] rfl)
set_option maxRecDepth 100000 in
set_option maxHeartbeats 4000000 in
theorem wX10_odds_26 (C : Cx p s m args meth c D cA cX10_odds 6 RX10 (some .int)) (hA : ∀ q : Nat, s.heap.size ≤ q → A q) {N : Nat} {z : Int32} {S : St} {p1 : Int32} {p2 : Int32} : ∀ (k : Nat) (x3 : Int32) (x4 : Int32), fX10_odds_l26 N S p1 p2 k (x3, x4) = some z → ∀ (H : Heap) (locs : List Loc) (ls : Array Slot), va_P D vwCl (w_X cA a S) H → va_D A (w_X cA a S) → va_S A s.heap H locs → lv_has ls 6 [(0, .ref (a 0)), (1, .int p1), (2, .int p2), (3, .int x3), (4, .int x4)] → W p l e (rmU 2 42 0 0) s m args below meth c H locs 0 0 (MQ below (QI D A z (w_X cA a S)) args s 0 0 A) (F0 m 26 ls []) := by
  obtain ⟨hx, hb, hml, hown, hts, hK, hN, hr, hlk⟩ := id C
  intro k
  induction k with
  | zero =>
    intro x3 x4 hf
    have hf : (none : Option (Int32)) = some z := hf
    cases hf
  | succ k hg26 =>
    intro x3 x4 hf H locs ls hP hD hS hl
    have hf : fX10_odds_b26 N S p1 p2 (fX10_odds_l26 N S p1 p2 k) x3 x4 = some z := hf
    unfold fX10_odds_b26 at hf
    refine lv_iload (pc := 26) hx hb dX10_odds_26 (lv_at hl 4 rfl) ?_
    refine lv_aload_n (pc := 28) hx hb dX10_odds_28 rfl (lv_at hl 0 rfl) ?_
    refine ge_RX10_61_X_0_0 (pc := 29) C hP dX10_odds_29 ?_
    refine ge_RX10_195_X_0_21 (pc := 32) C hP dX10_odds_32 ?_
    refine lv_icmp_gt (tgt := 85) (pc := 35) hx hb dX10_odds_35 (by decide) (fun c1 => ?_) (fun c1 => ?_)
    · have hf := pt_t c1 hf
      exact wX10_odds_85 C hA  hf hP hD hS (lv_sub hl [0, 2, 3] rfl)
    · have hf := pt_f c1 hf
      refine lv_iconst (v := (1 : Int32)) (pc := 38) hx hb dX10_odds_38 (by decide) ?_
      refine lv_istore (lv' := [(5, .int ((1 : Int32))), (0, .ref (a 0)), (1, .int p1), (2, .int p2), (3, .int x3), (4, .int x4)]) (pc := 39) hx hb dX10_odds_39 hl (by decide) rfl (fun ls hl => ?_)
      exact wX10_odds_41 C hA hg26 _ x3 x4 ((1 : Int32)) hf _ _ _ hP hD hS (lv_sub hl [1, 2, 3, 4, 5, 0] rfl)
set_option maxRecDepth 100000 in
set_option maxHeartbeats 4000000 in
theorem wX10_odds (C : Cx p s m args meth c D cA cX10_odds 6 RX10 (some .int)) (hA : ∀ q : Nat, s.heap.size ≤ q → A q) {N : Nat} {z : Int32} {S : St} {p1 : Int32} {p2 : Int32} (hf : fX10_odds N S p1 p2 = some z) {H : Heap} {locs : List Loc} {ls : Array Slot} (hP : va_P D vwCl (w_X cA a S) H) (hD : va_D A (w_X cA a S)) (hS : va_S A s.heap H locs) (hl : lv_has ls 6 [(0, .ref (a 0)), (1, .int p1), (2, .int p2)]) : W p l e (rmU 2 42 0 0) s m args below meth c H locs 0 0 (MQ below (QI D A z (w_X cA a S)) args s 0 0 A) (F0 m 0 ls []) := by
  obtain ⟨hx, hb, hml, hown, hts, hK, hN, hr, hlk⟩ := id C
  unfold fX10_odds at hf
  refine lv_iload_n (pc := 0) hx hb dX10_odds_0 rfl (lv_at hl 1 rfl) ?_
  refine lv_iconst (v := (0 : Int32)) (pc := 1) hx hb dX10_odds_1 (by decide) ?_
  refine lv_bipush (v := (18 : Int32)) (pc := 2) hx hb dX10_odds_2 (by decide) ?_
  obtain ⟨q1, hq1, hf⟩ := pt_b hf
  have hPc : va_P D vwCl ([] : va_W) H := hP.sub [] rfl
  have hDc : va_D A ([] : va_W) := hD.sub [] (by decide) rfl
  refine prt_i (runU_S (pc := 4) (As := [.int p1, .int ((0 : Int32)), .int ((18 : Int32))]) (rest := []) C lk_RX10_100 (kX10_isWithin l D cA hq1 H.size) ⟨Nat.le_of_ble_eq_true rfl, Nat.le_of_ble_eq_true rfl⟩ ⟨Nat.le_refl _, Nat.le_refl _⟩ hPc hDc hl.1 rfl (Nat.le_of_ble_eq_true rfl) dX10_odds_4) hP hD hS hA [] rfl (fun H locs hP hD hS => ?_)
  refine lv_if_eq (tgt := 19) (pc := 7) hx hb dX10_odds_7 (by decide) (fun c2 => ?_) (fun c2 => ?_)
  · have hf := pt_t c2 hf
    refine lv_iconst (v := (-1 : Int32)) (pc := 19) hx hb dX10_odds_19 (by decide) ?_
    cases hf
    exact ret_i C hP hD hS dX10_odds_20
  · have hf := pt_f c2 hf
    refine lv_iload_n (pc := 10) hx hb dX10_odds_10 rfl (lv_at hl 2 rfl) ?_
    refine lv_iconst (v := (0 : Int32)) (pc := 11) hx hb dX10_odds_11 (by decide) ?_
    refine lv_iconst (v := (1 : Int32)) (pc := 12) hx hb dX10_odds_12 (by decide) ?_
    obtain ⟨q3, hq3, hf⟩ := pt_b hf
    have hPc : va_P D vwCl ([] : va_W) H := hP.sub [] rfl
    have hDc : va_D A ([] : va_W) := hD.sub [] (by decide) rfl
    refine prt_i (runU_S (pc := 13) (As := [.int p2, .int ((0 : Int32)), .int ((1 : Int32))]) (rest := []) C lk_RX10_100 (kX10_isWithin l D cA hq3 H.size) ⟨Nat.le_of_ble_eq_true rfl, Nat.le_of_ble_eq_true rfl⟩ ⟨Nat.le_refl _, Nat.le_refl _⟩ hPc hDc hl.1 rfl (Nat.le_of_ble_eq_true rfl) dX10_odds_13) hP hD hS hA [] rfl (fun H locs hP hD hS => ?_)
    refine lv_if_ne (tgt := 21) (pc := 16) hx hb dX10_odds_16 (by decide) (fun c4 => ?_) (fun c4 => ?_)
    · have hf := pt_f c4 hf
      refine lv_iconst (v := (0 : Int32)) (pc := 21) hx hb dX10_odds_21 (by decide) ?_
      refine lv_istore_n (lv' := [(3, .int ((0 : Int32))), (0, .ref (a 0)), (1, .int p1), (2, .int p2)]) (pc := 22) hx hb dX10_odds_22 rfl hl (by decide) rfl (fun ls hl => ?_)
      refine lv_iconst (v := (1 : Int32)) (pc := 23) hx hb dX10_odds_23 (by decide) ?_
      refine lv_istore (lv' := [(4, .int ((1 : Int32))), (3, .int ((0 : Int32))), (0, .ref (a 0)), (1, .int p1), (2, .int p2)]) (pc := 24) hx hb dX10_odds_24 hl (by decide) rfl (fun ls hl => ?_)
      exact wX10_odds_26 C hA  _ ((0 : Int32)) ((1 : Int32)) hf _ _ _ hP hD hS (lv_sub hl [2, 3, 4, 1, 0] rfl)
    · have hf := pt_t c4 hf
      refine lv_iconst (v := (-1 : Int32)) (pc := 19) hx hb dX10_odds_19 (by decide) ?_
      cases hf
      exact ret_i C hP hD hS dX10_odds_20
set_option maxRecDepth 100000 in
set_option maxHeartbeats 4000000 in
theorem kX10_odds (l : Launch) (D : va_G) (cA : Nat → ClassId) (a : Nat → Nat) {N : Nat} {S : St} {p1 : Int32} {p2 : Int32} {z : Int32} (hf : fX10_odds N S p1 p2 = some z) : CtI l yX10_odds cX10_odds 6 (some .int) 2 42 D cA (w_X cA a S) (w_X cA a S) [.ref (a 0), .int p1, .int p2] z := by
  intro sz
  refine Met.ofW (cc := cX10_odds) (maxL := 6) (ret := (some .int)) (by decide) rfl ?_
  intro p e s m args below meth c s₁ B hml hv
  obtain ⟨rfl, hsz, hP, hK, hD0⟩ := hv
  subst hsz
  have C : Cx p s m _ meth c D cA cX10_odds 6 RX10 (some .int) := Cx.of B hml hK
  have hD := hD0.self (sz := s.heap.size)
  have hA : ∀ q : Nat, s.heap.size ≤ q → va_A (w_X cA a S) s.heap.size q := fun q h => Or.inr h
  have hS : va_S (va_A (w_X cA a S) s.heap.size) s.heap s.heap [] := va_S.rf
  have hl := lv_entry ([.ref (a 0), .int p1, .int p2]) (n := 6) (Nat.le_of_ble_eq_true rfl)
  rw [lg_entry_eq]
  generalize (lg_sl ([.ref (a 0), .int p1, .int p2]) ++ List.replicate (6 - (lg_sl ([.ref (a 0), .int p1, .int p2])).length) Slot.unset).toArray = ls at hl ⊢
  exact wX10_odds C hA hf hP hD hS hl
def fX10_mean_j40 (N : Nat) (S : St) (p1 : Int32) (x2 : Int32) : Option (Int32) :=
  Option.bind (fX3_lowestTerms N x2 ((S 24 0)) p1) (fun q1 => some q1)
def fX10_mean_b15 (N : Nat) (S : St) (p1 : Int32) (g15 : Int32 × Int32 → Option (Int32)) (x2 : Int32) (x3 : Int32) : Option (Int32) :=
  if (S 24 0) < x3 then (fX10_mean_j40 N S p1 x2) else (Option.bind (fX10_shownBy N S x3) (fun q2 => g15 (((x2 + q2), (x3 + 1)))))
def fX10_mean_l15 (N : Nat) (S : St) (p1 : Int32) (k : Nat) (q : Int32 × Int32) : Option (Int32) := lpN (fun g q => fX10_mean_b15 N S p1 g q.1 q.2) k q
def fX10_mean (N : Nat) (S : St) (p1 : Int32) : Option (Int32) :=
  Option.bind (fX10_isWithin N p1 ((0 : Int32)) ((1 : Int32))) (fun q1 => if q1 = 0 then (some ((-1 : Int32))) else (fX10_mean_l15 N S p1 N (((0 : Int32), (1 : Int32)))))
set_option maxRecDepth 100000 in
set_option maxHeartbeats 4000000 in
theorem wX10_mean_40 (C : Cx p s m args meth c D cA cX10_mean 4 RX10 (some .int)) (hA : ∀ q : Nat, s.heap.size ≤ q → A q) {N : Nat} {z : Int32} {S : St} {p1 : Int32} {x2 : Int32} (hf : fX10_mean_j40 N S p1 x2 = some z) {H : Heap} {locs : List Loc} {ls : Array Slot} (hP : va_P D vwCl (w_X cA a S) H) (hD : va_D A (w_X cA a S)) (hS : va_S A s.heap H locs) (hl : lv_has ls 4 [(0, .ref (a 0)), (1, .int p1), (2, .int x2)]) : W p l e (rmU 2 42 0 0) s m args below meth c H locs 0 0 (MQ below (QI D A z (w_X cA a S)) args s 0 0 A) (F0 m 40 ls []) := by
  obtain ⟨hx, hb, hml, hown, hts, hK, hN, hr, hlk⟩ := id C
  unfold fX10_mean_j40 at hf
  refine lv_iload_n (pc := 40) hx hb dX10_mean_40 rfl (lv_at hl 2 rfl) ?_
  refine lv_aload_n (pc := 41) hx hb dX10_mean_41 rfl (lv_at hl 0 rfl) ?_
  refine ge_RX10_61_X_0_0 (pc := 42) C hP dX10_mean_42 ?_
  refine ge_RX10_195_X_0_21 (pc := 45) C hP dX10_mean_45 ?_
  refine lv_iload_n (pc := 48) hx hb dX10_mean_48 rfl (lv_at hl 1 rfl) ?_
  obtain ⟨q1, hq1, hf⟩ := pt_b hf
  have hPc : va_P D vwCl ([] : va_W) H := hP.sub [] rfl
  have hDc : va_D A ([] : va_W) := hD.sub [] (by decide) rfl
  refine prt_i (runU_S (pc := 49) (As := [.int x2, .int ((S 24 0)), .int p1]) (rest := []) C lk_RX10_202 (kX3_lowestTerms l D cA hq1 H.size) ⟨Nat.le_of_ble_eq_true rfl, Nat.le_of_ble_eq_true rfl⟩ ⟨Nat.le_refl _, Nat.le_refl _⟩ hPc hDc hl.1 rfl (Nat.le_of_ble_eq_true rfl) dX10_mean_49) hP hD hS hA [] rfl (fun H locs hP hD hS => ?_)
  cases hf
  exact ret_i C hP hD hS dX10_mean_52
set_option maxRecDepth 100000 in
set_option maxHeartbeats 4000000 in
theorem wX10_mean_15 (C : Cx p s m args meth c D cA cX10_mean 4 RX10 (some .int)) (hA : ∀ q : Nat, s.heap.size ≤ q → A q) {N : Nat} {z : Int32} {S : St} {p1 : Int32} : ∀ (k : Nat) (x2 : Int32) (x3 : Int32), fX10_mean_l15 N S p1 k (x2, x3) = some z → ∀ (H : Heap) (locs : List Loc) (ls : Array Slot), va_P D vwCl (w_X cA a S) H → va_D A (w_X cA a S) → va_S A s.heap H locs → lv_has ls 4 [(0, .ref (a 0)), (1, .int p1), (2, .int x2), (3, .int x3)] → W p l e (rmU 2 42 0 0) s m args below meth c H locs 0 0 (MQ below (QI D A z (w_X cA a S)) args s 0 0 A) (F0 m 15 ls []) := by
  obtain ⟨hx, hb, hml, hown, hts, hK, hN, hr, hlk⟩ := id C
  intro k
  induction k with
  | zero =>
    intro x2 x3 hf
    have hf : (none : Option (Int32)) = some z := hf
    cases hf
  | succ k hg15 =>
    intro x2 x3 hf H locs ls hP hD hS hl
    have hf : fX10_mean_b15 N S p1 (fX10_mean_l15 N S p1 k) x2 x3 = some z := hf
    unfold fX10_mean_b15 at hf
    refine lv_iload_n (pc := 15) hx hb dX10_mean_15 rfl (lv_at hl 3 rfl) ?_
    refine lv_aload_n (pc := 16) hx hb dX10_mean_16 rfl (lv_at hl 0 rfl) ?_
    refine ge_RX10_61_X_0_0 (pc := 17) C hP dX10_mean_17 ?_
    refine ge_RX10_195_X_0_21 (pc := 20) C hP dX10_mean_20 ?_
    refine lv_icmp_gt (tgt := 40) (pc := 23) hx hb dX10_mean_23 (by decide) (fun c1 => ?_) (fun c1 => ?_)
    · have hf := pt_t c1 hf
      exact wX10_mean_40 C hA  hf hP hD hS (lv_sub hl [0, 1, 2] rfl)
    · have hf := pt_f c1 hf
      refine lv_iload_n (pc := 26) hx hb dX10_mean_26 rfl (lv_at hl 2 rfl) ?_
      refine lv_aload_n (pc := 27) hx hb dX10_mean_27 rfl (lv_at hl 0 rfl) ?_
      refine lv_iload_n (pc := 28) hx hb dX10_mean_28 rfl (lv_at hl 3 rfl) ?_
      obtain ⟨q2, hq2, hf⟩ := pt_b hf
      refine all_i (runU_V (pc := 29) (As := [.int x3]) (b := a 0) (rest := [.int x2]) (ci := 9) (q0 := 0) C lk_RX10_198 (kX10_shownBy l D cA a hq2 H.size) ⟨Nat.le_of_ble_eq_true rfl, Nat.le_of_ble_eq_true rfl⟩ ⟨Nat.le_refl _, Nat.le_refl _⟩ hP hD rfl rfl rfl hl.1 rfl (Nat.le_of_ble_eq_true rfl) dX10_mean_29) hD hS hA (fun H locs hP hD hS => ?_)
      refine lv_iadd (pc := 32) hx hb dX10_mean_32 ?_
      refine lv_istore_n (lv' := [(2, .int ((x2 + q2))), (0, .ref (a 0)), (1, .int p1), (3, .int x3)]) (pc := 33) hx hb dX10_mean_33 rfl hl (by decide) rfl (fun ls hl => ?_)
      refine lv_iinc (v := (x3 + 1)) (lv' := [(3, .int ((x3 + 1))), (2, .int ((x2 + q2))), (0, .ref (a 0)), (1, .int p1)]) (pc := 34) hx hb dX10_mean_34 hl (k := 3) rfl (by rfl) (by decide) rfl (fun ls hl => ?_)
      refine lv_goto (tgt := 15) (pc := 37) hx hb dX10_mean_37 (by decide) ?_
      exact hg15 ((x2 + q2)) ((x3 + 1)) hf _ _ _ hP hD hS (lv_sub hl [2, 3, 1, 0] rfl)
set_option maxRecDepth 100000 in
set_option maxHeartbeats 4000000 in
theorem wX10_mean (C : Cx p s m args meth c D cA cX10_mean 4 RX10 (some .int)) (hA : ∀ q : Nat, s.heap.size ≤ q → A q) {N : Nat} {z : Int32} {S : St} {p1 : Int32} (hf : fX10_mean N S p1 = some z) {H : Heap} {locs : List Loc} {ls : Array Slot} (hP : va_P D vwCl (w_X cA a S) H) (hD : va_D A (w_X cA a S)) (hS : va_S A s.heap H locs) (hl : lv_has ls 4 [(0, .ref (a 0)), (1, .int p1)]) : W p l e (rmU 2 42 0 0) s m args below meth c H locs 0 0 (MQ below (QI D A z (w_X cA a S)) args s 0 0 A) (F0 m 0 ls []) := by
  obtain ⟨hx, hb, hml, hown, hts, hK, hN, hr, hlk⟩ := id C
  unfold fX10_mean at hf
  refine lv_iload_n (pc := 0) hx hb dX10_mean_0 rfl (lv_at hl 1 rfl) ?_
  refine lv_iconst (v := (0 : Int32)) (pc := 1) hx hb dX10_mean_1 (by decide) ?_
  refine lv_iconst (v := (1 : Int32)) (pc := 2) hx hb dX10_mean_2 (by decide) ?_
  obtain ⟨q1, hq1, hf⟩ := pt_b hf
  have hPc : va_P D vwCl ([] : va_W) H := hP.sub [] rfl
  have hDc : va_D A ([] : va_W) := hD.sub [] (by decide) rfl
  refine prt_i (runU_S (pc := 3) (As := [.int p1, .int ((0 : Int32)), .int ((1 : Int32))]) (rest := []) C lk_RX10_100 (kX10_isWithin l D cA hq1 H.size) ⟨Nat.le_of_ble_eq_true rfl, Nat.le_of_ble_eq_true rfl⟩ ⟨Nat.le_refl _, Nat.le_refl _⟩ hPc hDc hl.1 rfl (Nat.le_of_ble_eq_true rfl) dX10_mean_3) hP hD hS hA [] rfl (fun H locs hP hD hS => ?_)
  refine lv_if_ne (tgt := 11) (pc := 6) hx hb dX10_mean_6 (by decide) (fun c2 => ?_) (fun c2 => ?_)
  · have hf := pt_f c2 hf
    refine lv_iconst (v := (0 : Int32)) (pc := 11) hx hb dX10_mean_11 (by decide) ?_
    refine lv_istore_n (lv' := [(2, .int ((0 : Int32))), (0, .ref (a 0)), (1, .int p1)]) (pc := 12) hx hb dX10_mean_12 rfl hl (by decide) rfl (fun ls hl => ?_)
    refine lv_iconst (v := (1 : Int32)) (pc := 13) hx hb dX10_mean_13 (by decide) ?_
    refine lv_istore_n (lv' := [(3, .int ((1 : Int32))), (2, .int ((0 : Int32))), (0, .ref (a 0)), (1, .int p1)]) (pc := 14) hx hb dX10_mean_14 rfl hl (by decide) rfl (fun ls hl => ?_)
    exact wX10_mean_15 C hA  _ ((0 : Int32)) ((1 : Int32)) hf _ _ _ hP hD hS (lv_sub hl [2, 3, 1, 0] rfl)
  · have hf := pt_t c2 hf
    refine lv_iconst (v := (-1 : Int32)) (pc := 9) hx hb dX10_mean_9 (by decide) ?_
    cases hf
    exact ret_i C hP hD hS dX10_mean_10
set_option maxRecDepth 100000 in
set_option maxHeartbeats 4000000 in
theorem kX10_mean (l : Launch) (D : va_G) (cA : Nat → ClassId) (a : Nat → Nat) {N : Nat} {S : St} {p1 : Int32} {z : Int32} (hf : fX10_mean N S p1 = some z) : CtI l yX10_mean cX10_mean 4 (some .int) 2 42 D cA (w_X cA a S) (w_X cA a S) [.ref (a 0), .int p1] z := by
  intro sz
  refine Met.ofW (cc := cX10_mean) (maxL := 4) (ret := (some .int)) (by decide) rfl ?_
  intro p e s m args below meth c s₁ B hml hv
  obtain ⟨rfl, hsz, hP, hK, hD0⟩ := hv
  subst hsz
  have C : Cx p s m _ meth c D cA cX10_mean 4 RX10 (some .int) := Cx.of B hml hK
  have hD := hD0.self (sz := s.heap.size)
  have hA : ∀ q : Nat, s.heap.size ≤ q → va_A (w_X cA a S) s.heap.size q := fun q h => Or.inr h
  have hS : va_S (va_A (w_X cA a S) s.heap.size) s.heap s.heap [] := va_S.rf
  have hl := lv_entry ([.ref (a 0), .int p1]) (n := 4) (Nat.le_of_ble_eq_true rfl)
  rw [lg_entry_eq]
  generalize (lg_sl ([.ref (a 0), .int p1]) ++ List.replicate (4 - (lg_sl ([.ref (a 0), .int p1])).length) Slot.unset).toArray = ls at hl ⊢
  exact wX10_mean C hA hf hP hD hS hl
theorem lk_RX10_206 : LkS RX10 206 yX3_lengthOf cX3_lengthOf 1 (some .int) 1 := ⟨⟨by decide +kernel, by decide +kernel, by decide +kernel, by decide +kernel, by decide +kernel, by decide +kernel⟩, by decide +kernel⟩
theorem fl_RX10_40 : Cond.fieldLink RX10 40 "SevenOnStrike" "night" "LSevenOnStrike$Night;" ∈ wsL_law := by decide +kernel
theorem ge_RX10_40_X_0_0 (C : Cx p s m args meth c D cA cc nL RX10 ret) (hP : va_P D vwCl (w_X cA a S) H) (hdg : decode cc pc = .ok (.getfield 40, 3)) (kk : W p l e R s m args below meth c H locs cells slots Q (F0 m (pc + 3) ls (.ref (a 14) :: rest))) : W p l e R s m args below meth c H locs cells slots Q (F0 m pc ls (.ref (a 0) :: rest)) := by
  obtain ⟨hx, hb, -, hown, hts, hK, -, -, -⟩ := C
  exact va_get (D := D) (ci := 9) (v := .ref (a 14)) (C := RX10) (T := TX10) (N := 9) hx hb hts inlX10 hown hK hP 0 rfl rfl 4 (by decide) (hts _ fl_RX10_40) (fun _ h9 => h9) rfl hdg kk
theorem lk_RX10_209 : LkV RX10 209 yX2_tell cX2_tell 3 (some .boolean) 2 := ⟨⟨by decide +kernel, by decide +kernel, by decide +kernel, by decide +kernel, by decide +kernel, by decide +kernel⟩, by decide +kernel, by decide +kernel⟩
theorem fl_RX10_212 : Cond.fieldLink RX10 212 "SevenOnStrike$Night" "size" "I" ∈ wsL_law := by decide +kernel
theorem ge_RX10_212_X_0_14 (C : Cx p s m args meth c D cA cc nL RX10 ret) (hP : va_P D vwCl (w_X cA a S) H) (hdg : decode cc pc = .ok (.getfield 212, 3)) (kk : W p l e R s m args below meth c H locs cells slots Q (F0 m (pc + 3) ls (.int (S 12 0) :: rest))) : W p l e R s m args below meth c H locs cells slots Q (F0 m pc ls (.ref (a 14) :: rest)) := by
  obtain ⟨hx, hb, -, hown, hts, hK, -, -, -⟩ := C
  exact va_get (D := D) (ci := 2) (v := .int (S 12 0)) (C := RX2) (T := TX2) (N := 3) hx hb hts inlX2 hown hK hP 14 rfl rfl 2 (by decide) (hts _ fl_RX10_212) (fun _ h9 => h9) rfl hdg kk
def fX10_dark (N : Nat) (S : St) (p1 : Int32) (p2 : Int32) : Option (Int32 × St) :=
  Option.bind (fX10_isWithin N p1 ((0 : Int32)) ((9999 : Int32))) (fun q1 => if q1 = 0 then (some ((-1 : Int32), S)) else (Option.bind (fX10_isWithin N p2 ((0 : Int32)) ((9999 : Int32))) (fun q3 => if q3 = 0 then (some ((-1 : Int32), S)) else (Option.bind (fX3_lengthOf N p1) (fun q5 => Option.bind (fX3_lengthOf N p2) (fun q6 => if q5 = q6 then (Option.bind (fX2_tell N (sh S 12) p1 p2) (fun q8 => if q8.1 = 0 then (some ((-3 : Int32), (pt S 12 3 q8.2))) else (some (((pt S 12 3 q8.2) 12 0), (pt S 12 3 q8.2))))) else (some ((-1 : Int32), S))))))))
set_option maxRecDepth 100000 in
set_option maxHeartbeats 4000000 in
theorem wX10_dark (C : Cx p s m args meth c D cA cX10_dark 3 RX10 (some .int)) (hA : ∀ q : Nat, s.heap.size ≤ q → A q) {N : Nat} {z : Int32 × St} {S : St} {p1 : Int32} {p2 : Int32} (hf : fX10_dark N S p1 p2 = some z) {H : Heap} {locs : List Loc} {ls : Array Slot} (hP : va_P D vwCl (w_X cA a S) H) (hD : va_D A (w_X cA a S)) (hS : va_S A s.heap H locs) (hl : lv_has ls 3 [(0, .ref (a 0)), (1, .int p1), (2, .int p2)]) : W p l e (rmU 1 22 0 0) s m args below meth c H locs 0 0 (MQ below (QI D A z.1 (w_X cA a z.2)) args s 0 0 A) (F0 m 0 ls []) := by
  obtain ⟨hx, hb, hml, hown, hts, hK, hN, hr, hlk⟩ := id C
  unfold fX10_dark at hf
  refine lv_iload_n (pc := 0) hx hb dX10_dark_0 rfl (lv_at hl 1 rfl) ?_
  refine lv_iconst (v := (0 : Int32)) (pc := 1) hx hb dX10_dark_1 (by decide) ?_
  refine lv_sipush (v := (9999 : Int32)) (pc := 2) hx hb dX10_dark_2 (by decide) ?_
  obtain ⟨q1, hq1, hf⟩ := pt_b hf
  have hPc : va_P D vwCl ([] : va_W) H := hP.sub [] rfl
  have hDc : va_D A ([] : va_W) := hD.sub [] (by decide) rfl
  refine prt_i (runU_S (pc := 5) (As := [.int p1, .int ((0 : Int32)), .int ((9999 : Int32))]) (rest := []) C lk_RX10_100 (kX10_isWithin l D cA hq1 H.size) ⟨Nat.le_of_ble_eq_true rfl, Nat.le_of_ble_eq_true rfl⟩ ⟨Nat.le_refl _, Nat.le_refl _⟩ hPc hDc hl.1 rfl (Nat.le_of_ble_eq_true rfl) dX10_dark_5) hP hD hS hA [] rfl (fun H locs hP hD hS => ?_)
  refine lv_if_eq (tgt := 33) (pc := 8) hx hb dX10_dark_8 (by decide) (fun c2 => ?_) (fun c2 => ?_)
  · have hf := pt_t c2 hf
    refine lv_iconst (v := (-1 : Int32)) (pc := 33) hx hb dX10_dark_33 (by decide) ?_
    cases hf
    exact ret_i C hP hD hS dX10_dark_34
  · have hf := pt_f c2 hf
    refine lv_iload_n (pc := 11) hx hb dX10_dark_11 rfl (lv_at hl 2 rfl) ?_
    refine lv_iconst (v := (0 : Int32)) (pc := 12) hx hb dX10_dark_12 (by decide) ?_
    refine lv_sipush (v := (9999 : Int32)) (pc := 13) hx hb dX10_dark_13 (by decide) ?_
    obtain ⟨q3, hq3, hf⟩ := pt_b hf
    have hPc : va_P D vwCl ([] : va_W) H := hP.sub [] rfl
    have hDc : va_D A ([] : va_W) := hD.sub [] (by decide) rfl
    refine prt_i (runU_S (pc := 16) (As := [.int p2, .int ((0 : Int32)), .int ((9999 : Int32))]) (rest := []) C lk_RX10_100 (kX10_isWithin l D cA hq3 H.size) ⟨Nat.le_of_ble_eq_true rfl, Nat.le_of_ble_eq_true rfl⟩ ⟨Nat.le_refl _, Nat.le_refl _⟩ hPc hDc hl.1 rfl (Nat.le_of_ble_eq_true rfl) dX10_dark_16) hP hD hS hA [] rfl (fun H locs hP hD hS => ?_)
    refine lv_if_eq (tgt := 33) (pc := 19) hx hb dX10_dark_19 (by decide) (fun c4 => ?_) (fun c4 => ?_)
    · have hf := pt_t c4 hf
      refine lv_iconst (v := (-1 : Int32)) (pc := 33) hx hb dX10_dark_33 (by decide) ?_
      cases hf
      exact ret_i C hP hD hS dX10_dark_34
    · have hf := pt_f c4 hf
      refine lv_iload_n (pc := 22) hx hb dX10_dark_22 rfl (lv_at hl 1 rfl) ?_
      obtain ⟨q5, hq5, hf⟩ := pt_b hf
      have hPc : va_P D vwCl ([] : va_W) H := hP.sub [] rfl
      have hDc : va_D A ([] : va_W) := hD.sub [] (by decide) rfl
      refine prt_i (runU_S (pc := 23) (As := [.int p1]) (rest := []) C lk_RX10_206 (kX3_lengthOf l D cA hq5 H.size) ⟨Nat.le_of_ble_eq_true rfl, Nat.le_of_ble_eq_true rfl⟩ ⟨Nat.le_refl _, Nat.le_refl _⟩ hPc hDc hl.1 rfl (Nat.le_of_ble_eq_true rfl) dX10_dark_23) hP hD hS hA [] rfl (fun H locs hP hD hS => ?_)
      refine lv_iload_n (pc := 26) hx hb dX10_dark_26 rfl (lv_at hl 2 rfl) ?_
      obtain ⟨q6, hq6, hf⟩ := pt_b hf
      have hPc : va_P D vwCl ([] : va_W) H := hP.sub [] rfl
      have hDc : va_D A ([] : va_W) := hD.sub [] (by decide) rfl
      refine prt_i (runU_S (pc := 27) (As := [.int p2]) (rest := [.int q5]) C lk_RX10_206 (kX3_lengthOf l D cA hq6 H.size) ⟨Nat.le_of_ble_eq_true rfl, Nat.le_of_ble_eq_true rfl⟩ ⟨Nat.le_refl _, Nat.le_refl _⟩ hPc hDc hl.1 rfl (Nat.le_of_ble_eq_true rfl) dX10_dark_27) hP hD hS hA [] rfl (fun H locs hP hD hS => ?_)
      refine lv_icmp_eq (tgt := 35) (pc := 30) hx hb dX10_dark_30 (by decide) (fun c7 => ?_) (fun c7 => ?_)
      · have hf := pt_t c7 hf
        refine lv_aload_n (pc := 35) hx hb dX10_dark_35 rfl (lv_at hl 0 rfl) ?_
        refine ge_RX10_40_X_0_0 (pc := 36) C hP dX10_dark_36 ?_
        refine lv_iload_n (pc := 39) hx hb dX10_dark_39 rfl (lv_at hl 1 rfl) ?_
        refine lv_iload_n (pc := 40) hx hb dX10_dark_40 rfl (lv_at hl 2 rfl) ?_
        obtain ⟨q8, hq8, hf⟩ := pt_b hf
        have hPc : va_P D vwCl (w_N cA (sh a 14) (sh S 12)) H := hP.sub [14, 15, 16] rfl
        have hDc : va_D A (w_N cA (sh a 14) (sh S 12)) := hD.sub [14, 15, 16] (by decide) rfl
        refine upd_i (W1 := (w_N cA (sh a 14) q8.2)) (runU_V (pc := 41) (As := [.int p1, .int p2]) (b := a 14) (rest := []) (ci := 2) (q0 := 0) C lk_RX10_209 (kX2_tell l D cA (sh a 14) hq8 H.size) ⟨Nat.le_of_ble_eq_true rfl, Nat.le_of_ble_eq_true rfl⟩ ⟨Nat.le_refl _, Nat.le_refl _⟩ hPc hDc rfl rfl rfl hl.1 rfl (Nat.le_of_ble_eq_true rfl) dX10_dark_41) hP hD hS hA [14, 15, 16] rfl (by decide) rfl (fun H locs hP hD hS => ?_)
        have hP : va_P D vwCl (w_X cA a (pt S 12 3 q8.2)) H := hP
        have hD : va_D A (w_X cA a (pt S 12 3 q8.2)) := hD
        refine lv_if_eq (tgt := 57) (pc := 44) hx hb dX10_dark_44 (by decide) (fun c9 => ?_) (fun c9 => ?_)
        · have hf := pt_t c9 hf
          refine lv_bipush (v := (-3 : Int32)) (pc := 57) hx hb dX10_dark_57 (by decide) ?_
          cases hf
          exact ret_i C hP hD hS dX10_dark_59
        · have hf := pt_f c9 hf
          refine lv_aload_n (pc := 47) hx hb dX10_dark_47 rfl (lv_at hl 0 rfl) ?_
          refine ge_RX10_40_X_0_0 (pc := 48) C hP dX10_dark_48 ?_
          refine ge_RX10_212_X_0_14 (pc := 51) C hP dX10_dark_51 ?_
          refine lv_goto (tgt := 59) (pc := 54) hx hb dX10_dark_54 (by decide) ?_
          cases hf
          exact ret_i C hP hD hS dX10_dark_59
      · have hf := pt_f c7 hf
        refine lv_iconst (v := (-1 : Int32)) (pc := 33) hx hb dX10_dark_33 (by decide) ?_
        cases hf
        exact ret_i C hP hD hS dX10_dark_34
set_option maxRecDepth 100000 in
set_option maxHeartbeats 4000000 in
theorem kX10_dark (l : Launch) (D : va_G) (cA : Nat → ClassId) (a : Nat → Nat) {N : Nat} {S : St} {p1 : Int32} {p2 : Int32} {z : Int32 × St} (hf : fX10_dark N S p1 p2 = some z) : CtI l yX10_dark cX10_dark 3 (some .int) 1 22 D cA (w_X cA a S) (w_X cA a z.2) [.ref (a 0), .int p1, .int p2] z.1 := by
  intro sz
  refine Met.ofW (cc := cX10_dark) (maxL := 3) (ret := (some .int)) (by decide) rfl ?_
  intro p e s m args below meth c s₁ B hml hv
  obtain ⟨rfl, hsz, hP, hK, hD0⟩ := hv
  subst hsz
  have C : Cx p s m _ meth c D cA cX10_dark 3 RX10 (some .int) := Cx.of B hml hK
  have hD := hD0.self (sz := s.heap.size)
  have hA : ∀ q : Nat, s.heap.size ≤ q → va_A (w_X cA a S) s.heap.size q := fun q h => Or.inr h
  have hS : va_S (va_A (w_X cA a S) s.heap.size) s.heap s.heap [] := va_S.rf
  have hl := lv_entry ([.ref (a 0), .int p1, .int p2]) (n := 3) (Nat.le_of_ble_eq_true rfl)
  rw [lg_entry_eq]
  generalize (lg_sl ([.ref (a 0), .int p1, .int p2]) ++ List.replicate (3 - (lg_sl ([.ref (a 0), .int p1, .int p2])).length) Slot.unset).toArray = ls at hl ⊢
  exact wX10_dark C hA hf hP hD hS hl
theorem pu_RX10_212_X_0_14 {v : Int32} (C : Cx p s m args meth c D cA cc nL RX10 ret) (hP : va_P D vwCl (w_X cA a S) H) (hD : va_D A (w_X cA a S)) (hS : va_S A s.heap H locs) (hdg : decode cc pc = .ok (.putfield 212, 3)) (kk : ∀ (H1 : Heap) (locs1 : List Loc), va_P D vwCl (w_X cA a (stf S 12 v)) H1 → va_D A (w_X cA a (stf S 12 v)) → va_S A s.heap H1 locs1 → W p l e R s m args below meth c H1 locs1 cells slots Q (F0 m (pc + 3) ls rest)) : W p l e R s m args below meth c H locs cells slots Q (F0 m pc ls (.int v :: .ref (a 14) :: rest)) := by
  obtain ⟨hx, hb, -, hown, hts, hK, -, -, -⟩ := C
  exact va_put (D := D) (ci := 2) (v := .int v) (ty := .int) (C := RX2) (T := TX2) (N := 3) hx hb hts inlX2 tyX2 tyX2_ok nmX2 hown hK hP hD hS 14 rfl rfl 2 (by decide) (hts _ fl_RX10_212) (fun _ h9 => h9) rfl (by decide +kernel) rfl rfl (Nat.le_of_ble_eq_true rfl) hdg (fun H1 locs1 h1 h2 h3 => kk H1 locs1 h1 h2 h3)
def fX10_forget (N : Nat) (S : St) : Option (Int32 × St) :=
  some ((S 12 0), (stf S 12 ((0 : Int32))))
set_option maxRecDepth 100000 in
set_option maxHeartbeats 4000000 in
theorem wX10_forget (C : Cx p s m args meth c D cA cX10_forget 2 RX10 (some .int)) (hA : ∀ q : Nat, s.heap.size ≤ q → A q) {N : Nat} {z : Int32 × St} {S : St} (hf : fX10_forget N S = some z) {H : Heap} {locs : List Loc} {ls : Array Slot} (hP : va_P D vwCl (w_X cA a S) H) (hD : va_D A (w_X cA a S)) (hS : va_S A s.heap H locs) (hl : lv_has ls 2 [(0, .ref (a 0))]) : W p l e (rmU 0 0 0 0) s m args below meth c H locs 0 0 (MQ below (QI D A z.1 (w_X cA a z.2)) args s 0 0 A) (F0 m 0 ls []) := by
  obtain ⟨hx, hb, hml, hown, hts, hK, hN, hr, hlk⟩ := id C
  unfold fX10_forget at hf
  refine lv_aload_n (pc := 0) hx hb dX10_forget_0 rfl (lv_at hl 0 rfl) ?_
  refine ge_RX10_40_X_0_0 (pc := 1) C hP dX10_forget_1 ?_
  refine ge_RX10_212_X_0_14 (pc := 4) C hP dX10_forget_4 ?_
  refine lv_istore_n (lv' := [(1, .int ((S 12 0))), (0, .ref (a 0))]) (pc := 7) hx hb dX10_forget_7 rfl hl (by decide) rfl (fun ls hl => ?_)
  refine lv_aload_n (pc := 8) hx hb dX10_forget_8 rfl (lv_at hl 1 rfl) ?_
  refine ge_RX10_40_X_0_0 (pc := 9) C hP dX10_forget_9 ?_
  refine lv_iconst (v := (0 : Int32)) (pc := 12) hx hb dX10_forget_12 (by decide) ?_
  refine pu_RX10_212_X_0_14 (pc := 13) C hP hD hS dX10_forget_13 (fun H locs hP hD hS => ?_)
  refine lv_iload_n (pc := 16) hx hb dX10_forget_16 rfl (lv_at hl 0 rfl) ?_
  cases hf
  exact ret_i C hP hD hS dX10_forget_17
set_option maxRecDepth 100000 in
set_option maxHeartbeats 4000000 in
theorem kX10_forget (l : Launch) (D : va_G) (cA : Nat → ClassId) (a : Nat → Nat) {N : Nat} {S : St} {z : Int32 × St} (hf : fX10_forget N S = some z) : CtI l yX10_forget cX10_forget 2 (some .int) 0 0 D cA (w_X cA a S) (w_X cA a z.2) [.ref (a 0)] z.1 := by
  intro sz
  refine Met.ofW (cc := cX10_forget) (maxL := 2) (ret := (some .int)) (by decide) rfl ?_
  intro p e s m args below meth c s₁ B hml hv
  obtain ⟨rfl, hsz, hP, hK, hD0⟩ := hv
  subst hsz
  have C : Cx p s m _ meth c D cA cX10_forget 2 RX10 (some .int) := Cx.of B hml hK
  have hD := hD0.self (sz := s.heap.size)
  have hA : ∀ q : Nat, s.heap.size ≤ q → va_A (w_X cA a S) s.heap.size q := fun q h => Or.inr h
  have hS : va_S (va_A (w_X cA a S) s.heap.size) s.heap s.heap [] := va_S.rf
  have hl := lv_entry ([.ref (a 0)]) (n := 2) (Nat.le_of_ble_eq_true rfl)
  rw [lg_entry_eq]
  generalize (lg_sl ([.ref (a 0)]) ++ List.replicate (2 - (lg_sl ([.ref (a 0)])).length) Slot.unset).toArray = ls at hl ⊢
  exact wX10_forget C hA hf hP hD hS hl
theorem lk_RX10_213 : LkV RX10 213 yX2_isSo cX2_isSo 4 (some .boolean) 2 := ⟨⟨by decide +kernel, by decide +kernel, by decide +kernel, by decide +kernel, by decide +kernel, by decide +kernel⟩, by decide +kernel, by decide +kernel⟩
def fX10_works_j76 (N : Nat) (S : St) (g34 : Int32 × Int32 → Option (Int32)) (x1 : Int32) (x2 : Int32) : Option (Int32) :=
  g34 ((x1, (x2 + 1)))
def fX10_works_b34 (N : Nat) (S : St) (g34 : Int32 × Int32 → Option (Int32)) (x1 : Int32) (x2 : Int32) : Option (Int32) :=
  if (10 : Int32) ≤ x2 then (some x1) else (Option.bind (fX2_isSo N (sh S 12) (sh S 3) (((S 2 0) &&& (((1 : Int32) <<< (x2 &&& 31)) ^^^ (-1 : Int32))))) (fun q2 => if q2 = 0 then (fX10_works_j76 N S g34 x1 x2) else (nm ((x1 ||| ((1 : Int32) <<< (x2 &&& 31)))) (fun v4 => fX10_works_j76 N S g34 v4 x2))))
def fX10_works_l34 (N : Nat) (S : St) (k : Nat) (q : Int32 × Int32) : Option (Int32) := lpN (fun g q => fX10_works_b34 N S g q.1 q.2) k q
def fX10_works_j31 (N : Nat) (S : St) (y0 : Int32) : Option (Int32) :=
  fX10_works_l34 N S N ((y0, (0 : Int32)))
def fX10_works (N : Nat) (S : St) : Option (Int32) :=
  Option.bind (fX2_isSo N (sh S 12) (sh S 3) ((S 2 0))) (fun q1 => if q1 = 0 then (fX10_works_j31 N S ((0 : Int32))) else (fX10_works_j31 N S ((1024 : Int32))))
set_option maxRecDepth 100000 in
set_option maxHeartbeats 4000000 in
theorem wX10_works_76 (C : Cx p s m args meth c D cA cX10_works 3 RX10 (some .int)) (hA : ∀ q : Nat, s.heap.size ≤ q → A q) {N : Nat} {z : Int32} {S : St} {g34 : Int32 × Int32 → Option (Int32)} (hg34 : ∀ (x1 : Int32) (x2 : Int32), g34 (x1, x2) = some z → ∀ (H : Heap) (locs : List Loc) (ls : Array Slot), va_P D vwCl (w_X cA a S) H → va_D A (w_X cA a S) → va_S A s.heap H locs → lv_has ls 3 [(0, .ref (a 0)), (1, .int x1), (2, .int x2)] → W p l e (rmU 3 72 0 0) s m args below meth c H locs 0 0 (MQ below (QI D A z (w_X cA a S)) args s 0 0 A) (F0 m 34 ls [])) {x1 : Int32} {x2 : Int32} (hf : fX10_works_j76 N S g34 x1 x2 = some z) {H : Heap} {locs : List Loc} {ls : Array Slot} (hP : va_P D vwCl (w_X cA a S) H) (hD : va_D A (w_X cA a S)) (hS : va_S A s.heap H locs) (hl : lv_has ls 3 [(0, .ref (a 0)), (1, .int x1), (2, .int x2)]) : W p l e (rmU 3 72 0 0) s m args below meth c H locs 0 0 (MQ below (QI D A z (w_X cA a S)) args s 0 0 A) (F0 m 76 ls []) := by
  obtain ⟨hx, hb, hml, hown, hts, hK, hN, hr, hlk⟩ := id C
  unfold fX10_works_j76 at hf
  refine lv_iinc (v := (x2 + 1)) (lv' := [(2, .int ((x2 + 1))), (0, .ref (a 0)), (1, .int x1)]) (pc := 76) hx hb dX10_works_76 hl (k := 2) rfl (by rfl) (by decide) rfl (fun ls hl => ?_)
  refine lv_goto (tgt := 34) (pc := 79) hx hb dX10_works_79 (by decide) ?_
  exact hg34 x1 ((x2 + 1)) hf _ _ _ hP hD hS (lv_sub hl [1, 2, 0] rfl)
set_option maxRecDepth 100000 in
set_option maxHeartbeats 4000000 in
theorem wX10_works_34 (C : Cx p s m args meth c D cA cX10_works 3 RX10 (some .int)) (hA : ∀ q : Nat, s.heap.size ≤ q → A q) {N : Nat} {z : Int32} {S : St} : ∀ (k : Nat) (x1 : Int32) (x2 : Int32), fX10_works_l34 N S k (x1, x2) = some z → ∀ (H : Heap) (locs : List Loc) (ls : Array Slot), va_P D vwCl (w_X cA a S) H → va_D A (w_X cA a S) → va_S A s.heap H locs → lv_has ls 3 [(0, .ref (a 0)), (1, .int x1), (2, .int x2)] → W p l e (rmU 3 72 0 0) s m args below meth c H locs 0 0 (MQ below (QI D A z (w_X cA a S)) args s 0 0 A) (F0 m 34 ls []) := by
  obtain ⟨hx, hb, hml, hown, hts, hK, hN, hr, hlk⟩ := id C
  intro k
  induction k with
  | zero =>
    intro x1 x2 hf
    have hf : (none : Option (Int32)) = some z := hf
    cases hf
  | succ k hg34 =>
    intro x1 x2 hf H locs ls hP hD hS hl
    have hf : fX10_works_b34 N S (fX10_works_l34 N S k) x1 x2 = some z := hf
    unfold fX10_works_b34 at hf
    refine lv_iload_n (pc := 34) hx hb dX10_works_34 rfl (lv_at hl 2 rfl) ?_
    refine lv_bipush (v := (10 : Int32)) (pc := 35) hx hb dX10_works_35 (by decide) ?_
    refine lv_icmp_ge (tgt := 82) (pc := 37) hx hb dX10_works_37 (by decide) (fun c1 => ?_) (fun c1 => ?_)
    · have hf := pt_t c1 hf
      refine lv_iload_n (pc := 82) hx hb dX10_works_82 rfl (lv_at hl 1 rfl) ?_
      cases hf
      exact ret_i C hP hD hS dX10_works_83
    · have hf := pt_f c1 hf
      refine lv_aload_n (pc := 40) hx hb dX10_works_40 rfl (lv_at hl 0 rfl) ?_
      refine ge_RX10_40_X_0_0 (pc := 41) C hP dX10_works_41 ?_
      refine lv_aload_n (pc := 44) hx hb dX10_works_44 rfl (lv_at hl 0 rfl) ?_
      refine ge_RX10_19_X_0_0 (pc := 45) C hP dX10_works_45 ?_
      refine ge_RX10_117_X_0_3 (pc := 48) C hP dX10_works_48 ?_
      refine lv_iconst (v := (1 : Int32)) (pc := 51) hx hb dX10_works_51 (by decide) ?_
      refine lv_iload_n (pc := 52) hx hb dX10_works_52 rfl (lv_at hl 2 rfl) ?_
      refine lv_ishl (pc := 53) hx hb dX10_works_53 ?_
      refine lv_iconst (v := (-1 : Int32)) (pc := 54) hx hb dX10_works_54 (by decide) ?_
      refine lv_ixor (pc := 55) hx hb dX10_works_55 ?_
      refine lv_iand (pc := 56) hx hb dX10_works_56 ?_
      refine lv_aload_n (pc := 57) hx hb dX10_works_57 rfl (lv_at hl 0 rfl) ?_
      refine ge_RX10_19_X_0_0 (pc := 58) C hP dX10_works_58 ?_
      refine ge_RX10_107_X_0_3 (pc := 61) C hP dX10_works_61 ?_
      obtain ⟨q2, hq2, hf⟩ := pt_b hf
      have hPc : va_P D vwCl (w_N_A cA (sh a 14) (sh S 12) (sh a 4) (sh S 3)) H := hP.sub [14, 15, 16, 4] rfl
      have hDc : va_D A (w_N_A cA (sh a 14) (sh S 12) (sh a 4) (sh S 3)) := hD.sub [14, 15, 16, 4] (by decide) rfl
      refine prt_i (runU_V (pc := 64) (As := [.int (((S 2 0) &&& (((1 : Int32) <<< (x2 &&& 31)) ^^^ (-1 : Int32)))), .ref (a 4)]) (b := a 14) (rest := []) (ci := 2) (q0 := 0) C lk_RX10_213 (kX2_isSo l D cA (sh a 14) (sh a 4) hq2 H.size) ⟨Nat.le_of_ble_eq_true rfl, Nat.le_of_ble_eq_true rfl⟩ ⟨Nat.le_refl _, Nat.le_refl _⟩ hPc hDc rfl rfl rfl hl.1 rfl (Nat.le_of_ble_eq_true rfl) dX10_works_64) hP hD hS hA [14, 15, 16, 4] rfl (fun H locs hP hD hS => ?_)
      refine lv_if_eq (tgt := 76) (pc := 67) hx hb dX10_works_67 (by decide) (fun c3 => ?_) (fun c3 => ?_)
      · have hf := pt_t c3 hf
        exact wX10_works_76 C hA hg34 hf hP hD hS (lv_sub hl [0, 1, 2] rfl)
      · have hf := pt_f c3 hf
        refine lv_iload_n (pc := 70) hx hb dX10_works_70 rfl (lv_at hl 1 rfl) ?_
        refine lv_iconst (v := (1 : Int32)) (pc := 71) hx hb dX10_works_71 (by decide) ?_
        refine lv_iload_n (pc := 72) hx hb dX10_works_72 rfl (lv_at hl 2 rfl) ?_
        refine lv_ishl (pc := 73) hx hb dX10_works_73 ?_
        refine lv_ior (pc := 74) hx hb dX10_works_74 ?_
        refine lv_topi (fun v4 ev4 => ?_)
        have hf := pt_n ev4 hf
        refine lv_istore_n (lv' := [(1, .int v4), (0, .ref (a 0)), (2, .int x2)]) (pc := 75) hx hb dX10_works_75 rfl hl (by decide) rfl (fun ls hl => ?_)
        exact wX10_works_76 C hA hg34 hf hP hD hS (lv_sub hl [1, 0, 2] rfl)
set_option maxRecDepth 100000 in
set_option maxHeartbeats 4000000 in
theorem wX10_works_31 (C : Cx p s m args meth c D cA cX10_works 3 RX10 (some .int)) (hA : ∀ q : Nat, s.heap.size ≤ q → A q) {N : Nat} {z : Int32} {S : St} {y0 : Int32} (hf : fX10_works_j31 N S y0 = some z) {H : Heap} {locs : List Loc} {ls : Array Slot} (hP : va_P D vwCl (w_X cA a S) H) (hD : va_D A (w_X cA a S)) (hS : va_S A s.heap H locs) (hl : lv_has ls 3 [(0, .ref (a 0))]) : W p l e (rmU 3 72 0 0) s m args below meth c H locs 0 0 (MQ below (QI D A z (w_X cA a S)) args s 0 0 A) (F0 m 31 ls [.int y0]) := by
  obtain ⟨hx, hb, hml, hown, hts, hK, hN, hr, hlk⟩ := id C
  unfold fX10_works_j31 at hf
  refine lv_istore_n (lv' := [(1, .int y0), (0, .ref (a 0))]) (pc := 31) hx hb dX10_works_31 rfl hl (by decide) rfl (fun ls hl => ?_)
  refine lv_iconst (v := (0 : Int32)) (pc := 32) hx hb dX10_works_32 (by decide) ?_
  refine lv_istore_n (lv' := [(2, .int ((0 : Int32))), (1, .int y0), (0, .ref (a 0))]) (pc := 33) hx hb dX10_works_33 rfl hl (by decide) rfl (fun ls hl => ?_)
  exact wX10_works_34 C hA  _ y0 ((0 : Int32)) hf _ _ _ hP hD hS (lv_sub hl [2, 1, 0] rfl)
set_option maxRecDepth 100000 in
set_option maxHeartbeats 4000000 in
theorem wX10_works (C : Cx p s m args meth c D cA cX10_works 3 RX10 (some .int)) (hA : ∀ q : Nat, s.heap.size ≤ q → A q) {N : Nat} {z : Int32} {S : St} (hf : fX10_works N S = some z) {H : Heap} {locs : List Loc} {ls : Array Slot} (hP : va_P D vwCl (w_X cA a S) H) (hD : va_D A (w_X cA a S)) (hS : va_S A s.heap H locs) (hl : lv_has ls 3 [(0, .ref (a 0))]) : W p l e (rmU 3 72 0 0) s m args below meth c H locs 0 0 (MQ below (QI D A z (w_X cA a S)) args s 0 0 A) (F0 m 0 ls []) := by
  obtain ⟨hx, hb, hml, hown, hts, hK, hN, hr, hlk⟩ := id C
  unfold fX10_works at hf
  refine lv_aload_n (pc := 0) hx hb dX10_works_0 rfl (lv_at hl 0 rfl) ?_
  refine ge_RX10_40_X_0_0 (pc := 1) C hP dX10_works_1 ?_
  refine lv_aload_n (pc := 4) hx hb dX10_works_4 rfl (lv_at hl 0 rfl) ?_
  refine ge_RX10_19_X_0_0 (pc := 5) C hP dX10_works_5 ?_
  refine ge_RX10_117_X_0_3 (pc := 8) C hP dX10_works_8 ?_
  refine lv_aload_n (pc := 11) hx hb dX10_works_11 rfl (lv_at hl 0 rfl) ?_
  refine ge_RX10_19_X_0_0 (pc := 12) C hP dX10_works_12 ?_
  refine ge_RX10_107_X_0_3 (pc := 15) C hP dX10_works_15 ?_
  obtain ⟨q1, hq1, hf⟩ := pt_b hf
  have hPc : va_P D vwCl (w_N_A cA (sh a 14) (sh S 12) (sh a 4) (sh S 3)) H := hP.sub [14, 15, 16, 4] rfl
  have hDc : va_D A (w_N_A cA (sh a 14) (sh S 12) (sh a 4) (sh S 3)) := hD.sub [14, 15, 16, 4] (by decide) rfl
  refine prt_i (runU_V (pc := 18) (As := [.int ((S 2 0)), .ref (a 4)]) (b := a 14) (rest := []) (ci := 2) (q0 := 0) C lk_RX10_213 (kX2_isSo l D cA (sh a 14) (sh a 4) hq1 H.size) ⟨Nat.le_of_ble_eq_true rfl, Nat.le_of_ble_eq_true rfl⟩ ⟨Nat.le_refl _, Nat.le_refl _⟩ hPc hDc rfl rfl rfl hl.1 rfl (Nat.le_of_ble_eq_true rfl) dX10_works_18) hP hD hS hA [14, 15, 16, 4] rfl (fun H locs hP hD hS => ?_)
  refine lv_if_eq (tgt := 30) (pc := 21) hx hb dX10_works_21 (by decide) (fun c2 => ?_) (fun c2 => ?_)
  · have hf := pt_t c2 hf
    refine lv_iconst (v := (0 : Int32)) (pc := 30) hx hb dX10_works_30 (by decide) ?_
    exact wX10_works_31 C hA  hf hP hD hS (lv_sub hl [0] rfl)
  · have hf := pt_f c2 hf
    refine lv_sipush (v := (1024 : Int32)) (pc := 24) hx hb dX10_works_24 (by decide) ?_
    refine lv_goto (tgt := 31) (pc := 27) hx hb dX10_works_27 (by decide) ?_
    exact wX10_works_31 C hA  hf hP hD hS (lv_sub hl [0] rfl)
set_option maxRecDepth 100000 in
set_option maxHeartbeats 4000000 in
theorem kX10_works (l : Launch) (D : va_G) (cA : Nat → ClassId) (a : Nat → Nat) {N : Nat} {S : St} {z : Int32} (hf : fX10_works N S = some z) : CtI l yX10_works cX10_works 3 (some .int) 3 72 D cA (w_X cA a S) (w_X cA a S) [.ref (a 0)] z := by
  intro sz
  refine Met.ofW (cc := cX10_works) (maxL := 3) (ret := (some .int)) (by decide) rfl ?_
  intro p e s m args below meth c s₁ B hml hv
  obtain ⟨rfl, hsz, hP, hK, hD0⟩ := hv
  subst hsz
  have C : Cx p s m _ meth c D cA cX10_works 3 RX10 (some .int) := Cx.of B hml hK
  have hD := hD0.self (sz := s.heap.size)
  have hA : ∀ q : Nat, s.heap.size ≤ q → va_A (w_X cA a S) s.heap.size q := fun q h => Or.inr h
  have hS : va_S (va_A (w_X cA a S) s.heap.size) s.heap s.heap [] := va_S.rf
  have hl := lv_entry ([.ref (a 0)]) (n := 3) (Nat.le_of_ble_eq_true rfl)
  rw [lg_entry_eq]
  generalize (lg_sl ([.ref (a 0)]) ++ List.replicate (3 - (lg_sl ([.ref (a 0)])).length) Slot.unset).toArray = ls at hl ⊢
  exact wX10_works C hA hf hP hD hS hl
def fX10_costOf (N : Nat) (S : St) (p1 : Int32) (p2 : Int32) : Option (Int32) :=
  nm (((S 2 0) &&& (((1 : Int32) <<< (p1 &&& 31)) ^^^ (-1 : Int32)))) (fun v1 => Option.bind (fX3_sayable N v1 p2) (fun q2 => Option.bind (fX3_sayable N ((S 2 0)) p2) (fun q3 => some ((q2 - q3)))))
set_option maxRecDepth 100000 in
set_option maxHeartbeats 4000000 in
theorem wX10_costOf (C : Cx p s m args meth c D cA cX10_costOf 4 RX10 (some .int)) (hA : ∀ q : Nat, s.heap.size ≤ q → A q) {N : Nat} {z : Int32} {S : St} {p1 : Int32} {p2 : Int32} (hf : fX10_costOf N S p1 p2 = some z) {H : Heap} {locs : List Loc} {ls : Array Slot} (hP : va_P D vwCl (w_X cA a S) H) (hD : va_D A (w_X cA a S)) (hS : va_S A s.heap H locs) (hl : lv_has ls 4 [(0, .ref (a 0)), (1, .int p1), (2, .int p2)]) : W p l e (rmU 3 69 0 0) s m args below meth c H locs 0 0 (MQ below (QI D A z (w_X cA a S)) args s 0 0 A) (F0 m 0 ls []) := by
  obtain ⟨hx, hb, hml, hown, hts, hK, hN, hr, hlk⟩ := id C
  unfold fX10_costOf at hf
  refine lv_aload_n (pc := 0) hx hb dX10_costOf_0 rfl (lv_at hl 0 rfl) ?_
  refine ge_RX10_19_X_0_0 (pc := 1) C hP dX10_costOf_1 ?_
  refine ge_RX10_117_X_0_3 (pc := 4) C hP dX10_costOf_4 ?_
  refine lv_iconst (v := (1 : Int32)) (pc := 7) hx hb dX10_costOf_7 (by decide) ?_
  refine lv_iload_n (pc := 8) hx hb dX10_costOf_8 rfl (lv_at hl 1 rfl) ?_
  refine lv_ishl (pc := 9) hx hb dX10_costOf_9 ?_
  refine lv_iconst (v := (-1 : Int32)) (pc := 10) hx hb dX10_costOf_10 (by decide) ?_
  refine lv_ixor (pc := 11) hx hb dX10_costOf_11 ?_
  refine lv_iand (pc := 12) hx hb dX10_costOf_12 ?_
  refine lv_topi (fun v1 ev1 => ?_)
  have hf := pt_n ev1 hf
  refine lv_istore_n (lv' := [(3, .int v1), (0, .ref (a 0)), (1, .int p1), (2, .int p2)]) (pc := 13) hx hb dX10_costOf_13 rfl hl (by decide) rfl (fun ls hl => ?_)
  refine lv_iload_n (pc := 14) hx hb dX10_costOf_14 rfl (lv_at hl 0 rfl) ?_
  refine lv_iload_n (pc := 15) hx hb dX10_costOf_15 rfl (lv_at hl 3 rfl) ?_
  obtain ⟨q2, hq2, hf⟩ := pt_b hf
  have hPc : va_P D vwCl ([] : va_W) H := hP.sub [] rfl
  have hDc : va_D A ([] : va_W) := hD.sub [] (by decide) rfl
  refine prt_i (runU_S (pc := 16) (As := [.int v1, .int p2]) (rest := []) C lk_RX10_138 (kX3_sayable l D cA hq2 H.size) ⟨Nat.le_of_ble_eq_true rfl, Nat.le_of_ble_eq_true rfl⟩ ⟨Nat.le_refl _, Nat.le_refl _⟩ hPc hDc hl.1 rfl (Nat.le_of_ble_eq_true rfl) dX10_costOf_16) hP hD hS hA [] rfl (fun H locs hP hD hS => ?_)
  refine lv_aload_n (pc := 19) hx hb dX10_costOf_19 rfl (lv_at hl 1 rfl) ?_
  refine ge_RX10_19_X_0_0 (pc := 20) C hP dX10_costOf_20 ?_
  refine ge_RX10_117_X_0_3 (pc := 23) C hP dX10_costOf_23 ?_
  refine lv_iload_n (pc := 26) hx hb dX10_costOf_26 rfl (lv_at hl 3 rfl) ?_
  obtain ⟨q3, hq3, hf⟩ := pt_b hf
  have hPc : va_P D vwCl ([] : va_W) H := hP.sub [] rfl
  have hDc : va_D A ([] : va_W) := hD.sub [] (by decide) rfl
  refine prt_i (runU_S (pc := 27) (As := [.int ((S 2 0)), .int p2]) (rest := [.int q2]) C lk_RX10_138 (kX3_sayable l D cA hq3 H.size) ⟨Nat.le_of_ble_eq_true rfl, Nat.le_of_ble_eq_true rfl⟩ ⟨Nat.le_refl _, Nat.le_refl _⟩ hPc hDc hl.1 rfl (Nat.le_of_ble_eq_true rfl) dX10_costOf_27) hP hD hS hA [] rfl (fun H locs hP hD hS => ?_)
  refine lv_isub (pc := 30) hx hb dX10_costOf_30 ?_
  cases hf
  exact ret_i C hP hD hS dX10_costOf_31
set_option maxRecDepth 100000 in
set_option maxHeartbeats 4000000 in
theorem kX10_costOf (l : Launch) (D : va_G) (cA : Nat → ClassId) (a : Nat → Nat) {N : Nat} {S : St} {p1 : Int32} {p2 : Int32} {z : Int32} (hf : fX10_costOf N S p1 p2 = some z) : CtI l yX10_costOf cX10_costOf 4 (some .int) 3 69 D cA (w_X cA a S) (w_X cA a S) [.ref (a 0), .int p1, .int p2] z := by
  intro sz
  refine Met.ofW (cc := cX10_costOf) (maxL := 4) (ret := (some .int)) (by decide) rfl ?_
  intro p e s m args below meth c s₁ B hml hv
  obtain ⟨rfl, hsz, hP, hK, hD0⟩ := hv
  subst hsz
  have C : Cx p s m _ meth c D cA cX10_costOf 4 RX10 (some .int) := Cx.of B hml hK
  have hD := hD0.self (sz := s.heap.size)
  have hA : ∀ q : Nat, s.heap.size ≤ q → va_A (w_X cA a S) s.heap.size q := fun q h => Or.inr h
  have hS : va_S (va_A (w_X cA a S) s.heap.size) s.heap s.heap [] := va_S.rf
  have hl := lv_entry ([.ref (a 0), .int p1, .int p2]) (n := 4) (Nat.le_of_ble_eq_true rfl)
  rw [lg_entry_eq]
  generalize (lg_sl ([.ref (a 0), .int p1, .int p2]) ++ List.replicate (4 - (lg_sl ([.ref (a 0), .int p1, .int p2])).length) Slot.unset).toArray = ls at hl ⊢
  exact wX10_costOf C hA hf hP hD hS hl
theorem lk_RX10_217 : LkV RX10 217 yX10_costOf cX10_costOf 4 (some .int) 2 := ⟨⟨by decide +kernel, by decide +kernel, by decide +kernel, by decide +kernel, by decide +kernel, by decide +kernel⟩, by decide +kernel, by decide +kernel⟩
def fX10_costs (N : Nat) (S : St) (p1 : Int32) (p2 : Int32) : Option (Int32) :=
  Option.bind (fX10_isFigure N p1) (fun q1 => if q1 = 0 then (some ((-1 : Int32))) else (Option.bind (fX10_isWithin N p2 ((0 : Int32)) ((9999 : Int32))) (fun q3 => if q3 = 0 then (some ((-1 : Int32))) else (Option.bind (fX10_costOf N S p1 p2) (fun q5 => some q5)))))
set_option maxRecDepth 100000 in
set_option maxHeartbeats 4000000 in
theorem wX10_costs (C : Cx p s m args meth c D cA cX10_costs 3 RX10 (some .int)) (hA : ∀ q : Nat, s.heap.size ≤ q → A q) {N : Nat} {z : Int32} {S : St} {p1 : Int32} {p2 : Int32} (hf : fX10_costs N S p1 p2 = some z) {H : Heap} {locs : List Loc} {ls : Array Slot} (hP : va_P D vwCl (w_X cA a S) H) (hD : va_D A (w_X cA a S)) (hS : va_S A s.heap H locs) (hl : lv_has ls 3 [(0, .ref (a 0)), (1, .int p1), (2, .int p2)]) : W p l e (rmU 4 92 0 0) s m args below meth c H locs 0 0 (MQ below (QI D A z (w_X cA a S)) args s 0 0 A) (F0 m 0 ls []) := by
  obtain ⟨hx, hb, hml, hown, hts, hK, hN, hr, hlk⟩ := id C
  unfold fX10_costs at hf
  refine lv_iload_n (pc := 0) hx hb dX10_costs_0 rfl (lv_at hl 1 rfl) ?_
  obtain ⟨q1, hq1, hf⟩ := pt_b hf
  have hPc : va_P D vwCl ([] : va_W) H := hP.sub [] rfl
  have hDc : va_D A ([] : va_W) := hD.sub [] (by decide) rfl
  refine prt_i (runU_S (pc := 1) (As := [.int p1]) (rest := []) C lk_RX10_97 (kX10_isFigure l D cA hq1 H.size) ⟨Nat.le_of_ble_eq_true rfl, Nat.le_of_ble_eq_true rfl⟩ ⟨Nat.le_refl _, Nat.le_refl _⟩ hPc hDc hl.1 rfl (Nat.le_of_ble_eq_true rfl) dX10_costs_1) hP hD hS hA [] rfl (fun H locs hP hD hS => ?_)
  refine lv_if_eq (tgt := 18) (pc := 4) hx hb dX10_costs_4 (by decide) (fun c2 => ?_) (fun c2 => ?_)
  · have hf := pt_t c2 hf
    refine lv_iconst (v := (-1 : Int32)) (pc := 18) hx hb dX10_costs_18 (by decide) ?_
    cases hf
    exact ret_i C hP hD hS dX10_costs_19
  · have hf := pt_f c2 hf
    refine lv_iload_n (pc := 7) hx hb dX10_costs_7 rfl (lv_at hl 2 rfl) ?_
    refine lv_iconst (v := (0 : Int32)) (pc := 8) hx hb dX10_costs_8 (by decide) ?_
    refine lv_sipush (v := (9999 : Int32)) (pc := 9) hx hb dX10_costs_9 (by decide) ?_
    obtain ⟨q3, hq3, hf⟩ := pt_b hf
    have hPc : va_P D vwCl ([] : va_W) H := hP.sub [] rfl
    have hDc : va_D A ([] : va_W) := hD.sub [] (by decide) rfl
    refine prt_i (runU_S (pc := 12) (As := [.int p2, .int ((0 : Int32)), .int ((9999 : Int32))]) (rest := []) C lk_RX10_100 (kX10_isWithin l D cA hq3 H.size) ⟨Nat.le_of_ble_eq_true rfl, Nat.le_of_ble_eq_true rfl⟩ ⟨Nat.le_refl _, Nat.le_refl _⟩ hPc hDc hl.1 rfl (Nat.le_of_ble_eq_true rfl) dX10_costs_12) hP hD hS hA [] rfl (fun H locs hP hD hS => ?_)
    refine lv_if_ne (tgt := 20) (pc := 15) hx hb dX10_costs_15 (by decide) (fun c4 => ?_) (fun c4 => ?_)
    · have hf := pt_f c4 hf
      refine lv_aload_n (pc := 20) hx hb dX10_costs_20 rfl (lv_at hl 0 rfl) ?_
      refine lv_iload_n (pc := 21) hx hb dX10_costs_21 rfl (lv_at hl 1 rfl) ?_
      refine lv_iload_n (pc := 22) hx hb dX10_costs_22 rfl (lv_at hl 2 rfl) ?_
      obtain ⟨q5, hq5, hf⟩ := pt_b hf
      refine all_i (runU_V (pc := 23) (As := [.int p1, .int p2]) (b := a 0) (rest := []) (ci := 9) (q0 := 0) C lk_RX10_217 (kX10_costOf l D cA a hq5 H.size) ⟨Nat.le_of_ble_eq_true rfl, Nat.le_of_ble_eq_true rfl⟩ ⟨Nat.le_refl _, Nat.le_refl _⟩ hP hD rfl rfl rfl hl.1 rfl (Nat.le_of_ble_eq_true rfl) dX10_costs_23) hD hS hA (fun H locs hP hD hS => ?_)
      cases hf
      exact ret_i C hP hD hS dX10_costs_26
    · have hf := pt_t c4 hf
      refine lv_iconst (v := (-1 : Int32)) (pc := 18) hx hb dX10_costs_18 (by decide) ?_
      cases hf
      exact ret_i C hP hD hS dX10_costs_19
set_option maxRecDepth 100000 in
set_option maxHeartbeats 4000000 in
theorem kX10_costs (l : Launch) (D : va_G) (cA : Nat → ClassId) (a : Nat → Nat) {N : Nat} {S : St} {p1 : Int32} {p2 : Int32} {z : Int32} (hf : fX10_costs N S p1 p2 = some z) : CtI l yX10_costs cX10_costs 3 (some .int) 4 92 D cA (w_X cA a S) (w_X cA a S) [.ref (a 0), .int p1, .int p2] z := by
  intro sz
  refine Met.ofW (cc := cX10_costs) (maxL := 3) (ret := (some .int)) (by decide) rfl ?_
  intro p e s m args below meth c s₁ B hml hv
  obtain ⟨rfl, hsz, hP, hK, hD0⟩ := hv
  subst hsz
  have C : Cx p s m _ meth c D cA cX10_costs 3 RX10 (some .int) := Cx.of B hml hK
  have hD := hD0.self (sz := s.heap.size)
  have hA : ∀ q : Nat, s.heap.size ≤ q → va_A (w_X cA a S) s.heap.size q := fun q h => Or.inr h
  have hS : va_S (va_A (w_X cA a S) s.heap.size) s.heap s.heap [] := va_S.rf
  have hl := lv_entry ([.ref (a 0), .int p1, .int p2]) (n := 3) (Nat.le_of_ble_eq_true rfl)
  rw [lg_entry_eq]
  generalize (lg_sl ([.ref (a 0), .int p1, .int p2]) ++ List.replicate (3 - (lg_sl ([.ref (a 0), .int p1, .int p2])).length) Slot.unset).toArray = ls at hl ⊢
  exact wX10_costs C hA hf hP hD hS hl
def fX10_dearest_j71 (N : Nat) (S : St) (p1 : Int32) (p2 : Int32) (x3 : Int32) (x4 : Int32) : Option (Int32) :=
  if p2 = 0 then (some x3) else (some x4)
def fX10_dearest_j65 (N : Nat) (S : St) (p1 : Int32) (p2 : Int32) (g35 : Int32 × Int32 × Int32 → Option (Int32)) (x3 : Int32) (x4 : Int32) (x5 : Int32) : Option (Int32) :=
  g35 ((x3, x4, (x5 + 1)))
def fX10_dearest_b35 (N : Nat) (S : St) (p1 : Int32) (p2 : Int32) (g35 : Int32 × Int32 × Int32 → Option (Int32)) (x3 : Int32) (x4 : Int32) (x5 : Int32) : Option (Int32) :=
  if (10 : Int32) ≤ x5 then (fX10_dearest_j71 N S p1 p2 x3 x4) else (Option.bind (fX10_costOf N S x5 p1) (fun q2 => if q2 ≤ x4 then (fX10_dearest_j65 N S p1 p2 g35 x3 x4 x5) else (fX10_dearest_j65 N S p1 p2 g35 x5 q2 x5)))
def fX10_dearest_l35 (N : Nat) (S : St) (p1 : Int32) (p2 : Int32) (k : Nat) (q : Int32 × Int32 × Int32) : Option (Int32) := lpN (fun g q => fX10_dearest_b35 N S p1 p2 g q.1 q.2.1 q.2.2) k q
def fX10_dearest (N : Nat) (S : St) (p1 : Int32) (p2 : Int32) : Option (Int32) :=
  Option.bind (fX10_isWithin N p1 ((0 : Int32)) ((9999 : Int32))) (fun q1 => if q1 = 0 then (some ((-1 : Int32))) else (Option.bind (fX10_isWithin N p2 ((0 : Int32)) ((1 : Int32))) (fun q3 => if q3 = 0 then (some ((-1 : Int32))) else (Option.bind (fX10_costOf N S ((0 : Int32)) p1) (fun q5 => fX10_dearest_l35 N S p1 p2 N (((0 : Int32), q5, (1 : Int32))))))))
set_option maxRecDepth 100000 in
set_option maxHeartbeats 4000000 in
theorem wX10_dearest_71 (C : Cx p s m args meth c D cA cX10_dearest 7 RX10 (some .int)) (hA : ∀ q : Nat, s.heap.size ≤ q → A q) {N : Nat} {z : Int32} {S : St} {p1 : Int32} {p2 : Int32} {x3 : Int32} {x4 : Int32} (hf : fX10_dearest_j71 N S p1 p2 x3 x4 = some z) {H : Heap} {locs : List Loc} {ls : Array Slot} (hP : va_P D vwCl (w_X cA a S) H) (hD : va_D A (w_X cA a S)) (hS : va_S A s.heap H locs) (hl : lv_has ls 7 [(2, .int p2), (3, .int x3), (4, .int x4)]) : W p l e (rmU 4 92 0 0) s m args below meth c H locs 0 0 (MQ below (QI D A z (w_X cA a S)) args s 0 0 A) (F0 m 71 ls []) := by
  obtain ⟨hx, hb, hml, hown, hts, hK, hN, hr, hlk⟩ := id C
  unfold fX10_dearest_j71 at hf
  refine lv_iload_n (pc := 71) hx hb dX10_dearest_71 rfl (lv_at hl 0 rfl) ?_
  refine lv_if_ne (tgt := 79) (pc := 72) hx hb dX10_dearest_72 (by decide) (fun c1 => ?_) (fun c1 => ?_)
  · have hf := pt_f c1 hf
    refine lv_iload (pc := 79) hx hb dX10_dearest_79 (lv_at hl 2 rfl) ?_
    cases hf
    exact ret_i C hP hD hS dX10_dearest_81
  · have hf := pt_t c1 hf
    refine lv_iload_n (pc := 75) hx hb dX10_dearest_75 rfl (lv_at hl 1 rfl) ?_
    refine lv_goto (tgt := 81) (pc := 76) hx hb dX10_dearest_76 (by decide) ?_
    cases hf
    exact ret_i C hP hD hS dX10_dearest_81
set_option maxRecDepth 100000 in
set_option maxHeartbeats 4000000 in
theorem wX10_dearest_65 (C : Cx p s m args meth c D cA cX10_dearest 7 RX10 (some .int)) (hA : ∀ q : Nat, s.heap.size ≤ q → A q) {N : Nat} {z : Int32} {S : St} {p1 : Int32} {p2 : Int32} {g35 : Int32 × Int32 × Int32 → Option (Int32)} (hg35 : ∀ (x3 : Int32) (x4 : Int32) (x5 : Int32), g35 (x3, x4, x5) = some z → ∀ (H : Heap) (locs : List Loc) (ls : Array Slot), va_P D vwCl (w_X cA a S) H → va_D A (w_X cA a S) → va_S A s.heap H locs → lv_has ls 7 [(0, .ref (a 0)), (1, .int p1), (2, .int p2), (3, .int x3), (4, .int x4), (5, .int x5)] → W p l e (rmU 4 92 0 0) s m args below meth c H locs 0 0 (MQ below (QI D A z (w_X cA a S)) args s 0 0 A) (F0 m 35 ls [])) {x3 : Int32} {x4 : Int32} {x5 : Int32} (hf : fX10_dearest_j65 N S p1 p2 g35 x3 x4 x5 = some z) {H : Heap} {locs : List Loc} {ls : Array Slot} (hP : va_P D vwCl (w_X cA a S) H) (hD : va_D A (w_X cA a S)) (hS : va_S A s.heap H locs) (hl : lv_has ls 7 [(0, .ref (a 0)), (1, .int p1), (2, .int p2), (3, .int x3), (4, .int x4), (5, .int x5)]) : W p l e (rmU 4 92 0 0) s m args below meth c H locs 0 0 (MQ below (QI D A z (w_X cA a S)) args s 0 0 A) (F0 m 65 ls []) := by
  obtain ⟨hx, hb, hml, hown, hts, hK, hN, hr, hlk⟩ := id C
  unfold fX10_dearest_j65 at hf
  refine lv_iinc (v := (x5 + 1)) (lv' := [(5, .int ((x5 + 1))), (0, .ref (a 0)), (1, .int p1), (2, .int p2), (3, .int x3), (4, .int x4)]) (pc := 65) hx hb dX10_dearest_65 hl (k := 5) rfl (by rfl) (by decide) rfl (fun ls hl => ?_)
  refine lv_goto (tgt := 35) (pc := 68) hx hb dX10_dearest_68 (by decide) ?_
  exact hg35 x3 x4 ((x5 + 1)) hf _ _ _ hP hD hS (lv_sub hl [1, 2, 3, 4, 5, 0] rfl)
set_option maxRecDepth 100000 in
set_option maxHeartbeats 4000000 in
theorem wX10_dearest_35 (C : Cx p s m args meth c D cA cX10_dearest 7 RX10 (some .int)) (hA : ∀ q : Nat, s.heap.size ≤ q → A q) {N : Nat} {z : Int32} {S : St} {p1 : Int32} {p2 : Int32} : ∀ (k : Nat) (x3 : Int32) (x4 : Int32) (x5 : Int32), fX10_dearest_l35 N S p1 p2 k (x3, x4, x5) = some z → ∀ (H : Heap) (locs : List Loc) (ls : Array Slot), va_P D vwCl (w_X cA a S) H → va_D A (w_X cA a S) → va_S A s.heap H locs → lv_has ls 7 [(0, .ref (a 0)), (1, .int p1), (2, .int p2), (3, .int x3), (4, .int x4), (5, .int x5)] → W p l e (rmU 4 92 0 0) s m args below meth c H locs 0 0 (MQ below (QI D A z (w_X cA a S)) args s 0 0 A) (F0 m 35 ls []) := by
  obtain ⟨hx, hb, hml, hown, hts, hK, hN, hr, hlk⟩ := id C
  intro k
  induction k with
  | zero =>
    intro x3 x4 x5 hf
    have hf : (none : Option (Int32)) = some z := hf
    cases hf
  | succ k hg35 =>
    intro x3 x4 x5 hf H locs ls hP hD hS hl
    have hf : fX10_dearest_b35 N S p1 p2 (fX10_dearest_l35 N S p1 p2 k) x3 x4 x5 = some z := hf
    unfold fX10_dearest_b35 at hf
    refine lv_iload (pc := 35) hx hb dX10_dearest_35 (lv_at hl 5 rfl) ?_
    refine lv_bipush (v := (10 : Int32)) (pc := 37) hx hb dX10_dearest_37 (by decide) ?_
    refine lv_icmp_ge (tgt := 71) (pc := 39) hx hb dX10_dearest_39 (by decide) (fun c1 => ?_) (fun c1 => ?_)
    · have hf := pt_t c1 hf
      exact wX10_dearest_71 C hA  hf hP hD hS (lv_sub hl [2, 3, 4] rfl)
    · have hf := pt_f c1 hf
      refine lv_aload_n (pc := 42) hx hb dX10_dearest_42 rfl (lv_at hl 0 rfl) ?_
      refine lv_iload (pc := 43) hx hb dX10_dearest_43 (lv_at hl 5 rfl) ?_
      refine lv_iload_n (pc := 45) hx hb dX10_dearest_45 rfl (lv_at hl 1 rfl) ?_
      obtain ⟨q2, hq2, hf⟩ := pt_b hf
      refine all_i (runU_V (pc := 46) (As := [.int x5, .int p1]) (b := a 0) (rest := []) (ci := 9) (q0 := 0) C lk_RX10_217 (kX10_costOf l D cA a hq2 H.size) ⟨Nat.le_of_ble_eq_true rfl, Nat.le_of_ble_eq_true rfl⟩ ⟨Nat.le_refl _, Nat.le_refl _⟩ hP hD rfl rfl rfl hl.1 rfl (Nat.le_of_ble_eq_true rfl) dX10_dearest_46) hD hS hA (fun H locs hP hD hS => ?_)
      refine lv_istore (lv' := [(6, .int q2), (0, .ref (a 0)), (1, .int p1), (2, .int p2), (3, .int x3), (4, .int x4), (5, .int x5)]) (pc := 49) hx hb dX10_dearest_49 hl (by decide) rfl (fun ls hl => ?_)
      refine lv_iload (pc := 51) hx hb dX10_dearest_51 (lv_at hl 0 rfl) ?_
      refine lv_iload (pc := 53) hx hb dX10_dearest_53 (lv_at hl 5 rfl) ?_
      refine lv_icmp_le (tgt := 65) (pc := 55) hx hb dX10_dearest_55 (by decide) (fun c3 => ?_) (fun c3 => ?_)
      · have hf := pt_t c3 hf
        exact wX10_dearest_65 C hA hg35 hf hP hD hS (lv_sub hl [1, 2, 3, 4, 5, 6] rfl)
      · have hf := pt_f c3 hf
        refine lv_iload (pc := 58) hx hb dX10_dearest_58 (lv_at hl 6 rfl) ?_
        refine lv_istore_n (lv' := [(3, .int x5), (6, .int q2), (0, .ref (a 0)), (1, .int p1), (2, .int p2), (4, .int x4), (5, .int x5)]) (pc := 60) hx hb dX10_dearest_60 rfl hl (by decide) rfl (fun ls hl => ?_)
        refine lv_iload (pc := 61) hx hb dX10_dearest_61 (lv_at hl 1 rfl) ?_
        refine lv_istore (lv' := [(4, .int q2), (3, .int x5), (6, .int q2), (0, .ref (a 0)), (1, .int p1), (2, .int p2), (5, .int x5)]) (pc := 63) hx hb dX10_dearest_63 hl (by decide) rfl (fun ls hl => ?_)
        exact wX10_dearest_65 C hA hg35 hf hP hD hS (lv_sub hl [3, 4, 5, 1, 0, 6] rfl)
set_option maxRecDepth 100000 in
set_option maxHeartbeats 4000000 in
theorem wX10_dearest (C : Cx p s m args meth c D cA cX10_dearest 7 RX10 (some .int)) (hA : ∀ q : Nat, s.heap.size ≤ q → A q) {N : Nat} {z : Int32} {S : St} {p1 : Int32} {p2 : Int32} (hf : fX10_dearest N S p1 p2 = some z) {H : Heap} {locs : List Loc} {ls : Array Slot} (hP : va_P D vwCl (w_X cA a S) H) (hD : va_D A (w_X cA a S)) (hS : va_S A s.heap H locs) (hl : lv_has ls 7 [(0, .ref (a 0)), (1, .int p1), (2, .int p2)]) : W p l e (rmU 4 92 0 0) s m args below meth c H locs 0 0 (MQ below (QI D A z (w_X cA a S)) args s 0 0 A) (F0 m 0 ls []) := by
  obtain ⟨hx, hb, hml, hown, hts, hK, hN, hr, hlk⟩ := id C
  unfold fX10_dearest at hf
  refine lv_iload_n (pc := 0) hx hb dX10_dearest_0 rfl (lv_at hl 1 rfl) ?_
  refine lv_iconst (v := (0 : Int32)) (pc := 1) hx hb dX10_dearest_1 (by decide) ?_
  refine lv_sipush (v := (9999 : Int32)) (pc := 2) hx hb dX10_dearest_2 (by decide) ?_
  obtain ⟨q1, hq1, hf⟩ := pt_b hf
  have hPc : va_P D vwCl ([] : va_W) H := hP.sub [] rfl
  have hDc : va_D A ([] : va_W) := hD.sub [] (by decide) rfl
  refine prt_i (runU_S (pc := 5) (As := [.int p1, .int ((0 : Int32)), .int ((9999 : Int32))]) (rest := []) C lk_RX10_100 (kX10_isWithin l D cA hq1 H.size) ⟨Nat.le_of_ble_eq_true rfl, Nat.le_of_ble_eq_true rfl⟩ ⟨Nat.le_refl _, Nat.le_refl _⟩ hPc hDc hl.1 rfl (Nat.le_of_ble_eq_true rfl) dX10_dearest_5) hP hD hS hA [] rfl (fun H locs hP hD hS => ?_)
  refine lv_if_eq (tgt := 20) (pc := 8) hx hb dX10_dearest_8 (by decide) (fun c2 => ?_) (fun c2 => ?_)
  · have hf := pt_t c2 hf
    refine lv_iconst (v := (-1 : Int32)) (pc := 20) hx hb dX10_dearest_20 (by decide) ?_
    cases hf
    exact ret_i C hP hD hS dX10_dearest_21
  · have hf := pt_f c2 hf
    refine lv_iload_n (pc := 11) hx hb dX10_dearest_11 rfl (lv_at hl 2 rfl) ?_
    refine lv_iconst (v := (0 : Int32)) (pc := 12) hx hb dX10_dearest_12 (by decide) ?_
    refine lv_iconst (v := (1 : Int32)) (pc := 13) hx hb dX10_dearest_13 (by decide) ?_
    obtain ⟨q3, hq3, hf⟩ := pt_b hf
    have hPc : va_P D vwCl ([] : va_W) H := hP.sub [] rfl
    have hDc : va_D A ([] : va_W) := hD.sub [] (by decide) rfl
    refine prt_i (runU_S (pc := 14) (As := [.int p2, .int ((0 : Int32)), .int ((1 : Int32))]) (rest := []) C lk_RX10_100 (kX10_isWithin l D cA hq3 H.size) ⟨Nat.le_of_ble_eq_true rfl, Nat.le_of_ble_eq_true rfl⟩ ⟨Nat.le_refl _, Nat.le_refl _⟩ hPc hDc hl.1 rfl (Nat.le_of_ble_eq_true rfl) dX10_dearest_14) hP hD hS hA [] rfl (fun H locs hP hD hS => ?_)
    refine lv_if_ne (tgt := 22) (pc := 17) hx hb dX10_dearest_17 (by decide) (fun c4 => ?_) (fun c4 => ?_)
    · have hf := pt_f c4 hf
      refine lv_iconst (v := (0 : Int32)) (pc := 22) hx hb dX10_dearest_22 (by decide) ?_
      refine lv_istore_n (lv' := [(3, .int ((0 : Int32))), (0, .ref (a 0)), (1, .int p1), (2, .int p2)]) (pc := 23) hx hb dX10_dearest_23 rfl hl (by decide) rfl (fun ls hl => ?_)
      refine lv_aload_n (pc := 24) hx hb dX10_dearest_24 rfl (lv_at hl 1 rfl) ?_
      refine lv_iconst (v := (0 : Int32)) (pc := 25) hx hb dX10_dearest_25 (by decide) ?_
      refine lv_iload_n (pc := 26) hx hb dX10_dearest_26 rfl (lv_at hl 2 rfl) ?_
      obtain ⟨q5, hq5, hf⟩ := pt_b hf
      refine all_i (runU_V (pc := 27) (As := [.int ((0 : Int32)), .int p1]) (b := a 0) (rest := []) (ci := 9) (q0 := 0) C lk_RX10_217 (kX10_costOf l D cA a hq5 H.size) ⟨Nat.le_of_ble_eq_true rfl, Nat.le_of_ble_eq_true rfl⟩ ⟨Nat.le_refl _, Nat.le_refl _⟩ hP hD rfl rfl rfl hl.1 rfl (Nat.le_of_ble_eq_true rfl) dX10_dearest_27) hD hS hA (fun H locs hP hD hS => ?_)
      refine lv_istore (lv' := [(4, .int q5), (3, .int ((0 : Int32))), (0, .ref (a 0)), (1, .int p1), (2, .int p2)]) (pc := 30) hx hb dX10_dearest_30 hl (by decide) rfl (fun ls hl => ?_)
      refine lv_iconst (v := (1 : Int32)) (pc := 32) hx hb dX10_dearest_32 (by decide) ?_
      refine lv_istore (lv' := [(5, .int ((1 : Int32))), (4, .int q5), (3, .int ((0 : Int32))), (0, .ref (a 0)), (1, .int p1), (2, .int p2)]) (pc := 33) hx hb dX10_dearest_33 hl (by decide) rfl (fun ls hl => ?_)
      exact wX10_dearest_35 C hA  _ ((0 : Int32)) q5 ((1 : Int32)) hf _ _ _ hP hD hS (lv_sub hl [3, 4, 5, 2, 1, 0] rfl)
    · have hf := pt_t c4 hf
      refine lv_iconst (v := (-1 : Int32)) (pc := 20) hx hb dX10_dearest_20 (by decide) ?_
      cases hf
      exact ret_i C hP hD hS dX10_dearest_21
set_option maxRecDepth 100000 in
set_option maxHeartbeats 4000000 in
theorem kX10_dearest (l : Launch) (D : va_G) (cA : Nat → ClassId) (a : Nat → Nat) {N : Nat} {S : St} {p1 : Int32} {p2 : Int32} {z : Int32} (hf : fX10_dearest N S p1 p2 = some z) : CtI l yX10_dearest cX10_dearest 7 (some .int) 4 92 D cA (w_X cA a S) (w_X cA a S) [.ref (a 0), .int p1, .int p2] z := by
  intro sz
  refine Met.ofW (cc := cX10_dearest) (maxL := 7) (ret := (some .int)) (by decide) rfl ?_
  intro p e s m args below meth c s₁ B hml hv
  obtain ⟨rfl, hsz, hP, hK, hD0⟩ := hv
  subst hsz
  have C : Cx p s m _ meth c D cA cX10_dearest 7 RX10 (some .int) := Cx.of B hml hK
  have hD := hD0.self (sz := s.heap.size)
  have hA : ∀ q : Nat, s.heap.size ≤ q → va_A (w_X cA a S) s.heap.size q := fun q h => Or.inr h
  have hS : va_S (va_A (w_X cA a S) s.heap.size) s.heap s.heap [] := va_S.rf
  have hl := lv_entry ([.ref (a 0), .int p1, .int p2]) (n := 7) (Nat.le_of_ble_eq_true rfl)
  rw [lg_entry_eq]
  generalize (lg_sl ([.ref (a 0), .int p1, .int p2]) ++ List.replicate (7 - (lg_sl ([.ref (a 0), .int p1, .int p2])).length) Slot.unset).toArray = ls at hl ⊢
  exact wX10_dearest C hA hf hP hD hS hl
def fX10_bargain (N : Nat) (S : St) (p1 : Int32) (p2 : Int32) (p3 : Int32) : Option (Int32) :=
  Option.bind (fX10_isFigure N p1) (fun q1 => if q1 = 0 then (some ((-1 : Int32))) else (Option.bind (fX10_isFigure N p2) (fun q3 => if q3 = 0 then (some ((-1 : Int32))) else (if p1 = p2 then (some ((-1 : Int32))) else (Option.bind (fX10_isWithin N p3 ((0 : Int32)) ((9999 : Int32))) (fun q6 => if q6 = 0 then (some ((-1 : Int32))) else (nm ((((S 2 0) &&& (((1 : Int32) <<< (p1 &&& 31)) ^^^ (-1 : Int32))) &&& (((1 : Int32) <<< (p2 &&& 31)) ^^^ (-1 : Int32)))) (fun v8 => Option.bind (fX3_sayable N ((v8 ||| ((1 : Int32) <<< (p1 &&& 31)))) p3) (fun q9 => Option.bind (fX3_sayable N ((v8 ||| ((1 : Int32) <<< (p2 &&& 31)))) p3) (fun q10 => some (((q10 - q9) + (10000 : Int32)))))))))))))
set_option maxRecDepth 100000 in
set_option maxHeartbeats 4000000 in
theorem wX10_bargain (C : Cx p s m args meth c D cA cX10_bargain 7 RX10 (some .int)) (hA : ∀ q : Nat, s.heap.size ≤ q → A q) {N : Nat} {z : Int32} {S : St} {p1 : Int32} {p2 : Int32} {p3 : Int32} (hf : fX10_bargain N S p1 p2 p3 = some z) {H : Heap} {locs : List Loc} {ls : Array Slot} (hP : va_P D vwCl (w_X cA a S) H) (hD : va_D A (w_X cA a S)) (hS : va_S A s.heap H locs) (hl : lv_has ls 7 [(0, .ref (a 0)), (1, .int p1), (2, .int p2), (3, .int p3)]) : W p l e (rmU 3 69 0 0) s m args below meth c H locs 0 0 (MQ below (QI D A z (w_X cA a S)) args s 0 0 A) (F0 m 0 ls []) := by
  obtain ⟨hx, hb, hml, hown, hts, hK, hN, hr, hlk⟩ := id C
  unfold fX10_bargain at hf
  refine lv_iload_n (pc := 0) hx hb dX10_bargain_0 rfl (lv_at hl 1 rfl) ?_
  obtain ⟨q1, hq1, hf⟩ := pt_b hf
  have hPc : va_P D vwCl ([] : va_W) H := hP.sub [] rfl
  have hDc : va_D A ([] : va_W) := hD.sub [] (by decide) rfl
  refine prt_i (runU_S (pc := 1) (As := [.int p1]) (rest := []) C lk_RX10_97 (kX10_isFigure l D cA hq1 H.size) ⟨Nat.le_of_ble_eq_true rfl, Nat.le_of_ble_eq_true rfl⟩ ⟨Nat.le_refl _, Nat.le_refl _⟩ hPc hDc hl.1 rfl (Nat.le_of_ble_eq_true rfl) dX10_bargain_1) hP hD hS hA [] rfl (fun H locs hP hD hS => ?_)
  refine lv_if_eq (tgt := 30) (pc := 4) hx hb dX10_bargain_4 (by decide) (fun c2 => ?_) (fun c2 => ?_)
  · have hf := pt_t c2 hf
    refine lv_iconst (v := (-1 : Int32)) (pc := 30) hx hb dX10_bargain_30 (by decide) ?_
    cases hf
    exact ret_i C hP hD hS dX10_bargain_31
  · have hf := pt_f c2 hf
    refine lv_iload_n (pc := 7) hx hb dX10_bargain_7 rfl (lv_at hl 2 rfl) ?_
    obtain ⟨q3, hq3, hf⟩ := pt_b hf
    have hPc : va_P D vwCl ([] : va_W) H := hP.sub [] rfl
    have hDc : va_D A ([] : va_W) := hD.sub [] (by decide) rfl
    refine prt_i (runU_S (pc := 8) (As := [.int p2]) (rest := []) C lk_RX10_97 (kX10_isFigure l D cA hq3 H.size) ⟨Nat.le_of_ble_eq_true rfl, Nat.le_of_ble_eq_true rfl⟩ ⟨Nat.le_refl _, Nat.le_refl _⟩ hPc hDc hl.1 rfl (Nat.le_of_ble_eq_true rfl) dX10_bargain_8) hP hD hS hA [] rfl (fun H locs hP hD hS => ?_)
    refine lv_if_eq (tgt := 30) (pc := 11) hx hb dX10_bargain_11 (by decide) (fun c4 => ?_) (fun c4 => ?_)
    · have hf := pt_t c4 hf
      refine lv_iconst (v := (-1 : Int32)) (pc := 30) hx hb dX10_bargain_30 (by decide) ?_
      cases hf
      exact ret_i C hP hD hS dX10_bargain_31
    · have hf := pt_f c4 hf
      refine lv_iload_n (pc := 14) hx hb dX10_bargain_14 rfl (lv_at hl 1 rfl) ?_
      refine lv_iload_n (pc := 15) hx hb dX10_bargain_15 rfl (lv_at hl 2 rfl) ?_
      refine lv_icmp_eq (tgt := 30) (pc := 16) hx hb dX10_bargain_16 (by decide) (fun c5 => ?_) (fun c5 => ?_)
      · have hf := pt_t c5 hf
        refine lv_iconst (v := (-1 : Int32)) (pc := 30) hx hb dX10_bargain_30 (by decide) ?_
        cases hf
        exact ret_i C hP hD hS dX10_bargain_31
      · have hf := pt_f c5 hf
        refine lv_iload_n (pc := 19) hx hb dX10_bargain_19 rfl (lv_at hl 3 rfl) ?_
        refine lv_iconst (v := (0 : Int32)) (pc := 20) hx hb dX10_bargain_20 (by decide) ?_
        refine lv_sipush (v := (9999 : Int32)) (pc := 21) hx hb dX10_bargain_21 (by decide) ?_
        obtain ⟨q6, hq6, hf⟩ := pt_b hf
        have hPc : va_P D vwCl ([] : va_W) H := hP.sub [] rfl
        have hDc : va_D A ([] : va_W) := hD.sub [] (by decide) rfl
        refine prt_i (runU_S (pc := 24) (As := [.int p3, .int ((0 : Int32)), .int ((9999 : Int32))]) (rest := []) C lk_RX10_100 (kX10_isWithin l D cA hq6 H.size) ⟨Nat.le_of_ble_eq_true rfl, Nat.le_of_ble_eq_true rfl⟩ ⟨Nat.le_refl _, Nat.le_refl _⟩ hPc hDc hl.1 rfl (Nat.le_of_ble_eq_true rfl) dX10_bargain_24) hP hD hS hA [] rfl (fun H locs hP hD hS => ?_)
        refine lv_if_ne (tgt := 32) (pc := 27) hx hb dX10_bargain_27 (by decide) (fun c7 => ?_) (fun c7 => ?_)
        · have hf := pt_f c7 hf
          refine lv_aload_n (pc := 32) hx hb dX10_bargain_32 rfl (lv_at hl 0 rfl) ?_
          refine ge_RX10_19_X_0_0 (pc := 33) C hP dX10_bargain_33 ?_
          refine ge_RX10_117_X_0_3 (pc := 36) C hP dX10_bargain_36 ?_
          refine lv_iconst (v := (1 : Int32)) (pc := 39) hx hb dX10_bargain_39 (by decide) ?_
          refine lv_iload_n (pc := 40) hx hb dX10_bargain_40 rfl (lv_at hl 1 rfl) ?_
          refine lv_ishl (pc := 41) hx hb dX10_bargain_41 ?_
          refine lv_iconst (v := (-1 : Int32)) (pc := 42) hx hb dX10_bargain_42 (by decide) ?_
          refine lv_ixor (pc := 43) hx hb dX10_bargain_43 ?_
          refine lv_iand (pc := 44) hx hb dX10_bargain_44 ?_
          refine lv_iconst (v := (1 : Int32)) (pc := 45) hx hb dX10_bargain_45 (by decide) ?_
          refine lv_iload_n (pc := 46) hx hb dX10_bargain_46 rfl (lv_at hl 2 rfl) ?_
          refine lv_ishl (pc := 47) hx hb dX10_bargain_47 ?_
          refine lv_iconst (v := (-1 : Int32)) (pc := 48) hx hb dX10_bargain_48 (by decide) ?_
          refine lv_ixor (pc := 49) hx hb dX10_bargain_49 ?_
          refine lv_iand (pc := 50) hx hb dX10_bargain_50 ?_
          refine lv_topi (fun v8 ev8 => ?_)
          have hf := pt_n ev8 hf
          refine lv_istore (lv' := [(4, .int v8), (0, .ref (a 0)), (1, .int p1), (2, .int p2), (3, .int p3)]) (pc := 51) hx hb dX10_bargain_51 hl (by decide) rfl (fun ls hl => ?_)
          refine lv_iload (pc := 53) hx hb dX10_bargain_53 (lv_at hl 0 rfl) ?_
          refine lv_iconst (v := (1 : Int32)) (pc := 55) hx hb dX10_bargain_55 (by decide) ?_
          refine lv_iload_n (pc := 56) hx hb dX10_bargain_56 rfl (lv_at hl 2 rfl) ?_
          refine lv_ishl (pc := 57) hx hb dX10_bargain_57 ?_
          refine lv_ior (pc := 58) hx hb dX10_bargain_58 ?_
          refine lv_iload_n (pc := 59) hx hb dX10_bargain_59 rfl (lv_at hl 4 rfl) ?_
          obtain ⟨q9, hq9, hf⟩ := pt_b hf
          have hPc : va_P D vwCl ([] : va_W) H := hP.sub [] rfl
          have hDc : va_D A ([] : va_W) := hD.sub [] (by decide) rfl
          refine prt_i (runU_S (pc := 60) (As := [.int ((v8 ||| ((1 : Int32) <<< (p1 &&& 31)))), .int p3]) (rest := []) C lk_RX10_138 (kX3_sayable l D cA hq9 H.size) ⟨Nat.le_of_ble_eq_true rfl, Nat.le_of_ble_eq_true rfl⟩ ⟨Nat.le_refl _, Nat.le_refl _⟩ hPc hDc hl.1 rfl (Nat.le_of_ble_eq_true rfl) dX10_bargain_60) hP hD hS hA [] rfl (fun H locs hP hD hS => ?_)
          refine lv_istore (lv' := [(5, .int q9), (4, .int v8), (0, .ref (a 0)), (1, .int p1), (2, .int p2), (3, .int p3)]) (pc := 63) hx hb dX10_bargain_63 hl (by decide) rfl (fun ls hl => ?_)
          refine lv_iload (pc := 65) hx hb dX10_bargain_65 (lv_at hl 1 rfl) ?_
          refine lv_iconst (v := (1 : Int32)) (pc := 67) hx hb dX10_bargain_67 (by decide) ?_
          refine lv_iload_n (pc := 68) hx hb dX10_bargain_68 rfl (lv_at hl 4 rfl) ?_
          refine lv_ishl (pc := 69) hx hb dX10_bargain_69 ?_
          refine lv_ior (pc := 70) hx hb dX10_bargain_70 ?_
          refine lv_iload_n (pc := 71) hx hb dX10_bargain_71 rfl (lv_at hl 5 rfl) ?_
          obtain ⟨q10, hq10, hf⟩ := pt_b hf
          have hPc : va_P D vwCl ([] : va_W) H := hP.sub [] rfl
          have hDc : va_D A ([] : va_W) := hD.sub [] (by decide) rfl
          refine prt_i (runU_S (pc := 72) (As := [.int ((v8 ||| ((1 : Int32) <<< (p2 &&& 31)))), .int p3]) (rest := []) C lk_RX10_138 (kX3_sayable l D cA hq10 H.size) ⟨Nat.le_of_ble_eq_true rfl, Nat.le_of_ble_eq_true rfl⟩ ⟨Nat.le_refl _, Nat.le_refl _⟩ hPc hDc hl.1 rfl (Nat.le_of_ble_eq_true rfl) dX10_bargain_72) hP hD hS hA [] rfl (fun H locs hP hD hS => ?_)
          refine lv_istore (lv' := [(6, .int q10), (5, .int q9), (4, .int v8), (0, .ref (a 0)), (1, .int p1), (2, .int p2), (3, .int p3)]) (pc := 75) hx hb dX10_bargain_75 hl (by decide) rfl (fun ls hl => ?_)
          refine lv_iload (pc := 77) hx hb dX10_bargain_77 (lv_at hl 0 rfl) ?_
          refine lv_iload (pc := 79) hx hb dX10_bargain_79 (lv_at hl 1 rfl) ?_
          refine lv_isub (pc := 81) hx hb dX10_bargain_81 ?_
          refine lv_sipush (v := (10000 : Int32)) (pc := 82) hx hb dX10_bargain_82 (by decide) ?_
          refine lv_iadd (pc := 85) hx hb dX10_bargain_85 ?_
          cases hf
          exact ret_i C hP hD hS dX10_bargain_86
        · have hf := pt_t c7 hf
          refine lv_iconst (v := (-1 : Int32)) (pc := 30) hx hb dX10_bargain_30 (by decide) ?_
          cases hf
          exact ret_i C hP hD hS dX10_bargain_31
set_option maxRecDepth 100000 in
set_option maxHeartbeats 4000000 in
theorem kX10_bargain (l : Launch) (D : va_G) (cA : Nat → ClassId) (a : Nat → Nat) {N : Nat} {S : St} {p1 : Int32} {p2 : Int32} {p3 : Int32} {z : Int32} (hf : fX10_bargain N S p1 p2 p3 = some z) : CtI l yX10_bargain cX10_bargain 7 (some .int) 3 69 D cA (w_X cA a S) (w_X cA a S) [.ref (a 0), .int p1, .int p2, .int p3] z := by
  intro sz
  refine Met.ofW (cc := cX10_bargain) (maxL := 7) (ret := (some .int)) (by decide) rfl ?_
  intro p e s m args below meth c s₁ B hml hv
  obtain ⟨rfl, hsz, hP, hK, hD0⟩ := hv
  subst hsz
  have C : Cx p s m _ meth c D cA cX10_bargain 7 RX10 (some .int) := Cx.of B hml hK
  have hD := hD0.self (sz := s.heap.size)
  have hA : ∀ q : Nat, s.heap.size ≤ q → va_A (w_X cA a S) s.heap.size q := fun q h => Or.inr h
  have hS : va_S (va_A (w_X cA a S) s.heap.size) s.heap s.heap [] := va_S.rf
  have hl := lv_entry ([.ref (a 0), .int p1, .int p2, .int p3]) (n := 7) (Nat.le_of_ble_eq_true rfl)
  rw [lg_entry_eq]
  generalize (lg_sl ([.ref (a 0), .int p1, .int p2, .int p3]) ++ List.replicate (7 - (lg_sl ([.ref (a 0), .int p1, .int p2, .int p3])).length) Slot.unset).toArray = ls at hl ⊢
  exact wX10_bargain C hA hf hP hD hS hl
theorem kl_RX10_234 : Cond.constantLong RX10 234 (7919) ∈ wsL_law := by decide +kernel
theorem kl_RX10_236 : Cond.constantLong RX10 236 (6151) ∈ wsL_law := by decide +kernel
theorem kl_RX10_238 : Cond.constantLong RX10 238 (65521) ∈ wsL_law := by decide +kernel
theorem kl_RX10_240 : Cond.constantLong RX10 240 (4) ∈ wsL_law := by decide +kernel
theorem kl_RX10_242 : Cond.constantLong RX10 242 (10) ∈ wsL_law := by decide +kernel
def fX10_drawnFigure (N : Nat) (p0 : Int32) (p1 : Int32) : Option (Int32) :=
  nm (((((7919 : Int64) * p0.toInt64) + ((6151 : Int64) * p1.toInt64)) + (1 : Int64))) (fun v1 => some ((((((v1 * v1) - (v1 * v1) / (65521 : Int64) * (65521 : Int64)) / (4 : Int64)) - (((v1 * v1) - (v1 * v1) / (65521 : Int64) * (65521 : Int64)) / (4 : Int64)) / (10 : Int64) * (10 : Int64))).toInt32))
set_option maxRecDepth 100000 in
set_option maxHeartbeats 4000000 in
theorem wX10_drawnFigure (C : Cx p s m args meth c D cA cX10_drawnFigure 4 RX10 (some .int)) (hA : ∀ q : Nat, s.heap.size ≤ q → A q) {N : Nat} {z : Int32} {p0 : Int32} {p1 : Int32} (hf : fX10_drawnFigure N p0 p1 = some z) {H : Heap} {locs : List Loc} {ls : Array Slot} (hP : va_P D vwCl ([] : va_W) H) (hD : va_D A ([] : va_W)) (hS : va_S A s.heap H locs) (hl : lv_has ls 4 [(0, .int p0), (1, .int p1)]) : W p l e (rmU 0 0 0 0) s m args below meth c H locs 0 0 (MQ below (QI D A z ([] : va_W)) args s 0 0 A) (F0 m 0 ls []) := by
  obtain ⟨hx, hb, hml, hown, hts, hK, hN, hr, hlk⟩ := id C
  unfold fX10_drawnFigure at hf
  refine lv_ldc2 (pc := 0) (v := (7919 : Int64)) hx hb hown (hts _ kl_RX10_234) dX10_drawnFigure_0 ?_
  refine lv_iload_n (pc := 3) hx hb dX10_drawnFigure_3 rfl (lv_at hl 0 rfl) ?_
  refine lv_i2l (v := p0.toInt64) (pc := 4) hx hb dX10_drawnFigure_4 rfl ?_
  refine lv_lmul (pc := 5) hx hb dX10_drawnFigure_5 ?_
  refine lv_ldc2 (pc := 6) (v := (6151 : Int64)) hx hb hown (hts _ kl_RX10_236) dX10_drawnFigure_6 ?_
  refine lv_iload_n (pc := 9) hx hb dX10_drawnFigure_9 rfl (lv_at hl 1 rfl) ?_
  refine lv_i2l (v := p1.toInt64) (pc := 10) hx hb dX10_drawnFigure_10 rfl ?_
  refine lv_lmul (pc := 11) hx hb dX10_drawnFigure_11 ?_
  refine lv_ladd (pc := 12) hx hb dX10_drawnFigure_12 ?_
  refine lv_lconst (v := (1 : Int64)) (pc := 13) hx hb dX10_drawnFigure_13 (by decide) ?_
  refine lv_ladd (pc := 14) hx hb dX10_drawnFigure_14 ?_
  refine lv_topl (fun v1 ev1 => ?_)
  have hf := pt_n ev1 hf
  refine lv_lstore_n (lv' := [(2, .long v1), (0, .int p0), (1, .int p1)]) (pc := 15) hx hb dX10_drawnFigure_15 rfl hl (by decide) rfl (fun ls hl => ?_)
  refine lv_lload_n (pc := 16) hx hb dX10_drawnFigure_16 rfl (lv_at hl 0 rfl) ?_
  refine lv_lload_n (pc := 17) hx hb dX10_drawnFigure_17 rfl (lv_at hl 0 rfl) ?_
  refine lv_lmul (pc := 18) hx hb dX10_drawnFigure_18 ?_
  refine lv_ldc2 (pc := 19) (v := (65521 : Int64)) hx hb hown (hts _ kl_RX10_238) dX10_drawnFigure_19 ?_
  refine lv_lrem (pc := 22) hx hb dX10_drawnFigure_22 (by decide) ?_
  refine lv_ldc2 (pc := 23) (v := (4 : Int64)) hx hb hown (hts _ kl_RX10_240) dX10_drawnFigure_23 ?_
  refine lv_ldiv (pc := 26) hx hb dX10_drawnFigure_26 (by decide) ?_
  refine lv_ldc2 (pc := 27) (v := (10 : Int64)) hx hb hown (hts _ kl_RX10_242) dX10_drawnFigure_27 ?_
  refine lv_lrem (pc := 30) hx hb dX10_drawnFigure_30 (by decide) ?_
  refine lv_l2i (v := (((((v1 * v1) - (v1 * v1) / (65521 : Int64) * (65521 : Int64)) / (4 : Int64)) - (((v1 * v1) - (v1 * v1) / (65521 : Int64) * (65521 : Int64)) / (4 : Int64)) / (10 : Int64) * (10 : Int64))).toInt32) (pc := 31) hx hb dX10_drawnFigure_31 rfl ?_
  cases hf
  exact ret_i C hP hD hS dX10_drawnFigure_32
set_option maxRecDepth 100000 in
set_option maxHeartbeats 4000000 in
theorem kX10_drawnFigure (l : Launch) (D : va_G) (cA : Nat → ClassId) {N : Nat} {p0 : Int32} {p1 : Int32} {z : Int32} (hf : fX10_drawnFigure N p0 p1 = some z) : CtI l yX10_drawnFigure cX10_drawnFigure 4 (some .int) 0 0 D cA ([] : va_W) ([] : va_W) [.int p0, .int p1] z := by
  intro sz
  refine Met.ofW (cc := cX10_drawnFigure) (maxL := 4) (ret := (some .int)) (by decide) rfl ?_
  intro p e s m args below meth c s₁ B hml hv
  obtain ⟨rfl, hsz, hP, hK, hD0⟩ := hv
  subst hsz
  have C : Cx p s m _ meth c D cA cX10_drawnFigure 4 RX10 (some .int) := Cx.of B hml hK
  have hD := hD0.self (sz := s.heap.size)
  have hA : ∀ q : Nat, s.heap.size ≤ q → va_A ([] : va_W) s.heap.size q := fun q h => Or.inr h
  have hS : va_S (va_A ([] : va_W) s.heap.size) s.heap s.heap [] := va_S.rf
  have hl := lv_entry ([.int p0, .int p1]) (n := 4) (Nat.le_of_ble_eq_true rfl)
  rw [lg_entry_eq]
  generalize (lg_sl ([.int p0, .int p1]) ++ List.replicate (4 - (lg_sl ([.int p0, .int p1])).length) Slot.unset).toArray = ls at hl ⊢
  exact wX10_drawnFigure C hA hf hP hD hS hl
theorem lk_RX10_220 : LkS RX10 220 yX10_drawnFigure cX10_drawnFigure 4 (some .int) 2 := ⟨⟨by decide +kernel, by decide +kernel, by decide +kernel, by decide +kernel, by decide +kernel, by decide +kernel⟩, by decide +kernel⟩
def fX10_days_j84 (N : Nat) (S : St) (p1 : Int32) (p2 : Int32) (p3 : Int32) (x4 : Int32) (x5 : Int32) : Option (Int32) :=
  if p3 = 0 then (Option.bind (fX3_sayable N x4 ((999 : Int32))) (fun q2 => some q2)) else (some x5)
def fX10_days_b47 (N : Nat) (S : St) (p1 : Int32) (p2 : Int32) (p3 : Int32) (g47 : Int32 × Int32 × Int32 → Option (Int32)) (x4 : Int32) (x5 : Int32) (x6 : Int32) : Option (Int32) :=
  if p2 ≤ x6 then (fX10_days_j84 N S p1 p2 p3 x4 x5) else (Option.bind (fX10_drawnFigure N p1 x6) (fun q2 => nm ((x4 ^^^ ((1 : Int32) <<< (q2 &&& 31)))) (fun v3 => nm ((x5 + ((v3 >>> ((7 : Int32) &&& 31)) &&& (1 : Int32)))) (fun v4 => g47 ((v3, v4, (x6 + 1)))))))
def fX10_days_l47 (N : Nat) (S : St) (p1 : Int32) (p2 : Int32) (p3 : Int32) (k : Nat) (q : Int32 × Int32 × Int32) : Option (Int32) := lpN (fun g q => fX10_days_b47 N S p1 p2 p3 g q.1 q.2.1 q.2.2) k q
def fX10_days (N : Nat) (S : St) (p1 : Int32) (p2 : Int32) (p3 : Int32) : Option (Int32) :=
  Option.bind (fX10_isWithin N p1 ((0 : Int32)) ((9999 : Int32))) (fun q1 => if q1 = 0 then (some ((-1 : Int32))) else (Option.bind (fX10_isWithin N p2 ((1 : Int32)) ((50 : Int32))) (fun q3 => if q3 = 0 then (some ((-1 : Int32))) else (Option.bind (fX10_isWithin N p3 ((0 : Int32)) ((1 : Int32))) (fun q5 => if q5 = 0 then (some ((-1 : Int32))) else (fX10_days_l47 N S p1 p2 p3 N (((S 2 0), (0 : Int32), (0 : Int32)))))))))
set_option maxRecDepth 100000 in
set_option maxHeartbeats 4000000 in
theorem wX10_days_84 (C : Cx p s m args meth c D cA cX10_days 7 RX10 (some .int)) (hA : ∀ q : Nat, s.heap.size ≤ q → A q) {N : Nat} {z : Int32} {S : St} {p1 : Int32} {p2 : Int32} {p3 : Int32} {x4 : Int32} {x5 : Int32} (hf : fX10_days_j84 N S p1 p2 p3 x4 x5 = some z) {H : Heap} {locs : List Loc} {ls : Array Slot} (hP : va_P D vwCl (w_X cA a S) H) (hD : va_D A (w_X cA a S)) (hS : va_S A s.heap H locs) (hl : lv_has ls 7 [(3, .int p3), (4, .int x4), (5, .int x5)]) : W p l e (rmU 3 69 0 0) s m args below meth c H locs 0 0 (MQ below (QI D A z (w_X cA a S)) args s 0 0 A) (F0 m 84 ls []) := by
  obtain ⟨hx, hb, hml, hown, hts, hK, hN, hr, hlk⟩ := id C
  unfold fX10_days_j84 at hf
  refine lv_iload_n (pc := 84) hx hb dX10_days_84 rfl (lv_at hl 0 rfl) ?_
  refine lv_if_ne (tgt := 99) (pc := 85) hx hb dX10_days_85 (by decide) (fun c1 => ?_) (fun c1 => ?_)
  · have hf := pt_f c1 hf
    refine lv_iload (pc := 99) hx hb dX10_days_99 (lv_at hl 2 rfl) ?_
    cases hf
    exact ret_i C hP hD hS dX10_days_101
  · have hf := pt_t c1 hf
    refine lv_iload (pc := 88) hx hb dX10_days_88 (lv_at hl 1 rfl) ?_
    refine lv_sipush (v := (999 : Int32)) (pc := 90) hx hb dX10_days_90 (by decide) ?_
    obtain ⟨q2, hq2, hf⟩ := pt_b hf
    have hPc : va_P D vwCl ([] : va_W) H := hP.sub [] rfl
    have hDc : va_D A ([] : va_W) := hD.sub [] (by decide) rfl
    refine prt_i (runU_S (pc := 93) (As := [.int x4, .int ((999 : Int32))]) (rest := []) C lk_RX10_138 (kX3_sayable l D cA hq2 H.size) ⟨Nat.le_of_ble_eq_true rfl, Nat.le_of_ble_eq_true rfl⟩ ⟨Nat.le_refl _, Nat.le_refl _⟩ hPc hDc hl.1 rfl (Nat.le_of_ble_eq_true rfl) dX10_days_93) hP hD hS hA [] rfl (fun H locs hP hD hS => ?_)
    refine lv_goto (tgt := 101) (pc := 96) hx hb dX10_days_96 (by decide) ?_
    cases hf
    exact ret_i C hP hD hS dX10_days_101
set_option maxRecDepth 100000 in
set_option maxHeartbeats 4000000 in
theorem wX10_days_47 (C : Cx p s m args meth c D cA cX10_days 7 RX10 (some .int)) (hA : ∀ q : Nat, s.heap.size ≤ q → A q) {N : Nat} {z : Int32} {S : St} {p1 : Int32} {p2 : Int32} {p3 : Int32} : ∀ (k : Nat) (x4 : Int32) (x5 : Int32) (x6 : Int32), fX10_days_l47 N S p1 p2 p3 k (x4, x5, x6) = some z → ∀ (H : Heap) (locs : List Loc) (ls : Array Slot), va_P D vwCl (w_X cA a S) H → va_D A (w_X cA a S) → va_S A s.heap H locs → lv_has ls 7 [(1, .int p1), (2, .int p2), (3, .int p3), (4, .int x4), (5, .int x5), (6, .int x6)] → W p l e (rmU 3 69 0 0) s m args below meth c H locs 0 0 (MQ below (QI D A z (w_X cA a S)) args s 0 0 A) (F0 m 47 ls []) := by
  obtain ⟨hx, hb, hml, hown, hts, hK, hN, hr, hlk⟩ := id C
  intro k
  induction k with
  | zero =>
    intro x4 x5 x6 hf
    have hf : (none : Option (Int32)) = some z := hf
    cases hf
  | succ k hg47 =>
    intro x4 x5 x6 hf H locs ls hP hD hS hl
    have hf : fX10_days_b47 N S p1 p2 p3 (fX10_days_l47 N S p1 p2 p3 k) x4 x5 x6 = some z := hf
    unfold fX10_days_b47 at hf
    refine lv_iload (pc := 47) hx hb dX10_days_47 (lv_at hl 5 rfl) ?_
    refine lv_iload_n (pc := 49) hx hb dX10_days_49 rfl (lv_at hl 1 rfl) ?_
    refine lv_icmp_ge (tgt := 84) (pc := 50) hx hb dX10_days_50 (by decide) (fun c1 => ?_) (fun c1 => ?_)
    · have hf := pt_t c1 hf
      exact wX10_days_84 C hA  hf hP hD hS (lv_sub hl [2, 3, 4] rfl)
    · have hf := pt_f c1 hf
      refine lv_iload (pc := 53) hx hb dX10_days_53 (lv_at hl 3 rfl) ?_
      refine lv_iconst (v := (1 : Int32)) (pc := 55) hx hb dX10_days_55 (by decide) ?_
      refine lv_iload_n (pc := 56) hx hb dX10_days_56 rfl (lv_at hl 0 rfl) ?_
      refine lv_iload (pc := 57) hx hb dX10_days_57 (lv_at hl 5 rfl) ?_
      obtain ⟨q2, hq2, hf⟩ := pt_b hf
      have hPc : va_P D vwCl ([] : va_W) H := hP.sub [] rfl
      have hDc : va_D A ([] : va_W) := hD.sub [] (by decide) rfl
      refine prt_i (runU_S (pc := 59) (As := [.int p1, .int x6]) (rest := [.int ((1 : Int32)), .int x4]) C lk_RX10_220 (kX10_drawnFigure l D cA hq2 H.size) ⟨Nat.le_of_ble_eq_true rfl, Nat.le_of_ble_eq_true rfl⟩ ⟨Nat.le_refl _, Nat.le_refl _⟩ hPc hDc hl.1 rfl (Nat.le_of_ble_eq_true rfl) dX10_days_59) hP hD hS hA [] rfl (fun H locs hP hD hS => ?_)
      refine lv_ishl (pc := 62) hx hb dX10_days_62 ?_
      refine lv_ixor (pc := 63) hx hb dX10_days_63 ?_
      refine lv_topi (fun v3 ev3 => ?_)
      have hf := pt_n ev3 hf
      refine lv_istore (lv' := [(4, .int v3), (1, .int p1), (2, .int p2), (3, .int p3), (5, .int x5), (6, .int x6)]) (pc := 64) hx hb dX10_days_64 hl (by decide) rfl (fun ls hl => ?_)
      refine lv_iload (pc := 66) hx hb dX10_days_66 (lv_at hl 4 rfl) ?_
      refine lv_iload (pc := 68) hx hb dX10_days_68 (lv_at hl 0 rfl) ?_
      refine lv_bipush (v := (7 : Int32)) (pc := 70) hx hb dX10_days_70 (by decide) ?_
      refine lv_ishr (pc := 72) hx hb dX10_days_72 ?_
      refine lv_iconst (v := (1 : Int32)) (pc := 73) hx hb dX10_days_73 (by decide) ?_
      refine lv_iand (pc := 74) hx hb dX10_days_74 ?_
      refine lv_iadd (pc := 75) hx hb dX10_days_75 ?_
      refine lv_topi (fun v4 ev4 => ?_)
      have hf := pt_n ev4 hf
      refine lv_istore (lv' := [(5, .int v4), (4, .int v3), (1, .int p1), (2, .int p2), (3, .int p3), (6, .int x6)]) (pc := 76) hx hb dX10_days_76 hl (by decide) rfl (fun ls hl => ?_)
      refine lv_iinc (v := (x6 + 1)) (lv' := [(6, .int ((x6 + 1))), (5, .int v4), (4, .int v3), (1, .int p1), (2, .int p2), (3, .int p3)]) (pc := 78) hx hb dX10_days_78 hl (k := 5) rfl (by rfl) (by decide) rfl (fun ls hl => ?_)
      refine lv_goto (tgt := 47) (pc := 81) hx hb dX10_days_81 (by decide) ?_
      exact hg47 v3 v4 ((x6 + 1)) hf _ _ _ hP hD hS (lv_sub hl [3, 4, 5, 2, 1, 0] rfl)
set_option maxRecDepth 100000 in
set_option maxHeartbeats 4000000 in
theorem wX10_days (C : Cx p s m args meth c D cA cX10_days 7 RX10 (some .int)) (hA : ∀ q : Nat, s.heap.size ≤ q → A q) {N : Nat} {z : Int32} {S : St} {p1 : Int32} {p2 : Int32} {p3 : Int32} (hf : fX10_days N S p1 p2 p3 = some z) {H : Heap} {locs : List Loc} {ls : Array Slot} (hP : va_P D vwCl (w_X cA a S) H) (hD : va_D A (w_X cA a S)) (hS : va_S A s.heap H locs) (hl : lv_has ls 7 [(0, .ref (a 0)), (1, .int p1), (2, .int p2), (3, .int p3)]) : W p l e (rmU 3 69 0 0) s m args below meth c H locs 0 0 (MQ below (QI D A z (w_X cA a S)) args s 0 0 A) (F0 m 0 ls []) := by
  obtain ⟨hx, hb, hml, hown, hts, hK, hN, hr, hlk⟩ := id C
  unfold fX10_days at hf
  refine lv_iload_n (pc := 0) hx hb dX10_days_0 rfl (lv_at hl 1 rfl) ?_
  refine lv_iconst (v := (0 : Int32)) (pc := 1) hx hb dX10_days_1 (by decide) ?_
  refine lv_sipush (v := (9999 : Int32)) (pc := 2) hx hb dX10_days_2 (by decide) ?_
  obtain ⟨q1, hq1, hf⟩ := pt_b hf
  have hPc : va_P D vwCl ([] : va_W) H := hP.sub [] rfl
  have hDc : va_D A ([] : va_W) := hD.sub [] (by decide) rfl
  refine prt_i (runU_S (pc := 5) (As := [.int p1, .int ((0 : Int32)), .int ((9999 : Int32))]) (rest := []) C lk_RX10_100 (kX10_isWithin l D cA hq1 H.size) ⟨Nat.le_of_ble_eq_true rfl, Nat.le_of_ble_eq_true rfl⟩ ⟨Nat.le_refl _, Nat.le_refl _⟩ hPc hDc hl.1 rfl (Nat.le_of_ble_eq_true rfl) dX10_days_5) hP hD hS hA [] rfl (fun H locs hP hD hS => ?_)
  refine lv_if_eq (tgt := 30) (pc := 8) hx hb dX10_days_8 (by decide) (fun c2 => ?_) (fun c2 => ?_)
  · have hf := pt_t c2 hf
    refine lv_iconst (v := (-1 : Int32)) (pc := 30) hx hb dX10_days_30 (by decide) ?_
    cases hf
    exact ret_i C hP hD hS dX10_days_31
  · have hf := pt_f c2 hf
    refine lv_iload_n (pc := 11) hx hb dX10_days_11 rfl (lv_at hl 2 rfl) ?_
    refine lv_iconst (v := (1 : Int32)) (pc := 12) hx hb dX10_days_12 (by decide) ?_
    refine lv_bipush (v := (50 : Int32)) (pc := 13) hx hb dX10_days_13 (by decide) ?_
    obtain ⟨q3, hq3, hf⟩ := pt_b hf
    have hPc : va_P D vwCl ([] : va_W) H := hP.sub [] rfl
    have hDc : va_D A ([] : va_W) := hD.sub [] (by decide) rfl
    refine prt_i (runU_S (pc := 15) (As := [.int p2, .int ((1 : Int32)), .int ((50 : Int32))]) (rest := []) C lk_RX10_100 (kX10_isWithin l D cA hq3 H.size) ⟨Nat.le_of_ble_eq_true rfl, Nat.le_of_ble_eq_true rfl⟩ ⟨Nat.le_refl _, Nat.le_refl _⟩ hPc hDc hl.1 rfl (Nat.le_of_ble_eq_true rfl) dX10_days_15) hP hD hS hA [] rfl (fun H locs hP hD hS => ?_)
    refine lv_if_eq (tgt := 30) (pc := 18) hx hb dX10_days_18 (by decide) (fun c4 => ?_) (fun c4 => ?_)
    · have hf := pt_t c4 hf
      refine lv_iconst (v := (-1 : Int32)) (pc := 30) hx hb dX10_days_30 (by decide) ?_
      cases hf
      exact ret_i C hP hD hS dX10_days_31
    · have hf := pt_f c4 hf
      refine lv_iload_n (pc := 21) hx hb dX10_days_21 rfl (lv_at hl 3 rfl) ?_
      refine lv_iconst (v := (0 : Int32)) (pc := 22) hx hb dX10_days_22 (by decide) ?_
      refine lv_iconst (v := (1 : Int32)) (pc := 23) hx hb dX10_days_23 (by decide) ?_
      obtain ⟨q5, hq5, hf⟩ := pt_b hf
      have hPc : va_P D vwCl ([] : va_W) H := hP.sub [] rfl
      have hDc : va_D A ([] : va_W) := hD.sub [] (by decide) rfl
      refine prt_i (runU_S (pc := 24) (As := [.int p3, .int ((0 : Int32)), .int ((1 : Int32))]) (rest := []) C lk_RX10_100 (kX10_isWithin l D cA hq5 H.size) ⟨Nat.le_of_ble_eq_true rfl, Nat.le_of_ble_eq_true rfl⟩ ⟨Nat.le_refl _, Nat.le_refl _⟩ hPc hDc hl.1 rfl (Nat.le_of_ble_eq_true rfl) dX10_days_24) hP hD hS hA [] rfl (fun H locs hP hD hS => ?_)
      refine lv_if_ne (tgt := 32) (pc := 27) hx hb dX10_days_27 (by decide) (fun c6 => ?_) (fun c6 => ?_)
      · have hf := pt_f c6 hf
        refine lv_aload_n (pc := 32) hx hb dX10_days_32 rfl (lv_at hl 0 rfl) ?_
        refine ge_RX10_19_X_0_0 (pc := 33) C hP dX10_days_33 ?_
        refine ge_RX10_117_X_0_3 (pc := 36) C hP dX10_days_36 ?_
        refine lv_istore (lv' := [(4, .int ((S 2 0))), (0, .ref (a 0)), (1, .int p1), (2, .int p2), (3, .int p3)]) (pc := 39) hx hb dX10_days_39 hl (by decide) rfl (fun ls hl => ?_)
        refine lv_iconst (v := (0 : Int32)) (pc := 41) hx hb dX10_days_41 (by decide) ?_
        refine lv_istore (lv' := [(5, .int ((0 : Int32))), (4, .int ((S 2 0))), (0, .ref (a 0)), (1, .int p1), (2, .int p2), (3, .int p3)]) (pc := 42) hx hb dX10_days_42 hl (by decide) rfl (fun ls hl => ?_)
        refine lv_iconst (v := (0 : Int32)) (pc := 44) hx hb dX10_days_44 (by decide) ?_
        refine lv_istore (lv' := [(6, .int ((0 : Int32))), (5, .int ((0 : Int32))), (4, .int ((S 2 0))), (0, .ref (a 0)), (1, .int p1), (2, .int p2), (3, .int p3)]) (pc := 45) hx hb dX10_days_45 hl (by decide) rfl (fun ls hl => ?_)
        exact wX10_days_47 C hA  _ ((S 2 0)) ((0 : Int32)) ((0 : Int32)) hf _ _ _ hP hD hS (lv_sub hl [4, 5, 6, 2, 1, 0] rfl)
      · have hf := pt_t c6 hf
        refine lv_iconst (v := (-1 : Int32)) (pc := 30) hx hb dX10_days_30 (by decide) ?_
        cases hf
        exact ret_i C hP hD hS dX10_days_31
set_option maxRecDepth 100000 in
set_option maxHeartbeats 4000000 in
theorem kX10_days (l : Launch) (D : va_G) (cA : Nat → ClassId) (a : Nat → Nat) {N : Nat} {S : St} {p1 : Int32} {p2 : Int32} {p3 : Int32} {z : Int32} (hf : fX10_days N S p1 p2 p3 = some z) : CtI l yX10_days cX10_days 7 (some .int) 3 69 D cA (w_X cA a S) (w_X cA a S) [.ref (a 0), .int p1, .int p2, .int p3] z := by
  intro sz
  refine Met.ofW (cc := cX10_days) (maxL := 7) (ret := (some .int)) (by decide) rfl ?_
  intro p e s m args below meth c s₁ B hml hv
  obtain ⟨rfl, hsz, hP, hK, hD0⟩ := hv
  subst hsz
  have C : Cx p s m _ meth c D cA cX10_days 7 RX10 (some .int) := Cx.of B hml hK
  have hD := hD0.self (sz := s.heap.size)
  have hA : ∀ q : Nat, s.heap.size ≤ q → va_A (w_X cA a S) s.heap.size q := fun q h => Or.inr h
  have hS : va_S (va_A (w_X cA a S) s.heap.size) s.heap s.heap [] := va_S.rf
  have hl := lv_entry ([.ref (a 0), .int p1, .int p2, .int p3]) (n := 7) (Nat.le_of_ble_eq_true rfl)
  rw [lg_entry_eq]
  generalize (lg_sl ([.ref (a 0), .int p1, .int p2, .int p3]) ++ List.replicate (7 - (lg_sl ([.ref (a 0), .int p1, .int p2, .int p3])).length) Slot.unset).toArray = ls at hl ⊢
  exact wX10_days C hA hf hP hD hS hl
theorem fl_RX10_33 : Cond.fieldLink RX10 33 "SevenOnStrike" "kept" "LSevenOnStrike$Kept;" ∈ wsL_law := by decide +kernel
theorem ge_RX10_33_X_0_0 (C : Cx p s m args meth c D cA cc nL RX10 ret) (hP : va_P D vwCl (w_X cA a S) H) (hdg : decode cc pc = .ok (.getfield 33, 3)) (kk : W p l e R s m args below meth c H locs cells slots Q (F0 m (pc + 3) ls (.ref (a 8) :: rest))) : W p l e R s m args below meth c H locs cells slots Q (F0 m pc ls (.ref (a 0) :: rest)) := by
  obtain ⟨hx, hb, -, hown, hts, hK, -, -, -⟩ := C
  exact va_get (D := D) (ci := 9) (v := .ref (a 8)) (C := RX10) (T := TX10) (N := 9) hx hb hts inlX10 hown hK hP 0 rfl rfl 3 (by decide) (hts _ fl_RX10_33) (fun _ h9 => h9) rfl hdg kk
theorem lk_RX10_223 : LkV RX10 223 yX1_put cX1_put 2 (some .boolean) 1 := ⟨⟨by decide +kernel, by decide +kernel, by decide +kernel, by decide +kernel, by decide +kernel, by decide +kernel⟩, by decide +kernel, by decide +kernel⟩
theorem fl_RX10_226 : Cond.fieldLink RX10 226 "SevenOnStrike$Kept" "size" "I" ∈ wsL_law := by decide +kernel
theorem ge_RX10_226_X_0_8 (C : Cx p s m args meth c D cA cc nL RX10 ret) (hP : va_P D vwCl (w_X cA a S) H) (hdg : decode cc pc = .ok (.getfield 226, 3)) (kk : W p l e R s m args below meth c H locs cells slots Q (F0 m (pc + 3) ls (.int (S 7 0) :: rest))) : W p l e R s m args below meth c H locs cells slots Q (F0 m pc ls (.ref (a 8) :: rest)) := by
  obtain ⟨hx, hb, -, hown, hts, hK, -, -, -⟩ := C
  exact va_get (D := D) (ci := 1) (v := .int (S 7 0)) (C := RX1) (T := TX1) (N := 2) hx hb hts inlX1 hown hK hP 8 rfl rfl 1 (by decide) (hts _ fl_RX10_226) (fun _ h9 => h9) rfl hdg kk
def fX10_keep (N : Nat) (S : St) : Option (Int32 × St) :=
  Option.bind (fX1_put N (sh S 7) (sh S 2)) (fun q1 => if q1.1 = 0 then (some ((-3 : Int32), (pt S 7 5 q1.2))) else (some (((pt S 7 5 q1.2) 7 0), (pt S 7 5 q1.2))))
set_option maxRecDepth 100000 in
set_option maxHeartbeats 4000000 in
theorem wX10_keep (C : Cx p s m args meth c D cA cX10_keep 1 RX10 (some .int)) (hA : ∀ q : Nat, s.heap.size ≤ q → A q) {N : Nat} {z : Int32 × St} {S : St} (hf : fX10_keep N S = some z) {H : Heap} {locs : List Loc} {ls : Array Slot} (hP : va_P D vwCl (w_X cA a S) H) (hD : va_D A (w_X cA a S)) (hS : va_S A s.heap H locs) (hl : lv_has ls 1 [(0, .ref (a 0))]) : W p l e (rmU 3 72 0 0) s m args below meth c H locs 0 0 (MQ below (QI D A z.1 (w_X cA a z.2)) args s 0 0 A) (F0 m 0 ls []) := by
  obtain ⟨hx, hb, hml, hown, hts, hK, hN, hr, hlk⟩ := id C
  unfold fX10_keep at hf
  refine lv_aload_n (pc := 0) hx hb dX10_keep_0 rfl (lv_at hl 0 rfl) ?_
  refine ge_RX10_33_X_0_0 (pc := 1) C hP dX10_keep_1 ?_
  refine lv_aload_n (pc := 4) hx hb dX10_keep_4 rfl (lv_at hl 0 rfl) ?_
  refine ge_RX10_19_X_0_0 (pc := 5) C hP dX10_keep_5 ?_
  obtain ⟨q1, hq1, hf⟩ := pt_b hf
  have hPc : va_P D vwCl (w_K_F cA (sh a 8) (sh S 7) (sh a 3) (sh S 2)) H := hP.sub [8, 9, 10, 11, 12, 13, 3, 4] rfl
  have hDc : va_D A (w_K_F cA (sh a 8) (sh S 7) (sh a 3) (sh S 2)) := hD.sub [8, 9, 10, 11, 12, 13, 3, 4] (by decide) rfl
  refine upd_i (W1 := (w_K_F cA (sh a 8) q1.2 (sh a 3) (sh S 2))) (runU_V (pc := 8) (As := [.ref (a 3)]) (b := a 8) (rest := []) (ci := 1) (q0 := 0) C lk_RX10_223 (kX1_put l D cA (sh a 8) (sh a 3) hq1 H.size) ⟨Nat.le_of_ble_eq_true rfl, Nat.le_of_ble_eq_true rfl⟩ ⟨Nat.le_refl _, Nat.le_refl _⟩ hPc hDc rfl rfl rfl hl.1 rfl (Nat.le_of_ble_eq_true rfl) dX10_keep_8) hP hD hS hA [8, 9, 10, 11, 12, 13, 3, 4] rfl (by decide) rfl (fun H locs hP hD hS => ?_)
  have hP : va_P D vwCl (w_X cA a (pt S 7 5 q1.2)) H := hP
  have hD : va_D A (w_X cA a (pt S 7 5 q1.2)) := hD
  refine lv_if_eq (tgt := 24) (pc := 11) hx hb dX10_keep_11 (by decide) (fun c2 => ?_) (fun c2 => ?_)
  · have hf := pt_t c2 hf
    refine lv_bipush (v := (-3 : Int32)) (pc := 24) hx hb dX10_keep_24 (by decide) ?_
    cases hf
    exact ret_i C hP hD hS dX10_keep_26
  · have hf := pt_f c2 hf
    refine lv_aload_n (pc := 14) hx hb dX10_keep_14 rfl (lv_at hl 0 rfl) ?_
    refine ge_RX10_33_X_0_0 (pc := 15) C hP dX10_keep_15 ?_
    refine ge_RX10_226_X_0_8 (pc := 18) C hP dX10_keep_18 ?_
    refine lv_goto (tgt := 26) (pc := 21) hx hb dX10_keep_21 (by decide) ?_
    cases hf
    exact ret_i C hP hD hS dX10_keep_26
set_option maxRecDepth 100000 in
set_option maxHeartbeats 4000000 in
theorem kX10_keep (l : Launch) (D : va_G) (cA : Nat → ClassId) (a : Nat → Nat) {N : Nat} {S : St} {z : Int32 × St} (hf : fX10_keep N S = some z) : CtI l yX10_keep cX10_keep 1 (some .int) 3 72 D cA (w_X cA a S) (w_X cA a z.2) [.ref (a 0)] z.1 := by
  intro sz
  refine Met.ofW (cc := cX10_keep) (maxL := 1) (ret := (some .int)) (by decide) rfl ?_
  intro p e s m args below meth c s₁ B hml hv
  obtain ⟨rfl, hsz, hP, hK, hD0⟩ := hv
  subst hsz
  have C : Cx p s m _ meth c D cA cX10_keep 1 RX10 (some .int) := Cx.of B hml hK
  have hD := hD0.self (sz := s.heap.size)
  have hA : ∀ q : Nat, s.heap.size ≤ q → va_A (w_X cA a S) s.heap.size q := fun q h => Or.inr h
  have hS : va_S (va_A (w_X cA a S) s.heap.size) s.heap s.heap [] := va_S.rf
  have hl := lv_entry ([.ref (a 0)]) (n := 1) (Nat.le_of_ble_eq_true rfl)
  rw [lg_entry_eq]
  generalize (lg_sl ([.ref (a 0)]) ++ List.replicate (1 - (lg_sl ([.ref (a 0)])).length) Slot.unset).toArray = ls at hl ⊢
  exact wX10_keep C hA hf hP hD hS hl
theorem lk_RX10_227 : LkV RX10 227 yX1_restore cX1_restore 2 (some .boolean) 1 := ⟨⟨by decide +kernel, by decide +kernel, by decide +kernel, by decide +kernel, by decide +kernel, by decide +kernel⟩, by decide +kernel, by decide +kernel⟩
theorem pu_RX10_128_X_0_5 {v : Int32} (C : Cx p s m args meth c D cA cc nL RX10 ret) (hP : va_P D vwCl (w_X cA a S) H) (hD : va_D A (w_X cA a S)) (hS : va_S A s.heap H locs) (hdg : decode cc pc = .ok (.putfield 128, 3)) (kk : ∀ (H1 : Heap) (locs1 : List Loc), va_P D vwCl (w_X cA a (stf S 4 v)) H1 → va_D A (w_X cA a (stf S 4 v)) → va_S A s.heap H1 locs1 → W p l e R s m args below meth c H1 locs1 cells slots Q (F0 m (pc + 3) ls rest)) : W p l e R s m args below meth c H locs cells slots Q (F0 m pc ls (.int v :: .ref (a 5) :: rest)) := by
  obtain ⟨hx, hb, -, hown, hts, hK, -, -, -⟩ := C
  exact va_put (D := D) (ci := 3) (v := .int v) (ty := .int) (C := RX4) (T := TX4) (N := 3) hx hb hts inlX4 tyX4 tyX4_ok nmX4 hown hK hP hD hS 5 rfl rfl 2 (by decide) (hts _ fl_RX10_128) (fun _ h9 => h9) rfl (by decide +kernel) rfl rfl (Nat.le_of_ble_eq_true rfl) hdg (fun H1 locs1 h1 h2 h3 => kk H1 locs1 h1 h2 h3)
def fX10_back (N : Nat) (S : St) : Option (Int32 × St) :=
  Option.bind (fX1_restore N (sh S 7) (sh S 2)) (fun q1 => if q1.1 = 0 then (some ((-2 : Int32), (pt (pt S 7 5 q1.2.1) 2 2 q1.2.2))) else (some (((stf (pt (pt S 7 5 q1.2.1) 2 2 q1.2.2) 4 ((0 : Int32))) 7 0), (stf (pt (pt S 7 5 q1.2.1) 2 2 q1.2.2) 4 ((0 : Int32))))))
set_option maxRecDepth 100000 in
set_option maxHeartbeats 4000000 in
theorem wX10_back (C : Cx p s m args meth c D cA cX10_back 1 RX10 (some .int)) (hA : ∀ q : Nat, s.heap.size ≤ q → A q) {N : Nat} {z : Int32 × St} {S : St} (hf : fX10_back N S = some z) {H : Heap} {locs : List Loc} {ls : Array Slot} (hP : va_P D vwCl (w_X cA a S) H) (hD : va_D A (w_X cA a S)) (hS : va_S A s.heap H locs) (hl : lv_has ls 1 [(0, .ref (a 0))]) : W p l e (rmU 3 72 0 0) s m args below meth c H locs 0 0 (MQ below (QI D A z.1 (w_X cA a z.2)) args s 0 0 A) (F0 m 0 ls []) := by
  obtain ⟨hx, hb, hml, hown, hts, hK, hN, hr, hlk⟩ := id C
  unfold fX10_back at hf
  refine lv_aload_n (pc := 0) hx hb dX10_back_0 rfl (lv_at hl 0 rfl) ?_
  refine ge_RX10_33_X_0_0 (pc := 1) C hP dX10_back_1 ?_
  refine lv_aload_n (pc := 4) hx hb dX10_back_4 rfl (lv_at hl 0 rfl) ?_
  refine ge_RX10_19_X_0_0 (pc := 5) C hP dX10_back_5 ?_
  obtain ⟨q1, hq1, hf⟩ := pt_b hf
  have hPc : va_P D vwCl (w_K_F cA (sh a 8) (sh S 7) (sh a 3) (sh S 2)) H := hP.sub [8, 9, 10, 11, 12, 13, 3, 4] rfl
  have hDc : va_D A (w_K_F cA (sh a 8) (sh S 7) (sh a 3) (sh S 2)) := hD.sub [8, 9, 10, 11, 12, 13, 3, 4] (by decide) rfl
  refine upd_i (W1 := (w_K_F cA (sh a 8) q1.2.1 (sh a 3) q1.2.2)) (runU_V (pc := 8) (As := [.ref (a 3)]) (b := a 8) (rest := []) (ci := 1) (q0 := 0) C lk_RX10_227 (kX1_restore l D cA (sh a 8) (sh a 3) hq1 H.size) ⟨Nat.le_of_ble_eq_true rfl, Nat.le_of_ble_eq_true rfl⟩ ⟨Nat.le_refl _, Nat.le_refl _⟩ hPc hDc rfl rfl rfl hl.1 rfl (Nat.le_of_ble_eq_true rfl) dX10_back_8) hP hD hS hA [8, 9, 10, 11, 12, 13, 3, 4] rfl (by decide) rfl (fun H locs hP hD hS => ?_)
  have hP : va_P D vwCl (w_X cA a (pt (pt S 7 5 q1.2.1) 2 2 q1.2.2)) H := hP
  have hD : va_D A (w_X cA a (pt (pt S 7 5 q1.2.1) 2 2 q1.2.2)) := hD
  refine lv_if_ne (tgt := 17) (pc := 11) hx hb dX10_back_11 (by decide) (fun c2 => ?_) (fun c2 => ?_)
  · have hf := pt_f c2 hf
    refine lv_aload_n (pc := 17) hx hb dX10_back_17 rfl (lv_at hl 0 rfl) ?_
    refine ge_RX10_26_X_0_0 (pc := 18) C hP dX10_back_18 ?_
    refine lv_iconst (v := (0 : Int32)) (pc := 21) hx hb dX10_back_21 (by decide) ?_
    refine pu_RX10_128_X_0_5 (pc := 22) C hP hD hS dX10_back_22 (fun H locs hP hD hS => ?_)
    refine lv_aload_n (pc := 25) hx hb dX10_back_25 rfl (lv_at hl 0 rfl) ?_
    refine ge_RX10_33_X_0_0 (pc := 26) C hP dX10_back_26 ?_
    refine ge_RX10_226_X_0_8 (pc := 29) C hP dX10_back_29 ?_
    cases hf
    exact ret_i C hP hD hS dX10_back_32
  · have hf := pt_t c2 hf
    refine lv_bipush (v := (-2 : Int32)) (pc := 14) hx hb dX10_back_14 (by decide) ?_
    cases hf
    exact ret_i C hP hD hS dX10_back_16
set_option maxRecDepth 100000 in
set_option maxHeartbeats 4000000 in
theorem kX10_back (l : Launch) (D : va_G) (cA : Nat → ClassId) (a : Nat → Nat) {N : Nat} {S : St} {z : Int32 × St} (hf : fX10_back N S = some z) : CtI l yX10_back cX10_back 1 (some .int) 3 72 D cA (w_X cA a S) (w_X cA a z.2) [.ref (a 0)] z.1 := by
  intro sz
  refine Met.ofW (cc := cX10_back) (maxL := 1) (ret := (some .int)) (by decide) rfl ?_
  intro p e s m args below meth c s₁ B hml hv
  obtain ⟨rfl, hsz, hP, hK, hD0⟩ := hv
  subst hsz
  have C : Cx p s m _ meth c D cA cX10_back 1 RX10 (some .int) := Cx.of B hml hK
  have hD := hD0.self (sz := s.heap.size)
  have hA : ∀ q : Nat, s.heap.size ≤ q → va_A (w_X cA a S) s.heap.size q := fun q h => Or.inr h
  have hS : va_S (va_A (w_X cA a S) s.heap.size) s.heap s.heap [] := va_S.rf
  have hl := lv_entry ([.ref (a 0)]) (n := 1) (Nat.le_of_ble_eq_true rfl)
  rw [lg_entry_eq]
  generalize (lg_sl ([.ref (a 0)]) ++ List.replicate (1 - (lg_sl ([.ref (a 0)])).length) Slot.unset).toArray = ls at hl ⊢
  exact wX10_back C hA hf hP hD hS hl
def fX10_count (N : Nat) (S : St) (p1 : Int32) : Option (Int32) :=
  if p1 = (0 : Int32) then (Option.bind (fX0_strikers N (sh S 2)) (fun q2 => some q2)) else (if p1 = (1 : Int32) then (some ((S 23 0))) else (if p1 = (2 : Int32) then (some ((S 24 0))) else (if p1 = (3 : Int32) then (some ((S 25 0))) else (if p1 = (4 : Int32) then (some ((S 12 0))) else (if p1 = (5 : Int32) then (some ((S 4 0))) else (if p1 = (6 : Int32) then (some ((S 7 0))) else (if p1 = (7 : Int32) then (some ((S 0 0))) else (some ((-1 : Int32))))))))))
set_option maxRecDepth 100000 in
set_option maxHeartbeats 4000000 in
theorem wX10_count (C : Cx p s m args meth c D cA cX10_count 2 RX10 (some .int)) (hA : ∀ q : Nat, s.heap.size ≤ q → A q) {N : Nat} {z : Int32} {S : St} {p1 : Int32} (hf : fX10_count N S p1 = some z) {H : Heap} {locs : List Loc} {ls : Array Slot} (hP : va_P D vwCl (w_X cA a S) H) (hD : va_D A (w_X cA a S)) (hS : va_S A s.heap H locs) (hl : lv_has ls 2 [(0, .ref (a 0)), (1, .int p1)]) : W p l e (rmU 2 40 0 0) s m args below meth c H locs 0 0 (MQ below (QI D A z (w_X cA a S)) args s 0 0 A) (F0 m 0 ls []) := by
  obtain ⟨hx, hb, hml, hown, hts, hK, hN, hr, hlk⟩ := id C
  unfold fX10_count at hf
  refine lv_iload_n (pc := 0) hx hb dX10_count_0 rfl (lv_at hl 1 rfl) ?_
  by_cases c1 : p1 = (0 : Int32)
  · have hf := pt_t c1 hf
    refine lv_tableIn (off := 47) (tgt := 48) (pc := 1) hx hb dX10_count_1 (by rw [c1]; decide) (by rw [c1]; decide) (by rw [c1]; rfl) (by decide) ?_
    refine lv_aload_n (pc := 48) hx hb dX10_count_48 rfl (lv_at hl 0 rfl) ?_
    refine ge_RX10_19_X_0_0 (pc := 49) C hP dX10_count_49 ?_
    obtain ⟨q2, hq2, hf⟩ := pt_b hf
    have hPc : va_P D vwCl (w_F cA (sh a 3) (sh S 2)) H := hP.sub [3, 4] rfl
    have hDc : va_D A (w_F cA (sh a 3) (sh S 2)) := hD.sub [3, 4] (by decide) rfl
    refine prt_i (runU_V (pc := 52) (As := []) (b := a 3) (rest := []) (ci := 0) (q0 := 0) C lk_RX10_93 (kX0_strikers l D cA (sh a 3) hq2 H.size) ⟨Nat.le_of_ble_eq_true rfl, Nat.le_of_ble_eq_true rfl⟩ ⟨Nat.le_refl _, Nat.le_refl _⟩ hPc hDc rfl rfl rfl hl.1 rfl (Nat.le_of_ble_eq_true rfl) dX10_count_52) hP hD hS hA [3, 4] rfl (fun H locs hP hD hS => ?_)
    cases hf
    exact ret_i C hP hD hS dX10_count_55
  · have hf := pt_f c1 hf
    by_cases c3 : p1 = (1 : Int32)
    · have hf := pt_t c3 hf
      refine lv_tableIn (off := 55) (tgt := 56) (pc := 1) hx hb dX10_count_1 (by rw [c3]; decide) (by rw [c3]; decide) (by rw [c3]; rfl) (by decide) ?_
      refine lv_aload_n (pc := 56) hx hb dX10_count_56 rfl (lv_at hl 0 rfl) ?_
      refine ge_RX10_61_X_0_0 (pc := 57) C hP dX10_count_57 ?_
      refine ge_RX10_111_X_0_21 (pc := 60) C hP dX10_count_60 ?_
      cases hf
      exact ret_i C hP hD hS dX10_count_63
    · have hf := pt_f c3 hf
      by_cases c4 : p1 = (2 : Int32)
      · have hf := pt_t c4 hf
        refine lv_tableIn (off := 63) (tgt := 64) (pc := 1) hx hb dX10_count_1 (by rw [c4]; decide) (by rw [c4]; decide) (by rw [c4]; rfl) (by decide) ?_
        refine lv_aload_n (pc := 64) hx hb dX10_count_64 rfl (lv_at hl 0 rfl) ?_
        refine ge_RX10_61_X_0_0 (pc := 65) C hP dX10_count_65 ?_
        refine ge_RX10_195_X_0_21 (pc := 68) C hP dX10_count_68 ?_
        cases hf
        exact ret_i C hP hD hS dX10_count_71
      · have hf := pt_f c4 hf
        by_cases c5 : p1 = (3 : Int32)
        · have hf := pt_t c5 hf
          refine lv_tableIn (off := 71) (tgt := 72) (pc := 1) hx hb dX10_count_1 (by rw [c5]; decide) (by rw [c5]; decide) (by rw [c5]; rfl) (by decide) ?_
          refine lv_aload_n (pc := 72) hx hb dX10_count_72 rfl (lv_at hl 0 rfl) ?_
          refine ge_RX10_61_X_0_0 (pc := 73) C hP dX10_count_73 ?_
          refine ge_RX10_192_X_0_21 (pc := 76) C hP dX10_count_76 ?_
          cases hf
          exact ret_i C hP hD hS dX10_count_79
        · have hf := pt_f c5 hf
          by_cases c6 : p1 = (4 : Int32)
          · have hf := pt_t c6 hf
            refine lv_tableIn (off := 79) (tgt := 80) (pc := 1) hx hb dX10_count_1 (by rw [c6]; decide) (by rw [c6]; decide) (by rw [c6]; rfl) (by decide) ?_
            refine lv_aload_n (pc := 80) hx hb dX10_count_80 rfl (lv_at hl 0 rfl) ?_
            refine ge_RX10_40_X_0_0 (pc := 81) C hP dX10_count_81 ?_
            refine ge_RX10_212_X_0_14 (pc := 84) C hP dX10_count_84 ?_
            cases hf
            exact ret_i C hP hD hS dX10_count_87
          · have hf := pt_f c6 hf
            by_cases c7 : p1 = (5 : Int32)
            · have hf := pt_t c7 hf
              refine lv_tableIn (off := 87) (tgt := 88) (pc := 1) hx hb dX10_count_1 (by rw [c7]; decide) (by rw [c7]; decide) (by rw [c7]; rfl) (by decide) ?_
              refine lv_aload_n (pc := 88) hx hb dX10_count_88 rfl (lv_at hl 0 rfl) ?_
              refine ge_RX10_26_X_0_0 (pc := 89) C hP dX10_count_89 ?_
              refine ge_RX10_128_X_0_5 (pc := 92) C hP dX10_count_92 ?_
              cases hf
              exact ret_i C hP hD hS dX10_count_95
            · have hf := pt_f c7 hf
              by_cases c8 : p1 = (6 : Int32)
              · have hf := pt_t c8 hf
                refine lv_tableIn (off := 95) (tgt := 96) (pc := 1) hx hb dX10_count_1 (by rw [c8]; decide) (by rw [c8]; decide) (by rw [c8]; rfl) (by decide) ?_
                refine lv_aload_n (pc := 96) hx hb dX10_count_96 rfl (lv_at hl 0 rfl) ?_
                refine ge_RX10_33_X_0_0 (pc := 97) C hP dX10_count_97 ?_
                refine ge_RX10_226_X_0_8 (pc := 100) C hP dX10_count_100 ?_
                cases hf
                exact ret_i C hP hD hS dX10_count_103
              · have hf := pt_f c8 hf
                by_cases c9 : p1 = (7 : Int32)
                · have hf := pt_t c9 hf
                  refine lv_tableIn (off := 103) (tgt := 104) (pc := 1) hx hb dX10_count_1 (by rw [c9]; decide) (by rw [c9]; decide) (by rw [c9]; rfl) (by decide) ?_
                  refine lv_aload_n (pc := 104) hx hb dX10_count_104 rfl (lv_at hl 0 rfl) ?_
                  refine ge_RX10_10_X_0_0 (pc := 105) C hP dX10_count_105 ?_
                  refine ge_RX10_85_X_0_1 (pc := 108) C hP dX10_count_108 ?_
                  cases hf
                  exact ret_i C hP hD hS dX10_count_111
                · have hf := pt_f c9 hf
                  refine lv_tableOut (tgt := 112) (pc := 1) hx hb dX10_count_1 (by have t0 := lv_neT (a := 0) c1 (by decide); have t1 := lv_neT (a := 1) c3 (by decide); have t2 := lv_neT (a := 2) c4 (by decide); have t3 := lv_neT (a := 3) c5 (by decide); have t4 := lv_neT (a := 4) c6 (by decide); have t5 := lv_neT (a := 5) c7 (by decide); have t6 := lv_neT (a := 6) c8 (by decide); have t7 := lv_neT (a := 7) c9 (by decide); omega) (by decide) ?_
                  refine lv_iconst (v := (-1 : Int32)) (pc := 112) hx hb dX10_count_112 (by decide) ?_
                  cases hf
                  exact ret_i C hP hD hS dX10_count_113
set_option maxRecDepth 100000 in
set_option maxHeartbeats 4000000 in
theorem kX10_count (l : Launch) (D : va_G) (cA : Nat → ClassId) (a : Nat → Nat) {N : Nat} {S : St} {p1 : Int32} {z : Int32} (hf : fX10_count N S p1 = some z) : CtI l yX10_count cX10_count 2 (some .int) 2 40 D cA (w_X cA a S) (w_X cA a S) [.ref (a 0), .int p1] z := by
  intro sz
  refine Met.ofW (cc := cX10_count) (maxL := 2) (ret := (some .int)) (by decide) rfl ?_
  intro p e s m args below meth c s₁ B hml hv
  obtain ⟨rfl, hsz, hP, hK, hD0⟩ := hv
  subst hsz
  have C : Cx p s m _ meth c D cA cX10_count 2 RX10 (some .int) := Cx.of B hml hK
  have hD := hD0.self (sz := s.heap.size)
  have hA : ∀ q : Nat, s.heap.size ≤ q → va_A (w_X cA a S) s.heap.size q := fun q h => Or.inr h
  have hS : va_S (va_A (w_X cA a S) s.heap.size) s.heap s.heap [] := va_S.rf
  have hl := lv_entry ([.ref (a 0), .int p1]) (n := 2) (Nat.le_of_ble_eq_true rfl)
  rw [lg_entry_eq]
  generalize (lg_sl ([.ref (a 0), .int p1]) ++ List.replicate (2 - (lg_sl ([.ref (a 0), .int p1])).length) Slot.unset).toArray = ls at hl ⊢
  exact wX10_count C hA hf hP hD hS hl
end PClD
