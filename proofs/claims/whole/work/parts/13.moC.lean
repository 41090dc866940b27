section PMoC
variable {p : Program} {l : Launch} {e : Env} {R : Room} {s : State} {m : MethodId} {args : Array Value} {below : List Frame} {meth : Method} {c : Code} {H : Heap} {locs : List Loc} {cells slots : Nat} {Q : State → Prop}
variable {D : va_G} {cA : Nat → ClassId} {cc : ByteArray} {nL : Nat} {own : String} {ret : Option FieldType} {pc : Nat} {ls : Array Slot} {rest : List Value} {A : Nat → Prop} {a b d : Nat → Nat} {S T U : St}
theorem sr_M_0_15 {i v : Int32} {j : Nat} (C : Cx p s m args meth c D cA cc nL own ret) (hP : va_P D vwCl (w_M cA a S) H) (hD : va_D A (w_M cA a S)) (hS : va_S A s.heap H locs) (hin : vp_in i 201) (hj : i.toNatClampNeg = j) (hdg : decode cc pc = .ok (.iastore, 1)) (kk : ∀ (H1 : Heap) (locs1 : List Loc), va_P D vwCl (w_M cA a (sti S 25 j v)) H1 → va_D A (w_M cA a (sti S 25 j v)) → va_S A s.heap H1 locs1 → W p l e R s m args below meth c H1 locs1 cells slots Q (F0 m (pc + 1) ls rest)) : W p l e R s m args below meth c H locs cells slots Q (F0 m pc ls (.int v :: .int i :: .ref (a 15) :: rest)) := by
  obtain ⟨hx, hb, -, hown, hts, hK, -, -, -⟩ := C
  subst hj
  exact va_iast hx hb hK hP hD hS 15 0 rfl rfl hin hdg (fun H1 locs1 h1 h2 h3 => kk H1 locs1 h1 h2 h3)
theorem fl_RX11_55 : Cond.fieldLink RX11 55 "SevenOnStrikeModel" "many" "[I" ∈ wsL_law := by decide +kernel
theorem ge_RX11_55_M_0_0 (C : Cx p s m args meth c D cA cc nL RX11 ret) (hP : va_P D vwCl (w_M cA a S) H) (hdg : decode cc pc = .ok (.getfield 55, 3)) (kk : W p l e R s m args below meth c H locs cells slots Q (F0 m (pc + 3) ls (.ref (a 16) :: rest))) : W p l e R s m args below meth c H locs cells slots Q (F0 m pc ls (.ref (a 0) :: rest)) := by
  obtain ⟨hx, hb, -, hown, hts, hK, -, -, -⟩ := C
  exact va_get (D := D) (ci := 10) (v := .ref (a 16)) (C := RX11) (T := TX11) (N := 28) hx hb hts inlX11 hown hK hP 0 rfl rfl 26 (by decide) (hts _ fl_RX11_55) (fun _ h9 => h9) rfl hdg kk
theorem ld_M_0_16 {i : Int32} {j : Nat} (C : Cx p s m args meth c D cA cc nL own ret) (hP : va_P D vwCl (w_M cA a S) H) (hin : vp_in i 201) (hj : i.toNatClampNeg = j) (hdg : decode cc pc = .ok (.iaload, 1)) (kk : W p l e R s m args below meth c H locs cells slots Q (F0 m (pc + 1) ls (.int (S 26 j) :: rest))) : W p l e R s m args below meth c H locs cells slots Q (F0 m pc ls (.int i :: .ref (a 16) :: rest)) := by
  obtain ⟨hx, hb, -, hown, hts, hK, -, -, -⟩ := C
  subst hj
  exact va_iald hx hb hK hP 16 0 rfl rfl hin hdg kk
theorem sr_M_0_16 {i v : Int32} {j : Nat} (C : Cx p s m args meth c D cA cc nL own ret) (hP : va_P D vwCl (w_M cA a S) H) (hD : va_D A (w_M cA a S)) (hS : va_S A s.heap H locs) (hin : vp_in i 201) (hj : i.toNatClampNeg = j) (hdg : decode cc pc = .ok (.iastore, 1)) (kk : ∀ (H1 : Heap) (locs1 : List Loc), va_P D vwCl (w_M cA a (sti S 26 j v)) H1 → va_D A (w_M cA a (sti S 26 j v)) → va_S A s.heap H1 locs1 → W p l e R s m args below meth c H1 locs1 cells slots Q (F0 m (pc + 1) ls rest)) : W p l e R s m args below meth c H locs cells slots Q (F0 m pc ls (.int v :: .int i :: .ref (a 16) :: rest)) := by
  obtain ⟨hx, hb, -, hown, hts, hK, -, -, -⟩ := C
  subst hj
  exact va_iast hx hb hK hP hD hS 16 0 rfl rfl hin hdg (fun H1 locs1 h1 h2 h3 => kk H1 locs1 h1 h2 h3)
theorem fl_RX11_52 : Cond.fieldLink RX11 52 "SevenOnStrikeModel" "fewest" "[I" ∈ wsL_law := by decide +kernel
theorem ge_RX11_52_M_0_0 (C : Cx p s m args meth c D cA cc nL RX11 ret) (hP : va_P D vwCl (w_M cA a S) H) (hdg : decode cc pc = .ok (.getfield 52, 3)) (kk : W p l e R s m args below meth c H locs cells slots Q (F0 m (pc + 3) ls (.ref (a 15) :: rest))) : W p l e R s m args below meth c H locs cells slots Q (F0 m pc ls (.ref (a 0) :: rest)) := by
  obtain ⟨hx, hb, -, hown, hts, hK, -, -, -⟩ := C
  exact va_get (D := D) (ci := 10) (v := .ref (a 15)) (C := RX11) (T := TX11) (N := 28) hx hb hts inlX11 hown hK hP 0 rfl rfl 25 (by decide) (hts _ fl_RX11_52) (fun _ h9 => h9) rfl hdg kk
theorem ld_M_0_15 {i : Int32} {j : Nat} (C : Cx p s m args meth c D cA cc nL own ret) (hP : va_P D vwCl (w_M cA a S) H) (hin : vp_in i 201) (hj : i.toNatClampNeg = j) (hdg : decode cc pc = .ok (.iaload, 1)) (kk : W p l e R s m args below meth c H locs cells slots Q (F0 m (pc + 1) ls (.int (S 25 j) :: rest))) : W p l e R s m args below meth c H locs cells slots Q (F0 m pc ls (.int i :: .ref (a 15) :: rest)) := by
  obtain ⟨hx, hb, -, hown, hts, hK, -, -, -⟩ := C
  subst hj
  exact va_iald hx hb hK hP 15 0 rfl rfl hin hdg kk
theorem kc_RX11_196 : Cond.constant RX11 196 (2000000000) ∈ wsL_law := by decide +kernel
def fX11_goCoins_j149 (N : Nat) (g48 : Int32 × St → Option (St)) (x1 : Int32) (S : St) : Option (St) :=
  g48 (((x1 + 1), S))
def fX11_goCoins_j125 (N : Nat) (g48 : Int32 × St → Option (St)) (g67 : Int32 × Int32 × Int32 × St → Option (St)) (x1 : Int32) (x2 : Int32) (x3 : Int32) (y1 : Int32) (y2 : Int32) (S : St) : Option (St) :=
  if ¬ (y1 < 0 ∨ 201 ≤ y1.toNatClampNeg) then (if ¬ (x3 < 0 ∨ 201 ≤ x3.toNatClampNeg) then (if ¬ ((x3 - x2) < 0 ∨ 201 ≤ ((x3 - x2)).toNatClampNeg) then (if ¬ (x3 < 0 ∨ 201 ≤ x3.toNatClampNeg) then (g67 ((x1, x2, (x3 + 1), (sti (sti S 25 y1.toNatClampNeg y2) 26 x3.toNatClampNeg ((((sti S 25 y1.toNatClampNeg y2) 26 x3.toNatClampNeg) + ((sti S 25 y1.toNatClampNeg y2) 26 (((x3 - x2)).toNatClampNeg)))))))) else none) else none) else none) else none
def fX11_goCoins_b67 (N : Nat) (g48 : Int32 × St → Option (St)) (g67 : Int32 × Int32 × Int32 × St → Option (St)) (x1 : Int32) (x2 : Int32) (x3 : Int32) (S : St) : Option (St) :=
  if (200 : Int32) < x3 then (fX11_goCoins_j149 N g48 x1 S) else (Option.bind (fX11_canSay N S x2) (fun q2 => if q2 = 0 then (fX11_goCoins_j149 N g48 x1 S) else (if ¬ ((x3 - x2) < 0 ∨ 201 ≤ ((x3 - x2)).toNatClampNeg) then (if ¬ (x3 < 0 ∨ 201 ≤ x3.toNatClampNeg) then (if (S 25 x3.toNatClampNeg) ≤ ((S 25 (((x3 - x2)).toNatClampNeg)) + (1 : Int32)) then (if ¬ (x3 < 0 ∨ 201 ≤ x3.toNatClampNeg) then (fX11_goCoins_j125 N g48 g67 x1 x2 x3 x3 ((S 25 x3.toNatClampNeg)) S) else none) else (if ¬ ((x3 - x2) < 0 ∨ 201 ≤ ((x3 - x2)).toNatClampNeg) then (fX11_goCoins_j125 N g48 g67 x1 x2 x3 x3 (((S 25 (((x3 - x2)).toNatClampNeg)) + (1 : Int32))) S) else none)) else none) else none)))
def fX11_goCoins_l67 (N : Nat) (g48 : Int32 × St → Option (St)) (k : Nat) (q : Int32 × Int32 × Int32 × St) : Option (St) := lpN (fun g q => fX11_goCoins_b67 N g48 g q.1 q.2.1 q.2.2.1 q.2.2.2) k q
def fX11_goCoins_b48 (N : Nat) (g48 : Int32 × St → Option (St)) (x1 : Int32) (S : St) : Option (St) :=
  if (S 4 0) ≤ x1 then (some S) else (if ¬ (x1 < 0 ∨ 12 ≤ x1.toNatClampNeg) then (fX11_goCoins_l67 N g48 N ((x1, (S 3 x1.toNatClampNeg), (S 3 x1.toNatClampNeg), S))) else none)
def fX11_goCoins_l48 (N : Nat) (k : Nat) (q : Int32 × St) : Option (St) := lpN (fun g q => fX11_goCoins_b48 N  g q.1 q.2) k q
def fX11_goCoins_j46 (N : Nat) (S : St) : Option (St) :=
  fX11_goCoins_l48 N  N (((0 : Int32), S))
def fX11_goCoins_j39 (N : Nat) (g2 : Int32 × St → Option (St)) (x1 : Int32) (y1 : Int32) (y2 : Int32) (S : St) : Option (St) :=
  if ¬ (y1 < 0 ∨ 201 ≤ y1.toNatClampNeg) then (g2 (((x1 + 1), (sti S 26 y1.toNatClampNeg y2)))) else none
def fX11_goCoins_j24 (N : Nat) (g2 : Int32 × St → Option (St)) (x1 : Int32) (y1 : Int32) (y2 : Int32) (S : St) : Option (St) :=
  if ¬ (y1 < 0 ∨ 201 ≤ y1.toNatClampNeg) then (if x1 = 0 then (fX11_goCoins_j39 N g2 x1 x1 ((1 : Int32)) ((sti S 25 y1.toNatClampNeg y2))) else (fX11_goCoins_j39 N g2 x1 x1 ((0 : Int32)) ((sti S 25 y1.toNatClampNeg y2)))) else none
def fX11_goCoins_b2 (N : Nat) (g2 : Int32 × St → Option (St)) (x1 : Int32) (S : St) : Option (St) :=
  if (200 : Int32) < x1 then (fX11_goCoins_j46 N S) else (if x1 = 0 then (fX11_goCoins_j24 N g2 x1 x1 ((0 : Int32)) S) else (fX11_goCoins_j24 N g2 x1 x1 ((2000000000 : Int32)) S))
def fX11_goCoins_l2 (N : Nat) (k : Nat) (q : Int32 × St) : Option (St) := lpN (fun g q => fX11_goCoins_b2 N  g q.1 q.2) k q
def fX11_goCoins (N : Nat) (S : St) : Option (St) :=
  fX11_goCoins_l2 N  N (((0 : Int32), S))
set_option maxRecDepth 100000 in
set_option maxHeartbeats 4000000 in
theorem wX11_goCoins_149 (C : Cx p s m args meth c D cA cX11_goCoins 4 RX11 none) (hA : ∀ q : Nat, s.heap.size ≤ q → A q) {N : Nat} {z : St} {g48 : Int32 × St → Option (St)} (hg48 : ∀ (x1 : Int32) (S : St), g48 (x1, S) = some z → ∀ (H : Heap) (locs : List Loc) (ls : Array Slot), va_P D vwCl (w_M cA a S) H → va_D A (w_M cA a S) → va_S A s.heap H locs → lv_has ls 4 [(0, .ref (a 0)), (1, .int x1)] → W p l e (rmU 1 23 0 0) s m args below meth c H locs 0 0 (MQ below (QV D A (w_M cA a z)) args s 0 0 A) (F0 m 48 ls [])) {x1 : Int32} {S : St} (hf : fX11_goCoins_j149 N g48 x1 S = some z) {H : Heap} {locs : List Loc} {ls : Array Slot} (hP : va_P D vwCl (w_M cA a S) H) (hD : va_D A (w_M cA a S)) (hS : va_S A s.heap H locs) (hl : lv_has ls 4 [(0, .ref (a 0)), (1, .int x1)]) : W p l e (rmU 1 23 0 0) s m args below meth c H locs 0 0 (MQ below (QV D A (w_M cA a z)) args s 0 0 A) (F0 m 149 ls []) := by
  obtain ⟨hx, hb, hml, hown, hts, hK, hN, hr, hlk⟩ := id C
  unfold fX11_goCoins_j149 at hf
  refine lv_iinc (v := (x1 + 1)) (lv' := [(1, .int ((x1 + 1))), (0, .ref (a 0))]) (pc := 149) hx hb dX11_goCoins_149 hl (k := 1) rfl (by rfl) (by decide) rfl (fun ls hl => ?_)
  refine lv_goto (tgt := 48) (pc := 152) hx hb dX11_goCoins_152 (by decide) ?_
  exact hg48 ((x1 + 1)) S hf _ _ _ hP hD hS (lv_sub hl [1, 0] rfl)
set_option maxRecDepth 100000 in
set_option maxHeartbeats 4000000 in
theorem wX11_goCoins_125 (C : Cx p s m args meth c D cA cX11_goCoins 4 RX11 none) (hA : ∀ q : Nat, s.heap.size ≤ q → A q) {N : Nat} {z : St} {g48 : Int32 × St → Option (St)} (hg48 : ∀ (x1 : Int32) (S : St), g48 (x1, S) = some z → ∀ (H : Heap) (locs : List Loc) (ls : Array Slot), va_P D vwCl (w_M cA a S) H → va_D A (w_M cA a S) → va_S A s.heap H locs → lv_has ls 4 [(0, .ref (a 0)), (1, .int x1)] → W p l e (rmU 1 23 0 0) s m args below meth c H locs 0 0 (MQ below (QV D A (w_M cA a z)) args s 0 0 A) (F0 m 48 ls [])) {g67 : Int32 × Int32 × Int32 × St → Option (St)} (hg67 : ∀ (x1 : Int32) (x2 : Int32) (x3 : Int32) (S : St), g67 (x1, x2, x3, S) = some z → ∀ (H : Heap) (locs : List Loc) (ls : Array Slot), va_P D vwCl (w_M cA a S) H → va_D A (w_M cA a S) → va_S A s.heap H locs → lv_has ls 4 [(0, .ref (a 0)), (1, .int x1), (2, .int x2), (3, .int x3)] → W p l e (rmU 1 23 0 0) s m args below meth c H locs 0 0 (MQ below (QV D A (w_M cA a z)) args s 0 0 A) (F0 m 67 ls [])) {x1 : Int32} {x2 : Int32} {x3 : Int32} {y1 : Int32} {y2 : Int32} {S : St} (hf : fX11_goCoins_j125 N g48 g67 x1 x2 x3 y1 y2 S = some z) {H : Heap} {locs : List Loc} {ls : Array Slot} (hP : va_P D vwCl (w_M cA a S) H) (hD : va_D A (w_M cA a S)) (hS : va_S A s.heap H locs) (hl : lv_has ls 4 [(0, .ref (a 0)), (1, .int x1), (2, .int x2), (3, .int x3)]) : W p l e (rmU 1 23 0 0) s m args below meth c H locs 0 0 (MQ below (QV D A (w_M cA a z)) args s 0 0 A) (F0 m 125 ls [.int y2, .int y1, .ref (a 15)]) := by
  obtain ⟨hx, hb, hml, hown, hts, hK, hN, hr, hlk⟩ := id C
  unfold fX11_goCoins_j125 at hf
  obtain ⟨h1, hf⟩ := pt_g hf
  refine sr_M_0_15 (pc := 125) (j := y1.toNatClampNeg) C hP hD hS h1 rfl dX11_goCoins_125 (fun H locs hP hD hS => ?_)
  refine lv_aload_n (pc := 126) hx hb dX11_goCoins_126 rfl (lv_at hl 0 rfl) ?_
  refine ge_RX11_55_M_0_0 (pc := 127) C hP dX11_goCoins_127 ?_
  refine lv_iload_n (pc := 130) hx hb dX11_goCoins_130 rfl (lv_at hl 3 rfl) ?_
  refine lv_dup2_11 (pc := 131) hx hb dX11_goCoins_131 rfl rfl ?_
  obtain ⟨h2, hf⟩ := pt_g hf
  refine ld_M_0_16 (pc := 132) (j := x3.toNatClampNeg) C hP h2 rfl dX11_goCoins_132 ?_
  refine lv_aload_n (pc := 133) hx hb dX11_goCoins_133 rfl (lv_at hl 0 rfl) ?_
  refine ge_RX11_55_M_0_0 (pc := 134) C hP dX11_goCoins_134 ?_
  refine lv_iload_n (pc := 137) hx hb dX11_goCoins_137 rfl (lv_at hl 3 rfl) ?_
  refine lv_iload_n (pc := 138) hx hb dX11_goCoins_138 rfl (lv_at hl 2 rfl) ?_
  refine lv_isub (pc := 139) hx hb dX11_goCoins_139 ?_
  obtain ⟨h3, hf⟩ := pt_g hf
  refine ld_M_0_16 (pc := 140) (j := ((x3 - x2)).toNatClampNeg) C hP h3 rfl dX11_goCoins_140 ?_
  refine lv_iadd (pc := 141) hx hb dX11_goCoins_141 ?_
  obtain ⟨h4, hf⟩ := pt_g hf
  refine sr_M_0_16 (pc := 142) (j := x3.toNatClampNeg) C hP hD hS h4 rfl dX11_goCoins_142 (fun H locs hP hD hS => ?_)
  refine lv_iinc (v := (x3 + 1)) (lv' := [(3, .int ((x3 + 1))), (0, .ref (a 0)), (1, .int x1), (2, .int x2)]) (pc := 143) hx hb dX11_goCoins_143 hl (k := 3) rfl (by rfl) (by decide) rfl (fun ls hl => ?_)
  refine lv_goto (tgt := 67) (pc := 146) hx hb dX11_goCoins_146 (by decide) ?_
  exact hg67 x1 x2 ((x3 + 1)) ((sti (sti S 25 y1.toNatClampNeg y2) 26 x3.toNatClampNeg ((((sti S 25 y1.toNatClampNeg y2) 26 x3.toNatClampNeg) + ((sti S 25 y1.toNatClampNeg y2) 26 (((x3 - x2)).toNatClampNeg)))))) hf _ _ _ hP hD hS (lv_sub hl [1, 2, 3, 0] rfl)
set_option maxRecDepth 100000 in
set_option maxHeartbeats 4000000 in
theorem wX11_goCoins_67 (C : Cx p s m args meth c D cA cX11_goCoins 4 RX11 none) (hA : ∀ q : Nat, s.heap.size ≤ q → A q) {N : Nat} {z : St} {g48 : Int32 × St → Option (St)} (hg48 : ∀ (x1 : Int32) (S : St), g48 (x1, S) = some z → ∀ (H : Heap) (locs : List Loc) (ls : Array Slot), va_P D vwCl (w_M cA a S) H → va_D A (w_M cA a S) → va_S A s.heap H locs → lv_has ls 4 [(0, .ref (a 0)), (1, .int x1)] → W p l e (rmU 1 23 0 0) s m args below meth c H locs 0 0 (MQ below (QV D A (w_M cA a z)) args s 0 0 A) (F0 m 48 ls [])) : ∀ (k : Nat) (x1 : Int32) (x2 : Int32) (x3 : Int32) (S : St), fX11_goCoins_l67 N g48 k (x1, x2, x3, S) = some z → ∀ (H : Heap) (locs : List Loc) (ls : Array Slot), va_P D vwCl (w_M cA a S) H → va_D A (w_M cA a S) → va_S A s.heap H locs → lv_has ls 4 [(0, .ref (a 0)), (1, .int x1), (2, .int x2), (3, .int x3)] → W p l e (rmU 1 23 0 0) s m args below meth c H locs 0 0 (MQ below (QV D A (w_M cA a z)) args s 0 0 A) (F0 m 67 ls []) := by
  obtain ⟨hx, hb, hml, hown, hts, hK, hN, hr, hlk⟩ := id C
  intro k
  induction k with
  | zero =>
    intro x1 x2 x3 S hf
    have hf : (none : Option (St)) = some z := hf
    cases hf
  | succ k hg67 =>
    intro x1 x2 x3 S hf H locs ls hP hD hS hl
    have hf : fX11_goCoins_b67 N g48 (fX11_goCoins_l67 N g48 k) x1 x2 x3 S = some z := hf
    unfold fX11_goCoins_b67 at hf
    refine lv_iload_n (pc := 67) hx hb dX11_goCoins_67 rfl (lv_at hl 3 rfl) ?_
    refine lv_sipush (v := (200 : Int32)) (pc := 68) hx hb dX11_goCoins_68 (by decide) ?_
    refine lv_icmp_gt (tgt := 149) (pc := 71) hx hb dX11_goCoins_71 (by decide) (fun c1 => ?_) (fun c1 => ?_)
    · have hf := pt_t c1 hf
      exact wX11_goCoins_149 C hA hg48 hf hP hD hS (lv_sub hl [0, 1] rfl)
    · have hf := pt_f c1 hf
      refine lv_aload_n (pc := 74) hx hb dX11_goCoins_74 rfl (lv_at hl 0 rfl) ?_
      refine lv_iload_n (pc := 75) hx hb dX11_goCoins_75 rfl (lv_at hl 2 rfl) ?_
      obtain ⟨q2, hq2, hf⟩ := pt_b hf
      refine all_i (runU_V (pc := 76) (As := [.int x2]) (b := a 0) (rest := []) (ci := 10) (q0 := 0) C lk_RX11_134 (kX11_canSay l D cA a hq2 H.size) ⟨Nat.le_of_ble_eq_true rfl, Nat.le_of_ble_eq_true rfl⟩ ⟨Nat.le_refl _, Nat.le_refl _⟩ hP hD rfl rfl rfl hl.1 rfl (Nat.le_of_ble_eq_true rfl) dX11_goCoins_76) hD hS hA (fun H locs hP hD hS => ?_)
      refine lv_if_eq (tgt := 149) (pc := 79) hx hb dX11_goCoins_79 (by decide) (fun c3 => ?_) (fun c3 => ?_)
      · have hf := pt_t c3 hf
        exact wX11_goCoins_149 C hA hg48 hf hP hD hS (lv_sub hl [0, 1] rfl)
      · have hf := pt_f c3 hf
        refine lv_aload_n (pc := 82) hx hb dX11_goCoins_82 rfl (lv_at hl 0 rfl) ?_
        refine ge_RX11_52_M_0_0 (pc := 83) C hP dX11_goCoins_83 ?_
        refine lv_iload_n (pc := 86) hx hb dX11_goCoins_86 rfl (lv_at hl 3 rfl) ?_
        refine lv_aload_n (pc := 87) hx hb dX11_goCoins_87 rfl (lv_at hl 0 rfl) ?_
        refine ge_RX11_52_M_0_0 (pc := 88) C hP dX11_goCoins_88 ?_
        refine lv_iload_n (pc := 91) hx hb dX11_goCoins_91 rfl (lv_at hl 3 rfl) ?_
        refine lv_iload_n (pc := 92) hx hb dX11_goCoins_92 rfl (lv_at hl 2 rfl) ?_
        refine lv_isub (pc := 93) hx hb dX11_goCoins_93 ?_
        obtain ⟨h4, hf⟩ := pt_g hf
        refine ld_M_0_15 (pc := 94) (j := ((x3 - x2)).toNatClampNeg) C hP h4 rfl dX11_goCoins_94 ?_
        refine lv_iconst (v := (1 : Int32)) (pc := 95) hx hb dX11_goCoins_95 (by decide) ?_
        refine lv_iadd (pc := 96) hx hb dX11_goCoins_96 ?_
        refine lv_aload_n (pc := 97) hx hb dX11_goCoins_97 rfl (lv_at hl 0 rfl) ?_
        refine ge_RX11_52_M_0_0 (pc := 98) C hP dX11_goCoins_98 ?_
        refine lv_iload_n (pc := 101) hx hb dX11_goCoins_101 rfl (lv_at hl 3 rfl) ?_
        obtain ⟨h5, hf⟩ := pt_g hf
        refine ld_M_0_15 (pc := 102) (j := x3.toNatClampNeg) C hP h5 rfl dX11_goCoins_102 ?_
        refine lv_icmp_ge (tgt := 119) (pc := 103) hx hb dX11_goCoins_103 (by decide) (fun c6 => ?_) (fun c6 => ?_)
        · have hf := pt_t c6 hf
          refine lv_aload_n (pc := 119) hx hb dX11_goCoins_119 rfl (lv_at hl 0 rfl) ?_
          refine ge_RX11_52_M_0_0 (pc := 120) C hP dX11_goCoins_120 ?_
          refine lv_iload_n (pc := 123) hx hb dX11_goCoins_123 rfl (lv_at hl 3 rfl) ?_
          obtain ⟨h7, hf⟩ := pt_g hf
          refine ld_M_0_15 (pc := 124) (j := x3.toNatClampNeg) C hP h7 rfl dX11_goCoins_124 ?_
          exact wX11_goCoins_125 C hA hg48 hg67 hf hP hD hS (lv_sub hl [0, 1, 2, 3] rfl)
        · have hf := pt_f c6 hf
          refine lv_aload_n (pc := 106) hx hb dX11_goCoins_106 rfl (lv_at hl 0 rfl) ?_
          refine ge_RX11_52_M_0_0 (pc := 107) C hP dX11_goCoins_107 ?_
          refine lv_iload_n (pc := 110) hx hb dX11_goCoins_110 rfl (lv_at hl 3 rfl) ?_
          refine lv_iload_n (pc := 111) hx hb dX11_goCoins_111 rfl (lv_at hl 2 rfl) ?_
          refine lv_isub (pc := 112) hx hb dX11_goCoins_112 ?_
          obtain ⟨h8, hf⟩ := pt_g hf
          refine ld_M_0_15 (pc := 113) (j := ((x3 - x2)).toNatClampNeg) C hP h8 rfl dX11_goCoins_113 ?_
          refine lv_iconst (v := (1 : Int32)) (pc := 114) hx hb dX11_goCoins_114 (by decide) ?_
          refine lv_iadd (pc := 115) hx hb dX11_goCoins_115 ?_
          refine lv_goto (tgt := 125) (pc := 116) hx hb dX11_goCoins_116 (by decide) ?_
          exact wX11_goCoins_125 C hA hg48 hg67 hf hP hD hS (lv_sub hl [0, 1, 2, 3] rfl)
set_option maxRecDepth 100000 in
set_option maxHeartbeats 4000000 in
theorem wX11_goCoins_48 (C : Cx p s m args meth c D cA cX11_goCoins 4 RX11 none) (hA : ∀ q : Nat, s.heap.size ≤ q → A q) {N : Nat} {z : St} : ∀ (k : Nat) (x1 : Int32) (S : St), fX11_goCoins_l48 N  k (x1, S) = some z → ∀ (H : Heap) (locs : List Loc) (ls : Array Slot), va_P D vwCl (w_M cA a S) H → va_D A (w_M cA a S) → va_S A s.heap H locs → lv_has ls 4 [(0, .ref (a 0)), (1, .int x1)] → W p l e (rmU 1 23 0 0) s m args below meth c H locs 0 0 (MQ below (QV D A (w_M cA a z)) args s 0 0 A) (F0 m 48 ls []) := by
  obtain ⟨hx, hb, hml, hown, hts, hK, hN, hr, hlk⟩ := id C
  intro k
  induction k with
  | zero =>
    intro x1 S hf
    have hf : (none : Option (St)) = some z := hf
    cases hf
  | succ k hg48 =>
    intro x1 S hf H locs ls hP hD hS hl
    have hf : fX11_goCoins_b48 N  (fX11_goCoins_l48 N  k) x1 S = some z := hf
    unfold fX11_goCoins_b48 at hf
    refine lv_iload_n (pc := 48) hx hb dX11_goCoins_48 rfl (lv_at hl 1 rfl) ?_
    refine lv_aload_n (pc := 49) hx hb dX11_goCoins_49 rfl (lv_at hl 0 rfl) ?_
    refine ge_RX11_19_M_0_0 (pc := 50) C hP dX11_goCoins_50 ?_
    refine lv_iconst (v := (0 : Int32)) (pc := 53) hx hb dX11_goCoins_53 (by decide) ?_
    refine ld_M_0_4 (pc := 54) (j := 0) C hP (inK rfl) rfl dX11_goCoins_54 ?_
    refine lv_icmp_ge (tgt := 155) (pc := 55) hx hb dX11_goCoins_55 (by decide) (fun c1 => ?_) (fun c1 => ?_)
    · have hf := pt_t c1 hf
      cases hf
      exact ret_v C hP hD hS dX11_goCoins_155
    · have hf := pt_f c1 hf
      refine lv_aload_n (pc := 58) hx hb dX11_goCoins_58 rfl (lv_at hl 0 rfl) ?_
      refine ge_RX11_16_M_0_0 (pc := 59) C hP dX11_goCoins_59 ?_
      refine lv_iload_n (pc := 62) hx hb dX11_goCoins_62 rfl (lv_at hl 1 rfl) ?_
      obtain ⟨h2, hf⟩ := pt_g hf
      refine ld_M_0_3 (pc := 63) (j := x1.toNatClampNeg) C hP h2 rfl dX11_goCoins_63 ?_
      refine lv_istore_n (lv' := [(2, .int ((S 3 x1.toNatClampNeg))), (0, .ref (a 0)), (1, .int x1)]) (pc := 64) hx hb dX11_goCoins_64 rfl hl (by decide) rfl (fun ls hl => ?_)
      refine lv_iload_n (pc := 65) hx hb dX11_goCoins_65 rfl (lv_at hl 0 rfl) ?_
      refine lv_istore_n (lv' := [(3, .int ((S 3 x1.toNatClampNeg))), (2, .int ((S 3 x1.toNatClampNeg))), (0, .ref (a 0)), (1, .int x1)]) (pc := 66) hx hb dX11_goCoins_66 rfl hl (by decide) rfl (fun ls hl => ?_)
      exact wX11_goCoins_67 C hA hg48 _ x1 ((S 3 x1.toNatClampNeg)) ((S 3 x1.toNatClampNeg)) S hf _ _ _ hP hD hS (lv_sub hl [2, 3, 1, 0] rfl)
set_option maxRecDepth 100000 in
set_option maxHeartbeats 4000000 in
theorem wX11_goCoins_46 (C : Cx p s m args meth c D cA cX11_goCoins 4 RX11 none) (hA : ∀ q : Nat, s.heap.size ≤ q → A q) {N : Nat} {z : St} {S : St} (hf : fX11_goCoins_j46 N S = some z) {H : Heap} {locs : List Loc} {ls : Array Slot} (hP : va_P D vwCl (w_M cA a S) H) (hD : va_D A (w_M cA a S)) (hS : va_S A s.heap H locs) (hl : lv_has ls 4 [(0, .ref (a 0))]) : W p l e (rmU 1 23 0 0) s m args below meth c H locs 0 0 (MQ below (QV D A (w_M cA a z)) args s 0 0 A) (F0 m 46 ls []) := by
  obtain ⟨hx, hb, hml, hown, hts, hK, hN, hr, hlk⟩ := id C
  unfold fX11_goCoins_j46 at hf
  refine lv_iconst (v := (0 : Int32)) (pc := 46) hx hb dX11_goCoins_46 (by decide) ?_
  refine lv_istore_n (lv' := [(1, .int ((0 : Int32))), (0, .ref (a 0))]) (pc := 47) hx hb dX11_goCoins_47 rfl hl (by decide) rfl (fun ls hl => ?_)
  exact wX11_goCoins_48 C hA  _ ((0 : Int32)) S hf _ _ _ hP hD hS (lv_sub hl [1, 0] rfl)
set_option maxRecDepth 100000 in
set_option maxHeartbeats 4000000 in
theorem wX11_goCoins_39 (C : Cx p s m args meth c D cA cX11_goCoins 4 RX11 none) (hA : ∀ q : Nat, s.heap.size ≤ q → A q) {N : Nat} {z : St} {g2 : Int32 × St → Option (St)} (hg2 : ∀ (x1 : Int32) (S : St), g2 (x1, S) = some z → ∀ (H : Heap) (locs : List Loc) (ls : Array Slot), va_P D vwCl (w_M cA a S) H → va_D A (w_M cA a S) → va_S A s.heap H locs → lv_has ls 4 [(0, .ref (a 0)), (1, .int x1)] → W p l e (rmU 1 23 0 0) s m args below meth c H locs 0 0 (MQ below (QV D A (w_M cA a z)) args s 0 0 A) (F0 m 2 ls [])) {x1 : Int32} {y1 : Int32} {y2 : Int32} {S : St} (hf : fX11_goCoins_j39 N g2 x1 y1 y2 S = some z) {H : Heap} {locs : List Loc} {ls : Array Slot} (hP : va_P D vwCl (w_M cA a S) H) (hD : va_D A (w_M cA a S)) (hS : va_S A s.heap H locs) (hl : lv_has ls 4 [(0, .ref (a 0)), (1, .int x1)]) : W p l e (rmU 1 23 0 0) s m args below meth c H locs 0 0 (MQ below (QV D A (w_M cA a z)) args s 0 0 A) (F0 m 39 ls [.int y2, .int y1, .ref (a 16)]) := by
  obtain ⟨hx, hb, hml, hown, hts, hK, hN, hr, hlk⟩ := id C
  unfold fX11_goCoins_j39 at hf
  obtain ⟨h1, hf⟩ := pt_g hf
  refine sr_M_0_16 (pc := 39) (j := y1.toNatClampNeg) C hP hD hS h1 rfl dX11_goCoins_39 (fun H locs hP hD hS => ?_)
  refine lv_iinc (v := (x1 + 1)) (lv' := [(1, .int ((x1 + 1))), (0, .ref (a 0))]) (pc := 40) hx hb dX11_goCoins_40 hl (k := 1) rfl (by rfl) (by decide) rfl (fun ls hl => ?_)
  refine lv_goto (tgt := 2) (pc := 43) hx hb dX11_goCoins_43 (by decide) ?_
  exact hg2 ((x1 + 1)) ((sti S 26 y1.toNatClampNeg y2)) hf _ _ _ hP hD hS (lv_sub hl [1, 0] rfl)
set_option maxRecDepth 100000 in
set_option maxHeartbeats 4000000 in
theorem wX11_goCoins_24 (C : Cx p s m args meth c D cA cX11_goCoins 4 RX11 none) (hA : ∀ q : Nat, s.heap.size ≤ q → A q) {N : Nat} {z : St} {g2 : Int32 × St → Option (St)} (hg2 : ∀ (x1 : Int32) (S : St), g2 (x1, S) = some z → ∀ (H : Heap) (locs : List Loc) (ls : Array Slot), va_P D vwCl (w_M cA a S) H → va_D A (w_M cA a S) → va_S A s.heap H locs → lv_has ls 4 [(0, .ref (a 0)), (1, .int x1)] → W p l e (rmU 1 23 0 0) s m args below meth c H locs 0 0 (MQ below (QV D A (w_M cA a z)) args s 0 0 A) (F0 m 2 ls [])) {x1 : Int32} {y1 : Int32} {y2 : Int32} {S : St} (hf : fX11_goCoins_j24 N g2 x1 y1 y2 S = some z) {H : Heap} {locs : List Loc} {ls : Array Slot} (hP : va_P D vwCl (w_M cA a S) H) (hD : va_D A (w_M cA a S)) (hS : va_S A s.heap H locs) (hl : lv_has ls 4 [(0, .ref (a 0)), (1, .int x1)]) : W p l e (rmU 1 23 0 0) s m args below meth c H locs 0 0 (MQ below (QV D A (w_M cA a z)) args s 0 0 A) (F0 m 24 ls [.int y2, .int y1, .ref (a 15)]) := by
  obtain ⟨hx, hb, hml, hown, hts, hK, hN, hr, hlk⟩ := id C
  unfold fX11_goCoins_j24 at hf
  obtain ⟨h1, hf⟩ := pt_g hf
  refine sr_M_0_15 (pc := 24) (j := y1.toNatClampNeg) C hP hD hS h1 rfl dX11_goCoins_24 (fun H locs hP hD hS => ?_)
  refine lv_aload_n (pc := 25) hx hb dX11_goCoins_25 rfl (lv_at hl 0 rfl) ?_
  refine ge_RX11_55_M_0_0 (pc := 26) C hP dX11_goCoins_26 ?_
  refine lv_iload_n (pc := 29) hx hb dX11_goCoins_29 rfl (lv_at hl 1 rfl) ?_
  refine lv_iload_n (pc := 30) hx hb dX11_goCoins_30 rfl (lv_at hl 1 rfl) ?_
  refine lv_if_ne (tgt := 38) (pc := 31) hx hb dX11_goCoins_31 (by decide) (fun c2 => ?_) (fun c2 => ?_)
  · have hf := pt_f c2 hf
    refine lv_iconst (v := (0 : Int32)) (pc := 38) hx hb dX11_goCoins_38 (by decide) ?_
    exact wX11_goCoins_39 C hA hg2 hf hP hD hS (lv_sub hl [0, 1] rfl)
  · have hf := pt_t c2 hf
    refine lv_iconst (v := (1 : Int32)) (pc := 34) hx hb dX11_goCoins_34 (by decide) ?_
    refine lv_goto (tgt := 39) (pc := 35) hx hb dX11_goCoins_35 (by decide) ?_
    exact wX11_goCoins_39 C hA hg2 hf hP hD hS (lv_sub hl [0, 1] rfl)
set_option maxRecDepth 100000 in
set_option maxHeartbeats 4000000 in
theorem wX11_goCoins_2 (C : Cx p s m args meth c D cA cX11_goCoins 4 RX11 none) (hA : ∀ q : Nat, s.heap.size ≤ q → A q) {N : Nat} {z : St} : ∀ (k : Nat) (x1 : Int32) (S : St), fX11_goCoins_l2 N  k (x1, S) = some z → ∀ (H : Heap) (locs : List Loc) (ls : Array Slot), va_P D vwCl (w_M cA a S) H → va_D A (w_M cA a S) → va_S A s.heap H locs → lv_has ls 4 [(0, .ref (a 0)), (1, .int x1)] → W p l e (rmU 1 23 0 0) s m args below meth c H locs 0 0 (MQ below (QV D A (w_M cA a z)) args s 0 0 A) (F0 m 2 ls []) := by
  obtain ⟨hx, hb, hml, hown, hts, hK, hN, hr, hlk⟩ := id C
  intro k
  induction k with
  | zero =>
    intro x1 S hf
    have hf : (none : Option (St)) = some z := hf
    cases hf
  | succ k hg2 =>
    intro x1 S hf H locs ls hP hD hS hl
    have hf : fX11_goCoins_b2 N  (fX11_goCoins_l2 N  k) x1 S = some z := hf
    unfold fX11_goCoins_b2 at hf
    refine lv_iload_n (pc := 2) hx hb dX11_goCoins_2 rfl (lv_at hl 1 rfl) ?_
    refine lv_sipush (v := (200 : Int32)) (pc := 3) hx hb dX11_goCoins_3 (by decide) ?_
    refine lv_icmp_gt (tgt := 46) (pc := 6) hx hb dX11_goCoins_6 (by decide) (fun c1 => ?_) (fun c1 => ?_)
    · have hf := pt_t c1 hf
      exact wX11_goCoins_46 C hA  hf hP hD hS (lv_sub hl [0] rfl)
    · have hf := pt_f c1 hf
      refine lv_aload_n (pc := 9) hx hb dX11_goCoins_9 rfl (lv_at hl 0 rfl) ?_
      refine ge_RX11_52_M_0_0 (pc := 10) C hP dX11_goCoins_10 ?_
      refine lv_iload_n (pc := 13) hx hb dX11_goCoins_13 rfl (lv_at hl 1 rfl) ?_
      refine lv_iload_n (pc := 14) hx hb dX11_goCoins_14 rfl (lv_at hl 1 rfl) ?_
      refine lv_if_ne (tgt := 22) (pc := 15) hx hb dX11_goCoins_15 (by decide) (fun c2 => ?_) (fun c2 => ?_)
      · have hf := pt_f c2 hf
        refine lv_ldc (pc := 22) (v := (2000000000 : Int32)) hx hb hown (hts _ kc_RX11_196) dX11_goCoins_22 ?_
        exact wX11_goCoins_24 C hA hg2 hf hP hD hS (lv_sub hl [0, 1] rfl)
      · have hf := pt_t c2 hf
        refine lv_iconst (v := (0 : Int32)) (pc := 18) hx hb dX11_goCoins_18 (by decide) ?_
        refine lv_goto (tgt := 24) (pc := 19) hx hb dX11_goCoins_19 (by decide) ?_
        exact wX11_goCoins_24 C hA hg2 hf hP hD hS (lv_sub hl [0, 1] rfl)
set_option maxRecDepth 100000 in
set_option maxHeartbeats 4000000 in
theorem wX11_goCoins (C : Cx p s m args meth c D cA cX11_goCoins 4 RX11 none) (hA : ∀ q : Nat, s.heap.size ≤ q → A q) {N : Nat} {z : St} {S : St} (hf : fX11_goCoins N S = some z) {H : Heap} {locs : List Loc} {ls : Array Slot} (hP : va_P D vwCl (w_M cA a S) H) (hD : va_D A (w_M cA a S)) (hS : va_S A s.heap H locs) (hl : lv_has ls 4 [(0, .ref (a 0))]) : W p l e (rmU 1 23 0 0) s m args below meth c H locs 0 0 (MQ below (QV D A (w_M cA a z)) args s 0 0 A) (F0 m 0 ls []) := by
  obtain ⟨hx, hb, hml, hown, hts, hK, hN, hr, hlk⟩ := id C
  unfold fX11_goCoins at hf
  refine lv_iconst (v := (0 : Int32)) (pc := 0) hx hb dX11_goCoins_0 (by decide) ?_
  refine lv_istore_n (lv' := [(1, .int ((0 : Int32))), (0, .ref (a 0))]) (pc := 1) hx hb dX11_goCoins_1 rfl hl (by decide) rfl (fun ls hl => ?_)
  exact wX11_goCoins_2 C hA  _ ((0 : Int32)) S hf _ _ _ hP hD hS (lv_sub hl [1, 0] rfl)
set_option maxRecDepth 100000 in
set_option maxHeartbeats 4000000 in
theorem kX11_goCoins (l : Launch) (D : va_G) (cA : Nat → ClassId) (a : Nat → Nat) {N : Nat} {S : St} {z : St} (hf : fX11_goCoins N S = some z) : CtV l yX11_goCoins cX11_goCoins 4 none 1 23 D cA (w_M cA a S) (w_M cA a z) [.ref (a 0)] := by
  intro sz
  refine Met.ofW (cc := cX11_goCoins) (maxL := 4) (ret := none) (by decide) rfl ?_
  intro p e s m args below meth c s₁ B hml hv
  obtain ⟨rfl, hsz, hP, hK, hD0⟩ := hv
  subst hsz
  have C : Cx p s m _ meth c D cA cX11_goCoins 4 RX11 none := Cx.of B hml hK
  have hD := hD0.self (sz := s.heap.size)
  have hA : ∀ q : Nat, s.heap.size ≤ q → va_A (w_M cA a S) s.heap.size q := fun q h => Or.inr h
  have hS : va_S (va_A (w_M cA a S) s.heap.size) s.heap s.heap [] := va_S.rf
  have hl := lv_entry ([.ref (a 0)]) (n := 4) (Nat.le_of_ble_eq_true rfl)
  rw [lg_entry_eq]
  generalize (lg_sl ([.ref (a 0)]) ++ List.replicate (4 - (lg_sl ([.ref (a 0)])).length) Slot.unset).toArray = ls at hl ⊢
  exact wX11_goCoins C hA hf hP hD hS hl
theorem kl_RX11_197 : Cond.constantLong RX11 197 (200) ∈ wsL_law := by decide +kernel
theorem lk_RX11_199 : LkV RX11 199 yX11_goCoins cX11_goCoins 4 none 0 := ⟨⟨by decide +kernel, by decide +kernel, by decide +kernel, by decide +kernel, by decide +kernel, by decide +kernel⟩, by decide +kernel, by decide +kernel⟩
def fX11_change (N : Nat) (S : St) (p1 : Int32) : Option (Int32 × St) :=
  Option.bind (fX11_in N p1.toInt64 ((0 : Int64)) ((200 : Int64))) (fun q1 => if q1 = 0 then (some ((-1 : Int32), S)) else (Option.bind (fX11_goCoins N S) (fun q3 => if ¬ (p1 < 0 ∨ 201 ≤ p1.toNatClampNeg) then (if (2000000000 : Int32) ≤ (q3 25 p1.toNatClampNeg) then (some ((-4 : Int32), q3)) else (if ¬ (p1 < 0 ∨ 201 ≤ p1.toNatClampNeg) then (some ((q3 25 p1.toNatClampNeg), q3)) else none)) else none)))
set_option maxRecDepth 100000 in
set_option maxHeartbeats 4000000 in
theorem wX11_change (C : Cx p s m args meth c D cA cX11_change 2 RX11 (some .int)) (hA : ∀ q : Nat, s.heap.size ≤ q → A q) {N : Nat} {z : Int32 × St} {S : St} {p1 : Int32} (hf : fX11_change N S p1 = some z) {H : Heap} {locs : List Loc} {ls : Array Slot} (hP : va_P D vwCl (w_M cA a S) H) (hD : va_D A (w_M cA a S)) (hS : va_S A s.heap H locs) (hl : lv_has ls 2 [(0, .ref (a 0)), (1, .int p1)]) : W p l e (rmU 2 46 0 0) s m args below meth c H locs 0 0 (MQ below (QI D A z.1 (w_M cA a z.2)) args s 0 0 A) (F0 m 0 ls []) := by
  obtain ⟨hx, hb, hml, hown, hts, hK, hN, hr, hlk⟩ := id C
  unfold fX11_change at hf
  refine lv_iload_n (pc := 0) hx hb dX11_change_0 rfl (lv_at hl 1 rfl) ?_
  refine lv_i2l (v := p1.toInt64) (pc := 1) hx hb dX11_change_1 rfl ?_
  refine lv_lconst (v := (0 : Int64)) (pc := 2) hx hb dX11_change_2 (by decide) ?_
  refine lv_ldc2 (pc := 3) (v := (200 : Int64)) hx hb hown (hts _ kl_RX11_197) dX11_change_3 ?_
  obtain ⟨q1, hq1, hf⟩ := pt_b hf
  have hPc : va_P D vwCl ([] : va_W) H := hP.sub [] rfl
  have hDc : va_D A ([] : va_W) := hD.sub [] (by decide) rfl
  refine prt_i (runU_S (pc := 6) (As := [.long p1.toInt64, .long ((0 : Int64)), .long ((200 : Int64))]) (rest := []) C lk_RX11_72 (kX11_in l D cA hq1 H.size) ⟨Nat.le_of_ble_eq_true rfl, Nat.le_of_ble_eq_true rfl⟩ ⟨Nat.le_refl _, Nat.le_refl _⟩ hPc hDc hl.1 rfl (Nat.le_of_ble_eq_true rfl) dX11_change_6) hP hD hS hA [] rfl (fun H locs hP hD hS => ?_)
  refine lv_if_ne (tgt := 14) (pc := 9) hx hb dX11_change_9 (by decide) (fun c2 => ?_) (fun c2 => ?_)
  · have hf := pt_f c2 hf
    refine lv_aload_n (pc := 14) hx hb dX11_change_14 rfl (lv_at hl 0 rfl) ?_
    obtain ⟨q3, hq3, hf⟩ := pt_b hf
    refine all_v (runU_V (pc := 15) (As := []) (b := a 0) (rest := []) (ci := 10) (q0 := 0) C lk_RX11_199 (kX11_goCoins l D cA a hq3 H.size) ⟨Nat.le_of_ble_eq_true rfl, Nat.le_of_ble_eq_true rfl⟩ ⟨Nat.le_refl _, Nat.le_refl _⟩ hP hD rfl rfl rfl hl.1 rfl (Nat.le_of_ble_eq_true rfl) dX11_change_15) hD hS hA (fun H locs hP hD hS => ?_)
    refine lv_aload_n (pc := 18) hx hb dX11_change_18 rfl (lv_at hl 0 rfl) ?_
    refine ge_RX11_52_M_0_0 (pc := 19) C hP dX11_change_19 ?_
    refine lv_iload_n (pc := 22) hx hb dX11_change_22 rfl (lv_at hl 1 rfl) ?_
    obtain ⟨h4, hf⟩ := pt_g hf
    refine ld_M_0_15 (pc := 23) (j := p1.toNatClampNeg) C hP h4 rfl dX11_change_23 ?_
    refine lv_ldc (pc := 24) (v := (2000000000 : Int32)) hx hb hown (hts _ kc_RX11_196) dX11_change_24 ?_
    refine lv_icmp_ge (tgt := 38) (pc := 26) hx hb dX11_change_26 (by decide) (fun c5 => ?_) (fun c5 => ?_)
    · have hf := pt_t c5 hf
      refine lv_bipush (v := (-4 : Int32)) (pc := 38) hx hb dX11_change_38 (by decide) ?_
      cases hf
      exact ret_i C hP hD hS dX11_change_40
    · have hf := pt_f c5 hf
      refine lv_aload_n (pc := 29) hx hb dX11_change_29 rfl (lv_at hl 0 rfl) ?_
      refine ge_RX11_52_M_0_0 (pc := 30) C hP dX11_change_30 ?_
      refine lv_iload_n (pc := 33) hx hb dX11_change_33 rfl (lv_at hl 1 rfl) ?_
      obtain ⟨h6, hf⟩ := pt_g hf
      refine ld_M_0_15 (pc := 34) (j := p1.toNatClampNeg) C hP h6 rfl dX11_change_34 ?_
      refine lv_goto (tgt := 40) (pc := 35) hx hb dX11_change_35 (by decide) ?_
      cases hf
      exact ret_i C hP hD hS dX11_change_40
  · have hf := pt_t c2 hf
    refine lv_iconst (v := (-1 : Int32)) (pc := 12) hx hb dX11_change_12 (by decide) ?_
    cases hf
    exact ret_i C hP hD hS dX11_change_13
set_option maxRecDepth 100000 in
set_option maxHeartbeats 4000000 in
theorem kX11_change (l : Launch) (D : va_G) (cA : Nat → ClassId) (a : Nat → Nat) {N : Nat} {S : St} {p1 : Int32} {z : Int32 × St} (hf : fX11_change N S p1 = some z) : CtI l yX11_change cX11_change 2 (some .int) 2 46 D cA (w_M cA a S) (w_M cA a z.2) [.ref (a 0), .int p1] z.1 := by
  intro sz
  refine Met.ofW (cc := cX11_change) (maxL := 2) (ret := (some .int)) (by decide) rfl ?_
  intro p e s m args below meth c s₁ B hml hv
  obtain ⟨rfl, hsz, hP, hK, hD0⟩ := hv
  subst hsz
  have C : Cx p s m _ meth c D cA cX11_change 2 RX11 (some .int) := Cx.of B hml hK
  have hD := hD0.self (sz := s.heap.size)
  have hA : ∀ q : Nat, s.heap.size ≤ q → va_A (w_M cA a S) s.heap.size q := fun q h => Or.inr h
  have hS : va_S (va_A (w_M cA a S) s.heap.size) s.heap s.heap [] := va_S.rf
  have hl := lv_entry ([.ref (a 0), .int p1]) (n := 2) (Nat.le_of_ble_eq_true rfl)
  rw [lg_entry_eq]
  generalize (lg_sl ([.ref (a 0), .int p1]) ++ List.replicate (2 - (lg_sl ([.ref (a 0), .int p1])).length) Slot.unset).toArray = ls at hl ⊢
  exact wX11_change C hA hf hP hD hS hl
def fX11_never_j30 (N : Nat) (g9 : Int32 × Int32 × St → Option (Int32 × St)) (x2 : Int32) (y0 : Int32) (S : St) : Option (Int32 × St) :=
  g9 ((y0, (x2 + 1), S))
def fX11_never_b9 (N : Nat) (g9 : Int32 × Int32 × St → Option (Int32 × St)) (x1 : Int32) (x2 : Int32) (S : St) : Option (Int32 × St) :=
  if (200 : Int32) < x2 then (some (x1, S)) else (if ¬ (x2 < 0 ∨ 201 ≤ x2.toNatClampNeg) then (if (S 26 x2.toNatClampNeg) = 0 then (fX11_never_j30 N g9 x2 x2 S) else (fX11_never_j30 N g9 x2 x1 S)) else none)
def fX11_never_l9 (N : Nat) (k : Nat) (q : Int32 × Int32 × St) : Option (Int32 × St) := lpN (fun g q => fX11_never_b9 N  g q.1 q.2.1 q.2.2) k q
def fX11_never (N : Nat) (S : St) : Option (Int32 × St) :=
  Option.bind (fX11_goCoins N S) (fun q1 => fX11_never_l9 N  N (((-4 : Int32), (1 : Int32), q1)))
set_option maxRecDepth 100000 in
set_option maxHeartbeats 4000000 in
theorem wX11_never_30 (C : Cx p s m args meth c D cA cX11_never 3 RX11 (some .int)) (hA : ∀ q : Nat, s.heap.size ≤ q → A q) {N : Nat} {z : Int32 × St} {g9 : Int32 × Int32 × St → Option (Int32 × St)} (hg9 : ∀ (x1 : Int32) (x2 : Int32) (S : St), g9 (x1, x2, S) = some z → ∀ (H : Heap) (locs : List Loc) (ls : Array Slot), va_P D vwCl (w_M cA a S) H → va_D A (w_M cA a S) → va_S A s.heap H locs → lv_has ls 3 [(0, .ref (a 0)), (1, .int x1), (2, .int x2)] → W p l e (rmU 2 46 0 0) s m args below meth c H locs 0 0 (MQ below (QI D A z.1 (w_M cA a z.2)) args s 0 0 A) (F0 m 9 ls [])) {x2 : Int32} {y0 : Int32} {S : St} (hf : fX11_never_j30 N g9 x2 y0 S = some z) {H : Heap} {locs : List Loc} {ls : Array Slot} (hP : va_P D vwCl (w_M cA a S) H) (hD : va_D A (w_M cA a S)) (hS : va_S A s.heap H locs) (hl : lv_has ls 3 [(0, .ref (a 0)), (2, .int x2)]) : W p l e (rmU 2 46 0 0) s m args below meth c H locs 0 0 (MQ below (QI D A z.1 (w_M cA a z.2)) args s 0 0 A) (F0 m 30 ls [.int y0]) := by
  obtain ⟨hx, hb, hml, hown, hts, hK, hN, hr, hlk⟩ := id C
  unfold fX11_never_j30 at hf
  refine lv_istore_n (lv' := [(1, .int y0), (0, .ref (a 0)), (2, .int x2)]) (pc := 30) hx hb dX11_never_30 rfl hl (by decide) rfl (fun ls hl => ?_)
  refine lv_iinc (v := (x2 + 1)) (lv' := [(2, .int ((x2 + 1))), (1, .int y0), (0, .ref (a 0))]) (pc := 31) hx hb dX11_never_31 hl (k := 2) rfl (by rfl) (by decide) rfl (fun ls hl => ?_)
  refine lv_goto (tgt := 9) (pc := 34) hx hb dX11_never_34 (by decide) ?_
  exact hg9 y0 ((x2 + 1)) S hf _ _ _ hP hD hS (lv_sub hl [2, 1, 0] rfl)
set_option maxRecDepth 100000 in
set_option maxHeartbeats 4000000 in
theorem wX11_never_9 (C : Cx p s m args meth c D cA cX11_never 3 RX11 (some .int)) (hA : ∀ q : Nat, s.heap.size ≤ q → A q) {N : Nat} {z : Int32 × St} : ∀ (k : Nat) (x1 : Int32) (x2 : Int32) (S : St), fX11_never_l9 N  k (x1, x2, S) = some z → ∀ (H : Heap) (locs : List Loc) (ls : Array Slot), va_P D vwCl (w_M cA a S) H → va_D A (w_M cA a S) → va_S A s.heap H locs → lv_has ls 3 [(0, .ref (a 0)), (1, .int x1), (2, .int x2)] → W p l e (rmU 2 46 0 0) s m args below meth c H locs 0 0 (MQ below (QI D A z.1 (w_M cA a z.2)) args s 0 0 A) (F0 m 9 ls []) := by
  obtain ⟨hx, hb, hml, hown, hts, hK, hN, hr, hlk⟩ := id C
  intro k
  induction k with
  | zero =>
    intro x1 x2 S hf
    have hf : (none : Option (Int32 × St)) = some z := hf
    cases hf
  | succ k hg9 =>
    intro x1 x2 S hf H locs ls hP hD hS hl
    have hf : fX11_never_b9 N  (fX11_never_l9 N  k) x1 x2 S = some z := hf
    unfold fX11_never_b9 at hf
    refine lv_iload_n (pc := 9) hx hb dX11_never_9 rfl (lv_at hl 2 rfl) ?_
    refine lv_sipush (v := (200 : Int32)) (pc := 10) hx hb dX11_never_10 (by decide) ?_
    refine lv_icmp_gt (tgt := 37) (pc := 13) hx hb dX11_never_13 (by decide) (fun c1 => ?_) (fun c1 => ?_)
    · have hf := pt_t c1 hf
      refine lv_iload_n (pc := 37) hx hb dX11_never_37 rfl (lv_at hl 1 rfl) ?_
      cases hf
      exact ret_i C hP hD hS dX11_never_38
    · have hf := pt_f c1 hf
      refine lv_aload_n (pc := 16) hx hb dX11_never_16 rfl (lv_at hl 0 rfl) ?_
      refine ge_RX11_55_M_0_0 (pc := 17) C hP dX11_never_17 ?_
      refine lv_iload_n (pc := 20) hx hb dX11_never_20 rfl (lv_at hl 2 rfl) ?_
      obtain ⟨h2, hf⟩ := pt_g hf
      refine ld_M_0_16 (pc := 21) (j := x2.toNatClampNeg) C hP h2 rfl dX11_never_21 ?_
      refine lv_if_ne (tgt := 29) (pc := 22) hx hb dX11_never_22 (by decide) (fun c3 => ?_) (fun c3 => ?_)
      · have hf := pt_f c3 hf
        refine lv_iload_n (pc := 29) hx hb dX11_never_29 rfl (lv_at hl 1 rfl) ?_
        exact wX11_never_30 C hA hg9 hf hP hD hS (lv_sub hl [0, 2] rfl)
      · have hf := pt_t c3 hf
        refine lv_iload_n (pc := 25) hx hb dX11_never_25 rfl (lv_at hl 2 rfl) ?_
        refine lv_goto (tgt := 30) (pc := 26) hx hb dX11_never_26 (by decide) ?_
        exact wX11_never_30 C hA hg9 hf hP hD hS (lv_sub hl [0, 2] rfl)
set_option maxRecDepth 100000 in
set_option maxHeartbeats 4000000 in
theorem wX11_never (C : Cx p s m args meth c D cA cX11_never 3 RX11 (some .int)) (hA : ∀ q : Nat, s.heap.size ≤ q → A q) {N : Nat} {z : Int32 × St} {S : St} (hf : fX11_never N S = some z) {H : Heap} {locs : List Loc} {ls : Array Slot} (hP : va_P D vwCl (w_M cA a S) H) (hD : va_D A (w_M cA a S)) (hS : va_S A s.heap H locs) (hl : lv_has ls 3 [(0, .ref (a 0))]) : W p l e (rmU 2 46 0 0) s m args below meth c H locs 0 0 (MQ below (QI D A z.1 (w_M cA a z.2)) args s 0 0 A) (F0 m 0 ls []) := by
  obtain ⟨hx, hb, hml, hown, hts, hK, hN, hr, hlk⟩ := id C
  unfold fX11_never at hf
  refine lv_aload_n (pc := 0) hx hb dX11_never_0 rfl (lv_at hl 0 rfl) ?_
  obtain ⟨q1, hq1, hf⟩ := pt_b hf
  refine all_v (runU_V (pc := 1) (As := []) (b := a 0) (rest := []) (ci := 10) (q0 := 0) C lk_RX11_199 (kX11_goCoins l D cA a hq1 H.size) ⟨Nat.le_of_ble_eq_true rfl, Nat.le_of_ble_eq_true rfl⟩ ⟨Nat.le_refl _, Nat.le_refl _⟩ hP hD rfl rfl rfl hl.1 rfl (Nat.le_of_ble_eq_true rfl) dX11_never_1) hD hS hA (fun H locs hP hD hS => ?_)
  refine lv_bipush (v := (-4 : Int32)) (pc := 4) hx hb dX11_never_4 (by decide) ?_
  refine lv_istore_n (lv' := [(1, .int ((-4 : Int32))), (0, .ref (a 0))]) (pc := 6) hx hb dX11_never_6 rfl hl (by decide) rfl (fun ls hl => ?_)
  refine lv_iconst (v := (1 : Int32)) (pc := 7) hx hb dX11_never_7 (by decide) ?_
  refine lv_istore_n (lv' := [(2, .int ((1 : Int32))), (1, .int ((-4 : Int32))), (0, .ref (a 0))]) (pc := 8) hx hb dX11_never_8 rfl hl (by decide) rfl (fun ls hl => ?_)
  exact wX11_never_9 C hA  _ ((-4 : Int32)) ((1 : Int32)) q1 hf _ _ _ hP hD hS (lv_sub hl [2, 1, 0] rfl)
set_option maxRecDepth 100000 in
set_option maxHeartbeats 4000000 in
theorem kX11_never (l : Launch) (D : va_G) (cA : Nat → ClassId) (a : Nat → Nat) {N : Nat} {S : St} {z : Int32 × St} (hf : fX11_never N S = some z) : CtI l yX11_never cX11_never 3 (some .int) 2 46 D cA (w_M cA a S) (w_M cA a z.2) [.ref (a 0)] z.1 := by
  intro sz
  refine Met.ofW (cc := cX11_never) (maxL := 3) (ret := (some .int)) (by decide) rfl ?_
  intro p e s m args below meth c s₁ B hml hv
  obtain ⟨rfl, hsz, hP, hK, hD0⟩ := hv
  subst hsz
  have C : Cx p s m _ meth c D cA cX11_never 3 RX11 (some .int) := Cx.of B hml hK
  have hD := hD0.self (sz := s.heap.size)
  have hA : ∀ q : Nat, s.heap.size ≤ q → va_A (w_M cA a S) s.heap.size q := fun q h => Or.inr h
  have hS : va_S (va_A (w_M cA a S) s.heap.size) s.heap s.heap [] := va_S.rf
  have hl := lv_entry ([.ref (a 0)]) (n := 3) (Nat.le_of_ble_eq_true rfl)
  rw [lg_entry_eq]
  generalize (lg_sl ([.ref (a 0)]) ++ List.replicate (3 - (lg_sl ([.ref (a 0)])).length) Slot.unset).toArray = ls at hl ⊢
  exact wX11_never C hA hf hP hD hS hl
def fX11_pays (N : Nat) (S : St) (p1 : Int32) : Option (Int32 × St) :=
  Option.bind (fX11_in N p1.toInt64 ((0 : Int64)) ((200 : Int64))) (fun q1 => if q1 = 0 then (some ((-1 : Int32), S)) else (Option.bind (fX11_goCoins N S) (fun q3 => if ¬ (p1 < 0 ∨ 201 ≤ p1.toNatClampNeg) then (some ((q3 26 p1.toNatClampNeg), q3)) else none)))
set_option maxRecDepth 100000 in
set_option maxHeartbeats 4000000 in
theorem wX11_pays (C : Cx p s m args meth c D cA cX11_pays 2 RX11 (some .int)) (hA : ∀ q : Nat, s.heap.size ≤ q → A q) {N : Nat} {z : Int32 × St} {S : St} {p1 : Int32} (hf : fX11_pays N S p1 = some z) {H : Heap} {locs : List Loc} {ls : Array Slot} (hP : va_P D vwCl (w_M cA a S) H) (hD : va_D A (w_M cA a S)) (hS : va_S A s.heap H locs) (hl : lv_has ls 2 [(0, .ref (a 0)), (1, .int p1)]) : W p l e (rmU 2 46 0 0) s m args below meth c H locs 0 0 (MQ below (QI D A z.1 (w_M cA a z.2)) args s 0 0 A) (F0 m 0 ls []) := by
  obtain ⟨hx, hb, hml, hown, hts, hK, hN, hr, hlk⟩ := id C
  unfold fX11_pays at hf
  refine lv_iload_n (pc := 0) hx hb dX11_pays_0 rfl (lv_at hl 1 rfl) ?_
  refine lv_i2l (v := p1.toInt64) (pc := 1) hx hb dX11_pays_1 rfl ?_
  refine lv_lconst (v := (0 : Int64)) (pc := 2) hx hb dX11_pays_2 (by decide) ?_
  refine lv_ldc2 (pc := 3) (v := (200 : Int64)) hx hb hown (hts _ kl_RX11_197) dX11_pays_3 ?_
  obtain ⟨q1, hq1, hf⟩ := pt_b hf
  have hPc : va_P D vwCl ([] : va_W) H := hP.sub [] rfl
  have hDc : va_D A ([] : va_W) := hD.sub [] (by decide) rfl
  refine prt_i (runU_S (pc := 6) (As := [.long p1.toInt64, .long ((0 : Int64)), .long ((200 : Int64))]) (rest := []) C lk_RX11_72 (kX11_in l D cA hq1 H.size) ⟨Nat.le_of_ble_eq_true rfl, Nat.le_of_ble_eq_true rfl⟩ ⟨Nat.le_refl _, Nat.le_refl _⟩ hPc hDc hl.1 rfl (Nat.le_of_ble_eq_true rfl) dX11_pays_6) hP hD hS hA [] rfl (fun H locs hP hD hS => ?_)
  refine lv_if_ne (tgt := 14) (pc := 9) hx hb dX11_pays_9 (by decide) (fun c2 => ?_) (fun c2 => ?_)
  · have hf := pt_f c2 hf
    refine lv_aload_n (pc := 14) hx hb dX11_pays_14 rfl (lv_at hl 0 rfl) ?_
    obtain ⟨q3, hq3, hf⟩ := pt_b hf
    refine all_v (runU_V (pc := 15) (As := []) (b := a 0) (rest := []) (ci := 10) (q0 := 0) C lk_RX11_199 (kX11_goCoins l D cA a hq3 H.size) ⟨Nat.le_of_ble_eq_true rfl, Nat.le_of_ble_eq_true rfl⟩ ⟨Nat.le_refl _, Nat.le_refl _⟩ hP hD rfl rfl rfl hl.1 rfl (Nat.le_of_ble_eq_true rfl) dX11_pays_15) hD hS hA (fun H locs hP hD hS => ?_)
    refine lv_aload_n (pc := 18) hx hb dX11_pays_18 rfl (lv_at hl 0 rfl) ?_
    refine ge_RX11_55_M_0_0 (pc := 19) C hP dX11_pays_19 ?_
    refine lv_iload_n (pc := 22) hx hb dX11_pays_22 rfl (lv_at hl 1 rfl) ?_
    obtain ⟨h4, hf⟩ := pt_g hf
    refine ld_M_0_16 (pc := 23) (j := p1.toNatClampNeg) C hP h4 rfl dX11_pays_23 ?_
    cases hf
    exact ret_i C hP hD hS dX11_pays_24
  · have hf := pt_t c2 hf
    refine lv_iconst (v := (-1 : Int32)) (pc := 12) hx hb dX11_pays_12 (by decide) ?_
    cases hf
    exact ret_i C hP hD hS dX11_pays_13
set_option maxRecDepth 100000 in
set_option maxHeartbeats 4000000 in
theorem kX11_pays (l : Launch) (D : va_G) (cA : Nat → ClassId) (a : Nat → Nat) {N : Nat} {S : St} {p1 : Int32} {z : Int32 × St} (hf : fX11_pays N S p1 = some z) : CtI l yX11_pays cX11_pays 2 (some .int) 2 46 D cA (w_M cA a S) (w_M cA a z.2) [.ref (a 0), .int p1] z.1 := by
  intro sz
  refine Met.ofW (cc := cX11_pays) (maxL := 2) (ret := (some .int)) (by decide) rfl ?_
  intro p e s m args below meth c s₁ B hml hv
  obtain ⟨rfl, hsz, hP, hK, hD0⟩ := hv
  subst hsz
  have C : Cx p s m _ meth c D cA cX11_pays 2 RX11 (some .int) := Cx.of B hml hK
  have hD := hD0.self (sz := s.heap.size)
  have hA : ∀ q : Nat, s.heap.size ≤ q → va_A (w_M cA a S) s.heap.size q := fun q h => Or.inr h
  have hS : va_S (va_A (w_M cA a S) s.heap.size) s.heap s.heap [] := va_S.rf
  have hl := lv_entry ([.ref (a 0), .int p1]) (n := 2) (Nat.le_of_ble_eq_true rfl)
  rw [lg_entry_eq]
  generalize (lg_sl ([.ref (a 0), .int p1]) ++ List.replicate (2 - (lg_sl ([.ref (a 0), .int p1])).length) Slot.unset).toArray = ls at hl ⊢
  exact wX11_pays C hA hf hP hD hS hl
def fX11_daysLeft_b4 (N : Nat) (S : St) (g4 : Int32 × Int32 → Option (Int32)) (x1 : Int32) (x2 : Int32) : Option (Int32) :=
  if (S 6 0) < x2 then (some x1) else (if ¬ (x2 < 0 ∨ 20 ≤ x2.toNatClampNeg) then (nm ((x1 + ((1 : Int32) - (S 9 x2.toNatClampNeg)))) (fun v3 => g4 ((v3, (x2 + 1))))) else none)
def fX11_daysLeft_l4 (N : Nat) (S : St) (k : Nat) (q : Int32 × Int32) : Option (Int32) := lpN (fun g q => fX11_daysLeft_b4 N S g q.1 q.2) k q
def fX11_daysLeft (N : Nat) (S : St) : Option (Int32) :=
  fX11_daysLeft_l4 N S N (((0 : Int32), (1 : Int32)))
set_option maxRecDepth 100000 in
set_option maxHeartbeats 4000000 in
theorem wX11_daysLeft_4 (C : Cx p s m args meth c D cA cX11_daysLeft 3 RX11 (some .int)) (hA : ∀ q : Nat, s.heap.size ≤ q → A q) {N : Nat} {z : Int32} {S : St} : ∀ (k : Nat) (x1 : Int32) (x2 : Int32), fX11_daysLeft_l4 N S k (x1, x2) = some z → ∀ (H : Heap) (locs : List Loc) (ls : Array Slot), va_P D vwCl (w_M cA a S) H → va_D A (w_M cA a S) → va_S A s.heap H locs → lv_has ls 3 [(0, .ref (a 0)), (1, .int x1), (2, .int x2)] → W p l e (rmU 0 0 0 0) s m args below meth c H locs 0 0 (MQ below (QI D A z (w_M cA a S)) args s 0 0 A) (F0 m 4 ls []) := by
  obtain ⟨hx, hb, hml, hown, hts, hK, hN, hr, hlk⟩ := id C
  intro k
  induction k with
  | zero =>
    intro x1 x2 hf
    have hf : (none : Option (Int32)) = some z := hf
    cases hf
  | succ k hg4 =>
    intro x1 x2 hf H locs ls hP hD hS hl
    have hf : fX11_daysLeft_b4 N S (fX11_daysLeft_l4 N S k) x1 x2 = some z := hf
    unfold fX11_daysLeft_b4 at hf
    refine lv_iload_n (pc := 4) hx hb dX11_daysLeft_4 rfl (lv_at hl 2 rfl) ?_
    refine lv_aload_n (pc := 5) hx hb dX11_daysLeft_5 rfl (lv_at hl 0 rfl) ?_
    refine ge_RX11_25_M_0_0 (pc := 6) C hP dX11_daysLeft_6 ?_
    refine lv_iconst (v := (0 : Int32)) (pc := 9) hx hb dX11_daysLeft_9 (by decide) ?_
    refine ld_M_0_6 (pc := 10) (j := 0) C hP (inK rfl) rfl dX11_daysLeft_10 ?_
    refine lv_icmp_gt (tgt := 31) (pc := 11) hx hb dX11_daysLeft_11 (by decide) (fun c1 => ?_) (fun c1 => ?_)
    · have hf := pt_t c1 hf
      refine lv_iload_n (pc := 31) hx hb dX11_daysLeft_31 rfl (lv_at hl 1 rfl) ?_
      cases hf
      exact ret_i C hP hD hS dX11_daysLeft_32
    · have hf := pt_f c1 hf
      refine lv_iload_n (pc := 14) hx hb dX11_daysLeft_14 rfl (lv_at hl 1 rfl) ?_
      refine lv_iconst (v := (1 : Int32)) (pc := 15) hx hb dX11_daysLeft_15 (by decide) ?_
      refine lv_aload_n (pc := 16) hx hb dX11_daysLeft_16 rfl (lv_at hl 0 rfl) ?_
      refine ge_RX11_34_M_0_0 (pc := 17) C hP dX11_daysLeft_17 ?_
      refine lv_iload_n (pc := 20) hx hb dX11_daysLeft_20 rfl (lv_at hl 2 rfl) ?_
      obtain ⟨h2, hf⟩ := pt_g hf
      refine ld_M_0_9 (pc := 21) (j := x2.toNatClampNeg) C hP h2 rfl dX11_daysLeft_21 ?_
      refine lv_isub (pc := 22) hx hb dX11_daysLeft_22 ?_
      refine lv_iadd (pc := 23) hx hb dX11_daysLeft_23 ?_
      refine lv_topi (fun v3 ev3 => ?_)
      have hf := pt_n ev3 hf
      refine lv_istore_n (lv' := [(1, .int v3), (0, .ref (a 0)), (2, .int x2)]) (pc := 24) hx hb dX11_daysLeft_24 rfl hl (by decide) rfl (fun ls hl => ?_)
      refine lv_iinc (v := (x2 + 1)) (lv' := [(2, .int ((x2 + 1))), (1, .int v3), (0, .ref (a 0))]) (pc := 25) hx hb dX11_daysLeft_25 hl (k := 2) rfl (by rfl) (by decide) rfl (fun ls hl => ?_)
      refine lv_goto (tgt := 4) (pc := 28) hx hb dX11_daysLeft_28 (by decide) ?_
      exact hg4 v3 ((x2 + 1)) hf _ _ _ hP hD hS (lv_sub hl [2, 1, 0] rfl)
set_option maxRecDepth 100000 in
set_option maxHeartbeats 4000000 in
theorem wX11_daysLeft (C : Cx p s m args meth c D cA cX11_daysLeft 3 RX11 (some .int)) (hA : ∀ q : Nat, s.heap.size ≤ q → A q) {N : Nat} {z : Int32} {S : St} (hf : fX11_daysLeft N S = some z) {H : Heap} {locs : List Loc} {ls : Array Slot} (hP : va_P D vwCl (w_M cA a S) H) (hD : va_D A (w_M cA a S)) (hS : va_S A s.heap H locs) (hl : lv_has ls 3 [(0, .ref (a 0))]) : W p l e (rmU 0 0 0 0) s m args below meth c H locs 0 0 (MQ below (QI D A z (w_M cA a S)) args s 0 0 A) (F0 m 0 ls []) := by
  obtain ⟨hx, hb, hml, hown, hts, hK, hN, hr, hlk⟩ := id C
  unfold fX11_daysLeft at hf
  refine lv_iconst (v := (0 : Int32)) (pc := 0) hx hb dX11_daysLeft_0 (by decide) ?_
  refine lv_istore_n (lv' := [(1, .int ((0 : Int32))), (0, .ref (a 0))]) (pc := 1) hx hb dX11_daysLeft_1 rfl hl (by decide) rfl (fun ls hl => ?_)
  refine lv_iconst (v := (1 : Int32)) (pc := 2) hx hb dX11_daysLeft_2 (by decide) ?_
  refine lv_istore_n (lv' := [(2, .int ((1 : Int32))), (1, .int ((0 : Int32))), (0, .ref (a 0))]) (pc := 3) hx hb dX11_daysLeft_3 rfl hl (by decide) rfl (fun ls hl => ?_)
  exact wX11_daysLeft_4 C hA  _ ((0 : Int32)) ((1 : Int32)) hf _ _ _ hP hD hS (lv_sub hl [2, 1, 0] rfl)
set_option maxRecDepth 100000 in
set_option maxHeartbeats 4000000 in
theorem kX11_daysLeft (l : Launch) (D : va_G) (cA : Nat → ClassId) (a : Nat → Nat) {N : Nat} {S : St} {z : Int32} (hf : fX11_daysLeft N S = some z) : CtI l yX11_daysLeft cX11_daysLeft 3 (some .int) 0 0 D cA (w_M cA a S) (w_M cA a S) [.ref (a 0)] z := by
  intro sz
  refine Met.ofW (cc := cX11_daysLeft) (maxL := 3) (ret := (some .int)) (by decide) rfl ?_
  intro p e s m args below meth c s₁ B hml hv
  obtain ⟨rfl, hsz, hP, hK, hD0⟩ := hv
  subst hsz
  have C : Cx p s m _ meth c D cA cX11_daysLeft 3 RX11 (some .int) := Cx.of B hml hK
  have hD := hD0.self (sz := s.heap.size)
  have hA : ∀ q : Nat, s.heap.size ≤ q → va_A (w_M cA a S) s.heap.size q := fun q h => Or.inr h
  have hS : va_S (va_A (w_M cA a S) s.heap.size) s.heap s.heap [] := va_S.rf
  have hl := lv_entry ([.ref (a 0)]) (n := 3) (Nat.le_of_ble_eq_true rfl)
  rw [lg_entry_eq]
  generalize (lg_sl ([.ref (a 0)]) ++ List.replicate (3 - (lg_sl ([.ref (a 0)])).length) Slot.unset).toArray = ls at hl ⊢
  exact wX11_daysLeft C hA hf hP hD hS hl
theorem kl_RX11_202 : Cond.constantLong RX11 202 (9999) ∈ wsL_law := by decide +kernel
theorem lk_RX11_204 : LkV RX11 204 yX11_daysLeft cX11_daysLeft 3 (some .int) 0 := ⟨⟨by decide +kernel, by decide +kernel, by decide +kernel, by decide +kernel, by decide +kernel, by decide +kernel⟩, by decide +kernel, by decide +kernel⟩
def fX11_day_j48 (N : Nat) (S : St) (p1 : Int32) (g33 : Int32 × Int32 → Option (Int32)) (x3 : Int32) (x4 : Int32) : Option (Int32) :=
  if ¬ (x4 < 0 ∨ 20 ≤ x4.toNatClampNeg) then (nm ((x3 - ((1 : Int32) - (S 9 x4.toNatClampNeg)))) (fun v2 => g33 ((v2, (x4 + 1))))) else none
def fX11_day_b33 (N : Nat) (S : St) (p1 : Int32) (g33 : Int32 × Int32 → Option (Int32)) (x3 : Int32) (x4 : Int32) : Option (Int32) :=
  if ¬ (x4 < 0 ∨ 20 ≤ x4.toNatClampNeg) then (if (S 9 x4.toNatClampNeg) = (1 : Int32) then (fX11_day_j48 N S p1 g33 x3 x4) else (if x3 ≤ 0 then (some x4) else (fX11_day_j48 N S p1 g33 x3 x4))) else none
def fX11_day_l33 (N : Nat) (S : St) (p1 : Int32) (k : Nat) (q : Int32 × Int32) : Option (Int32) := lpN (fun g q => fX11_day_b33 N S p1 g q.1 q.2) k q
def fX11_day (N : Nat) (S : St) (p1 : Int32) : Option (Int32) :=
  Option.bind (fX11_in N p1.toInt64 ((0 : Int64)) ((9999 : Int64))) (fun q1 => if q1 = 0 then (some ((-1 : Int32))) else (Option.bind (fX11_daysLeft N S) (fun q3 => if q3 = 0 then (some ((-4 : Int32))) else (if ¬ q3 = 0 then (fX11_day_l33 N S p1 N (((p1 - p1 / q3 * q3), (1 : Int32)))) else none))))
set_option maxRecDepth 100000 in
set_option maxHeartbeats 4000000 in
theorem wX11_day_48 (C : Cx p s m args meth c D cA cX11_day 5 RX11 (some .int)) (hA : ∀ q : Nat, s.heap.size ≤ q → A q) {N : Nat} {z : Int32} {S : St} {p1 : Int32} {g33 : Int32 × Int32 → Option (Int32)} (hg33 : ∀ (x3 : Int32) (x4 : Int32), g33 (x3, x4) = some z → ∀ (H : Heap) (locs : List Loc) (ls : Array Slot), va_P D vwCl (w_M cA a S) H → va_D A (w_M cA a S) → va_S A s.heap H locs → lv_has ls 5 [(0, .ref (a 0)), (3, .int x3), (4, .int x4)] → W p l e (rmU 1 25 0 0) s m args below meth c H locs 0 0 (MQ below (QI D A z (w_M cA a S)) args s 0 0 A) (F0 m 33 ls [])) {x3 : Int32} {x4 : Int32} (hf : fX11_day_j48 N S p1 g33 x3 x4 = some z) {H : Heap} {locs : List Loc} {ls : Array Slot} (hP : va_P D vwCl (w_M cA a S) H) (hD : va_D A (w_M cA a S)) (hS : va_S A s.heap H locs) (hl : lv_has ls 5 [(0, .ref (a 0)), (3, .int x3), (4, .int x4)]) : W p l e (rmU 1 25 0 0) s m args below meth c H locs 0 0 (MQ below (QI D A z (w_M cA a S)) args s 0 0 A) (F0 m 48 ls []) := by
  obtain ⟨hx, hb, hml, hown, hts, hK, hN, hr, hlk⟩ := id C
  unfold fX11_day_j48 at hf
  refine lv_iload_n (pc := 48) hx hb dX11_day_48 rfl (lv_at hl 1 rfl) ?_
  refine lv_iconst (v := (1 : Int32)) (pc := 49) hx hb dX11_day_49 (by decide) ?_
  refine lv_aload_n (pc := 50) hx hb dX11_day_50 rfl (lv_at hl 0 rfl) ?_
  refine ge_RX11_34_M_0_0 (pc := 51) C hP dX11_day_51 ?_
  refine lv_iload (pc := 54) hx hb dX11_day_54 (lv_at hl 2 rfl) ?_
  obtain ⟨h1, hf⟩ := pt_g hf
  refine ld_M_0_9 (pc := 56) (j := x4.toNatClampNeg) C hP h1 rfl dX11_day_56 ?_
  refine lv_isub (pc := 57) hx hb dX11_day_57 ?_
  refine lv_isub (pc := 58) hx hb dX11_day_58 ?_
  refine lv_topi (fun v2 ev2 => ?_)
  have hf := pt_n ev2 hf
  refine lv_istore_n (lv' := [(3, .int v2), (0, .ref (a 0)), (4, .int x4)]) (pc := 59) hx hb dX11_day_59 rfl hl (by decide) rfl (fun ls hl => ?_)
  refine lv_iinc (v := (x4 + 1)) (lv' := [(4, .int ((x4 + 1))), (3, .int v2), (0, .ref (a 0))]) (pc := 60) hx hb dX11_day_60 hl (k := 2) rfl (by rfl) (by decide) rfl (fun ls hl => ?_)
  refine lv_goto (tgt := 33) (pc := 63) hx hb dX11_day_63 (by decide) ?_
  exact hg33 v2 ((x4 + 1)) hf _ _ _ hP hD hS (lv_sub hl [2, 1, 0] rfl)
set_option maxRecDepth 100000 in
set_option maxHeartbeats 4000000 in
theorem wX11_day_33 (C : Cx p s m args meth c D cA cX11_day 5 RX11 (some .int)) (hA : ∀ q : Nat, s.heap.size ≤ q → A q) {N : Nat} {z : Int32} {S : St} {p1 : Int32} : ∀ (k : Nat) (x3 : Int32) (x4 : Int32), fX11_day_l33 N S p1 k (x3, x4) = some z → ∀ (H : Heap) (locs : List Loc) (ls : Array Slot), va_P D vwCl (w_M cA a S) H → va_D A (w_M cA a S) → va_S A s.heap H locs → lv_has ls 5 [(0, .ref (a 0)), (3, .int x3), (4, .int x4)] → W p l e (rmU 1 25 0 0) s m args below meth c H locs 0 0 (MQ below (QI D A z (w_M cA a S)) args s 0 0 A) (F0 m 33 ls []) := by
  obtain ⟨hx, hb, hml, hown, hts, hK, hN, hr, hlk⟩ := id C
  intro k
  induction k with
  | zero =>
    intro x3 x4 hf
    have hf : (none : Option (Int32)) = some z := hf
    cases hf
  | succ k hg33 =>
    intro x3 x4 hf H locs ls hP hD hS hl
    have hf : fX11_day_b33 N S p1 (fX11_day_l33 N S p1 k) x3 x4 = some z := hf
    unfold fX11_day_b33 at hf
    refine lv_aload_n (pc := 33) hx hb dX11_day_33 rfl (lv_at hl 0 rfl) ?_
    refine ge_RX11_34_M_0_0 (pc := 34) C hP dX11_day_34 ?_
    refine lv_iload (pc := 37) hx hb dX11_day_37 (lv_at hl 2 rfl) ?_
    obtain ⟨h1, hf⟩ := pt_g hf
    refine ld_M_0_9 (pc := 39) (j := x4.toNatClampNeg) C hP h1 rfl dX11_day_39 ?_
    refine lv_iconst (v := (1 : Int32)) (pc := 40) hx hb dX11_day_40 (by decide) ?_
    refine lv_icmp_eq (tgt := 48) (pc := 41) hx hb dX11_day_41 (by decide) (fun c2 => ?_) (fun c2 => ?_)
    · have hf := pt_t c2 hf
      exact wX11_day_48 C hA hg33 hf hP hD hS (lv_sub hl [0, 1, 2] rfl)
    · have hf := pt_f c2 hf
      refine lv_iload_n (pc := 44) hx hb dX11_day_44 rfl (lv_at hl 1 rfl) ?_
      refine lv_if_le (tgt := 66) (pc := 45) hx hb dX11_day_45 (by decide) (fun c3 => ?_) (fun c3 => ?_)
      · have hf := pt_t c3 hf
        refine lv_iload (pc := 66) hx hb dX11_day_66 (lv_at hl 2 rfl) ?_
        cases hf
        exact ret_i C hP hD hS dX11_day_68
      · have hf := pt_f c3 hf
        exact wX11_day_48 C hA hg33 hf hP hD hS (lv_sub hl [0, 1, 2] rfl)
set_option maxRecDepth 100000 in
set_option maxHeartbeats 4000000 in
theorem wX11_day (C : Cx p s m args meth c D cA cX11_day 5 RX11 (some .int)) (hA : ∀ q : Nat, s.heap.size ≤ q → A q) {N : Nat} {z : Int32} {S : St} {p1 : Int32} (hf : fX11_day N S p1 = some z) {H : Heap} {locs : List Loc} {ls : Array Slot} (hP : va_P D vwCl (w_M cA a S) H) (hD : va_D A (w_M cA a S)) (hS : va_S A s.heap H locs) (hl : lv_has ls 5 [(0, .ref (a 0)), (1, .int p1)]) : W p l e (rmU 1 25 0 0) s m args below meth c H locs 0 0 (MQ below (QI D A z (w_M cA a S)) args s 0 0 A) (F0 m 0 ls []) := by
  obtain ⟨hx, hb, hml, hown, hts, hK, hN, hr, hlk⟩ := id C
  unfold fX11_day at hf
  refine lv_iload_n (pc := 0) hx hb dX11_day_0 rfl (lv_at hl 1 rfl) ?_
  refine lv_i2l (v := p1.toInt64) (pc := 1) hx hb dX11_day_1 rfl ?_
  refine lv_lconst (v := (0 : Int64)) (pc := 2) hx hb dX11_day_2 (by decide) ?_
  refine lv_ldc2 (pc := 3) (v := (9999 : Int64)) hx hb hown (hts _ kl_RX11_202) dX11_day_3 ?_
  obtain ⟨q1, hq1, hf⟩ := pt_b hf
  have hPc : va_P D vwCl ([] : va_W) H := hP.sub [] rfl
  have hDc : va_D A ([] : va_W) := hD.sub [] (by decide) rfl
  refine prt_i (runU_S (pc := 6) (As := [.long p1.toInt64, .long ((0 : Int64)), .long ((9999 : Int64))]) (rest := []) C lk_RX11_72 (kX11_in l D cA hq1 H.size) ⟨Nat.le_of_ble_eq_true rfl, Nat.le_of_ble_eq_true rfl⟩ ⟨Nat.le_refl _, Nat.le_refl _⟩ hPc hDc hl.1 rfl (Nat.le_of_ble_eq_true rfl) dX11_day_6) hP hD hS hA [] rfl (fun H locs hP hD hS => ?_)
  refine lv_if_ne (tgt := 14) (pc := 9) hx hb dX11_day_9 (by decide) (fun c2 => ?_) (fun c2 => ?_)
  · have hf := pt_f c2 hf
    refine lv_aload_n (pc := 14) hx hb dX11_day_14 rfl (lv_at hl 0 rfl) ?_
    obtain ⟨q3, hq3, hf⟩ := pt_b hf
    refine all_i (runU_V (pc := 15) (As := []) (b := a 0) (rest := []) (ci := 10) (q0 := 0) C lk_RX11_204 (kX11_daysLeft l D cA a hq3 H.size) ⟨Nat.le_of_ble_eq_true rfl, Nat.le_of_ble_eq_true rfl⟩ ⟨Nat.le_refl _, Nat.le_refl _⟩ hP hD rfl rfl rfl hl.1 rfl (Nat.le_of_ble_eq_true rfl) dX11_day_15) hD hS hA (fun H locs hP hD hS => ?_)
    refine lv_istore_n (lv' := [(2, .int q3), (0, .ref (a 0)), (1, .int p1)]) (pc := 18) hx hb dX11_day_18 rfl hl (by decide) rfl (fun ls hl => ?_)
    refine lv_iload_n (pc := 19) hx hb dX11_day_19 rfl (lv_at hl 0 rfl) ?_
    refine lv_if_ne (tgt := 26) (pc := 20) hx hb dX11_day_20 (by decide) (fun c4 => ?_) (fun c4 => ?_)
    · have hf := pt_f c4 hf
      refine lv_iload_n (pc := 26) hx hb dX11_day_26 rfl (lv_at hl 2 rfl) ?_
      refine lv_iload_n (pc := 27) hx hb dX11_day_27 rfl (lv_at hl 0 rfl) ?_
      obtain ⟨h5, hf⟩ := pt_g hf
      refine lv_irem (pc := 28) hx hb dX11_day_28 h5 ?_
      refine lv_istore_n (lv' := [(3, .int ((p1 - p1 / q3 * q3))), (2, .int q3), (0, .ref (a 0)), (1, .int p1)]) (pc := 29) hx hb dX11_day_29 rfl hl (by decide) rfl (fun ls hl => ?_)
      refine lv_iconst (v := (1 : Int32)) (pc := 30) hx hb dX11_day_30 (by decide) ?_
      refine lv_istore (lv' := [(4, .int ((1 : Int32))), (3, .int ((p1 - p1 / q3 * q3))), (2, .int q3), (0, .ref (a 0)), (1, .int p1)]) (pc := 31) hx hb dX11_day_31 hl (by decide) rfl (fun ls hl => ?_)
      exact wX11_day_33 C hA  _ ((p1 - p1 / q3 * q3)) ((1 : Int32)) hf _ _ _ hP hD hS (lv_sub hl [3, 1, 0] rfl)
    · have hf := pt_t c4 hf
      refine lv_bipush (v := (-4 : Int32)) (pc := 23) hx hb dX11_day_23 (by decide) ?_
      cases hf
      exact ret_i C hP hD hS dX11_day_25
  · have hf := pt_t c2 hf
    refine lv_iconst (v := (-1 : Int32)) (pc := 12) hx hb dX11_day_12 (by decide) ?_
    cases hf
    exact ret_i C hP hD hS dX11_day_13
set_option maxRecDepth 100000 in
set_option maxHeartbeats 4000000 in
theorem kX11_day (l : Launch) (D : va_G) (cA : Nat → ClassId) (a : Nat → Nat) {N : Nat} {S : St} {p1 : Int32} {z : Int32} (hf : fX11_day N S p1 = some z) : CtI l yX11_day cX11_day 5 (some .int) 1 25 D cA (w_M cA a S) (w_M cA a S) [.ref (a 0), .int p1] z := by
  intro sz
  refine Met.ofW (cc := cX11_day) (maxL := 5) (ret := (some .int)) (by decide) rfl ?_
  intro p e s m args below meth c s₁ B hml hv
  obtain ⟨rfl, hsz, hP, hK, hD0⟩ := hv
  subst hsz
  have C : Cx p s m _ meth c D cA cX11_day 5 RX11 (some .int) := Cx.of B hml hK
  have hD := hD0.self (sz := s.heap.size)
  have hA : ∀ q : Nat, s.heap.size ≤ q → va_A (w_M cA a S) s.heap.size q := fun q h => Or.inr h
  have hS : va_S (va_A (w_M cA a S) s.heap.size) s.heap s.heap [] := va_S.rf
  have hl := lv_entry ([.ref (a 0), .int p1]) (n := 5) (Nat.le_of_ble_eq_true rfl)
  rw [lg_entry_eq]
  generalize (lg_sl ([.ref (a 0), .int p1]) ++ List.replicate (5 - (lg_sl ([.ref (a 0), .int p1])).length) Slot.unset).toArray = ls at hl ⊢
  exact wX11_day C hA hf hP hD hS hl
def fX11_common_b4 (N : Nat) (p0 : Int32) (p1 : Int32) (g4 : Int32 × Int32 → Option (Int32)) (x2 : Int32) (x3 : Int32) : Option (Int32) :=
  if x3 = 0 then (some x2) else (if ¬ x3 = 0 then (g4 ((x3, (x2 - x2 / x3 * x3)))) else none)
def fX11_common_l4 (N : Nat) (p0 : Int32) (p1 : Int32) (k : Nat) (q : Int32 × Int32) : Option (Int32) := lpN (fun g q => fX11_common_b4 N p0 p1 g q.1 q.2) k q
def fX11_common (N : Nat) (p0 : Int32) (p1 : Int32) : Option (Int32) :=
  fX11_common_l4 N p0 p1 N ((p0, p1))
set_option maxRecDepth 100000 in
set_option maxHeartbeats 4000000 in
theorem wX11_common_4 (C : Cx p s m args meth c D cA cX11_common 5 RX11 (some .int)) (hA : ∀ q : Nat, s.heap.size ≤ q → A q) {N : Nat} {z : Int32} {p0 : Int32} {p1 : Int32} : ∀ (k : Nat) (x2 : Int32) (x3 : Int32), fX11_common_l4 N p0 p1 k (x2, x3) = some z → ∀ (H : Heap) (locs : List Loc) (ls : Array Slot), va_P D vwCl ([] : va_W) H → va_D A ([] : va_W) → va_S A s.heap H locs → lv_has ls 5 [(2, .int x2), (3, .int x3)] → W p l e (rmU 0 0 0 0) s m args below meth c H locs 0 0 (MQ below (QI D A z ([] : va_W)) args s 0 0 A) (F0 m 4 ls []) := by
  obtain ⟨hx, hb, hml, hown, hts, hK, hN, hr, hlk⟩ := id C
  intro k
  induction k with
  | zero =>
    intro x2 x3 hf
    have hf : (none : Option (Int32)) = some z := hf
    cases hf
  | succ k hg4 =>
    intro x2 x3 hf H locs ls hP hD hS hl
    have hf : fX11_common_b4 N p0 p1 (fX11_common_l4 N p0 p1 k) x2 x3 = some z := hf
    unfold fX11_common_b4 at hf
    refine lv_iload_n (pc := 4) hx hb dX11_common_4 rfl (lv_at hl 1 rfl) ?_
    refine lv_if_eq (tgt := 21) (pc := 5) hx hb dX11_common_5 (by decide) (fun c1 => ?_) (fun c1 => ?_)
    · have hf := pt_t c1 hf
      refine lv_iload_n (pc := 21) hx hb dX11_common_21 rfl (lv_at hl 0 rfl) ?_
      cases hf
      exact ret_i C hP hD hS dX11_common_22
    · have hf := pt_f c1 hf
      refine lv_iload_n (pc := 8) hx hb dX11_common_8 rfl (lv_at hl 0 rfl) ?_
      refine lv_iload_n (pc := 9) hx hb dX11_common_9 rfl (lv_at hl 1 rfl) ?_
      obtain ⟨h2, hf⟩ := pt_g hf
      refine lv_irem (pc := 10) hx hb dX11_common_10 h2 ?_
      refine lv_istore (lv' := [(4, .int ((x2 - x2 / x3 * x3))), (2, .int x2), (3, .int x3)]) (pc := 11) hx hb dX11_common_11 hl (by decide) rfl (fun ls hl => ?_)
      refine lv_iload_n (pc := 13) hx hb dX11_common_13 rfl (lv_at hl 2 rfl) ?_
      refine lv_istore_n (lv' := [(2, .int x3), (4, .int ((x2 - x2 / x3 * x3))), (3, .int x3)]) (pc := 14) hx hb dX11_common_14 rfl hl (by decide) rfl (fun ls hl => ?_)
      refine lv_iload (pc := 15) hx hb dX11_common_15 (lv_at hl 1 rfl) ?_
      refine lv_istore_n (lv' := [(3, .int ((x2 - x2 / x3 * x3))), (2, .int x3), (4, .int ((x2 - x2 / x3 * x3)))]) (pc := 17) hx hb dX11_common_17 rfl hl (by decide) rfl (fun ls hl => ?_)
      refine lv_goto (tgt := 4) (pc := 18) hx hb dX11_common_18 (by decide) ?_
      exact hg4 x3 ((x2 - x2 / x3 * x3)) hf _ _ _ hP hD hS (lv_sub hl [1, 0] rfl)
set_option maxRecDepth 100000 in
set_option maxHeartbeats 4000000 in
theorem wX11_common (C : Cx p s m args meth c D cA cX11_common 5 RX11 (some .int)) (hA : ∀ q : Nat, s.heap.size ≤ q → A q) {N : Nat} {z : Int32} {p0 : Int32} {p1 : Int32} (hf : fX11_common N p0 p1 = some z) {H : Heap} {locs : List Loc} {ls : Array Slot} (hP : va_P D vwCl ([] : va_W) H) (hD : va_D A ([] : va_W)) (hS : va_S A s.heap H locs) (hl : lv_has ls 5 [(0, .int p0), (1, .int p1)]) : W p l e (rmU 0 0 0 0) s m args below meth c H locs 0 0 (MQ below (QI D A z ([] : va_W)) args s 0 0 A) (F0 m 0 ls []) := by
  obtain ⟨hx, hb, hml, hown, hts, hK, hN, hr, hlk⟩ := id C
  unfold fX11_common at hf
  refine lv_iload_n (pc := 0) hx hb dX11_common_0 rfl (lv_at hl 0 rfl) ?_
  refine lv_istore_n (lv' := [(2, .int p0), (0, .int p0), (1, .int p1)]) (pc := 1) hx hb dX11_common_1 rfl hl (by decide) rfl (fun ls hl => ?_)
  refine lv_iload_n (pc := 2) hx hb dX11_common_2 rfl (lv_at hl 2 rfl) ?_
  refine lv_istore_n (lv' := [(3, .int p1), (2, .int p0), (0, .int p0), (1, .int p1)]) (pc := 3) hx hb dX11_common_3 rfl hl (by decide) rfl (fun ls hl => ?_)
  exact wX11_common_4 C hA  _ p0 p1 hf _ _ _ hP hD hS (lv_sub hl [1, 0] rfl)
set_option maxRecDepth 100000 in
set_option maxHeartbeats 4000000 in
theorem kX11_common (l : Launch) (D : va_G) (cA : Nat → ClassId) {N : Nat} {p0 : Int32} {p1 : Int32} {z : Int32} (hf : fX11_common N p0 p1 = some z) : CtI l yX11_common cX11_common 5 (some .int) 0 0 D cA ([] : va_W) ([] : va_W) [.int p0, .int p1] z := by
  intro sz
  refine Met.ofW (cc := cX11_common) (maxL := 5) (ret := (some .int)) (by decide) rfl ?_
  intro p e s m args below meth c s₁ B hml hv
  obtain ⟨rfl, hsz, hP, hK, hD0⟩ := hv
  subst hsz
  have C : Cx p s m _ meth c D cA cX11_common 5 RX11 (some .int) := Cx.of B hml hK
  have hD := hD0.self (sz := s.heap.size)
  have hA : ∀ q : Nat, s.heap.size ≤ q → va_A ([] : va_W) s.heap.size q := fun q h => Or.inr h
  have hS : va_S (va_A ([] : va_W) s.heap.size) s.heap s.heap [] := va_S.rf
  have hl := lv_entry ([.int p0, .int p1]) (n := 5) (Nat.le_of_ble_eq_true rfl)
  rw [lg_entry_eq]
  generalize (lg_sl ([.int p0, .int p1]) ++ List.replicate (5 - (lg_sl ([.int p0, .int p1])).length) Slot.unset).toArray = ls at hl ⊢
  exact wX11_common C hA hf hP hD hS hl
theorem lk_RX11_207 : LkS RX11 207 yX11_common cX11_common 5 (some .int) 2 := ⟨⟨by decide +kernel, by decide +kernel, by decide +kernel, by decide +kernel, by decide +kernel, by decide +kernel⟩, by decide +kernel⟩
def fX11_agree (N : Nat) (S : St) : Option (Int32) :=
  Option.bind (fX11_daysLeft N S) (fun q1 => if q1 = 0 then (some ((-4 : Int32))) else (Option.bind (fX11_common N ((S 6 0)) q1) (fun q3 => if ¬ q3 = 0 then (some ((((S 6 0) / q3) * q1))) else none)))
set_option maxRecDepth 100000 in
set_option maxHeartbeats 4000000 in
theorem wX11_agree (C : Cx p s m args meth c D cA cX11_agree 2 RX11 (some .int)) (hA : ∀ q : Nat, s.heap.size ≤ q → A q) {N : Nat} {z : Int32} {S : St} (hf : fX11_agree N S = some z) {H : Heap} {locs : List Loc} {ls : Array Slot} (hP : va_P D vwCl (w_M cA a S) H) (hD : va_D A (w_M cA a S)) (hS : va_S A s.heap H locs) (hl : lv_has ls 2 [(0, .ref (a 0))]) : W p l e (rmU 1 24 0 0) s m args below meth c H locs 0 0 (MQ below (QI D A z (w_M cA a S)) args s 0 0 A) (F0 m 0 ls []) := by
  obtain ⟨hx, hb, hml, hown, hts, hK, hN, hr, hlk⟩ := id C
  unfold fX11_agree at hf
  refine lv_aload_n (pc := 0) hx hb dX11_agree_0 rfl (lv_at hl 0 rfl) ?_
  obtain ⟨q1, hq1, hf⟩ := pt_b hf
  refine all_i (runU_V (pc := 1) (As := []) (b := a 0) (rest := []) (ci := 10) (q0 := 0) C lk_RX11_204 (kX11_daysLeft l D cA a hq1 H.size) ⟨Nat.le_of_ble_eq_true rfl, Nat.le_of_ble_eq_true rfl⟩ ⟨Nat.le_refl _, Nat.le_refl _⟩ hP hD rfl rfl rfl hl.1 rfl (Nat.le_of_ble_eq_true rfl) dX11_agree_1) hD hS hA (fun H locs hP hD hS => ?_)
  refine lv_istore_n (lv' := [(1, .int q1), (0, .ref (a 0))]) (pc := 4) hx hb dX11_agree_4 rfl hl (by decide) rfl (fun ls hl => ?_)
  refine lv_iload_n (pc := 5) hx hb dX11_agree_5 rfl (lv_at hl 0 rfl) ?_
  refine lv_if_ne (tgt := 14) (pc := 6) hx hb dX11_agree_6 (by decide) (fun c2 => ?_) (fun c2 => ?_)
  · have hf := pt_f c2 hf
    refine lv_aload_n (pc := 14) hx hb dX11_agree_14 rfl (lv_at hl 1 rfl) ?_
    refine ge_RX11_25_M_0_0 (pc := 15) C hP dX11_agree_15 ?_
    refine lv_iconst (v := (0 : Int32)) (pc := 18) hx hb dX11_agree_18 (by decide) ?_
    refine ld_M_0_6 (pc := 19) (j := 0) C hP (inK rfl) rfl dX11_agree_19 ?_
    refine lv_aload_n (pc := 20) hx hb dX11_agree_20 rfl (lv_at hl 1 rfl) ?_
    refine ge_RX11_25_M_0_0 (pc := 21) C hP dX11_agree_21 ?_
    refine lv_iconst (v := (0 : Int32)) (pc := 24) hx hb dX11_agree_24 (by decide) ?_
    refine ld_M_0_6 (pc := 25) (j := 0) C hP (inK rfl) rfl dX11_agree_25 ?_
    refine lv_iload_n (pc := 26) hx hb dX11_agree_26 rfl (lv_at hl 0 rfl) ?_
    obtain ⟨q3, hq3, hf⟩ := pt_b hf
    have hPc : va_P D vwCl ([] : va_W) H := hP.sub [] rfl
    have hDc : va_D A ([] : va_W) := hD.sub [] (by decide) rfl
    refine prt_i (runU_S (pc := 27) (As := [.int ((S 6 0)), .int q1]) (rest := [.int ((S 6 0))]) C lk_RX11_207 (kX11_common l D cA hq3 H.size) ⟨Nat.le_of_ble_eq_true rfl, Nat.le_of_ble_eq_true rfl⟩ ⟨Nat.le_refl _, Nat.le_refl _⟩ hPc hDc hl.1 rfl (Nat.le_of_ble_eq_true rfl) dX11_agree_27) hP hD hS hA [] rfl (fun H locs hP hD hS => ?_)
    obtain ⟨h4, hf⟩ := pt_g hf
    refine lv_idiv (pc := 30) hx hb dX11_agree_30 h4 ?_
    refine lv_iload_n (pc := 31) hx hb dX11_agree_31 rfl (lv_at hl 0 rfl) ?_
    refine lv_imul (pc := 32) hx hb dX11_agree_32 ?_
    cases hf
    exact ret_i C hP hD hS dX11_agree_33
  · have hf := pt_t c2 hf
    refine lv_bipush (v := (-4 : Int32)) (pc := 9) hx hb dX11_agree_9 (by decide) ?_
    refine lv_goto (tgt := 33) (pc := 11) hx hb dX11_agree_11 (by decide) ?_
    cases hf
    exact ret_i C hP hD hS dX11_agree_33
set_option maxRecDepth 100000 in
set_option maxHeartbeats 4000000 in
theorem kX11_agree (l : Launch) (D : va_G) (cA : Nat → ClassId) (a : Nat → Nat) {N : Nat} {S : St} {z : Int32} (hf : fX11_agree N S = some z) : CtI l yX11_agree cX11_agree 2 (some .int) 1 24 D cA (w_M cA a S) (w_M cA a S) [.ref (a 0)] z := by
  intro sz
  refine Met.ofW (cc := cX11_agree) (maxL := 2) (ret := (some .int)) (by decide) rfl ?_
  intro p e s m args below meth c s₁ B hml hv
  obtain ⟨rfl, hsz, hP, hK, hD0⟩ := hv
  subst hsz
  have C : Cx p s m _ meth c D cA cX11_agree 2 RX11 (some .int) := Cx.of B hml hK
  have hD := hD0.self (sz := s.heap.size)
  have hA : ∀ q : Nat, s.heap.size ≤ q → va_A (w_M cA a S) s.heap.size q := fun q h => Or.inr h
  have hS : va_S (va_A (w_M cA a S) s.heap.size) s.heap s.heap [] := va_S.rf
  have hl := lv_entry ([.ref (a 0)]) (n := 2) (Nat.le_of_ble_eq_true rfl)
  rw [lg_entry_eq]
  generalize (lg_sl ([.ref (a 0)]) ++ List.replicate (2 - (lg_sl ([.ref (a 0)])).length) Slot.unset).toArray = ls at hl ⊢
  exact wX11_agree C hA hf hP hD hS hl
def fX11_faceOf (N : Nat) (S : St) (p1 : Int32) : Option (Int32) :=
  if ¬ (p1 < 0 ∨ 20 ≤ p1.toNatClampNeg) then (if (S 9 p1.toNatClampNeg) = (1 : Int32) then (some ((0 : Int32))) else (some p1)) else none
set_option maxRecDepth 100000 in
set_option maxHeartbeats 4000000 in
theorem wX11_faceOf (C : Cx p s m args meth c D cA cX11_faceOf 2 RX11 (some .int)) (hA : ∀ q : Nat, s.heap.size ≤ q → A q) {N : Nat} {z : Int32} {S : St} {p1 : Int32} (hf : fX11_faceOf N S p1 = some z) {H : Heap} {locs : List Loc} {ls : Array Slot} (hP : va_P D vwCl (w_M cA a S) H) (hD : va_D A (w_M cA a S)) (hS : va_S A s.heap H locs) (hl : lv_has ls 2 [(0, .ref (a 0)), (1, .int p1)]) : W p l e (rmU 0 0 0 0) s m args below meth c H locs 0 0 (MQ below (QI D A z (w_M cA a S)) args s 0 0 A) (F0 m 0 ls []) := by
  obtain ⟨hx, hb, hml, hown, hts, hK, hN, hr, hlk⟩ := id C
  unfold fX11_faceOf at hf
  refine lv_aload_n (pc := 0) hx hb dX11_faceOf_0 rfl (lv_at hl 0 rfl) ?_
  refine ge_RX11_34_M_0_0 (pc := 1) C hP dX11_faceOf_1 ?_
  refine lv_iload_n (pc := 4) hx hb dX11_faceOf_4 rfl (lv_at hl 1 rfl) ?_
  obtain ⟨h1, hf⟩ := pt_g hf
  refine ld_M_0_9 (pc := 5) (j := p1.toNatClampNeg) C hP h1 rfl dX11_faceOf_5 ?_
  refine lv_iconst (v := (1 : Int32)) (pc := 6) hx hb dX11_faceOf_6 (by decide) ?_
  refine lv_icmp_ne (tgt := 14) (pc := 7) hx hb dX11_faceOf_7 (by decide) (fun c2 => ?_) (fun c2 => ?_)
  · have hf := pt_f c2 hf
    refine lv_iload_n (pc := 14) hx hb dX11_faceOf_14 rfl (lv_at hl 1 rfl) ?_
    cases hf
    exact ret_i C hP hD hS dX11_faceOf_15
  · have hf := pt_t c2 hf
    refine lv_iconst (v := (0 : Int32)) (pc := 10) hx hb dX11_faceOf_10 (by decide) ?_
    refine lv_goto (tgt := 15) (pc := 11) hx hb dX11_faceOf_11 (by decide) ?_
    cases hf
    exact ret_i C hP hD hS dX11_faceOf_15
set_option maxRecDepth 100000 in
set_option maxHeartbeats 4000000 in
theorem kX11_faceOf (l : Launch) (D : va_G) (cA : Nat → ClassId) (a : Nat → Nat) {N : Nat} {S : St} {p1 : Int32} {z : Int32} (hf : fX11_faceOf N S p1 = some z) : CtI l yX11_faceOf cX11_faceOf 2 (some .int) 0 0 D cA (w_M cA a S) (w_M cA a S) [.ref (a 0), .int p1] z := by
  intro sz
  refine Met.ofW (cc := cX11_faceOf) (maxL := 2) (ret := (some .int)) (by decide) rfl ?_
  intro p e s m args below meth c s₁ B hml hv
  obtain ⟨rfl, hsz, hP, hK, hD0⟩ := hv
  subst hsz
  have C : Cx p s m _ meth c D cA cX11_faceOf 2 RX11 (some .int) := Cx.of B hml hK
  have hD := hD0.self (sz := s.heap.size)
  have hA : ∀ q : Nat, s.heap.size ≤ q → va_A (w_M cA a S) s.heap.size q := fun q h => Or.inr h
  have hS : va_S (va_A (w_M cA a S) s.heap.size) s.heap s.heap [] := va_S.rf
  have hl := lv_entry ([.ref (a 0), .int p1]) (n := 2) (Nat.le_of_ble_eq_true rfl)
  rw [lg_entry_eq]
  generalize (lg_sl ([.ref (a 0), .int p1]) ++ List.replicate (2 - (lg_sl ([.ref (a 0), .int p1])).length) Slot.unset).toArray = ls at hl ⊢
  exact wX11_faceOf C hA hf hP hD hS hl
theorem lk_RX11_213 : LkV RX11 213 yX11_faceOf cX11_faceOf 2 (some .int) 1 := ⟨⟨by decide +kernel, by decide +kernel, by decide +kernel, by decide +kernel, by decide +kernel, by decide +kernel⟩, by decide +kernel, by decide +kernel⟩
theorem kl_RX11_211 : Cond.constantLong RX11 211 (18) ∈ wsL_law := by decide +kernel
def fX11_odds_j91 (N : Nat) (S : St) (p1 : Int32) (p2 : Int32) (x3 : Int32) : Option (Int32) :=
  Option.bind (fX11_common N x3 (((S 5 0) * (S 5 0)))) (fun q1 => if p2 = 0 then (if ¬ q1 = 0 then (some ((x3 / q1))) else none) else (if ¬ q1 = 0 then (some ((((S 5 0) * (S 5 0)) / q1))) else none))
def fX11_odds_j85 (N : Nat) (S : St) (p1 : Int32) (p2 : Int32) (g29 : Int32 × Int32 → Option (Int32)) (x3 : Int32) (x4 : Int32) : Option (Int32) :=
  g29 ((x3, (x4 + 1)))
def fX11_odds_j77 (N : Nat) (S : St) (p1 : Int32) (p2 : Int32) (g29 : Int32 × Int32 → Option (Int32)) (g43 : Int32 × Int32 × Int32 → Option (Int32)) (x4 : Int32) (x5 : Int32) (y0 : Int32) (y1 : Int32) : Option (Int32) :=
  g43 (((y0 + y1), x4, (x5 + 1)))
def fX11_odds_b43 (N : Nat) (S : St) (p1 : Int32) (p2 : Int32) (g29 : Int32 × Int32 → Option (Int32)) (g43 : Int32 × Int32 × Int32 → Option (Int32)) (x3 : Int32) (x4 : Int32) (x5 : Int32) : Option (Int32) :=
  if (S 5 0) < x5 then (fX11_odds_j85 N S p1 p2 g29 x3 x4) else (Option.bind (fX11_faceOf N S x4) (fun q2 => Option.bind (fX11_faceOf N S x5) (fun q3 => if (q2 + q3) = p1 then (fX11_odds_j77 N S p1 p2 g29 g43 x4 x5 x3 ((1 : Int32))) else (fX11_odds_j77 N S p1 p2 g29 g43 x4 x5 x3 ((0 : Int32))))))
def fX11_odds_l43 (N : Nat) (S : St) (p1 : Int32) (p2 : Int32) (g29 : Int32 × Int32 → Option (Int32)) (k : Nat) (q : Int32 × Int32 × Int32) : Option (Int32) := lpN (fun g q => fX11_odds_b43 N S p1 p2 g29 g q.1 q.2.1 q.2.2) k q
def fX11_odds_b29 (N : Nat) (S : St) (p1 : Int32) (p2 : Int32) (g29 : Int32 × Int32 → Option (Int32)) (x3 : Int32) (x4 : Int32) : Option (Int32) :=
  if (S 5 0) < x4 then (fX11_odds_j91 N S p1 p2 x3) else (fX11_odds_l43 N S p1 p2 g29 N ((x3, x4, (1 : Int32))))
def fX11_odds_l29 (N : Nat) (S : St) (p1 : Int32) (p2 : Int32) (k : Nat) (q : Int32 × Int32) : Option (Int32) := lpN (fun g q => fX11_odds_b29 N S p1 p2 g q.1 q.2) k q
def fX11_odds (N : Nat) (S : St) (p1 : Int32) (p2 : Int32) : Option (Int32) :=
  Option.bind (fX11_in N p1.toInt64 ((0 : Int64)) ((18 : Int64))) (fun q1 => if q1 = 0 then (some ((-1 : Int32))) else (Option.bind (fX11_in N p2.toInt64 ((0 : Int64)) ((1 : Int64))) (fun q3 => if q3 = 0 then (some ((-1 : Int32))) else (fX11_odds_l29 N S p1 p2 N (((0 : Int32), (1 : Int32)))))))
set_option maxRecDepth 100000 in
set_option maxHeartbeats 4000000 in
theorem wX11_odds_91 (C : Cx p s m args meth c D cA cX11_odds 6 RX11 (some .int)) (hA : ∀ q : Nat, s.heap.size ≤ q → A q) {N : Nat} {z : Int32} {S : St} {p1 : Int32} {p2 : Int32} {x3 : Int32} (hf : fX11_odds_j91 N S p1 p2 x3 = some z) {H : Heap} {locs : List Loc} {ls : Array Slot} (hP : va_P D vwCl (w_M cA a S) H) (hD : va_D A (w_M cA a S)) (hS : va_S A s.heap H locs) (hl : lv_has ls 6 [(0, .ref (a 0)), (2, .int p2), (3, .int x3)]) : W p l e (rmU 1 25 0 0) s m args below meth c H locs 0 0 (MQ below (QI D A z (w_M cA a S)) args s 0 0 A) (F0 m 91 ls []) := by
  obtain ⟨hx, hb, hml, hown, hts, hK, hN, hr, hlk⟩ := id C
  unfold fX11_odds_j91 at hf
  refine lv_aload_n (pc := 91) hx hb dX11_odds_91 rfl (lv_at hl 0 rfl) ?_
  refine ge_RX11_22_M_0_0 (pc := 92) C hP dX11_odds_92 ?_
  refine lv_iconst (v := (0 : Int32)) (pc := 95) hx hb dX11_odds_95 (by decide) ?_
  refine ld_M_0_5 (pc := 96) (j := 0) C hP (inK rfl) rfl dX11_odds_96 ?_
  refine lv_aload_n (pc := 97) hx hb dX11_odds_97 rfl (lv_at hl 0 rfl) ?_
  refine ge_RX11_22_M_0_0 (pc := 98) C hP dX11_odds_98 ?_
  refine lv_iconst (v := (0 : Int32)) (pc := 101) hx hb dX11_odds_101 (by decide) ?_
  refine ld_M_0_5 (pc := 102) (j := 0) C hP (inK rfl) rfl dX11_odds_102 ?_
  refine lv_imul (pc := 103) hx hb dX11_odds_103 ?_
  refine lv_istore (lv' := [(4, .int (((S 5 0) * (S 5 0)))), (0, .ref (a 0)), (2, .int p2), (3, .int x3)]) (pc := 104) hx hb dX11_odds_104 hl (by decide) rfl (fun ls hl => ?_)
  refine lv_iload_n (pc := 106) hx hb dX11_odds_106 rfl (lv_at hl 3 rfl) ?_
  refine lv_iload (pc := 107) hx hb dX11_odds_107 (lv_at hl 0 rfl) ?_
  obtain ⟨q1, hq1, hf⟩ := pt_b hf
  have hPc : va_P D vwCl ([] : va_W) H := hP.sub [] rfl
  have hDc : va_D A ([] : va_W) := hD.sub [] (by decide) rfl
  refine prt_i (runU_S (pc := 109) (As := [.int x3, .int (((S 5 0) * (S 5 0)))]) (rest := []) C lk_RX11_207 (kX11_common l D cA hq1 H.size) ⟨Nat.le_of_ble_eq_true rfl, Nat.le_of_ble_eq_true rfl⟩ ⟨Nat.le_refl _, Nat.le_refl _⟩ hPc hDc hl.1 rfl (Nat.le_of_ble_eq_true rfl) dX11_odds_109) hP hD hS hA [] rfl (fun H locs hP hD hS => ?_)
  refine lv_istore (lv' := [(5, .int q1), (4, .int (((S 5 0) * (S 5 0)))), (0, .ref (a 0)), (2, .int p2), (3, .int x3)]) (pc := 112) hx hb dX11_odds_112 hl (by decide) rfl (fun ls hl => ?_)
  refine lv_iload_n (pc := 114) hx hb dX11_odds_114 rfl (lv_at hl 3 rfl) ?_
  refine lv_if_ne (tgt := 125) (pc := 115) hx hb dX11_odds_115 (by decide) (fun c2 => ?_) (fun c2 => ?_)
  · have hf := pt_f c2 hf
    refine lv_iload (pc := 125) hx hb dX11_odds_125 (lv_at hl 1 rfl) ?_
    refine lv_iload (pc := 127) hx hb dX11_odds_127 (lv_at hl 0 rfl) ?_
    obtain ⟨h3, hf⟩ := pt_g hf
    refine lv_idiv (pc := 129) hx hb dX11_odds_129 h3 ?_
    cases hf
    exact ret_i C hP hD hS dX11_odds_130
  · have hf := pt_t c2 hf
    refine lv_iload_n (pc := 118) hx hb dX11_odds_118 rfl (lv_at hl 4 rfl) ?_
    refine lv_iload (pc := 119) hx hb dX11_odds_119 (lv_at hl 0 rfl) ?_
    obtain ⟨h4, hf⟩ := pt_g hf
    refine lv_idiv (pc := 121) hx hb dX11_odds_121 h4 ?_
    refine lv_goto (tgt := 130) (pc := 122) hx hb dX11_odds_122 (by decide) ?_
    cases hf
    exact ret_i C hP hD hS dX11_odds_130
set_option maxRecDepth 100000 in
set_option maxHeartbeats 4000000 in
theorem wX11_odds_85 (C : Cx p s m args meth c D cA cX11_odds 6 RX11 (some .int)) (hA : ∀ q : Nat, s.heap.size ≤ q → A q) {N : Nat} {z : Int32} {S : St} {p1 : Int32} {p2 : Int32} {g29 : Int32 × Int32 → Option (Int32)} (hg29 : ∀ (x3 : Int32) (x4 : Int32), g29 (x3, x4) = some z → ∀ (H : Heap) (locs : List Loc) (ls : Array Slot), va_P D vwCl (w_M cA a S) H → va_D A (w_M cA a S) → va_S A s.heap H locs → lv_has ls 6 [(0, .ref (a 0)), (1, .int p1), (2, .int p2), (3, .int x3), (4, .int x4)] → W p l e (rmU 1 25 0 0) s m args below meth c H locs 0 0 (MQ below (QI D A z (w_M cA a S)) args s 0 0 A) (F0 m 29 ls [])) {x3 : Int32} {x4 : Int32} (hf : fX11_odds_j85 N S p1 p2 g29 x3 x4 = some z) {H : Heap} {locs : List Loc} {ls : Array Slot} (hP : va_P D vwCl (w_M cA a S) H) (hD : va_D A (w_M cA a S)) (hS : va_S A s.heap H locs) (hl : lv_has ls 6 [(0, .ref (a 0)), (1, .int p1), (2, .int p2), (3, .int x3), (4, .int x4)]) : W p l e (rmU 1 25 0 0) s m args below meth c H locs 0 0 (MQ below (QI D A z (w_M cA a S)) args s 0 0 A) (F0 m 85 ls []) := by
  obtain ⟨hx, hb, hml, hown, hts, hK, hN, hr, hlk⟩ := id C
  unfold fX11_odds_j85 at hf
  refine lv_iinc (v := (x4 + 1)) (lv' := [(4, .int ((x4 + 1))), (0, .ref (a 0)), (1, .int p1), (2, .int p2), (3, .int x3)]) (pc := 85) hx hb dX11_odds_85 hl (k := 4) rfl (by rfl) (by decide) rfl (fun ls hl => ?_)
  refine lv_goto (tgt := 29) (pc := 88) hx hb dX11_odds_88 (by decide) ?_
  exact hg29 x3 ((x4 + 1)) hf _ _ _ hP hD hS (lv_sub hl [1, 2, 3, 4, 0] rfl)
set_option maxRecDepth 100000 in
set_option maxHeartbeats 4000000 in
theorem wX11_odds_77 (C : Cx p s m args meth c D cA cX11_odds 6 RX11 (some .int)) (hA : ∀ q : Nat, s.heap.size ≤ q → A q) {N : Nat} {z : Int32} {S : St} {p1 : Int32} {p2 : Int32} {g29 : Int32 × Int32 → Option (Int32)} (hg29 : ∀ (x3 : Int32) (x4 : Int32), g29 (x3, x4) = some z → ∀ (H : Heap) (locs : List Loc) (ls : Array Slot), va_P D vwCl (w_M cA a S) H → va_D A (w_M cA a S) → va_S A s.heap H locs → lv_has ls 6 [(0, .ref (a 0)), (1, .int p1), (2, .int p2), (3, .int x3), (4, .int x4)] → W p l e (rmU 1 25 0 0) s m args below meth c H locs 0 0 (MQ below (QI D A z (w_M cA a S)) args s 0 0 A) (F0 m 29 ls [])) {g43 : Int32 × Int32 × Int32 → Option (Int32)} (hg43 : ∀ (x3 : Int32) (x4 : Int32) (x5 : Int32), g43 (x3, x4, x5) = some z → ∀ (H : Heap) (locs : List Loc) (ls : Array Slot), va_P D vwCl (w_M cA a S) H → va_D A (w_M cA a S) → va_S A s.heap H locs → lv_has ls 6 [(0, .ref (a 0)), (1, .int p1), (2, .int p2), (3, .int x3), (4, .int x4), (5, .int x5)] → W p l e (rmU 1 25 0 0) s m args below meth c H locs 0 0 (MQ below (QI D A z (w_M cA a S)) args s 0 0 A) (F0 m 43 ls [])) {x4 : Int32} {x5 : Int32} {y0 : Int32} {y1 : Int32} (hf : fX11_odds_j77 N S p1 p2 g29 g43 x4 x5 y0 y1 = some z) {H : Heap} {locs : List Loc} {ls : Array Slot} (hP : va_P D vwCl (w_M cA a S) H) (hD : va_D A (w_M cA a S)) (hS : va_S A s.heap H locs) (hl : lv_has ls 6 [(0, .ref (a 0)), (1, .int p1), (2, .int p2), (4, .int x4), (5, .int x5)]) : W p l e (rmU 1 25 0 0) s m args below meth c H locs 0 0 (MQ below (QI D A z (w_M cA a S)) args s 0 0 A) (F0 m 77 ls [.int y1, .int y0]) := by
  obtain ⟨hx, hb, hml, hown, hts, hK, hN, hr, hlk⟩ := id C
  unfold fX11_odds_j77 at hf
  refine lv_iadd (pc := 77) hx hb dX11_odds_77 ?_
  refine lv_istore_n (lv' := [(3, .int ((y0 + y1))), (0, .ref (a 0)), (1, .int p1), (2, .int p2), (4, .int x4), (5, .int x5)]) (pc := 78) hx hb dX11_odds_78 rfl hl (by decide) rfl (fun ls hl => ?_)
  refine lv_iinc (v := (x5 + 1)) (lv' := [(5, .int ((x5 + 1))), (3, .int ((y0 + y1))), (0, .ref (a 0)), (1, .int p1), (2, .int p2), (4, .int x4)]) (pc := 79) hx hb dX11_odds_79 hl (k := 5) rfl (by rfl) (by decide) rfl (fun ls hl => ?_)
  refine lv_goto (tgt := 43) (pc := 82) hx hb dX11_odds_82 (by decide) ?_
  exact hg43 ((y0 + y1)) x4 ((x5 + 1)) hf _ _ _ hP hD hS (lv_sub hl [2, 3, 4, 1, 5, 0] rfl)
set_option maxRecDepth 100000 in
set_option maxHeartbeats 4000000 in
theorem wX11_odds_43 (C : Cx p s m args meth c D cA cX11_odds 6 RX11 (some .int)) (hA : ∀ q : Nat, s.heap.size ≤ q → A q) {N : Nat} {z : Int32} {S : St} {p1 : Int32} {p2 : Int32} {g29 : Int32 × Int32 → Option (Int32)} (hg29 : ∀ (x3 : Int32) (x4 : Int32), g29 (x3, x4) = some z → ∀ (H : Heap) (locs : List Loc) (ls : Array Slot), va_P D vwCl (w_M cA a S) H → va_D A (w_M cA a S) → va_S A s.heap H locs → lv_has ls 6 [(0, .ref (a 0)), (1, .int p1), (2, .int p2), (3, .int x3), (4, .int x4)] → W p l e (rmU 1 25 0 0) s m args below meth c H locs 0 0 (MQ below (QI D A z (w_M cA a S)) args s 0 0 A) (F0 m 29 ls [])) : ∀ (k : Nat) (x3 : Int32) (x4 : Int32) (x5 : Int32), fX11_odds_l43 N S p1 p2 g29 k (x3, x4, x5) = some z → ∀ (H : Heap) (locs : List Loc) (ls : Array Slot), va_P D vwCl (w_M cA a S) H → va_D A (w_M cA a S) → va_S A s.heap H locs → lv_has ls 6 [(0, .ref (a 0)), (1, .int p1), (2, .int p2), (3, .int x3), (4, .int x4), (5, .int x5)] → W p l e (rmU 1 25 0 0) s m args below meth c H locs 0 0 (MQ below (QI D A z (w_M cA a S)) args s 0 0 A) (F0 m 43 ls []) := by
  obtain ⟨hx, hb, hml, hown, hts, hK, hN, hr, hlk⟩ := id C
  intro k
  induction k with
  | zero =>
    intro x3 x4 x5 hf
    have hf : (none : Option (Int32)) = some z := hf
    cases hf
  | succ k hg43 =>
    intro x3 x4 x5 hf H locs ls hP hD hS hl
    have hf : fX11_odds_b43 N S p1 p2 g29 (fX11_odds_l43 N S p1 p2 g29 k) x3 x4 x5 = some z := hf
    unfold fX11_odds_b43 at hf
    refine lv_iload (pc := 43) hx hb dX11_odds_43 (lv_at hl 5 rfl) ?_
    refine lv_aload_n (pc := 45) hx hb dX11_odds_45 rfl (lv_at hl 0 rfl) ?_
    refine ge_RX11_22_M_0_0 (pc := 46) C hP dX11_odds_46 ?_
    refine lv_iconst (v := (0 : Int32)) (pc := 49) hx hb dX11_odds_49 (by decide) ?_
    refine ld_M_0_5 (pc := 50) (j := 0) C hP (inK rfl) rfl dX11_odds_50 ?_
    refine lv_icmp_gt (tgt := 85) (pc := 51) hx hb dX11_odds_51 (by decide) (fun c1 => ?_) (fun c1 => ?_)
    · have hf := pt_t c1 hf
      exact wX11_odds_85 C hA hg29 hf hP hD hS (lv_sub hl [0, 1, 2, 3, 4] rfl)
    · have hf := pt_f c1 hf
      refine lv_iload_n (pc := 54) hx hb dX11_odds_54 rfl (lv_at hl 3 rfl) ?_
      refine lv_aload_n (pc := 55) hx hb dX11_odds_55 rfl (lv_at hl 0 rfl) ?_
      refine lv_iload (pc := 56) hx hb dX11_odds_56 (lv_at hl 4 rfl) ?_
      obtain ⟨q2, hq2, hf⟩ := pt_b hf
      refine all_i (runU_V (pc := 58) (As := [.int x4]) (b := a 0) (rest := [.int x3]) (ci := 10) (q0 := 0) C lk_RX11_213 (kX11_faceOf l D cA a hq2 H.size) ⟨Nat.le_of_ble_eq_true rfl, Nat.le_of_ble_eq_true rfl⟩ ⟨Nat.le_refl _, Nat.le_refl _⟩ hP hD rfl rfl rfl hl.1 rfl (Nat.le_of_ble_eq_true rfl) dX11_odds_58) hD hS hA (fun H locs hP hD hS => ?_)
      refine lv_aload_n (pc := 61) hx hb dX11_odds_61 rfl (lv_at hl 0 rfl) ?_
      refine lv_iload (pc := 62) hx hb dX11_odds_62 (lv_at hl 5 rfl) ?_
      obtain ⟨q3, hq3, hf⟩ := pt_b hf
      refine all_i (runU_V (pc := 64) (As := [.int x5]) (b := a 0) (rest := [.int q2, .int x3]) (ci := 10) (q0 := 0) C lk_RX11_213 (kX11_faceOf l D cA a hq3 H.size) ⟨Nat.le_of_ble_eq_true rfl, Nat.le_of_ble_eq_true rfl⟩ ⟨Nat.le_refl _, Nat.le_refl _⟩ hP hD rfl rfl rfl hl.1 rfl (Nat.le_of_ble_eq_true rfl) dX11_odds_64) hD hS hA (fun H locs hP hD hS => ?_)
      refine lv_iadd (pc := 67) hx hb dX11_odds_67 ?_
      refine lv_iload_n (pc := 68) hx hb dX11_odds_68 rfl (lv_at hl 1 rfl) ?_
      refine lv_icmp_ne (tgt := 76) (pc := 69) hx hb dX11_odds_69 (by decide) (fun c4 => ?_) (fun c4 => ?_)
      · have hf := pt_f c4 hf
        refine lv_iconst (v := (0 : Int32)) (pc := 76) hx hb dX11_odds_76 (by decide) ?_
        exact wX11_odds_77 C hA hg29 hg43 hf hP hD hS (lv_sub hl [0, 1, 2, 4, 5] rfl)
      · have hf := pt_t c4 hf
        refine lv_iconst (v := (1 : Int32)) (pc := 72) hx hb dX11_odds_72 (by decide) ?_
        refine lv_goto (tgt := 77) (pc := 73) hx hb dX11_odds_73 (by decide) ?_
        exact wX11_odds_77 C hA hg29 hg43 hf hP hD hS (lv_sub hl [0, 1, 2, 4, 5] rfl)
set_option maxRecDepth 100000 in
set_option maxHeartbeats 4000000 in
theorem wX11_odds_29 (C : Cx p s m args meth c D cA cX11_odds 6 RX11 (some .int)) (hA : ∀ q : Nat, s.heap.size ≤ q → A q) {N : Nat} {z : Int32} {S : St} {p1 : Int32} {p2 : Int32} : ∀ (k : Nat) (x3 : Int32) (x4 : Int32), fX11_odds_l29 N S p1 p2 k (x3, x4) = some z → ∀ (H : Heap) (locs : List Loc) (ls : Array Slot), va_P D vwCl (w_M cA a S) H → va_D A (w_M cA a S) → va_S A s.heap H locs → lv_has ls 6 [(0, .ref (a 0)), (1, .int p1), (2, .int p2), (3, .int x3), (4, .int x4)] → W p l e (rmU 1 25 0 0) s m args below meth c H locs 0 0 (MQ below (QI D A z (w_M cA a S)) args s 0 0 A) (F0 m 29 ls []) := by
  obtain ⟨hx, hb, hml, hown, hts, hK, hN, hr, hlk⟩ := id C
  intro k
  induction k with
  | zero =>
    intro x3 x4 hf
    have hf : (none : Option (Int32)) = some z := hf
    cases hf
  | succ k hg29 =>
    intro x3 x4 hf H locs ls hP hD hS hl
    have hf : fX11_odds_b29 N S p1 p2 (fX11_odds_l29 N S p1 p2 k) x3 x4 = some z := hf
    unfold fX11_odds_b29 at hf
    refine lv_iload (pc := 29) hx hb dX11_odds_29 (lv_at hl 4 rfl) ?_
    refine lv_aload_n (pc := 31) hx hb dX11_odds_31 rfl (lv_at hl 0 rfl) ?_
    refine ge_RX11_22_M_0_0 (pc := 32) C hP dX11_odds_32 ?_
    refine lv_iconst (v := (0 : Int32)) (pc := 35) hx hb dX11_odds_35 (by decide) ?_
    refine ld_M_0_5 (pc := 36) (j := 0) C hP (inK rfl) rfl dX11_odds_36 ?_
    refine lv_icmp_gt (tgt := 91) (pc := 37) hx hb dX11_odds_37 (by decide) (fun c1 => ?_) (fun c1 => ?_)
    · have hf := pt_t c1 hf
      exact wX11_odds_91 C hA  hf hP hD hS (lv_sub hl [0, 2, 3] rfl)
    · have hf := pt_f c1 hf
      refine lv_iconst (v := (1 : Int32)) (pc := 40) hx hb dX11_odds_40 (by decide) ?_
      refine lv_istore (lv' := [(5, .int ((1 : Int32))), (0, .ref (a 0)), (1, .int p1), (2, .int p2), (3, .int x3), (4, .int x4)]) (pc := 41) hx hb dX11_odds_41 hl (by decide) rfl (fun ls hl => ?_)
      exact wX11_odds_43 C hA hg29 _ x3 x4 ((1 : Int32)) hf _ _ _ hP hD hS (lv_sub hl [1, 2, 3, 4, 5, 0] rfl)
set_option maxRecDepth 100000 in
set_option maxHeartbeats 4000000 in
theorem wX11_odds (C : Cx p s m args meth c D cA cX11_odds 6 RX11 (some .int)) (hA : ∀ q : Nat, s.heap.size ≤ q → A q) {N : Nat} {z : Int32} {S : St} {p1 : Int32} {p2 : Int32} (hf : fX11_odds N S p1 p2 = some z) {H : Heap} {locs : List Loc} {ls : Array Slot} (hP : va_P D vwCl (w_M cA a S) H) (hD : va_D A (w_M cA a S)) (hS : va_S A s.heap H locs) (hl : lv_has ls 6 [(0, .ref (a 0)), (1, .int p1), (2, .int p2)]) : W p l e (rmU 1 25 0 0) s m args below meth c H locs 0 0 (MQ below (QI D A z (w_M cA a S)) args s 0 0 A) (F0 m 0 ls []) := by
  obtain ⟨hx, hb, hml, hown, hts, hK, hN, hr, hlk⟩ := id C
  unfold fX11_odds at hf
  refine lv_iload_n (pc := 0) hx hb dX11_odds_0 rfl (lv_at hl 1 rfl) ?_
  refine lv_i2l (v := p1.toInt64) (pc := 1) hx hb dX11_odds_1 rfl ?_
  refine lv_lconst (v := (0 : Int64)) (pc := 2) hx hb dX11_odds_2 (by decide) ?_
  refine lv_ldc2 (pc := 3) (v := (18 : Int64)) hx hb hown (hts _ kl_RX11_211) dX11_odds_3 ?_
  obtain ⟨q1, hq1, hf⟩ := pt_b hf
  have hPc : va_P D vwCl ([] : va_W) H := hP.sub [] rfl
  have hDc : va_D A ([] : va_W) := hD.sub [] (by decide) rfl
  refine prt_i (runU_S (pc := 6) (As := [.long p1.toInt64, .long ((0 : Int64)), .long ((18 : Int64))]) (rest := []) C lk_RX11_72 (kX11_in l D cA hq1 H.size) ⟨Nat.le_of_ble_eq_true rfl, Nat.le_of_ble_eq_true rfl⟩ ⟨Nat.le_refl _, Nat.le_refl _⟩ hPc hDc hl.1 rfl (Nat.le_of_ble_eq_true rfl) dX11_odds_6) hP hD hS hA [] rfl (fun H locs hP hD hS => ?_)
  refine lv_if_eq (tgt := 22) (pc := 9) hx hb dX11_odds_9 (by decide) (fun c2 => ?_) (fun c2 => ?_)
  · have hf := pt_t c2 hf
    refine lv_iconst (v := (-1 : Int32)) (pc := 22) hx hb dX11_odds_22 (by decide) ?_
    cases hf
    exact ret_i C hP hD hS dX11_odds_23
  · have hf := pt_f c2 hf
    refine lv_iload_n (pc := 12) hx hb dX11_odds_12 rfl (lv_at hl 2 rfl) ?_
    refine lv_i2l (v := p2.toInt64) (pc := 13) hx hb dX11_odds_13 rfl ?_
    refine lv_lconst (v := (0 : Int64)) (pc := 14) hx hb dX11_odds_14 (by decide) ?_
    refine lv_lconst (v := (1 : Int64)) (pc := 15) hx hb dX11_odds_15 (by decide) ?_
    obtain ⟨q3, hq3, hf⟩ := pt_b hf
    have hPc : va_P D vwCl ([] : va_W) H := hP.sub [] rfl
    have hDc : va_D A ([] : va_W) := hD.sub [] (by decide) rfl
    refine prt_i (runU_S (pc := 16) (As := [.long p2.toInt64, .long ((0 : Int64)), .long ((1 : Int64))]) (rest := []) C lk_RX11_72 (kX11_in l D cA hq3 H.size) ⟨Nat.le_of_ble_eq_true rfl, Nat.le_of_ble_eq_true rfl⟩ ⟨Nat.le_refl _, Nat.le_refl _⟩ hPc hDc hl.1 rfl (Nat.le_of_ble_eq_true rfl) dX11_odds_16) hP hD hS hA [] rfl (fun H locs hP hD hS => ?_)
    refine lv_if_ne (tgt := 24) (pc := 19) hx hb dX11_odds_19 (by decide) (fun c4 => ?_) (fun c4 => ?_)
    · have hf := pt_f c4 hf
      refine lv_iconst (v := (0 : Int32)) (pc := 24) hx hb dX11_odds_24 (by decide) ?_
      refine lv_istore_n (lv' := [(3, .int ((0 : Int32))), (0, .ref (a 0)), (1, .int p1), (2, .int p2)]) (pc := 25) hx hb dX11_odds_25 rfl hl (by decide) rfl (fun ls hl => ?_)
      refine lv_iconst (v := (1 : Int32)) (pc := 26) hx hb dX11_odds_26 (by decide) ?_
      refine lv_istore (lv' := [(4, .int ((1 : Int32))), (3, .int ((0 : Int32))), (0, .ref (a 0)), (1, .int p1), (2, .int p2)]) (pc := 27) hx hb dX11_odds_27 hl (by decide) rfl (fun ls hl => ?_)
      exact wX11_odds_29 C hA  _ ((0 : Int32)) ((1 : Int32)) hf _ _ _ hP hD hS (lv_sub hl [2, 3, 4, 1, 0] rfl)
    · have hf := pt_t c4 hf
      refine lv_iconst (v := (-1 : Int32)) (pc := 22) hx hb dX11_odds_22 (by decide) ?_
      cases hf
      exact ret_i C hP hD hS dX11_odds_23
set_option maxRecDepth 100000 in
set_option maxHeartbeats 4000000 in
theorem kX11_odds (l : Launch) (D : va_G) (cA : Nat → ClassId) (a : Nat → Nat) {N : Nat} {S : St} {p1 : Int32} {p2 : Int32} {z : Int32} (hf : fX11_odds N S p1 p2 = some z) : CtI l yX11_odds cX11_odds 6 (some .int) 1 25 D cA (w_M cA a S) (w_M cA a S) [.ref (a 0), .int p1, .int p2] z := by
  intro sz
  refine Met.ofW (cc := cX11_odds) (maxL := 6) (ret := (some .int)) (by decide) rfl ?_
  intro p e s m args below meth c s₁ B hml hv
  obtain ⟨rfl, hsz, hP, hK, hD0⟩ := hv
  subst hsz
  have C : Cx p s m _ meth c D cA cX11_odds 6 RX11 (some .int) := Cx.of B hml hK
  have hD := hD0.self (sz := s.heap.size)
  have hA : ∀ q : Nat, s.heap.size ≤ q → va_A (w_M cA a S) s.heap.size q := fun q h => Or.inr h
  have hS : va_S (va_A (w_M cA a S) s.heap.size) s.heap s.heap [] := va_S.rf
  have hl := lv_entry ([.ref (a 0), .int p1, .int p2]) (n := 6) (Nat.le_of_ble_eq_true rfl)
  rw [lg_entry_eq]
  generalize (lg_sl ([.ref (a 0), .int p1, .int p2]) ++ List.replicate (6 - (lg_sl ([.ref (a 0), .int p1, .int p2])).length) Slot.unset).toArray = ls at hl ⊢
  exact wX11_odds C hA hf hP hD hS hl
def fX11_mean_j40 (N : Nat) (S : St) (p1 : Int32) (x2 : Int32) : Option (Int32) :=
  Option.bind (fX11_common N x2 ((S 5 0))) (fun q1 => if p1 = 0 then (if ¬ q1 = 0 then (some ((x2 / q1))) else none) else (if ¬ q1 = 0 then (some (((S 5 0) / q1))) else none))
def fX11_mean_b16 (N : Nat) (S : St) (p1 : Int32) (g16 : Int32 × Int32 → Option (Int32)) (x2 : Int32) (x3 : Int32) : Option (Int32) :=
  if (S 5 0) < x3 then (fX11_mean_j40 N S p1 x2) else (Option.bind (fX11_faceOf N S x3) (fun q2 => g16 (((x2 + q2), (x3 + 1)))))
def fX11_mean_l16 (N : Nat) (S : St) (p1 : Int32) (k : Nat) (q : Int32 × Int32) : Option (Int32) := lpN (fun g q => fX11_mean_b16 N S p1 g q.1 q.2) k q
def fX11_mean (N : Nat) (S : St) (p1 : Int32) : Option (Int32) :=
  Option.bind (fX11_in N p1.toInt64 ((0 : Int64)) ((1 : Int64))) (fun q1 => if q1 = 0 then (some ((-1 : Int32))) else (fX11_mean_l16 N S p1 N (((0 : Int32), (1 : Int32)))))
set_option maxRecDepth 100000 in
set_option maxHeartbeats 4000000 in
theorem wX11_mean_40 (C : Cx p s m args meth c D cA cX11_mean 4 RX11 (some .int)) (hA : ∀ q : Nat, s.heap.size ≤ q → A q) {N : Nat} {z : Int32} {S : St} {p1 : Int32} {x2 : Int32} (hf : fX11_mean_j40 N S p1 x2 = some z) {H : Heap} {locs : List Loc} {ls : Array Slot} (hP : va_P D vwCl (w_M cA a S) H) (hD : va_D A (w_M cA a S)) (hS : va_S A s.heap H locs) (hl : lv_has ls 4 [(0, .ref (a 0)), (1, .int p1), (2, .int x2)]) : W p l e (rmU 1 25 0 0) s m args below meth c H locs 0 0 (MQ below (QI D A z (w_M cA a S)) args s 0 0 A) (F0 m 40 ls []) := by
  obtain ⟨hx, hb, hml, hown, hts, hK, hN, hr, hlk⟩ := id C
  unfold fX11_mean_j40 at hf
  refine lv_iload_n (pc := 40) hx hb dX11_mean_40 rfl (lv_at hl 2 rfl) ?_
  refine lv_aload_n (pc := 41) hx hb dX11_mean_41 rfl (lv_at hl 0 rfl) ?_
  refine ge_RX11_22_M_0_0 (pc := 42) C hP dX11_mean_42 ?_
  refine lv_iconst (v := (0 : Int32)) (pc := 45) hx hb dX11_mean_45 (by decide) ?_
  refine ld_M_0_5 (pc := 46) (j := 0) C hP (inK rfl) rfl dX11_mean_46 ?_
  obtain ⟨q1, hq1, hf⟩ := pt_b hf
  have hPc : va_P D vwCl ([] : va_W) H := hP.sub [] rfl
  have hDc : va_D A ([] : va_W) := hD.sub [] (by decide) rfl
  refine prt_i (runU_S (pc := 47) (As := [.int x2, .int ((S 5 0))]) (rest := []) C lk_RX11_207 (kX11_common l D cA hq1 H.size) ⟨Nat.le_of_ble_eq_true rfl, Nat.le_of_ble_eq_true rfl⟩ ⟨Nat.le_refl _, Nat.le_refl _⟩ hPc hDc hl.1 rfl (Nat.le_of_ble_eq_true rfl) dX11_mean_47) hP hD hS hA [] rfl (fun H locs hP hD hS => ?_)
  refine lv_istore_n (lv' := [(3, .int q1), (0, .ref (a 0)), (1, .int p1), (2, .int x2)]) (pc := 50) hx hb dX11_mean_50 rfl hl (by decide) rfl (fun ls hl => ?_)
  refine lv_iload_n (pc := 51) hx hb dX11_mean_51 rfl (lv_at hl 2 rfl) ?_
  refine lv_if_ne (tgt := 61) (pc := 52) hx hb dX11_mean_52 (by decide) (fun c2 => ?_) (fun c2 => ?_)
  · have hf := pt_f c2 hf
    refine lv_aload_n (pc := 61) hx hb dX11_mean_61 rfl (lv_at hl 1 rfl) ?_
    refine ge_RX11_22_M_0_0 (pc := 62) C hP dX11_mean_62 ?_
    refine lv_iconst (v := (0 : Int32)) (pc := 65) hx hb dX11_mean_65 (by decide) ?_
    refine ld_M_0_5 (pc := 66) (j := 0) C hP (inK rfl) rfl dX11_mean_66 ?_
    refine lv_iload_n (pc := 67) hx hb dX11_mean_67 rfl (lv_at hl 0 rfl) ?_
    obtain ⟨h3, hf⟩ := pt_g hf
    refine lv_idiv (pc := 68) hx hb dX11_mean_68 h3 ?_
    cases hf
    exact ret_i C hP hD hS dX11_mean_69
  · have hf := pt_t c2 hf
    refine lv_iload_n (pc := 55) hx hb dX11_mean_55 rfl (lv_at hl 3 rfl) ?_
    refine lv_iload_n (pc := 56) hx hb dX11_mean_56 rfl (lv_at hl 0 rfl) ?_
    obtain ⟨h4, hf⟩ := pt_g hf
    refine lv_idiv (pc := 57) hx hb dX11_mean_57 h4 ?_
    refine lv_goto (tgt := 69) (pc := 58) hx hb dX11_mean_58 (by decide) ?_
    cases hf
    exact ret_i C hP hD hS dX11_mean_69
set_option maxRecDepth 100000 in
set_option maxHeartbeats 4000000 in
theorem wX11_mean_16 (C : Cx p s m args meth c D cA cX11_mean 4 RX11 (some .int)) (hA : ∀ q : Nat, s.heap.size ≤ q → A q) {N : Nat} {z : Int32} {S : St} {p1 : Int32} : ∀ (k : Nat) (x2 : Int32) (x3 : Int32), fX11_mean_l16 N S p1 k (x2, x3) = some z → ∀ (H : Heap) (locs : List Loc) (ls : Array Slot), va_P D vwCl (w_M cA a S) H → va_D A (w_M cA a S) → va_S A s.heap H locs → lv_has ls 4 [(0, .ref (a 0)), (1, .int p1), (2, .int x2), (3, .int x3)] → W p l e (rmU 1 25 0 0) s m args below meth c H locs 0 0 (MQ below (QI D A z (w_M cA a S)) args s 0 0 A) (F0 m 16 ls []) := by
  obtain ⟨hx, hb, hml, hown, hts, hK, hN, hr, hlk⟩ := id C
  intro k
  induction k with
  | zero =>
    intro x2 x3 hf
    have hf : (none : Option (Int32)) = some z := hf
    cases hf
  | succ k hg16 =>
    intro x2 x3 hf H locs ls hP hD hS hl
    have hf : fX11_mean_b16 N S p1 (fX11_mean_l16 N S p1 k) x2 x3 = some z := hf
    unfold fX11_mean_b16 at hf
    refine lv_iload_n (pc := 16) hx hb dX11_mean_16 rfl (lv_at hl 3 rfl) ?_
    refine lv_aload_n (pc := 17) hx hb dX11_mean_17 rfl (lv_at hl 0 rfl) ?_
    refine ge_RX11_22_M_0_0 (pc := 18) C hP dX11_mean_18 ?_
    refine lv_iconst (v := (0 : Int32)) (pc := 21) hx hb dX11_mean_21 (by decide) ?_
    refine ld_M_0_5 (pc := 22) (j := 0) C hP (inK rfl) rfl dX11_mean_22 ?_
    refine lv_icmp_gt (tgt := 40) (pc := 23) hx hb dX11_mean_23 (by decide) (fun c1 => ?_) (fun c1 => ?_)
    · have hf := pt_t c1 hf
      exact wX11_mean_40 C hA  hf hP hD hS (lv_sub hl [0, 1, 2] rfl)
    · have hf := pt_f c1 hf
      refine lv_iload_n (pc := 26) hx hb dX11_mean_26 rfl (lv_at hl 2 rfl) ?_
      refine lv_aload_n (pc := 27) hx hb dX11_mean_27 rfl (lv_at hl 0 rfl) ?_
      refine lv_iload_n (pc := 28) hx hb dX11_mean_28 rfl (lv_at hl 3 rfl) ?_
      obtain ⟨q2, hq2, hf⟩ := pt_b hf
      refine all_i (runU_V (pc := 29) (As := [.int x3]) (b := a 0) (rest := [.int x2]) (ci := 10) (q0 := 0) C lk_RX11_213 (kX11_faceOf l D cA a hq2 H.size) ⟨Nat.le_of_ble_eq_true rfl, Nat.le_of_ble_eq_true rfl⟩ ⟨Nat.le_refl _, Nat.le_refl _⟩ hP hD rfl rfl rfl hl.1 rfl (Nat.le_of_ble_eq_true rfl) dX11_mean_29) hD hS hA (fun H locs hP hD hS => ?_)
      refine lv_iadd (pc := 32) hx hb dX11_mean_32 ?_
      refine lv_istore_n (lv' := [(2, .int ((x2 + q2))), (0, .ref (a 0)), (1, .int p1), (3, .int x3)]) (pc := 33) hx hb dX11_mean_33 rfl hl (by decide) rfl (fun ls hl => ?_)
      refine lv_iinc (v := (x3 + 1)) (lv' := [(3, .int ((x3 + 1))), (2, .int ((x2 + q2))), (0, .ref (a 0)), (1, .int p1)]) (pc := 34) hx hb dX11_mean_34 hl (k := 3) rfl (by rfl) (by decide) rfl (fun ls hl => ?_)
      refine lv_goto (tgt := 16) (pc := 37) hx hb dX11_mean_37 (by decide) ?_
      exact hg16 ((x2 + q2)) ((x3 + 1)) hf _ _ _ hP hD hS (lv_sub hl [2, 3, 1, 0] rfl)
set_option maxRecDepth 100000 in
set_option maxHeartbeats 4000000 in
theorem wX11_mean (C : Cx p s m args meth c D cA cX11_mean 4 RX11 (some .int)) (hA : ∀ q : Nat, s.heap.size ≤ q → A q) {N : Nat} {z : Int32} {S : St} {p1 : Int32} (hf : fX11_mean N S p1 = some z) {H : Heap} {locs : List Loc} {ls : Array Slot} (hP : va_P D vwCl (w_M cA a S) H) (hD : va_D A (w_M cA a S)) (hS : va_S A s.heap H locs) (hl : lv_has ls 4 [(0, .ref (a 0)), (1, .int p1)]) : W p l e (rmU 1 25 0 0) s m args below meth c H locs 0 0 (MQ below (QI D A z (w_M cA a S)) args s 0 0 A) (F0 m 0 ls []) := by
  obtain ⟨hx, hb, hml, hown, hts, hK, hN, hr, hlk⟩ := id C
  unfold fX11_mean at hf
  refine lv_iload_n (pc := 0) hx hb dX11_mean_0 rfl (lv_at hl 1 rfl) ?_
  refine lv_i2l (v := p1.toInt64) (pc := 1) hx hb dX11_mean_1 rfl ?_
  refine lv_lconst (v := (0 : Int64)) (pc := 2) hx hb dX11_mean_2 (by decide) ?_
  refine lv_lconst (v := (1 : Int64)) (pc := 3) hx hb dX11_mean_3 (by decide) ?_
  obtain ⟨q1, hq1, hf⟩ := pt_b hf
  have hPc : va_P D vwCl ([] : va_W) H := hP.sub [] rfl
  have hDc : va_D A ([] : va_W) := hD.sub [] (by decide) rfl
  refine prt_i (runU_S (pc := 4) (As := [.long p1.toInt64, .long ((0 : Int64)), .long ((1 : Int64))]) (rest := []) C lk_RX11_72 (kX11_in l D cA hq1 H.size) ⟨Nat.le_of_ble_eq_true rfl, Nat.le_of_ble_eq_true rfl⟩ ⟨Nat.le_refl _, Nat.le_refl _⟩ hPc hDc hl.1 rfl (Nat.le_of_ble_eq_true rfl) dX11_mean_4) hP hD hS hA [] rfl (fun H locs hP hD hS => ?_)
  refine lv_if_ne (tgt := 12) (pc := 7) hx hb dX11_mean_7 (by decide) (fun c2 => ?_) (fun c2 => ?_)
  · have hf := pt_f c2 hf
    refine lv_iconst (v := (0 : Int32)) (pc := 12) hx hb dX11_mean_12 (by decide) ?_
    refine lv_istore_n (lv' := [(2, .int ((0 : Int32))), (0, .ref (a 0)), (1, .int p1)]) (pc := 13) hx hb dX11_mean_13 rfl hl (by decide) rfl (fun ls hl => ?_)
    refine lv_iconst (v := (1 : Int32)) (pc := 14) hx hb dX11_mean_14 (by decide) ?_
    refine lv_istore_n (lv' := [(3, .int ((1 : Int32))), (2, .int ((0 : Int32))), (0, .ref (a 0)), (1, .int p1)]) (pc := 15) hx hb dX11_mean_15 rfl hl (by decide) rfl (fun ls hl => ?_)
    exact wX11_mean_16 C hA  _ ((0 : Int32)) ((1 : Int32)) hf _ _ _ hP hD hS (lv_sub hl [2, 3, 1, 0] rfl)
  · have hf := pt_t c2 hf
    refine lv_iconst (v := (-1 : Int32)) (pc := 10) hx hb dX11_mean_10 (by decide) ?_
    cases hf
    exact ret_i C hP hD hS dX11_mean_11
set_option maxRecDepth 100000 in
set_option maxHeartbeats 4000000 in
theorem kX11_mean (l : Launch) (D : va_G) (cA : Nat → ClassId) (a : Nat → Nat) {N : Nat} {S : St} {p1 : Int32} {z : Int32} (hf : fX11_mean N S p1 = some z) : CtI l yX11_mean cX11_mean 4 (some .int) 1 25 D cA (w_M cA a S) (w_M cA a S) [.ref (a 0), .int p1] z := by
  intro sz
  refine Met.ofW (cc := cX11_mean) (maxL := 4) (ret := (some .int)) (by decide) rfl ?_
  intro p e s m args below meth c s₁ B hml hv
  obtain ⟨rfl, hsz, hP, hK, hD0⟩ := hv
  subst hsz
  have C : Cx p s m _ meth c D cA cX11_mean 4 RX11 (some .int) := Cx.of B hml hK
  have hD := hD0.self (sz := s.heap.size)
  have hA : ∀ q : Nat, s.heap.size ≤ q → va_A (w_M cA a S) s.heap.size q := fun q h => Or.inr h
  have hS : va_S (va_A (w_M cA a S) s.heap.size) s.heap s.heap [] := va_S.rf
  have hl := lv_entry ([.ref (a 0), .int p1]) (n := 4) (Nat.le_of_ble_eq_true rfl)
  rw [lg_entry_eq]
  generalize (lg_sl ([.ref (a 0), .int p1]) ++ List.replicate (4 - (lg_sl ([.ref (a 0), .int p1])).length) Slot.unset).toArray = ls at hl ⊢
  exact wX11_mean C hA hf hP hD hS hl
theorem ge_RX11_125_M_0_0 (C : Cx p s m args meth c D cA cc nL RX11 ret) (hP : va_P D vwCl (w_M cA a S) H) (hdg : decode cc pc = .ok (.getfield 125, 3)) (kk : W p l e R s m args below meth c H locs cells slots Q (F0 m (pc + 3) ls (.int (S 14 0) :: rest))) : W p l e R s m args below meth c H locs cells slots Q (F0 m pc ls (.ref (a 0) :: rest)) := by
  obtain ⟨hx, hb, -, hown, hts, hK, -, -, -⟩ := C
  exact va_get (D := D) (ci := 10) (v := .int (S 14 0)) (C := RX11) (T := TX11) (N := 28) hx hb hts inlX11 hown hK hP 0 rfl rfl 14 (by decide) (hts _ fl_RX11_125) (fun _ h9 => h9) rfl hdg kk
theorem fl_RX11_43 : Cond.fieldLink RX11 43 "SevenOnStrikeModel" "darkOne" "[I" ∈ wsL_law := by decide +kernel
theorem ge_RX11_43_M_0_0 (C : Cx p s m args meth c D cA cc nL RX11 ret) (hP : va_P D vwCl (w_M cA a S) H) (hdg : decode cc pc = .ok (.getfield 43, 3)) (kk : W p l e R s m args below meth c H locs cells slots Q (F0 m (pc + 3) ls (.ref (a 12) :: rest))) : W p l e R s m args below meth c H locs cells slots Q (F0 m pc ls (.ref (a 0) :: rest)) := by
  obtain ⟨hx, hb, -, hown, hts, hK, -, -, -⟩ := C
  exact va_get (D := D) (ci := 10) (v := .ref (a 12)) (C := RX11) (T := TX11) (N := 28) hx hb hts inlX11 hown hK hP 0 rfl rfl 15 (by decide) (hts _ fl_RX11_43) (fun _ h9 => h9) rfl hdg kk
theorem sr_M_0_12 {i v : Int32} {j : Nat} (C : Cx p s m args meth c D cA cc nL own ret) (hP : va_P D vwCl (w_M cA a S) H) (hD : va_D A (w_M cA a S)) (hS : va_S A s.heap H locs) (hin : vp_in i 8) (hj : i.toNatClampNeg = j) (hdg : decode cc pc = .ok (.iastore, 1)) (kk : ∀ (H1 : Heap) (locs1 : List Loc), va_P D vwCl (w_M cA a (sti S 15 j v)) H1 → va_D A (w_M cA a (sti S 15 j v)) → va_S A s.heap H1 locs1 → W p l e R s m args below meth c H1 locs1 cells slots Q (F0 m (pc + 1) ls rest)) : W p l e R s m args below meth c H locs cells slots Q (F0 m pc ls (.int v :: .int i :: .ref (a 12) :: rest)) := by
  obtain ⟨hx, hb, -, hown, hts, hK, -, -, -⟩ := C
  subst hj
  exact va_iast hx hb hK hP hD hS 12 0 rfl rfl hin hdg (fun H1 locs1 h1 h2 h3 => kk H1 locs1 h1 h2 h3)
theorem fl_RX11_46 : Cond.fieldLink RX11 46 "SevenOnStrikeModel" "darkOther" "[I" ∈ wsL_law := by decide +kernel
theorem ge_RX11_46_M_0_0 (C : Cx p s m args meth c D cA cc nL RX11 ret) (hP : va_P D vwCl (w_M cA a S) H) (hdg : decode cc pc = .ok (.getfield 46, 3)) (kk : W p l e R s m args below meth c H locs cells slots Q (F0 m (pc + 3) ls (.ref (a 13) :: rest))) : W p l e R s m args below meth c H locs cells slots Q (F0 m pc ls (.ref (a 0) :: rest)) := by
  obtain ⟨hx, hb, -, hown, hts, hK, -, -, -⟩ := C
  exact va_get (D := D) (ci := 10) (v := .ref (a 13)) (C := RX11) (T := TX11) (N := 28) hx hb hts inlX11 hown hK hP 0 rfl rfl 16 (by decide) (hts _ fl_RX11_46) (fun _ h9 => h9) rfl hdg kk
theorem sr_M_0_13 {i v : Int32} {j : Nat} (C : Cx p s m args meth c D cA cc nL own ret) (hP : va_P D vwCl (w_M cA a S) H) (hD : va_D A (w_M cA a S)) (hS : va_S A s.heap H locs) (hin : vp_in i 8) (hj : i.toNatClampNeg = j) (hdg : decode cc pc = .ok (.iastore, 1)) (kk : ∀ (H1 : Heap) (locs1 : List Loc), va_P D vwCl (w_M cA a (sti S 16 j v)) H1 → va_D A (w_M cA a (sti S 16 j v)) → va_S A s.heap H1 locs1 → W p l e R s m args below meth c H1 locs1 cells slots Q (F0 m (pc + 1) ls rest)) : W p l e R s m args below meth c H locs cells slots Q (F0 m pc ls (.int v :: .int i :: .ref (a 13) :: rest)) := by
  obtain ⟨hx, hb, -, hown, hts, hK, -, -, -⟩ := C
  subst hj
  exact va_iast hx hb hK hP hD hS 13 0 rfl rfl hin hdg (fun H1 locs1 h1 h2 h3 => kk H1 locs1 h1 h2 h3)
def fX11_dark (N : Nat) (S : St) (p1 : Int32) (p2 : Int32) : Option (Int32 × St) :=
  Option.bind (fX11_in N p1.toInt64 ((0 : Int64)) ((9999 : Int64))) (fun q1 => if q1 = 0 then (some ((-1 : Int32), S)) else (Option.bind (fX11_in N p2.toInt64 ((0 : Int64)) ((9999 : Int64))) (fun q3 => if q3 = 0 then (some ((-1 : Int32), S)) else (Option.bind (fX11_lettersOf N p1) (fun q5 => Option.bind (fX11_lettersOf N p2) (fun q6 => if q5 = q6 then (if (S 14 0) = (8 : Int32) then (some ((-3 : Int32), S)) else (if ¬ ((S 14 0) < 0 ∨ 8 ≤ ((S 14 0)).toNatClampNeg) then (if ¬ (((sti S 15 (((S 14 0)).toNatClampNeg) p1) 14 0) < 0 ∨ 8 ≤ (((sti S 15 (((S 14 0)).toNatClampNeg) p1) 14 0)).toNatClampNeg) then (some (((stf (sti (sti S 15 (((S 14 0)).toNatClampNeg) p1) 16 ((((sti S 15 (((S 14 0)).toNatClampNeg) p1) 14 0)).toNatClampNeg) p2) 14 ((((sti (sti S 15 (((S 14 0)).toNatClampNeg) p1) 16 ((((sti S 15 (((S 14 0)).toNatClampNeg) p1) 14 0)).toNatClampNeg) p2) 14 0) + (1 : Int32)))) 14 0), (stf (sti (sti S 15 (((S 14 0)).toNatClampNeg) p1) 16 ((((sti S 15 (((S 14 0)).toNatClampNeg) p1) 14 0)).toNatClampNeg) p2) 14 ((((sti (sti S 15 (((S 14 0)).toNatClampNeg) p1) 16 ((((sti S 15 (((S 14 0)).toNatClampNeg) p1) 14 0)).toNatClampNeg) p2) 14 0) + (1 : Int32)))))) else none) else none)) else (some ((-1 : Int32), S))))))))
set_option maxRecDepth 100000 in
set_option maxHeartbeats 4000000 in
theorem wX11_dark (C : Cx p s m args meth c D cA cX11_dark 3 RX11 (some .int)) (hA : ∀ q : Nat, s.heap.size ≤ q → A q) {N : Nat} {z : Int32 × St} {S : St} {p1 : Int32} {p2 : Int32} (hf : fX11_dark N S p1 p2 = some z) {H : Heap} {locs : List Loc} {ls : Array Slot} (hP : va_P D vwCl (w_M cA a S) H) (hD : va_D A (w_M cA a S)) (hS : va_S A s.heap H locs) (hl : lv_has ls 3 [(0, .ref (a 0)), (1, .int p1), (2, .int p2)]) : W p l e (rmU 1 25 0 0) s m args below meth c H locs 0 0 (MQ below (QI D A z.1 (w_M cA a z.2)) args s 0 0 A) (F0 m 0 ls []) := by
  obtain ⟨hx, hb, hml, hown, hts, hK, hN, hr, hlk⟩ := id C
  unfold fX11_dark at hf
  refine lv_iload_n (pc := 0) hx hb dX11_dark_0 rfl (lv_at hl 1 rfl) ?_
  refine lv_i2l (v := p1.toInt64) (pc := 1) hx hb dX11_dark_1 rfl ?_
  refine lv_lconst (v := (0 : Int64)) (pc := 2) hx hb dX11_dark_2 (by decide) ?_
  refine lv_ldc2 (pc := 3) (v := (9999 : Int64)) hx hb hown (hts _ kl_RX11_202) dX11_dark_3 ?_
  obtain ⟨q1, hq1, hf⟩ := pt_b hf
  have hPc : va_P D vwCl ([] : va_W) H := hP.sub [] rfl
  have hDc : va_D A ([] : va_W) := hD.sub [] (by decide) rfl
  refine prt_i (runU_S (pc := 6) (As := [.long p1.toInt64, .long ((0 : Int64)), .long ((9999 : Int64))]) (rest := []) C lk_RX11_72 (kX11_in l D cA hq1 H.size) ⟨Nat.le_of_ble_eq_true rfl, Nat.le_of_ble_eq_true rfl⟩ ⟨Nat.le_refl _, Nat.le_refl _⟩ hPc hDc hl.1 rfl (Nat.le_of_ble_eq_true rfl) dX11_dark_6) hP hD hS hA [] rfl (fun H locs hP hD hS => ?_)
  refine lv_if_eq (tgt := 35) (pc := 9) hx hb dX11_dark_9 (by decide) (fun c2 => ?_) (fun c2 => ?_)
  · have hf := pt_t c2 hf
    refine lv_iconst (v := (-1 : Int32)) (pc := 35) hx hb dX11_dark_35 (by decide) ?_
    cases hf
    exact ret_i C hP hD hS dX11_dark_36
  · have hf := pt_f c2 hf
    refine lv_iload_n (pc := 12) hx hb dX11_dark_12 rfl (lv_at hl 2 rfl) ?_
    refine lv_i2l (v := p2.toInt64) (pc := 13) hx hb dX11_dark_13 rfl ?_
    refine lv_lconst (v := (0 : Int64)) (pc := 14) hx hb dX11_dark_14 (by decide) ?_
    refine lv_ldc2 (pc := 15) (v := (9999 : Int64)) hx hb hown (hts _ kl_RX11_202) dX11_dark_15 ?_
    obtain ⟨q3, hq3, hf⟩ := pt_b hf
    have hPc : va_P D vwCl ([] : va_W) H := hP.sub [] rfl
    have hDc : va_D A ([] : va_W) := hD.sub [] (by decide) rfl
    refine prt_i (runU_S (pc := 18) (As := [.long p2.toInt64, .long ((0 : Int64)), .long ((9999 : Int64))]) (rest := []) C lk_RX11_72 (kX11_in l D cA hq3 H.size) ⟨Nat.le_of_ble_eq_true rfl, Nat.le_of_ble_eq_true rfl⟩ ⟨Nat.le_refl _, Nat.le_refl _⟩ hPc hDc hl.1 rfl (Nat.le_of_ble_eq_true rfl) dX11_dark_18) hP hD hS hA [] rfl (fun H locs hP hD hS => ?_)
    refine lv_if_eq (tgt := 35) (pc := 21) hx hb dX11_dark_21 (by decide) (fun c4 => ?_) (fun c4 => ?_)
    · have hf := pt_t c4 hf
      refine lv_iconst (v := (-1 : Int32)) (pc := 35) hx hb dX11_dark_35 (by decide) ?_
      cases hf
      exact ret_i C hP hD hS dX11_dark_36
    · have hf := pt_f c4 hf
      refine lv_iload_n (pc := 24) hx hb dX11_dark_24 rfl (lv_at hl 1 rfl) ?_
      obtain ⟨q5, hq5, hf⟩ := pt_b hf
      have hPc : va_P D vwCl ([] : va_W) H := hP.sub [] rfl
      have hDc : va_D A ([] : va_W) := hD.sub [] (by decide) rfl
      refine prt_i (runU_S (pc := 25) (As := [.int p1]) (rest := []) C lk_RX11_167 (kX11_lettersOf l D cA hq5 H.size) ⟨Nat.le_of_ble_eq_true rfl, Nat.le_of_ble_eq_true rfl⟩ ⟨Nat.le_refl _, Nat.le_refl _⟩ hPc hDc hl.1 rfl (Nat.le_of_ble_eq_true rfl) dX11_dark_25) hP hD hS hA [] rfl (fun H locs hP hD hS => ?_)
      refine lv_iload_n (pc := 28) hx hb dX11_dark_28 rfl (lv_at hl 2 rfl) ?_
      obtain ⟨q6, hq6, hf⟩ := pt_b hf
      have hPc : va_P D vwCl ([] : va_W) H := hP.sub [] rfl
      have hDc : va_D A ([] : va_W) := hD.sub [] (by decide) rfl
      refine prt_i (runU_S (pc := 29) (As := [.int p2]) (rest := [.int q5]) C lk_RX11_167 (kX11_lettersOf l D cA hq6 H.size) ⟨Nat.le_of_ble_eq_true rfl, Nat.le_of_ble_eq_true rfl⟩ ⟨Nat.le_refl _, Nat.le_refl _⟩ hPc hDc hl.1 rfl (Nat.le_of_ble_eq_true rfl) dX11_dark_29) hP hD hS hA [] rfl (fun H locs hP hD hS => ?_)
      refine lv_icmp_eq (tgt := 37) (pc := 32) hx hb dX11_dark_32 (by decide) (fun c7 => ?_) (fun c7 => ?_)
      · have hf := pt_t c7 hf
        refine lv_aload_n (pc := 37) hx hb dX11_dark_37 rfl (lv_at hl 0 rfl) ?_
        refine ge_RX11_125_M_0_0 (pc := 38) C hP dX11_dark_38 ?_
        refine lv_bipush (v := (8 : Int32)) (pc := 41) hx hb dX11_dark_41 (by decide) ?_
        refine lv_icmp_ne (tgt := 49) (pc := 43) hx hb dX11_dark_43 (by decide) (fun c8 => ?_) (fun c8 => ?_)
        · have hf := pt_f c8 hf
          refine lv_aload_n (pc := 49) hx hb dX11_dark_49 rfl (lv_at hl 0 rfl) ?_
          refine ge_RX11_43_M_0_0 (pc := 50) C hP dX11_dark_50 ?_
          refine lv_aload_n (pc := 53) hx hb dX11_dark_53 rfl (lv_at hl 0 rfl) ?_
          refine ge_RX11_125_M_0_0 (pc := 54) C hP dX11_dark_54 ?_
          refine lv_iload_n (pc := 57) hx hb dX11_dark_57 rfl (lv_at hl 1 rfl) ?_
          obtain ⟨h9, hf⟩ := pt_g hf
          refine sr_M_0_12 (pc := 58) (j := ((S 14 0)).toNatClampNeg) C hP hD hS h9 rfl dX11_dark_58 (fun H locs hP hD hS => ?_)
          refine lv_aload_n (pc := 59) hx hb dX11_dark_59 rfl (lv_at hl 0 rfl) ?_
          refine ge_RX11_46_M_0_0 (pc := 60) C hP dX11_dark_60 ?_
          refine lv_aload_n (pc := 63) hx hb dX11_dark_63 rfl (lv_at hl 0 rfl) ?_
          refine ge_RX11_125_M_0_0 (pc := 64) C hP dX11_dark_64 ?_
          refine lv_iload_n (pc := 67) hx hb dX11_dark_67 rfl (lv_at hl 2 rfl) ?_
          obtain ⟨h10, hf⟩ := pt_g hf
          refine sr_M_0_13 (pc := 68) (j := (((sti S 15 (((S 14 0)).toNatClampNeg) p1) 14 0)).toNatClampNeg) C hP hD hS h10 rfl dX11_dark_68 (fun H locs hP hD hS => ?_)
          refine lv_aload_n (pc := 69) hx hb dX11_dark_69 rfl (lv_at hl 0 rfl) ?_
          refine lv_dup (pc := 70) hx hb dX11_dark_70 rfl ?_
          refine ge_RX11_125_M_0_0 (pc := 71) C hP dX11_dark_71 ?_
          refine lv_iconst (v := (1 : Int32)) (pc := 74) hx hb dX11_dark_74 (by decide) ?_
          refine lv_iadd (pc := 75) hx hb dX11_dark_75 ?_
          refine pu_RX11_125_M_0_0 (pc := 76) C hP hD hS dX11_dark_76 (fun H locs hP hD hS => ?_)
          refine lv_aload_n (pc := 79) hx hb dX11_dark_79 rfl (lv_at hl 0 rfl) ?_
          refine ge_RX11_125_M_0_0 (pc := 80) C hP dX11_dark_80 ?_
          cases hf
          exact ret_i C hP hD hS dX11_dark_83
        · have hf := pt_t c8 hf
          refine lv_bipush (v := (-3 : Int32)) (pc := 46) hx hb dX11_dark_46 (by decide) ?_
          cases hf
          exact ret_i C hP hD hS dX11_dark_48
      · have hf := pt_f c7 hf
        refine lv_iconst (v := (-1 : Int32)) (pc := 35) hx hb dX11_dark_35 (by decide) ?_
        cases hf
        exact ret_i C hP hD hS dX11_dark_36
set_option maxRecDepth 100000 in
set_option maxHeartbeats 4000000 in
theorem kX11_dark (l : Launch) (D : va_G) (cA : Nat → ClassId) (a : Nat → Nat) {N : Nat} {S : St} {p1 : Int32} {p2 : Int32} {z : Int32 × St} (hf : fX11_dark N S p1 p2 = some z) : CtI l yX11_dark cX11_dark 3 (some .int) 1 25 D cA (w_M cA a S) (w_M cA a z.2) [.ref (a 0), .int p1, .int p2] z.1 := by
  intro sz
  refine Met.ofW (cc := cX11_dark) (maxL := 3) (ret := (some .int)) (by decide) rfl ?_
  intro p e s m args below meth c s₁ B hml hv
  obtain ⟨rfl, hsz, hP, hK, hD0⟩ := hv
  subst hsz
  have C : Cx p s m _ meth c D cA cX11_dark 3 RX11 (some .int) := Cx.of B hml hK
  have hD := hD0.self (sz := s.heap.size)
  have hA : ∀ q : Nat, s.heap.size ≤ q → va_A (w_M cA a S) s.heap.size q := fun q h => Or.inr h
  have hS : va_S (va_A (w_M cA a S) s.heap.size) s.heap s.heap [] := va_S.rf
  have hl := lv_entry ([.ref (a 0), .int p1, .int p2]) (n := 3) (Nat.le_of_ble_eq_true rfl)
  rw [lg_entry_eq]
  generalize (lg_sl ([.ref (a 0), .int p1, .int p2]) ++ List.replicate (3 - (lg_sl ([.ref (a 0), .int p1, .int p2])).length) Slot.unset).toArray = ls at hl ⊢
  exact wX11_dark C hA hf hP hD hS hl
def fX11_forget (N : Nat) (S : St) : Option (Int32 × St) :=
  some ((S 14 0), (stf S 14 ((0 : Int32))))
set_option maxRecDepth 100000 in
set_option maxHeartbeats 4000000 in
theorem wX11_forget (C : Cx p s m args meth c D cA cX11_forget 2 RX11 (some .int)) (hA : ∀ q : Nat, s.heap.size ≤ q → A q) {N : Nat} {z : Int32 × St} {S : St} (hf : fX11_forget N S = some z) {H : Heap} {locs : List Loc} {ls : Array Slot} (hP : va_P D vwCl (w_M cA a S) H) (hD : va_D A (w_M cA a S)) (hS : va_S A s.heap H locs) (hl : lv_has ls 2 [(0, .ref (a 0))]) : W p l e (rmU 0 0 0 0) s m args below meth c H locs 0 0 (MQ below (QI D A z.1 (w_M cA a z.2)) args s 0 0 A) (F0 m 0 ls []) := by
  obtain ⟨hx, hb, hml, hown, hts, hK, hN, hr, hlk⟩ := id C
  unfold fX11_forget at hf
  refine lv_aload_n (pc := 0) hx hb dX11_forget_0 rfl (lv_at hl 0 rfl) ?_
  refine ge_RX11_125_M_0_0 (pc := 1) C hP dX11_forget_1 ?_
  refine lv_istore_n (lv' := [(1, .int ((S 14 0))), (0, .ref (a 0))]) (pc := 4) hx hb dX11_forget_4 rfl hl (by decide) rfl (fun ls hl => ?_)
  refine lv_aload_n (pc := 5) hx hb dX11_forget_5 rfl (lv_at hl 1 rfl) ?_
  refine lv_iconst (v := (0 : Int32)) (pc := 6) hx hb dX11_forget_6 (by decide) ?_
  refine pu_RX11_125_M_0_0 (pc := 7) C hP hD hS dX11_forget_7 (fun H locs hP hD hS => ?_)
  refine lv_iload_n (pc := 10) hx hb dX11_forget_10 rfl (lv_at hl 0 rfl) ?_
  cases hf
  exact ret_i C hP hD hS dX11_forget_11
set_option maxRecDepth 100000 in
set_option maxHeartbeats 4000000 in
theorem kX11_forget (l : Launch) (D : va_G) (cA : Nat → ClassId) (a : Nat → Nat) {N : Nat} {S : St} {z : Int32 × St} (hf : fX11_forget N S = some z) : CtI l yX11_forget cX11_forget 2 (some .int) 0 0 D cA (w_M cA a S) (w_M cA a z.2) [.ref (a 0)] z.1 := by
  intro sz
  refine Met.ofW (cc := cX11_forget) (maxL := 2) (ret := (some .int)) (by decide) rfl ?_
  intro p e s m args below meth c s₁ B hml hv
  obtain ⟨rfl, hsz, hP, hK, hD0⟩ := hv
  subst hsz
  have C : Cx p s m _ meth c D cA cX11_forget 2 RX11 (some .int) := Cx.of B hml hK
  have hD := hD0.self (sz := s.heap.size)
  have hA : ∀ q : Nat, s.heap.size ≤ q → va_A (w_M cA a S) s.heap.size q := fun q h => Or.inr h
  have hS : va_S (va_A (w_M cA a S) s.heap.size) s.heap s.heap [] := va_S.rf
  have hl := lv_entry ([.ref (a 0)]) (n := 2) (Nat.le_of_ble_eq_true rfl)
  rw [lg_entry_eq]
  generalize (lg_sl ([.ref (a 0)]) ++ List.replicate (2 - (lg_sl ([.ref (a 0)])).length) Slot.unset).toArray = ls at hl ⊢
  exact wX11_forget C hA hf hP hD hS hl
theorem ld_M_0_12 {i : Int32} {j : Nat} (C : Cx p s m args meth c D cA cc nL own ret) (hP : va_P D vwCl (w_M cA a S) H) (hin : vp_in i 8) (hj : i.toNatClampNeg = j) (hdg : decode cc pc = .ok (.iaload, 1)) (kk : W p l e R s m args below meth c H locs cells slots Q (F0 m (pc + 1) ls (.int (S 15 j) :: rest))) : W p l e R s m args below meth c H locs cells slots Q (F0 m pc ls (.int i :: .ref (a 12) :: rest)) := by
  obtain ⟨hx, hb, -, hown, hts, hK, -, -, -⟩ := C
  subst hj
  exact va_iald hx hb hK hP 12 0 rfl rfl hin hdg kk
theorem ld_M_0_13 {i : Int32} {j : Nat} (C : Cx p s m args meth c D cA cc nL own ret) (hP : va_P D vwCl (w_M cA a S) H) (hin : vp_in i 8) (hj : i.toNatClampNeg = j) (hdg : decode cc pc = .ok (.iaload, 1)) (kk : W p l e R s m args below meth c H locs cells slots Q (F0 m (pc + 1) ls (.int (S 16 j) :: rest))) : W p l e R s m args below meth c H locs cells slots Q (F0 m pc ls (.int i :: .ref (a 13) :: rest)) := by
  obtain ⟨hx, hb, -, hown, hts, hK, -, -, -⟩ := C
  subst hj
  exact va_iald hx hb hK hP 13 0 rfl rfl hin hdg kk
def fX11_isHeard_j111 (N : Nat) (S : St) (g4 : Int32 × Int32 → Option (Int32)) (x1 : Int32) (x2 : Int32) : Option (Int32) :=
  g4 ((x1, (x2 + 1)))
def fX11_isHeard_j92 (N : Nat) (S : St) (g4 : Int32 × Int32 → Option (Int32)) (g36 : Int32 × Int32 × Int32 × Int32 × Int32 × Int32 → Option (Int32)) (x2 : Int32) (x3 : Int32) (x4 : Int32) (x5 : Int32) (x6 : Int32) (y0 : Int32) : Option (Int32) :=
  g36 ((y0, x2, (x3 / (10 : Int32)), (x4 / (10 : Int32)), x5, (x6 + 1)))
def fX11_isHeard_j91 (N : Nat) (S : St) (g4 : Int32 × Int32 → Option (Int32)) (g36 : Int32 × Int32 × Int32 × Int32 × Int32 × Int32 → Option (Int32)) (x2 : Int32) (x3 : Int32) (x4 : Int32) (x5 : Int32) (x6 : Int32) : Option (Int32) :=
  fX11_isHeard_j92 N S g4 g36 x2 x3 x4 x5 x6 ((0 : Int32))
def fX11_isHeard_j79 (N : Nat) (S : St) (g4 : Int32 × Int32 → Option (Int32)) (g36 : Int32 × Int32 × Int32 × Int32 × Int32 × Int32 → Option (Int32)) (x2 : Int32) (x3 : Int32) (x4 : Int32) (x5 : Int32) (x6 : Int32) (y0 : Int32) : Option (Int32) :=
  if y0 = (x4 - x4 / (10 : Int32) * (10 : Int32)) then (fX11_isHeard_j92 N S g4 g36 x2 x3 x4 x5 x6 ((1 : Int32))) else (fX11_isHeard_j91 N S g4 g36 x2 x3 x4 x5 x6)
def fX11_isHeard_b36 (N : Nat) (S : St) (g4 : Int32 × Int32 → Option (Int32)) (g36 : Int32 × Int32 × Int32 × Int32 × Int32 × Int32 → Option (Int32)) (x1 : Int32) (x2 : Int32) (x3 : Int32) (x4 : Int32) (x5 : Int32) (x6 : Int32) : Option (Int32) :=
  if x5 ≤ x6 then (fX11_isHeard_j111 N S g4 x1 x2) else (nm ((x3 - x3 / (10 : Int32) * (10 : Int32))) (fun v2 => if x1 = 0 then (fX11_isHeard_j91 N S g4 g36 x2 x3 x4 x5 x6) else (if ¬ (v2 < 0 ∨ 20 ≤ v2.toNatClampNeg) then (if (S 9 v2.toNatClampNeg) = (1 : Int32) then (if ¬ (((10 : Int32) + v2) < 0 ∨ 20 ≤ (((10 : Int32) + v2)).toNatClampNeg) then (fX11_isHeard_j79 N S g4 g36 x2 x3 x4 x5 x6 ((S 9 ((((10 : Int32) + v2)).toNatClampNeg)))) else none) else (fX11_isHeard_j79 N S g4 g36 x2 x3 x4 x5 x6 v2)) else none)))
def fX11_isHeard_l36 (N : Nat) (S : St) (g4 : Int32 × Int32 → Option (Int32)) (k : Nat) (q : Int32 × Int32 × Int32 × Int32 × Int32 × Int32) : Option (Int32) := lpN (fun g q => fX11_isHeard_b36 N S g4 g q.1 q.2.1 q.2.2.1 q.2.2.2.1 q.2.2.2.2.1 q.2.2.2.2.2) k q
def fX11_isHeard_b4 (N : Nat) (S : St) (g4 : Int32 × Int32 → Option (Int32)) (x1 : Int32) (x2 : Int32) : Option (Int32) :=
  if (S 14 0) ≤ x2 then (if x1 = 0 ∨ x1 = 1 then (some x1) else none) else (if ¬ (x2 < 0 ∨ 8 ≤ x2.toNatClampNeg) then (if ¬ (x2 < 0 ∨ 8 ≤ x2.toNatClampNeg) then (Option.bind (fX11_lettersOf N ((S 15 x2.toNatClampNeg))) (fun q5 => fX11_isHeard_l36 N S g4 N ((x1, x2, (S 15 x2.toNatClampNeg), (S 16 x2.toNatClampNeg), q5, (0 : Int32))))) else none) else none)
def fX11_isHeard_l4 (N : Nat) (S : St) (k : Nat) (q : Int32 × Int32) : Option (Int32) := lpN (fun g q => fX11_isHeard_b4 N S g q.1 q.2) k q
def fX11_isHeard (N : Nat) (S : St) : Option (Int32) :=
  fX11_isHeard_l4 N S N (((1 : Int32), (0 : Int32)))
set_option maxRecDepth 100000 in
set_option maxHeartbeats 4000000 in
theorem wX11_isHeard_111 (C : Cx p s m args meth c D cA cX11_isHeard 8 RX11 (some .boolean)) (hA : ∀ q : Nat, s.heap.size ≤ q → A q) {N : Nat} {z : Int32} {S : St} {g4 : Int32 × Int32 → Option (Int32)} (hg4 : ∀ (x1 : Int32) (x2 : Int32), g4 (x1, x2) = some z → ∀ (H : Heap) (locs : List Loc) (ls : Array Slot), va_P D vwCl (w_M cA a S) H → va_D A (w_M cA a S) → va_S A s.heap H locs → lv_has ls 8 [(0, .ref (a 0)), (1, .int x1), (2, .int x2)] → W p l e (rmU 1 22 0 0) s m args below meth c H locs 0 0 (MQ below (QI D A z (w_M cA a S)) args s 0 0 A) (F0 m 4 ls [])) {x1 : Int32} {x2 : Int32} (hf : fX11_isHeard_j111 N S g4 x1 x2 = some z) {H : Heap} {locs : List Loc} {ls : Array Slot} (hP : va_P D vwCl (w_M cA a S) H) (hD : va_D A (w_M cA a S)) (hS : va_S A s.heap H locs) (hl : lv_has ls 8 [(0, .ref (a 0)), (1, .int x1), (2, .int x2)]) : W p l e (rmU 1 22 0 0) s m args below meth c H locs 0 0 (MQ below (QI D A z (w_M cA a S)) args s 0 0 A) (F0 m 111 ls []) := by
  obtain ⟨hx, hb, hml, hown, hts, hK, hN, hr, hlk⟩ := id C
  unfold fX11_isHeard_j111 at hf
  refine lv_iinc (v := (x2 + 1)) (lv' := [(2, .int ((x2 + 1))), (0, .ref (a 0)), (1, .int x1)]) (pc := 111) hx hb dX11_isHeard_111 hl (k := 2) rfl (by rfl) (by decide) rfl (fun ls hl => ?_)
  refine lv_goto (tgt := 4) (pc := 114) hx hb dX11_isHeard_114 (by decide) ?_
  exact hg4 x1 ((x2 + 1)) hf _ _ _ hP hD hS (lv_sub hl [1, 2, 0] rfl)
set_option maxRecDepth 100000 in
set_option maxHeartbeats 4000000 in
theorem wX11_isHeard_92 (C : Cx p s m args meth c D cA cX11_isHeard 8 RX11 (some .boolean)) (hA : ∀ q : Nat, s.heap.size ≤ q → A q) {N : Nat} {z : Int32} {S : St} {g4 : Int32 × Int32 → Option (Int32)} (hg4 : ∀ (x1 : Int32) (x2 : Int32), g4 (x1, x2) = some z → ∀ (H : Heap) (locs : List Loc) (ls : Array Slot), va_P D vwCl (w_M cA a S) H → va_D A (w_M cA a S) → va_S A s.heap H locs → lv_has ls 8 [(0, .ref (a 0)), (1, .int x1), (2, .int x2)] → W p l e (rmU 1 22 0 0) s m args below meth c H locs 0 0 (MQ below (QI D A z (w_M cA a S)) args s 0 0 A) (F0 m 4 ls [])) {g36 : Int32 × Int32 × Int32 × Int32 × Int32 × Int32 → Option (Int32)} (hg36 : ∀ (x1 : Int32) (x2 : Int32) (x3 : Int32) (x4 : Int32) (x5 : Int32) (x6 : Int32), g36 (x1, x2, x3, x4, x5, x6) = some z → ∀ (H : Heap) (locs : List Loc) (ls : Array Slot), va_P D vwCl (w_M cA a S) H → va_D A (w_M cA a S) → va_S A s.heap H locs → lv_has ls 8 [(0, .ref (a 0)), (1, .int x1), (2, .int x2), (3, .int x3), (4, .int x4), (5, .int x5), (6, .int x6)] → W p l e (rmU 1 22 0 0) s m args below meth c H locs 0 0 (MQ below (QI D A z (w_M cA a S)) args s 0 0 A) (F0 m 36 ls [])) {x2 : Int32} {x3 : Int32} {x4 : Int32} {x5 : Int32} {x6 : Int32} {y0 : Int32} (hf : fX11_isHeard_j92 N S g4 g36 x2 x3 x4 x5 x6 y0 = some z) {H : Heap} {locs : List Loc} {ls : Array Slot} (hP : va_P D vwCl (w_M cA a S) H) (hD : va_D A (w_M cA a S)) (hS : va_S A s.heap H locs) (hl : lv_has ls 8 [(0, .ref (a 0)), (2, .int x2), (3, .int x3), (4, .int x4), (5, .int x5), (6, .int x6)]) : W p l e (rmU 1 22 0 0) s m args below meth c H locs 0 0 (MQ below (QI D A z (w_M cA a S)) args s 0 0 A) (F0 m 92 ls [.int y0]) := by
  obtain ⟨hx, hb, hml, hown, hts, hK, hN, hr, hlk⟩ := id C
  unfold fX11_isHeard_j92 at hf
  refine lv_istore_n (lv' := [(1, .int y0), (0, .ref (a 0)), (2, .int x2), (3, .int x3), (4, .int x4), (5, .int x5), (6, .int x6)]) (pc := 92) hx hb dX11_isHeard_92 rfl hl (by decide) rfl (fun ls hl => ?_)
  refine lv_iload_n (pc := 93) hx hb dX11_isHeard_93 rfl (lv_at hl 3 rfl) ?_
  refine lv_bipush (v := (10 : Int32)) (pc := 94) hx hb dX11_isHeard_94 (by decide) ?_
  refine lv_idiv (pc := 96) hx hb dX11_isHeard_96 (by decide) ?_
  refine lv_istore_n (lv' := [(3, .int ((x3 / (10 : Int32)))), (1, .int y0), (0, .ref (a 0)), (2, .int x2), (4, .int x4), (5, .int x5), (6, .int x6)]) (pc := 97) hx hb dX11_isHeard_97 rfl hl (by decide) rfl (fun ls hl => ?_)
  refine lv_iload (pc := 98) hx hb dX11_isHeard_98 (lv_at hl 4 rfl) ?_
  refine lv_bipush (v := (10 : Int32)) (pc := 100) hx hb dX11_isHeard_100 (by decide) ?_
  refine lv_idiv (pc := 102) hx hb dX11_isHeard_102 (by decide) ?_
  refine lv_istore (lv' := [(4, .int ((x4 / (10 : Int32)))), (3, .int ((x3 / (10 : Int32)))), (1, .int y0), (0, .ref (a 0)), (2, .int x2), (5, .int x5), (6, .int x6)]) (pc := 103) hx hb dX11_isHeard_103 hl (by decide) rfl (fun ls hl => ?_)
  refine lv_iinc (v := (x6 + 1)) (lv' := [(6, .int ((x6 + 1))), (4, .int ((x4 / (10 : Int32)))), (3, .int ((x3 / (10 : Int32)))), (1, .int y0), (0, .ref (a 0)), (2, .int x2), (5, .int x5)]) (pc := 105) hx hb dX11_isHeard_105 hl (k := 6) rfl (by rfl) (by decide) rfl (fun ls hl => ?_)
  refine lv_goto (tgt := 36) (pc := 108) hx hb dX11_isHeard_108 (by decide) ?_
  exact hg36 y0 x2 ((x3 / (10 : Int32))) ((x4 / (10 : Int32))) x5 ((x6 + 1)) hf _ _ _ hP hD hS (lv_sub hl [4, 3, 5, 2, 1, 6, 0] rfl)
set_option maxRecDepth 100000 in
set_option maxHeartbeats 4000000 in
theorem wX11_isHeard_91 (C : Cx p s m args meth c D cA cX11_isHeard 8 RX11 (some .boolean)) (hA : ∀ q : Nat, s.heap.size ≤ q → A q) {N : Nat} {z : Int32} {S : St} {g4 : Int32 × Int32 → Option (Int32)} (hg4 : ∀ (x1 : Int32) (x2 : Int32), g4 (x1, x2) = some z → ∀ (H : Heap) (locs : List Loc) (ls : Array Slot), va_P D vwCl (w_M cA a S) H → va_D A (w_M cA a S) → va_S A s.heap H locs → lv_has ls 8 [(0, .ref (a 0)), (1, .int x1), (2, .int x2)] → W p l e (rmU 1 22 0 0) s m args below meth c H locs 0 0 (MQ below (QI D A z (w_M cA a S)) args s 0 0 A) (F0 m 4 ls [])) {g36 : Int32 × Int32 × Int32 × Int32 × Int32 × Int32 → Option (Int32)} (hg36 : ∀ (x1 : Int32) (x2 : Int32) (x3 : Int32) (x4 : Int32) (x5 : Int32) (x6 : Int32), g36 (x1, x2, x3, x4, x5, x6) = some z → ∀ (H : Heap) (locs : List Loc) (ls : Array Slot), va_P D vwCl (w_M cA a S) H → va_D A (w_M cA a S) → va_S A s.heap H locs → lv_has ls 8 [(0, .ref (a 0)), (1, .int x1), (2, .int x2), (3, .int x3), (4, .int x4), (5, .int x5), (6, .int x6)] → W p l e (rmU 1 22 0 0) s m args below meth c H locs 0 0 (MQ below (QI D A z (w_M cA a S)) args s 0 0 A) (F0 m 36 ls [])) {x2 : Int32} {x3 : Int32} {x4 : Int32} {x5 : Int32} {x6 : Int32} (hf : fX11_isHeard_j91 N S g4 g36 x2 x3 x4 x5 x6 = some z) {H : Heap} {locs : List Loc} {ls : Array Slot} (hP : va_P D vwCl (w_M cA a S) H) (hD : va_D A (w_M cA a S)) (hS : va_S A s.heap H locs) (hl : lv_has ls 8 [(0, .ref (a 0)), (2, .int x2), (3, .int x3), (4, .int x4), (5, .int x5), (6, .int x6)]) : W p l e (rmU 1 22 0 0) s m args below meth c H locs 0 0 (MQ below (QI D A z (w_M cA a S)) args s 0 0 A) (F0 m 91 ls []) := by
  obtain ⟨hx, hb, hml, hown, hts, hK, hN, hr, hlk⟩ := id C
  unfold fX11_isHeard_j91 at hf
  refine lv_iconst (v := (0 : Int32)) (pc := 91) hx hb dX11_isHeard_91 (by decide) ?_
  exact wX11_isHeard_92 C hA hg4 hg36 hf hP hD hS (lv_sub hl [0, 1, 2, 3, 4, 5] rfl)
set_option maxRecDepth 100000 in
set_option maxHeartbeats 4000000 in
theorem wX11_isHeard_79 (C : Cx p s m args meth c D cA cX11_isHeard 8 RX11 (some .boolean)) (hA : ∀ q : Nat, s.heap.size ≤ q → A q) {N : Nat} {z : Int32} {S : St} {g4 : Int32 × Int32 → Option (Int32)} (hg4 : ∀ (x1 : Int32) (x2 : Int32), g4 (x1, x2) = some z → ∀ (H : Heap) (locs : List Loc) (ls : Array Slot), va_P D vwCl (w_M cA a S) H → va_D A (w_M cA a S) → va_S A s.heap H locs → lv_has ls 8 [(0, .ref (a 0)), (1, .int x1), (2, .int x2)] → W p l e (rmU 1 22 0 0) s m args below meth c H locs 0 0 (MQ below (QI D A z (w_M cA a S)) args s 0 0 A) (F0 m 4 ls [])) {g36 : Int32 × Int32 × Int32 × Int32 × Int32 × Int32 → Option (Int32)} (hg36 : ∀ (x1 : Int32) (x2 : Int32) (x3 : Int32) (x4 : Int32) (x5 : Int32) (x6 : Int32), g36 (x1, x2, x3, x4, x5, x6) = some z → ∀ (H : Heap) (locs : List Loc) (ls : Array Slot), va_P D vwCl (w_M cA a S) H → va_D A (w_M cA a S) → va_S A s.heap H locs → lv_has ls 8 [(0, .ref (a 0)), (1, .int x1), (2, .int x2), (3, .int x3), (4, .int x4), (5, .int x5), (6, .int x6)] → W p l e (rmU 1 22 0 0) s m args below meth c H locs 0 0 (MQ below (QI D A z (w_M cA a S)) args s 0 0 A) (F0 m 36 ls [])) {x2 : Int32} {x3 : Int32} {x4 : Int32} {x5 : Int32} {x6 : Int32} {y0 : Int32} (hf : fX11_isHeard_j79 N S g4 g36 x2 x3 x4 x5 x6 y0 = some z) {H : Heap} {locs : List Loc} {ls : Array Slot} (hP : va_P D vwCl (w_M cA a S) H) (hD : va_D A (w_M cA a S)) (hS : va_S A s.heap H locs) (hl : lv_has ls 8 [(0, .ref (a 0)), (2, .int x2), (3, .int x3), (4, .int x4), (5, .int x5), (6, .int x6)]) : W p l e (rmU 1 22 0 0) s m args below meth c H locs 0 0 (MQ below (QI D A z (w_M cA a S)) args s 0 0 A) (F0 m 79 ls [.int y0]) := by
  obtain ⟨hx, hb, hml, hown, hts, hK, hN, hr, hlk⟩ := id C
  unfold fX11_isHeard_j79 at hf
  refine lv_iload (pc := 79) hx hb dX11_isHeard_79 (lv_at hl 3 rfl) ?_
  refine lv_bipush (v := (10 : Int32)) (pc := 81) hx hb dX11_isHeard_81 (by decide) ?_
  refine lv_irem (pc := 83) hx hb dX11_isHeard_83 (by decide) ?_
  refine lv_icmp_ne (tgt := 91) (pc := 84) hx hb dX11_isHeard_84 (by decide) (fun c1 => ?_) (fun c1 => ?_)
  · have hf := pt_f c1 hf
    exact wX11_isHeard_91 C hA hg4 hg36 hf hP hD hS (lv_sub hl [0, 1, 2, 3, 4, 5] rfl)
  · have hf := pt_t c1 hf
    refine lv_iconst (v := (1 : Int32)) (pc := 87) hx hb dX11_isHeard_87 (by decide) ?_
    refine lv_goto (tgt := 92) (pc := 88) hx hb dX11_isHeard_88 (by decide) ?_
    exact wX11_isHeard_92 C hA hg4 hg36 hf hP hD hS (lv_sub hl [0, 1, 2, 3, 4, 5] rfl)
set_option maxRecDepth 100000 in
set_option maxHeartbeats 4000000 in
theorem wX11_isHeard_36 (C : Cx p s m args meth c D cA cX11_isHeard 8 RX11 (some .boolean)) (hA : ∀ q : Nat, s.heap.size ≤ q → A q) {N : Nat} {z : Int32} {S : St} {g4 : Int32 × Int32 → Option (Int32)} (hg4 : ∀ (x1 : Int32) (x2 : Int32), g4 (x1, x2) = some z → ∀ (H : Heap) (locs : List Loc) (ls : Array Slot), va_P D vwCl (w_M cA a S) H → va_D A (w_M cA a S) → va_S A s.heap H locs → lv_has ls 8 [(0, .ref (a 0)), (1, .int x1), (2, .int x2)] → W p l e (rmU 1 22 0 0) s m args below meth c H locs 0 0 (MQ below (QI D A z (w_M cA a S)) args s 0 0 A) (F0 m 4 ls [])) : ∀ (k : Nat) (x1 : Int32) (x2 : Int32) (x3 : Int32) (x4 : Int32) (x5 : Int32) (x6 : Int32), fX11_isHeard_l36 N S g4 k (x1, x2, x3, x4, x5, x6) = some z → ∀ (H : Heap) (locs : List Loc) (ls : Array Slot), va_P D vwCl (w_M cA a S) H → va_D A (w_M cA a S) → va_S A s.heap H locs → lv_has ls 8 [(0, .ref (a 0)), (1, .int x1), (2, .int x2), (3, .int x3), (4, .int x4), (5, .int x5), (6, .int x6)] → W p l e (rmU 1 22 0 0) s m args below meth c H locs 0 0 (MQ below (QI D A z (w_M cA a S)) args s 0 0 A) (F0 m 36 ls []) := by
  obtain ⟨hx, hb, hml, hown, hts, hK, hN, hr, hlk⟩ := id C
  intro k
  induction k with
  | zero =>
    intro x1 x2 x3 x4 x5 x6 hf
    have hf : (none : Option (Int32)) = some z := hf
    cases hf
  | succ k hg36 =>
    intro x1 x2 x3 x4 x5 x6 hf H locs ls hP hD hS hl
    have hf : fX11_isHeard_b36 N S g4 (fX11_isHeard_l36 N S g4 k) x1 x2 x3 x4 x5 x6 = some z := hf
    unfold fX11_isHeard_b36 at hf
    refine lv_iload (pc := 36) hx hb dX11_isHeard_36 (lv_at hl 6 rfl) ?_
    refine lv_iload (pc := 38) hx hb dX11_isHeard_38 (lv_at hl 5 rfl) ?_
    refine lv_icmp_ge (tgt := 111) (pc := 40) hx hb dX11_isHeard_40 (by decide) (fun c1 => ?_) (fun c1 => ?_)
    · have hf := pt_t c1 hf
      exact wX11_isHeard_111 C hA hg4 hf hP hD hS (lv_sub hl [0, 1, 2] rfl)
    · have hf := pt_f c1 hf
      refine lv_iload_n (pc := 43) hx hb dX11_isHeard_43 rfl (lv_at hl 3 rfl) ?_
      refine lv_bipush (v := (10 : Int32)) (pc := 44) hx hb dX11_isHeard_44 (by decide) ?_
      refine lv_irem (pc := 46) hx hb dX11_isHeard_46 (by decide) ?_
      refine lv_topi (fun v2 ev2 => ?_)
      have hf := pt_n ev2 hf
      refine lv_istore (lv' := [(7, .int v2), (0, .ref (a 0)), (1, .int x1), (2, .int x2), (3, .int x3), (4, .int x4), (5, .int x5), (6, .int x6)]) (pc := 47) hx hb dX11_isHeard_47 hl (by decide) rfl (fun ls hl => ?_)
      refine lv_iload_n (pc := 49) hx hb dX11_isHeard_49 rfl (lv_at hl 2 rfl) ?_
      refine lv_if_eq (tgt := 91) (pc := 50) hx hb dX11_isHeard_50 (by decide) (fun c3 => ?_) (fun c3 => ?_)
      · have hf := pt_t c3 hf
        exact wX11_isHeard_91 C hA hg4 hg36 hf hP hD hS (lv_sub hl [1, 3, 4, 5, 6, 7] rfl)
      · have hf := pt_f c3 hf
        refine lv_aload_n (pc := 53) hx hb dX11_isHeard_53 rfl (lv_at hl 1 rfl) ?_
        refine ge_RX11_34_M_0_0 (pc := 54) C hP dX11_isHeard_54 ?_
        refine lv_iload (pc := 57) hx hb dX11_isHeard_57 (lv_at hl 0 rfl) ?_
        obtain ⟨h4, hf⟩ := pt_g hf
        refine ld_M_0_9 (pc := 59) (j := v2.toNatClampNeg) C hP h4 rfl dX11_isHeard_59 ?_
        refine lv_iconst (v := (1 : Int32)) (pc := 60) hx hb dX11_isHeard_60 (by decide) ?_
        refine lv_icmp_ne (tgt := 77) (pc := 61) hx hb dX11_isHeard_61 (by decide) (fun c5 => ?_) (fun c5 => ?_)
        · have hf := pt_f c5 hf
          refine lv_iload (pc := 77) hx hb dX11_isHeard_77 (lv_at hl 0 rfl) ?_
          exact wX11_isHeard_79 C hA hg4 hg36 hf hP hD hS (lv_sub hl [1, 3, 4, 5, 6, 7] rfl)
        · have hf := pt_t c5 hf
          refine lv_aload_n (pc := 64) hx hb dX11_isHeard_64 rfl (lv_at hl 1 rfl) ?_
          refine ge_RX11_34_M_0_0 (pc := 65) C hP dX11_isHeard_65 ?_
          refine lv_bipush (v := (10 : Int32)) (pc := 68) hx hb dX11_isHeard_68 (by decide) ?_
          refine lv_iload (pc := 70) hx hb dX11_isHeard_70 (lv_at hl 0 rfl) ?_
          refine lv_iadd (pc := 72) hx hb dX11_isHeard_72 ?_
          obtain ⟨h6, hf⟩ := pt_g hf
          refine ld_M_0_9 (pc := 73) (j := (((10 : Int32) + v2)).toNatClampNeg) C hP h6 rfl dX11_isHeard_73 ?_
          refine lv_goto (tgt := 79) (pc := 74) hx hb dX11_isHeard_74 (by decide) ?_
          exact wX11_isHeard_79 C hA hg4 hg36 hf hP hD hS (lv_sub hl [1, 3, 4, 5, 6, 7] rfl)
set_option maxRecDepth 100000 in
set_option maxHeartbeats 4000000 in
theorem wX11_isHeard_4 (C : Cx p s m args meth c D cA cX11_isHeard 8 RX11 (some .boolean)) (hA : ∀ q : Nat, s.heap.size ≤ q → A q) {N : Nat} {z : Int32} {S : St} : ∀ (k : Nat) (x1 : Int32) (x2 : Int32), fX11_isHeard_l4 N S k (x1, x2) = some z → ∀ (H : Heap) (locs : List Loc) (ls : Array Slot), va_P D vwCl (w_M cA a S) H → va_D A (w_M cA a S) → va_S A s.heap H locs → lv_has ls 8 [(0, .ref (a 0)), (1, .int x1), (2, .int x2)] → W p l e (rmU 1 22 0 0) s m args below meth c H locs 0 0 (MQ below (QI D A z (w_M cA a S)) args s 0 0 A) (F0 m 4 ls []) := by
  obtain ⟨hx, hb, hml, hown, hts, hK, hN, hr, hlk⟩ := id C
  intro k
  induction k with
  | zero =>
    intro x1 x2 hf
    have hf : (none : Option (Int32)) = some z := hf
    cases hf
  | succ k hg4 =>
    intro x1 x2 hf H locs ls hP hD hS hl
    have hf : fX11_isHeard_b4 N S (fX11_isHeard_l4 N S k) x1 x2 = some z := hf
    unfold fX11_isHeard_b4 at hf
    refine lv_iload_n (pc := 4) hx hb dX11_isHeard_4 rfl (lv_at hl 2 rfl) ?_
    refine lv_aload_n (pc := 5) hx hb dX11_isHeard_5 rfl (lv_at hl 0 rfl) ?_
    refine ge_RX11_125_M_0_0 (pc := 6) C hP dX11_isHeard_6 ?_
    refine lv_icmp_ge (tgt := 117) (pc := 9) hx hb dX11_isHeard_9 (by decide) (fun c1 => ?_) (fun c1 => ?_)
    · have hf := pt_t c1 hf
      refine lv_iload_n (pc := 117) hx hb dX11_isHeard_117 rfl (lv_at hl 1 rfl) ?_
      obtain ⟨h2, hf⟩ := pt_g hf
      cases hf
      exact ret_z C h2 hP hD hS dX11_isHeard_118
    · have hf := pt_f c1 hf
      refine lv_aload_n (pc := 12) hx hb dX11_isHeard_12 rfl (lv_at hl 0 rfl) ?_
      refine ge_RX11_43_M_0_0 (pc := 13) C hP dX11_isHeard_13 ?_
      refine lv_iload_n (pc := 16) hx hb dX11_isHeard_16 rfl (lv_at hl 2 rfl) ?_
      obtain ⟨h3, hf⟩ := pt_g hf
      refine ld_M_0_12 (pc := 17) (j := x2.toNatClampNeg) C hP h3 rfl dX11_isHeard_17 ?_
      refine lv_istore_n (lv' := [(3, .int ((S 15 x2.toNatClampNeg))), (0, .ref (a 0)), (1, .int x1), (2, .int x2)]) (pc := 18) hx hb dX11_isHeard_18 rfl hl (by decide) rfl (fun ls hl => ?_)
      refine lv_aload_n (pc := 19) hx hb dX11_isHeard_19 rfl (lv_at hl 1 rfl) ?_
      refine ge_RX11_46_M_0_0 (pc := 20) C hP dX11_isHeard_20 ?_
      refine lv_iload_n (pc := 23) hx hb dX11_isHeard_23 rfl (lv_at hl 3 rfl) ?_
      obtain ⟨h4, hf⟩ := pt_g hf
      refine ld_M_0_13 (pc := 24) (j := x2.toNatClampNeg) C hP h4 rfl dX11_isHeard_24 ?_
      refine lv_istore (lv' := [(4, .int ((S 16 x2.toNatClampNeg))), (3, .int ((S 15 x2.toNatClampNeg))), (0, .ref (a 0)), (1, .int x1), (2, .int x2)]) (pc := 25) hx hb dX11_isHeard_25 hl (by decide) rfl (fun ls hl => ?_)
      refine lv_iload_n (pc := 27) hx hb dX11_isHeard_27 rfl (lv_at hl 1 rfl) ?_
      obtain ⟨q5, hq5, hf⟩ := pt_b hf
      have hPc : va_P D vwCl ([] : va_W) H := hP.sub [] rfl
      have hDc : va_D A ([] : va_W) := hD.sub [] (by decide) rfl
      refine prt_i (runU_S (pc := 28) (As := [.int ((S 15 x2.toNatClampNeg))]) (rest := []) C lk_RX11_167 (kX11_lettersOf l D cA hq5 H.size) ⟨Nat.le_of_ble_eq_true rfl, Nat.le_of_ble_eq_true rfl⟩ ⟨Nat.le_refl _, Nat.le_refl _⟩ hPc hDc hl.1 rfl (Nat.le_of_ble_eq_true rfl) dX11_isHeard_28) hP hD hS hA [] rfl (fun H locs hP hD hS => ?_)
      refine lv_istore (lv' := [(5, .int q5), (4, .int ((S 16 x2.toNatClampNeg))), (3, .int ((S 15 x2.toNatClampNeg))), (0, .ref (a 0)), (1, .int x1), (2, .int x2)]) (pc := 31) hx hb dX11_isHeard_31 hl (by decide) rfl (fun ls hl => ?_)
      refine lv_iconst (v := (0 : Int32)) (pc := 33) hx hb dX11_isHeard_33 (by decide) ?_
      refine lv_istore (lv' := [(6, .int ((0 : Int32))), (5, .int q5), (4, .int ((S 16 x2.toNatClampNeg))), (3, .int ((S 15 x2.toNatClampNeg))), (0, .ref (a 0)), (1, .int x1), (2, .int x2)]) (pc := 34) hx hb dX11_isHeard_34 hl (by decide) rfl (fun ls hl => ?_)
      exact wX11_isHeard_36 C hA hg4 _ x1 x2 ((S 15 x2.toNatClampNeg)) ((S 16 x2.toNatClampNeg)) q5 ((0 : Int32)) hf _ _ _ hP hD hS (lv_sub hl [4, 5, 6, 3, 2, 1, 0] rfl)
set_option maxRecDepth 100000 in
set_option maxHeartbeats 4000000 in
theorem wX11_isHeard (C : Cx p s m args meth c D cA cX11_isHeard 8 RX11 (some .boolean)) (hA : ∀ q : Nat, s.heap.size ≤ q → A q) {N : Nat} {z : Int32} {S : St} (hf : fX11_isHeard N S = some z) {H : Heap} {locs : List Loc} {ls : Array Slot} (hP : va_P D vwCl (w_M cA a S) H) (hD : va_D A (w_M cA a S)) (hS : va_S A s.heap H locs) (hl : lv_has ls 8 [(0, .ref (a 0))]) : W p l e (rmU 1 22 0 0) s m args below meth c H locs 0 0 (MQ below (QI D A z (w_M cA a S)) args s 0 0 A) (F0 m 0 ls []) := by
  obtain ⟨hx, hb, hml, hown, hts, hK, hN, hr, hlk⟩ := id C
  unfold fX11_isHeard at hf
  refine lv_iconst (v := (1 : Int32)) (pc := 0) hx hb dX11_isHeard_0 (by decide) ?_
  refine lv_istore_n (lv' := [(1, .int ((1 : Int32))), (0, .ref (a 0))]) (pc := 1) hx hb dX11_isHeard_1 rfl hl (by decide) rfl (fun ls hl => ?_)
  refine lv_iconst (v := (0 : Int32)) (pc := 2) hx hb dX11_isHeard_2 (by decide) ?_
  refine lv_istore_n (lv' := [(2, .int ((0 : Int32))), (1, .int ((1 : Int32))), (0, .ref (a 0))]) (pc := 3) hx hb dX11_isHeard_3 rfl hl (by decide) rfl (fun ls hl => ?_)
  exact wX11_isHeard_4 C hA  _ ((1 : Int32)) ((0 : Int32)) hf _ _ _ hP hD hS (lv_sub hl [2, 1, 0] rfl)
set_option maxRecDepth 100000 in
set_option maxHeartbeats 4000000 in
theorem kX11_isHeard (l : Launch) (D : va_G) (cA : Nat → ClassId) (a : Nat → Nat) {N : Nat} {S : St} {z : Int32} (hf : fX11_isHeard N S = some z) : CtI l yX11_isHeard cX11_isHeard 8 (some .boolean) 1 22 D cA (w_M cA a S) (w_M cA a S) [.ref (a 0)] z := by
  intro sz
  refine Met.ofW (cc := cX11_isHeard) (maxL := 8) (ret := (some .boolean)) (by decide) rfl ?_
  intro p e s m args below meth c s₁ B hml hv
  obtain ⟨rfl, hsz, hP, hK, hD0⟩ := hv
  subst hsz
  have C : Cx p s m _ meth c D cA cX11_isHeard 8 RX11 (some .boolean) := Cx.of B hml hK
  have hD := hD0.self (sz := s.heap.size)
  have hA : ∀ q : Nat, s.heap.size ≤ q → va_A (w_M cA a S) s.heap.size q := fun q h => Or.inr h
  have hS : va_S (va_A (w_M cA a S) s.heap.size) s.heap s.heap [] := va_S.rf
  have hl := lv_entry ([.ref (a 0)]) (n := 8) (Nat.le_of_ble_eq_true rfl)
  rw [lg_entry_eq]
  generalize (lg_sl ([.ref (a 0)]) ++ List.replicate (8 - (lg_sl ([.ref (a 0)])).length) Slot.unset).toArray = ls at hl ⊢
  exact wX11_isHeard C hA hf hP hD hS hl
theorem lk_RX11_216 : LkV RX11 216 yX11_isHeard cX11_isHeard 8 (some .boolean) 0 := ⟨⟨by decide +kernel, by decide +kernel, by decide +kernel, by decide +kernel, by decide +kernel, by decide +kernel⟩, by decide +kernel, by decide +kernel⟩
def fX11_works_j52 (N : Nat) (g17 : Int32 × Int32 × St → Option (Int32 × St)) (x2 : Int32) (x3 : Int32) (y0 : Int32) (y1 : Int32) (S : St) : Option (Int32 × St) :=
  if ¬ (x2 < 0 ∨ 20 ≤ x2.toNatClampNeg) then (g17 (((y0 ||| y1), (x2 + 1), (sti S 9 x2.toNatClampNeg x3)))) else none
def fX11_works_b17 (N : Nat) (g17 : Int32 × Int32 × St → Option (Int32 × St)) (x1 : Int32) (x2 : Int32) (S : St) : Option (Int32 × St) :=
  if (10 : Int32) ≤ x2 then (some (x1, S)) else (if ¬ (x2 < 0 ∨ 20 ≤ x2.toNatClampNeg) then (if ¬ (x2 < 0 ∨ 20 ≤ x2.toNatClampNeg) then (Option.bind (fX11_isHeard N (sti S 9 x2.toNatClampNeg ((0 : Int32)))) (fun q4 => if q4 = 0 then (fX11_works_j52 N g17 x2 ((S 9 x2.toNatClampNeg)) x1 ((0 : Int32)) ((sti S 9 x2.toNatClampNeg ((0 : Int32))))) else (fX11_works_j52 N g17 x2 ((S 9 x2.toNatClampNeg)) x1 (((1 : Int32) <<< (x2 &&& 31))) ((sti S 9 x2.toNatClampNeg ((0 : Int32))))))) else none) else none)
def fX11_works_l17 (N : Nat) (k : Nat) (q : Int32 × Int32 × St) : Option (Int32 × St) := lpN (fun g q => fX11_works_b17 N  g q.1 q.2.1 q.2.2) k q
def fX11_works_j14 (N : Nat) (y0 : Int32) (S : St) : Option (Int32 × St) :=
  fX11_works_l17 N  N ((y0, (0 : Int32), S))
def fX11_works (N : Nat) (S : St) : Option (Int32 × St) :=
  Option.bind (fX11_isHeard N S) (fun q1 => if q1 = 0 then (fX11_works_j14 N ((0 : Int32)) S) else (fX11_works_j14 N ((1024 : Int32)) S))
set_option maxRecDepth 100000 in
set_option maxHeartbeats 4000000 in
theorem wX11_works_52 (C : Cx p s m args meth c D cA cX11_works 4 RX11 (some .int)) (hA : ∀ q : Nat, s.heap.size ≤ q → A q) {N : Nat} {z : Int32 × St} {g17 : Int32 × Int32 × St → Option (Int32 × St)} (hg17 : ∀ (x1 : Int32) (x2 : Int32) (S : St), g17 (x1, x2, S) = some z → ∀ (H : Heap) (locs : List Loc) (ls : Array Slot), va_P D vwCl (w_M cA a S) H → va_D A (w_M cA a S) → va_S A s.heap H locs → lv_has ls 4 [(0, .ref (a 0)), (1, .int x1), (2, .int x2)] → W p l e (rmU 2 49 0 0) s m args below meth c H locs 0 0 (MQ below (QI D A z.1 (w_M cA a z.2)) args s 0 0 A) (F0 m 17 ls [])) {x2 : Int32} {x3 : Int32} {y0 : Int32} {y1 : Int32} {S : St} (hf : fX11_works_j52 N g17 x2 x3 y0 y1 S = some z) {H : Heap} {locs : List Loc} {ls : Array Slot} (hP : va_P D vwCl (w_M cA a S) H) (hD : va_D A (w_M cA a S)) (hS : va_S A s.heap H locs) (hl : lv_has ls 4 [(0, .ref (a 0)), (2, .int x2), (3, .int x3)]) : W p l e (rmU 2 49 0 0) s m args below meth c H locs 0 0 (MQ below (QI D A z.1 (w_M cA a z.2)) args s 0 0 A) (F0 m 52 ls [.int y1, .int y0]) := by
  obtain ⟨hx, hb, hml, hown, hts, hK, hN, hr, hlk⟩ := id C
  unfold fX11_works_j52 at hf
  refine lv_ior (pc := 52) hx hb dX11_works_52 ?_
  refine lv_istore_n (lv' := [(1, .int ((y0 ||| y1))), (0, .ref (a 0)), (2, .int x2), (3, .int x3)]) (pc := 53) hx hb dX11_works_53 rfl hl (by decide) rfl (fun ls hl => ?_)
  refine lv_aload_n (pc := 54) hx hb dX11_works_54 rfl (lv_at hl 1 rfl) ?_
  refine ge_RX11_34_M_0_0 (pc := 55) C hP dX11_works_55 ?_
  refine lv_iload_n (pc := 58) hx hb dX11_works_58 rfl (lv_at hl 2 rfl) ?_
  refine lv_iload_n (pc := 59) hx hb dX11_works_59 rfl (lv_at hl 3 rfl) ?_
  obtain ⟨h1, hf⟩ := pt_g hf
  refine sr_M_0_9 (pc := 60) (j := x2.toNatClampNeg) C hP hD hS h1 rfl dX11_works_60 (fun H locs hP hD hS => ?_)
  refine lv_iinc (v := (x2 + 1)) (lv' := [(2, .int ((x2 + 1))), (1, .int ((y0 ||| y1))), (0, .ref (a 0)), (3, .int x3)]) (pc := 61) hx hb dX11_works_61 hl (k := 2) rfl (by rfl) (by decide) rfl (fun ls hl => ?_)
  refine lv_goto (tgt := 17) (pc := 64) hx hb dX11_works_64 (by decide) ?_
  exact hg17 ((y0 ||| y1)) ((x2 + 1)) ((sti S 9 x2.toNatClampNeg x3)) hf _ _ _ hP hD hS (lv_sub hl [2, 1, 0] rfl)
set_option maxRecDepth 100000 in
set_option maxHeartbeats 4000000 in
theorem wX11_works_17 (C : Cx p s m args meth c D cA cX11_works 4 RX11 (some .int)) (hA : ∀ q : Nat, s.heap.size ≤ q → A q) {N : Nat} {z : Int32 × St} : ∀ (k : Nat) (x1 : Int32) (x2 : Int32) (S : St), fX11_works_l17 N  k (x1, x2, S) = some z → ∀ (H : Heap) (locs : List Loc) (ls : Array Slot), va_P D vwCl (w_M cA a S) H → va_D A (w_M cA a S) → va_S A s.heap H locs → lv_has ls 4 [(0, .ref (a 0)), (1, .int x1), (2, .int x2)] → W p l e (rmU 2 49 0 0) s m args below meth c H locs 0 0 (MQ below (QI D A z.1 (w_M cA a z.2)) args s 0 0 A) (F0 m 17 ls []) := by
  obtain ⟨hx, hb, hml, hown, hts, hK, hN, hr, hlk⟩ := id C
  intro k
  induction k with
  | zero =>
    intro x1 x2 S hf
    have hf : (none : Option (Int32 × St)) = some z := hf
    cases hf
  | succ k hg17 =>
    intro x1 x2 S hf H locs ls hP hD hS hl
    have hf : fX11_works_b17 N  (fX11_works_l17 N  k) x1 x2 S = some z := hf
    unfold fX11_works_b17 at hf
    refine lv_iload_n (pc := 17) hx hb dX11_works_17 rfl (lv_at hl 2 rfl) ?_
    refine lv_bipush (v := (10 : Int32)) (pc := 18) hx hb dX11_works_18 (by decide) ?_
    refine lv_icmp_ge (tgt := 67) (pc := 20) hx hb dX11_works_20 (by decide) (fun c1 => ?_) (fun c1 => ?_)
    · have hf := pt_t c1 hf
      refine lv_iload_n (pc := 67) hx hb dX11_works_67 rfl (lv_at hl 1 rfl) ?_
      cases hf
      exact ret_i C hP hD hS dX11_works_68
    · have hf := pt_f c1 hf
      refine lv_aload_n (pc := 23) hx hb dX11_works_23 rfl (lv_at hl 0 rfl) ?_
      refine ge_RX11_34_M_0_0 (pc := 24) C hP dX11_works_24 ?_
      refine lv_iload_n (pc := 27) hx hb dX11_works_27 rfl (lv_at hl 2 rfl) ?_
      obtain ⟨h2, hf⟩ := pt_g hf
      refine ld_M_0_9 (pc := 28) (j := x2.toNatClampNeg) C hP h2 rfl dX11_works_28 ?_
      refine lv_istore_n (lv' := [(3, .int ((S 9 x2.toNatClampNeg))), (0, .ref (a 0)), (1, .int x1), (2, .int x2)]) (pc := 29) hx hb dX11_works_29 rfl hl (by decide) rfl (fun ls hl => ?_)
      refine lv_aload_n (pc := 30) hx hb dX11_works_30 rfl (lv_at hl 1 rfl) ?_
      refine ge_RX11_34_M_0_0 (pc := 31) C hP dX11_works_31 ?_
      refine lv_iload_n (pc := 34) hx hb dX11_works_34 rfl (lv_at hl 3 rfl) ?_
      refine lv_iconst (v := (0 : Int32)) (pc := 35) hx hb dX11_works_35 (by decide) ?_
      obtain ⟨h3, hf⟩ := pt_g hf
      refine sr_M_0_9 (pc := 36) (j := x2.toNatClampNeg) C hP hD hS h3 rfl dX11_works_36 (fun H locs hP hD hS => ?_)
      refine lv_iload_n (pc := 37) hx hb dX11_works_37 rfl (lv_at hl 2 rfl) ?_
      refine lv_aload_n (pc := 38) hx hb dX11_works_38 rfl (lv_at hl 1 rfl) ?_
      obtain ⟨q4, hq4, hf⟩ := pt_b hf
      refine all_i (runU_V (pc := 39) (As := []) (b := a 0) (rest := [.int x1]) (ci := 10) (q0 := 0) C lk_RX11_216 (kX11_isHeard l D cA a hq4 H.size) ⟨Nat.le_of_ble_eq_true rfl, Nat.le_of_ble_eq_true rfl⟩ ⟨Nat.le_refl _, Nat.le_refl _⟩ hP hD rfl rfl rfl hl.1 rfl (Nat.le_of_ble_eq_true rfl) dX11_works_39) hD hS hA (fun H locs hP hD hS => ?_)
      refine lv_if_eq (tgt := 51) (pc := 42) hx hb dX11_works_42 (by decide) (fun c5 => ?_) (fun c5 => ?_)
      · have hf := pt_t c5 hf
        refine lv_iconst (v := (0 : Int32)) (pc := 51) hx hb dX11_works_51 (by decide) ?_
        exact wX11_works_52 C hA hg17 hf hP hD hS (lv_sub hl [1, 3, 0] rfl)
      · have hf := pt_f c5 hf
        refine lv_iconst (v := (1 : Int32)) (pc := 45) hx hb dX11_works_45 (by decide) ?_
        refine lv_iload_n (pc := 46) hx hb dX11_works_46 rfl (lv_at hl 3 rfl) ?_
        refine lv_ishl (pc := 47) hx hb dX11_works_47 ?_
        refine lv_goto (tgt := 52) (pc := 48) hx hb dX11_works_48 (by decide) ?_
        exact wX11_works_52 C hA hg17 hf hP hD hS (lv_sub hl [1, 3, 0] rfl)
set_option maxRecDepth 100000 in
set_option maxHeartbeats 4000000 in
theorem wX11_works_14 (C : Cx p s m args meth c D cA cX11_works 4 RX11 (some .int)) (hA : ∀ q : Nat, s.heap.size ≤ q → A q) {N : Nat} {z : Int32 × St} {y0 : Int32} {S : St} (hf : fX11_works_j14 N y0 S = some z) {H : Heap} {locs : List Loc} {ls : Array Slot} (hP : va_P D vwCl (w_M cA a S) H) (hD : va_D A (w_M cA a S)) (hS : va_S A s.heap H locs) (hl : lv_has ls 4 [(0, .ref (a 0))]) : W p l e (rmU 2 49 0 0) s m args below meth c H locs 0 0 (MQ below (QI D A z.1 (w_M cA a z.2)) args s 0 0 A) (F0 m 14 ls [.int y0]) := by
  obtain ⟨hx, hb, hml, hown, hts, hK, hN, hr, hlk⟩ := id C
  unfold fX11_works_j14 at hf
  refine lv_istore_n (lv' := [(1, .int y0), (0, .ref (a 0))]) (pc := 14) hx hb dX11_works_14 rfl hl (by decide) rfl (fun ls hl => ?_)
  refine lv_iconst (v := (0 : Int32)) (pc := 15) hx hb dX11_works_15 (by decide) ?_
  refine lv_istore_n (lv' := [(2, .int ((0 : Int32))), (1, .int y0), (0, .ref (a 0))]) (pc := 16) hx hb dX11_works_16 rfl hl (by decide) rfl (fun ls hl => ?_)
  exact wX11_works_17 C hA  _ y0 ((0 : Int32)) S hf _ _ _ hP hD hS (lv_sub hl [2, 1, 0] rfl)
set_option maxRecDepth 100000 in
set_option maxHeartbeats 4000000 in
theorem wX11_works (C : Cx p s m args meth c D cA cX11_works 4 RX11 (some .int)) (hA : ∀ q : Nat, s.heap.size ≤ q → A q) {N : Nat} {z : Int32 × St} {S : St} (hf : fX11_works N S = some z) {H : Heap} {locs : List Loc} {ls : Array Slot} (hP : va_P D vwCl (w_M cA a S) H) (hD : va_D A (w_M cA a S)) (hS : va_S A s.heap H locs) (hl : lv_has ls 4 [(0, .ref (a 0))]) : W p l e (rmU 2 49 0 0) s m args below meth c H locs 0 0 (MQ below (QI D A z.1 (w_M cA a z.2)) args s 0 0 A) (F0 m 0 ls []) := by
  obtain ⟨hx, hb, hml, hown, hts, hK, hN, hr, hlk⟩ := id C
  unfold fX11_works at hf
  refine lv_aload_n (pc := 0) hx hb dX11_works_0 rfl (lv_at hl 0 rfl) ?_
  obtain ⟨q1, hq1, hf⟩ := pt_b hf
  refine all_i (runU_V (pc := 1) (As := []) (b := a 0) (rest := []) (ci := 10) (q0 := 0) C lk_RX11_216 (kX11_isHeard l D cA a hq1 H.size) ⟨Nat.le_of_ble_eq_true rfl, Nat.le_of_ble_eq_true rfl⟩ ⟨Nat.le_refl _, Nat.le_refl _⟩ hP hD rfl rfl rfl hl.1 rfl (Nat.le_of_ble_eq_true rfl) dX11_works_1) hD hS hA (fun H locs hP hD hS => ?_)
  refine lv_if_eq (tgt := 13) (pc := 4) hx hb dX11_works_4 (by decide) (fun c2 => ?_) (fun c2 => ?_)
  · have hf := pt_t c2 hf
    refine lv_iconst (v := (0 : Int32)) (pc := 13) hx hb dX11_works_13 (by decide) ?_
    exact wX11_works_14 C hA  hf hP hD hS (lv_sub hl [0] rfl)
  · have hf := pt_f c2 hf
    refine lv_sipush (v := (1024 : Int32)) (pc := 7) hx hb dX11_works_7 (by decide) ?_
    refine lv_goto (tgt := 14) (pc := 10) hx hb dX11_works_10 (by decide) ?_
    exact wX11_works_14 C hA  hf hP hD hS (lv_sub hl [0] rfl)
set_option maxRecDepth 100000 in
set_option maxHeartbeats 4000000 in
theorem kX11_works (l : Launch) (D : va_G) (cA : Nat → ClassId) (a : Nat → Nat) {N : Nat} {S : St} {z : Int32 × St} (hf : fX11_works N S = some z) : CtI l yX11_works cX11_works 4 (some .int) 2 49 D cA (w_M cA a S) (w_M cA a z.2) [.ref (a 0)] z.1 := by
  intro sz
  refine Met.ofW (cc := cX11_works) (maxL := 4) (ret := (some .int)) (by decide) rfl ?_
  intro p e s m args below meth c s₁ B hml hv
  obtain ⟨rfl, hsz, hP, hK, hD0⟩ := hv
  subst hsz
  have C : Cx p s m _ meth c D cA cX11_works 4 RX11 (some .int) := Cx.of B hml hK
  have hD := hD0.self (sz := s.heap.size)
  have hA : ∀ q : Nat, s.heap.size ≤ q → va_A (w_M cA a S) s.heap.size q := fun q h => Or.inr h
  have hS : va_S (va_A (w_M cA a S) s.heap.size) s.heap s.heap [] := va_S.rf
  have hl := lv_entry ([.ref (a 0)]) (n := 4) (Nat.le_of_ble_eq_true rfl)
  rw [lg_entry_eq]
  generalize (lg_sl ([.ref (a 0)]) ++ List.replicate (4 - (lg_sl ([.ref (a 0)])).length) Slot.unset).toArray = ls at hl ⊢
  exact wX11_works C hA hf hP hD hS hl
def fX11_sayableBy (N : Nat) (S : St) (p1 : Int32) (p2 : Int32) (p3 : Int32) : Option (Int32 × St) :=
  if ¬ (p1 < 0 ∨ 20 ≤ p1.toNatClampNeg) then (if ¬ (p1 < 0 ∨ 20 ≤ p1.toNatClampNeg) then (Option.bind (fX11_sayable N (sti S 9 p1.toNatClampNeg p2) p3) (fun q3 => if ¬ (p1 < 0 ∨ 20 ≤ p1.toNatClampNeg) then (some (q3, (sti (sti S 9 p1.toNatClampNeg p2) 9 p1.toNatClampNeg ((S 9 p1.toNatClampNeg))))) else none)) else none) else none
set_option maxRecDepth 100000 in
set_option maxHeartbeats 4000000 in
theorem wX11_sayableBy (C : Cx p s m args meth c D cA cX11_sayableBy 6 RX11 (some .int)) (hA : ∀ q : Nat, s.heap.size ≤ q → A q) {N : Nat} {z : Int32 × St} {S : St} {p1 : Int32} {p2 : Int32} {p3 : Int32} (hf : fX11_sayableBy N S p1 p2 p3 = some z) {H : Heap} {locs : List Loc} {ls : Array Slot} (hP : va_P D vwCl (w_M cA a S) H) (hD : va_D A (w_M cA a S)) (hS : va_S A s.heap H locs) (hl : lv_has ls 6 [(0, .ref (a 0)), (1, .int p1), (2, .int p2), (3, .int p3)]) : W p l e (rmU 2 46 0 0) s m args below meth c H locs 0 0 (MQ below (QI D A z.1 (w_M cA a z.2)) args s 0 0 A) (F0 m 0 ls []) := by
  obtain ⟨hx, hb, hml, hown, hts, hK, hN, hr, hlk⟩ := id C
  unfold fX11_sayableBy at hf
  refine lv_aload_n (pc := 0) hx hb dX11_sayableBy_0 rfl (lv_at hl 0 rfl) ?_
  refine ge_RX11_34_M_0_0 (pc := 1) C hP dX11_sayableBy_1 ?_
  refine lv_iload_n (pc := 4) hx hb dX11_sayableBy_4 rfl (lv_at hl 1 rfl) ?_
  obtain ⟨h1, hf⟩ := pt_g hf
  refine ld_M_0_9 (pc := 5) (j := p1.toNatClampNeg) C hP h1 rfl dX11_sayableBy_5 ?_
  refine lv_istore (lv' := [(4, .int ((S 9 p1.toNatClampNeg))), (0, .ref (a 0)), (1, .int p1), (2, .int p2), (3, .int p3)]) (pc := 6) hx hb dX11_sayableBy_6 hl (by decide) rfl (fun ls hl => ?_)
  refine lv_aload_n (pc := 8) hx hb dX11_sayableBy_8 rfl (lv_at hl 1 rfl) ?_
  refine ge_RX11_34_M_0_0 (pc := 9) C hP dX11_sayableBy_9 ?_
  refine lv_iload_n (pc := 12) hx hb dX11_sayableBy_12 rfl (lv_at hl 2 rfl) ?_
  refine lv_iload_n (pc := 13) hx hb dX11_sayableBy_13 rfl (lv_at hl 3 rfl) ?_
  obtain ⟨h2, hf⟩ := pt_g hf
  refine sr_M_0_9 (pc := 14) (j := p1.toNatClampNeg) C hP hD hS h2 rfl dX11_sayableBy_14 (fun H locs hP hD hS => ?_)
  refine lv_aload_n (pc := 15) hx hb dX11_sayableBy_15 rfl (lv_at hl 1 rfl) ?_
  refine lv_iload_n (pc := 16) hx hb dX11_sayableBy_16 rfl (lv_at hl 4 rfl) ?_
  obtain ⟨q3, hq3, hf⟩ := pt_b hf
  refine all_i (runU_V (pc := 17) (As := [.int p3]) (b := a 0) (rest := []) (ci := 10) (q0 := 0) C lk_RX11_140 (kX11_sayable l D cA a hq3 H.size) ⟨Nat.le_of_ble_eq_true rfl, Nat.le_of_ble_eq_true rfl⟩ ⟨Nat.le_refl _, Nat.le_refl _⟩ hP hD rfl rfl rfl hl.1 rfl (Nat.le_of_ble_eq_true rfl) dX11_sayableBy_17) hD hS hA (fun H locs hP hD hS => ?_)
  refine lv_istore (lv' := [(5, .int q3), (4, .int ((S 9 p1.toNatClampNeg))), (0, .ref (a 0)), (1, .int p1), (2, .int p2), (3, .int p3)]) (pc := 20) hx hb dX11_sayableBy_20 hl (by decide) rfl (fun ls hl => ?_)
  refine lv_aload_n (pc := 22) hx hb dX11_sayableBy_22 rfl (lv_at hl 2 rfl) ?_
  refine ge_RX11_34_M_0_0 (pc := 23) C hP dX11_sayableBy_23 ?_
  refine lv_iload_n (pc := 26) hx hb dX11_sayableBy_26 rfl (lv_at hl 3 rfl) ?_
  refine lv_iload (pc := 27) hx hb dX11_sayableBy_27 (lv_at hl 1 rfl) ?_
  obtain ⟨h4, hf⟩ := pt_g hf
  refine sr_M_0_9 (pc := 29) (j := p1.toNatClampNeg) C hP hD hS h4 rfl dX11_sayableBy_29 (fun H locs hP hD hS => ?_)
  refine lv_iload (pc := 30) hx hb dX11_sayableBy_30 (lv_at hl 0 rfl) ?_
  cases hf
  exact ret_i C hP hD hS dX11_sayableBy_32
set_option maxRecDepth 100000 in
set_option maxHeartbeats 4000000 in
theorem kX11_sayableBy (l : Launch) (D : va_G) (cA : Nat → ClassId) (a : Nat → Nat) {N : Nat} {S : St} {p1 : Int32} {p2 : Int32} {p3 : Int32} {z : Int32 × St} (hf : fX11_sayableBy N S p1 p2 p3 = some z) : CtI l yX11_sayableBy cX11_sayableBy 6 (some .int) 2 46 D cA (w_M cA a S) (w_M cA a z.2) [.ref (a 0), .int p1, .int p2, .int p3] z.1 := by
  intro sz
  refine Met.ofW (cc := cX11_sayableBy) (maxL := 6) (ret := (some .int)) (by decide) rfl ?_
  intro p e s m args below meth c s₁ B hml hv
  obtain ⟨rfl, hsz, hP, hK, hD0⟩ := hv
  subst hsz
  have C : Cx p s m _ meth c D cA cX11_sayableBy 6 RX11 (some .int) := Cx.of B hml hK
  have hD := hD0.self (sz := s.heap.size)
  have hA : ∀ q : Nat, s.heap.size ≤ q → va_A (w_M cA a S) s.heap.size q := fun q h => Or.inr h
  have hS : va_S (va_A (w_M cA a S) s.heap.size) s.heap s.heap [] := va_S.rf
  have hl := lv_entry ([.ref (a 0), .int p1, .int p2, .int p3]) (n := 6) (Nat.le_of_ble_eq_true rfl)
  rw [lg_entry_eq]
  generalize (lg_sl ([.ref (a 0), .int p1, .int p2, .int p3]) ++ List.replicate (6 - (lg_sl ([.ref (a 0), .int p1, .int p2, .int p3])).length) Slot.unset).toArray = ls at hl ⊢
  exact wX11_sayableBy C hA hf hP hD hS hl
theorem lk_RX11_219 : LkV RX11 219 yX11_sayableBy cX11_sayableBy 6 (some .int) 3 := ⟨⟨by decide +kernel, by decide +kernel, by decide +kernel, by decide +kernel, by decide +kernel, by decide +kernel⟩, by decide +kernel, by decide +kernel⟩
def fX11_costs (N : Nat) (S : St) (p1 : Int32) (p2 : Int32) : Option (Int32 × St) :=
  Option.bind (fX11_isFigure N p1) (fun q1 => if q1 = 0 then (some ((-1 : Int32), S)) else (Option.bind (fX11_in N p2.toInt64 ((0 : Int64)) ((9999 : Int64))) (fun q3 => if q3 = 0 then (some ((-1 : Int32), S)) else (Option.bind (fX11_sayableBy N S p1 ((0 : Int32)) p2) (fun q5 => Option.bind (fX11_sayable N q5.2 p2) (fun q6 => some ((q5.1 - q6), q5.2)))))))
set_option maxRecDepth 100000 in
set_option maxHeartbeats 4000000 in
theorem wX11_costs (C : Cx p s m args meth c D cA cX11_costs 3 RX11 (some .int)) (hA : ∀ q : Nat, s.heap.size ≤ q → A q) {N : Nat} {z : Int32 × St} {S : St} {p1 : Int32} {p2 : Int32} (hf : fX11_costs N S p1 p2 = some z) {H : Heap} {locs : List Loc} {ls : Array Slot} (hP : va_P D vwCl (w_M cA a S) H) (hD : va_D A (w_M cA a S)) (hS : va_S A s.heap H locs) (hl : lv_has ls 3 [(0, .ref (a 0)), (1, .int p1), (2, .int p2)]) : W p l e (rmU 3 71 0 0) s m args below meth c H locs 0 0 (MQ below (QI D A z.1 (w_M cA a z.2)) args s 0 0 A) (F0 m 0 ls []) := by
  obtain ⟨hx, hb, hml, hown, hts, hK, hN, hr, hlk⟩ := id C
  unfold fX11_costs at hf
  refine lv_iload_n (pc := 0) hx hb dX11_costs_0 rfl (lv_at hl 1 rfl) ?_
  obtain ⟨q1, hq1, hf⟩ := pt_b hf
  have hPc : va_P D vwCl ([] : va_W) H := hP.sub [] rfl
  have hDc : va_D A ([] : va_W) := hD.sub [] (by decide) rfl
  refine prt_i (runU_S (pc := 1) (As := [.int p1]) (rest := []) C lk_RX11_128 (kX11_isFigure l D cA hq1 H.size) ⟨Nat.le_of_ble_eq_true rfl, Nat.le_of_ble_eq_true rfl⟩ ⟨Nat.le_refl _, Nat.le_refl _⟩ hPc hDc hl.1 rfl (Nat.le_of_ble_eq_true rfl) dX11_costs_1) hP hD hS hA [] rfl (fun H locs hP hD hS => ?_)
  refine lv_if_eq (tgt := 35) (pc := 4) hx hb dX11_costs_4 (by decide) (fun c2 => ?_) (fun c2 => ?_)
  · have hf := pt_t c2 hf
    refine lv_iconst (v := (-1 : Int32)) (pc := 35) hx hb dX11_costs_35 (by decide) ?_
    cases hf
    exact ret_i C hP hD hS dX11_costs_36
  · have hf := pt_f c2 hf
    refine lv_iload_n (pc := 7) hx hb dX11_costs_7 rfl (lv_at hl 2 rfl) ?_
    refine lv_i2l (v := p2.toInt64) (pc := 8) hx hb dX11_costs_8 rfl ?_
    refine lv_lconst (v := (0 : Int64)) (pc := 9) hx hb dX11_costs_9 (by decide) ?_
    refine lv_ldc2 (pc := 10) (v := (9999 : Int64)) hx hb hown (hts _ kl_RX11_202) dX11_costs_10 ?_
    obtain ⟨q3, hq3, hf⟩ := pt_b hf
    have hPc : va_P D vwCl ([] : va_W) H := hP.sub [] rfl
    have hDc : va_D A ([] : va_W) := hD.sub [] (by decide) rfl
    refine prt_i (runU_S (pc := 13) (As := [.long p2.toInt64, .long ((0 : Int64)), .long ((9999 : Int64))]) (rest := []) C lk_RX11_72 (kX11_in l D cA hq3 H.size) ⟨Nat.le_of_ble_eq_true rfl, Nat.le_of_ble_eq_true rfl⟩ ⟨Nat.le_refl _, Nat.le_refl _⟩ hPc hDc hl.1 rfl (Nat.le_of_ble_eq_true rfl) dX11_costs_13) hP hD hS hA [] rfl (fun H locs hP hD hS => ?_)
    refine lv_if_eq (tgt := 35) (pc := 16) hx hb dX11_costs_16 (by decide) (fun c4 => ?_) (fun c4 => ?_)
    · have hf := pt_t c4 hf
      refine lv_iconst (v := (-1 : Int32)) (pc := 35) hx hb dX11_costs_35 (by decide) ?_
      cases hf
      exact ret_i C hP hD hS dX11_costs_36
    · have hf := pt_f c4 hf
      refine lv_aload_n (pc := 19) hx hb dX11_costs_19 rfl (lv_at hl 0 rfl) ?_
      refine lv_iload_n (pc := 20) hx hb dX11_costs_20 rfl (lv_at hl 1 rfl) ?_
      refine lv_iconst (v := (0 : Int32)) (pc := 21) hx hb dX11_costs_21 (by decide) ?_
      refine lv_iload_n (pc := 22) hx hb dX11_costs_22 rfl (lv_at hl 2 rfl) ?_
      obtain ⟨q5, hq5, hf⟩ := pt_b hf
      refine all_i (runU_V (pc := 23) (As := [.int p1, .int ((0 : Int32)), .int p2]) (b := a 0) (rest := []) (ci := 10) (q0 := 0) C lk_RX11_219 (kX11_sayableBy l D cA a hq5 H.size) ⟨Nat.le_of_ble_eq_true rfl, Nat.le_of_ble_eq_true rfl⟩ ⟨Nat.le_refl _, Nat.le_refl _⟩ hP hD rfl rfl rfl hl.1 rfl (Nat.le_of_ble_eq_true rfl) dX11_costs_23) hD hS hA (fun H locs hP hD hS => ?_)
      refine lv_aload_n (pc := 26) hx hb dX11_costs_26 rfl (lv_at hl 0 rfl) ?_
      refine lv_iload_n (pc := 27) hx hb dX11_costs_27 rfl (lv_at hl 2 rfl) ?_
      obtain ⟨q6, hq6, hf⟩ := pt_b hf
      refine all_i (runU_V (pc := 28) (As := [.int p2]) (b := a 0) (rest := [.int q5.1]) (ci := 10) (q0 := 0) C lk_RX11_140 (kX11_sayable l D cA a hq6 H.size) ⟨Nat.le_of_ble_eq_true rfl, Nat.le_of_ble_eq_true rfl⟩ ⟨Nat.le_refl _, Nat.le_refl _⟩ hP hD rfl rfl rfl hl.1 rfl (Nat.le_of_ble_eq_true rfl) dX11_costs_28) hD hS hA (fun H locs hP hD hS => ?_)
      refine lv_isub (pc := 31) hx hb dX11_costs_31 ?_
      refine lv_goto (tgt := 36) (pc := 32) hx hb dX11_costs_32 (by decide) ?_
      cases hf
      exact ret_i C hP hD hS dX11_costs_36
set_option maxRecDepth 100000 in
set_option maxHeartbeats 4000000 in
theorem kX11_costs (l : Launch) (D : va_G) (cA : Nat → ClassId) (a : Nat → Nat) {N : Nat} {S : St} {p1 : Int32} {p2 : Int32} {z : Int32 × St} (hf : fX11_costs N S p1 p2 = some z) : CtI l yX11_costs cX11_costs 3 (some .int) 3 71 D cA (w_M cA a S) (w_M cA a z.2) [.ref (a 0), .int p1, .int p2] z.1 := by
  intro sz
  refine Met.ofW (cc := cX11_costs) (maxL := 3) (ret := (some .int)) (by decide) rfl ?_
  intro p e s m args below meth c s₁ B hml hv
  obtain ⟨rfl, hsz, hP, hK, hD0⟩ := hv
  subst hsz
  have C : Cx p s m _ meth c D cA cX11_costs 3 RX11 (some .int) := Cx.of B hml hK
  have hD := hD0.self (sz := s.heap.size)
  have hA : ∀ q : Nat, s.heap.size ≤ q → va_A (w_M cA a S) s.heap.size q := fun q h => Or.inr h
  have hS : va_S (va_A (w_M cA a S) s.heap.size) s.heap s.heap [] := va_S.rf
  have hl := lv_entry ([.ref (a 0), .int p1, .int p2]) (n := 3) (Nat.le_of_ble_eq_true rfl)
  rw [lg_entry_eq]
  generalize (lg_sl ([.ref (a 0), .int p1, .int p2]) ++ List.replicate (3 - (lg_sl ([.ref (a 0), .int p1, .int p2])).length) Slot.unset).toArray = ls at hl ⊢
  exact wX11_costs C hA hf hP hD hS hl
theorem lk_RX11_223 : LkV RX11 223 yX11_costs cX11_costs 3 (some .int) 2 := ⟨⟨by decide +kernel, by decide +kernel, by decide +kernel, by decide +kernel, by decide +kernel, by decide +kernel⟩, by decide +kernel, by decide +kernel⟩
def fX11_dearest_j89 (N : Nat) (p1 : Int32) (p2 : Int32) (x3 : Int32) (x4 : Int32) (S : St) : Option (Int32 × St) :=
  if p2 = 0 then (some (x3, S)) else (some (x4, S))
def fX11_dearest_j81 (N : Nat) (p1 : Int32) (p2 : Int32) (g37 : Int32 × Int32 × Int32 × St → Option (Int32 × St)) (x3 : Int32) (x5 : Int32) (y0 : Int32) (S : St) : Option (Int32 × St) :=
  g37 ((x3, y0, (x5 + 1), S))
def fX11_dearest_j66 (N : Nat) (p1 : Int32) (p2 : Int32) (g37 : Int32 × Int32 × Int32 × St → Option (Int32 × St)) (x4 : Int32) (x5 : Int32) (x6 : Int32) (y0 : Int32) (S : St) : Option (Int32 × St) :=
  if x6 ≤ x4 then (fX11_dearest_j81 N p1 p2 g37 y0 x5 x4 S) else (fX11_dearest_j81 N p1 p2 g37 y0 x5 x6 S)
def fX11_dearest_b37 (N : Nat) (p1 : Int32) (p2 : Int32) (g37 : Int32 × Int32 × Int32 × St → Option (Int32 × St)) (x3 : Int32) (x4 : Int32) (x5 : Int32) (S : St) : Option (Int32 × St) :=
  if (10 : Int32) ≤ x5 then (fX11_dearest_j89 N p1 p2 x3 x4 S) else (Option.bind (fX11_costs N S x5 p1) (fun q2 => if q2.1 ≤ x4 then (fX11_dearest_j66 N p1 p2 g37 x4 x5 q2.1 x3 q2.2) else (fX11_dearest_j66 N p1 p2 g37 x4 x5 q2.1 x5 q2.2)))
def fX11_dearest_l37 (N : Nat) (p1 : Int32) (p2 : Int32) (k : Nat) (q : Int32 × Int32 × Int32 × St) : Option (Int32 × St) := lpN (fun g q => fX11_dearest_b37 N p1 p2 g q.1 q.2.1 q.2.2.1 q.2.2.2) k q
def fX11_dearest (N : Nat) (S : St) (p1 : Int32) (p2 : Int32) : Option (Int32 × St) :=
  Option.bind (fX11_in N p1.toInt64 ((0 : Int64)) ((9999 : Int64))) (fun q1 => if q1 = 0 then (some ((-1 : Int32), S)) else (Option.bind (fX11_in N p2.toInt64 ((0 : Int64)) ((1 : Int64))) (fun q3 => if q3 = 0 then (some ((-1 : Int32), S)) else (Option.bind (fX11_costs N S ((0 : Int32)) p1) (fun q5 => fX11_dearest_l37 N p1 p2 N (((0 : Int32), q5.1, (1 : Int32), q5.2)))))))
set_option maxRecDepth 100000 in
set_option maxHeartbeats 4000000 in
theorem wX11_dearest_89 (C : Cx p s m args meth c D cA cX11_dearest 7 RX11 (some .int)) (hA : ∀ q : Nat, s.heap.size ≤ q → A q) {N : Nat} {z : Int32 × St} {p1 : Int32} {p2 : Int32} {x3 : Int32} {x4 : Int32} {S : St} (hf : fX11_dearest_j89 N p1 p2 x3 x4 S = some z) {H : Heap} {locs : List Loc} {ls : Array Slot} (hP : va_P D vwCl (w_M cA a S) H) (hD : va_D A (w_M cA a S)) (hS : va_S A s.heap H locs) (hl : lv_has ls 7 [(2, .int p2), (3, .int x3), (4, .int x4)]) : W p l e (rmU 4 93 0 0) s m args below meth c H locs 0 0 (MQ below (QI D A z.1 (w_M cA a z.2)) args s 0 0 A) (F0 m 89 ls []) := by
  obtain ⟨hx, hb, hml, hown, hts, hK, hN, hr, hlk⟩ := id C
  unfold fX11_dearest_j89 at hf
  refine lv_iload_n (pc := 89) hx hb dX11_dearest_89 rfl (lv_at hl 0 rfl) ?_
  refine lv_if_ne (tgt := 97) (pc := 90) hx hb dX11_dearest_90 (by decide) (fun c1 => ?_) (fun c1 => ?_)
  · have hf := pt_f c1 hf
    refine lv_iload (pc := 97) hx hb dX11_dearest_97 (lv_at hl 2 rfl) ?_
    cases hf
    exact ret_i C hP hD hS dX11_dearest_99
  · have hf := pt_t c1 hf
    refine lv_iload_n (pc := 93) hx hb dX11_dearest_93 rfl (lv_at hl 1 rfl) ?_
    refine lv_goto (tgt := 99) (pc := 94) hx hb dX11_dearest_94 (by decide) ?_
    cases hf
    exact ret_i C hP hD hS dX11_dearest_99
set_option maxRecDepth 100000 in
set_option maxHeartbeats 4000000 in
theorem wX11_dearest_81 (C : Cx p s m args meth c D cA cX11_dearest 7 RX11 (some .int)) (hA : ∀ q : Nat, s.heap.size ≤ q → A q) {N : Nat} {z : Int32 × St} {p1 : Int32} {p2 : Int32} {g37 : Int32 × Int32 × Int32 × St → Option (Int32 × St)} (hg37 : ∀ (x3 : Int32) (x4 : Int32) (x5 : Int32) (S : St), g37 (x3, x4, x5, S) = some z → ∀ (H : Heap) (locs : List Loc) (ls : Array Slot), va_P D vwCl (w_M cA a S) H → va_D A (w_M cA a S) → va_S A s.heap H locs → lv_has ls 7 [(0, .ref (a 0)), (1, .int p1), (2, .int p2), (3, .int x3), (4, .int x4), (5, .int x5)] → W p l e (rmU 4 93 0 0) s m args below meth c H locs 0 0 (MQ below (QI D A z.1 (w_M cA a z.2)) args s 0 0 A) (F0 m 37 ls [])) {x3 : Int32} {x5 : Int32} {y0 : Int32} {S : St} (hf : fX11_dearest_j81 N p1 p2 g37 x3 x5 y0 S = some z) {H : Heap} {locs : List Loc} {ls : Array Slot} (hP : va_P D vwCl (w_M cA a S) H) (hD : va_D A (w_M cA a S)) (hS : va_S A s.heap H locs) (hl : lv_has ls 7 [(0, .ref (a 0)), (1, .int p1), (2, .int p2), (3, .int x3), (5, .int x5)]) : W p l e (rmU 4 93 0 0) s m args below meth c H locs 0 0 (MQ below (QI D A z.1 (w_M cA a z.2)) args s 0 0 A) (F0 m 81 ls [.int y0]) := by
  obtain ⟨hx, hb, hml, hown, hts, hK, hN, hr, hlk⟩ := id C
  unfold fX11_dearest_j81 at hf
  refine lv_istore (lv' := [(4, .int y0), (0, .ref (a 0)), (1, .int p1), (2, .int p2), (3, .int x3), (5, .int x5)]) (pc := 81) hx hb dX11_dearest_81 hl (by decide) rfl (fun ls hl => ?_)
  refine lv_iinc (v := (x5 + 1)) (lv' := [(5, .int ((x5 + 1))), (4, .int y0), (0, .ref (a 0)), (1, .int p1), (2, .int p2), (3, .int x3)]) (pc := 83) hx hb dX11_dearest_83 hl (k := 5) rfl (by rfl) (by decide) rfl (fun ls hl => ?_)
  refine lv_goto (tgt := 37) (pc := 86) hx hb dX11_dearest_86 (by decide) ?_
  exact hg37 x3 y0 ((x5 + 1)) S hf _ _ _ hP hD hS (lv_sub hl [2, 3, 4, 5, 1, 0] rfl)
set_option maxRecDepth 100000 in
set_option maxHeartbeats 4000000 in
theorem wX11_dearest_66 (C : Cx p s m args meth c D cA cX11_dearest 7 RX11 (some .int)) (hA : ∀ q : Nat, s.heap.size ≤ q → A q) {N : Nat} {z : Int32 × St} {p1 : Int32} {p2 : Int32} {g37 : Int32 × Int32 × Int32 × St → Option (Int32 × St)} (hg37 : ∀ (x3 : Int32) (x4 : Int32) (x5 : Int32) (S : St), g37 (x3, x4, x5, S) = some z → ∀ (H : Heap) (locs : List Loc) (ls : Array Slot), va_P D vwCl (w_M cA a S) H → va_D A (w_M cA a S) → va_S A s.heap H locs → lv_has ls 7 [(0, .ref (a 0)), (1, .int p1), (2, .int p2), (3, .int x3), (4, .int x4), (5, .int x5)] → W p l e (rmU 4 93 0 0) s m args below meth c H locs 0 0 (MQ below (QI D A z.1 (w_M cA a z.2)) args s 0 0 A) (F0 m 37 ls [])) {x4 : Int32} {x5 : Int32} {x6 : Int32} {y0 : Int32} {S : St} (hf : fX11_dearest_j66 N p1 p2 g37 x4 x5 x6 y0 S = some z) {H : Heap} {locs : List Loc} {ls : Array Slot} (hP : va_P D vwCl (w_M cA a S) H) (hD : va_D A (w_M cA a S)) (hS : va_S A s.heap H locs) (hl : lv_has ls 7 [(0, .ref (a 0)), (1, .int p1), (2, .int p2), (4, .int x4), (5, .int x5), (6, .int x6)]) : W p l e (rmU 4 93 0 0) s m args below meth c H locs 0 0 (MQ below (QI D A z.1 (w_M cA a z.2)) args s 0 0 A) (F0 m 66 ls [.int y0]) := by
  obtain ⟨hx, hb, hml, hown, hts, hK, hN, hr, hlk⟩ := id C
  unfold fX11_dearest_j66 at hf
  refine lv_istore_n (lv' := [(3, .int y0), (0, .ref (a 0)), (1, .int p1), (2, .int p2), (4, .int x4), (5, .int x5), (6, .int x6)]) (pc := 66) hx hb dX11_dearest_66 rfl hl (by decide) rfl (fun ls hl => ?_)
  refine lv_iload (pc := 67) hx hb dX11_dearest_67 (lv_at hl 6 rfl) ?_
  refine lv_iload (pc := 69) hx hb dX11_dearest_69 (lv_at hl 4 rfl) ?_
  refine lv_icmp_le (tgt := 79) (pc := 71) hx hb dX11_dearest_71 (by decide) (fun c1 => ?_) (fun c1 => ?_)
  · have hf := pt_t c1 hf
    refine lv_iload (pc := 79) hx hb dX11_dearest_79 (lv_at hl 4 rfl) ?_
    exact wX11_dearest_81 C hA hg37 hf hP hD hS (lv_sub hl [1, 2, 3, 0, 5] rfl)
  · have hf := pt_f c1 hf
    refine lv_iload (pc := 74) hx hb dX11_dearest_74 (lv_at hl 6 rfl) ?_
    refine lv_goto (tgt := 81) (pc := 76) hx hb dX11_dearest_76 (by decide) ?_
    exact wX11_dearest_81 C hA hg37 hf hP hD hS (lv_sub hl [1, 2, 3, 0, 5] rfl)
set_option maxRecDepth 100000 in
set_option maxHeartbeats 4000000 in
theorem wX11_dearest_37 (C : Cx p s m args meth c D cA cX11_dearest 7 RX11 (some .int)) (hA : ∀ q : Nat, s.heap.size ≤ q → A q) {N : Nat} {z : Int32 × St} {p1 : Int32} {p2 : Int32} : ∀ (k : Nat) (x3 : Int32) (x4 : Int32) (x5 : Int32) (S : St), fX11_dearest_l37 N p1 p2 k (x3, x4, x5, S) = some z → ∀ (H : Heap) (locs : List Loc) (ls : Array Slot), va_P D vwCl (w_M cA a S) H → va_D A (w_M cA a S) → va_S A s.heap H locs → lv_has ls 7 [(0, .ref (a 0)), (1, .int p1), (2, .int p2), (3, .int x3), (4, .int x4), (5, .int x5)] → W p l e (rmU 4 93 0 0) s m args below meth c H locs 0 0 (MQ below (QI D A z.1 (w_M cA a z.2)) args s 0 0 A) (F0 m 37 ls []) := by
  obtain ⟨hx, hb, hml, hown, hts, hK, hN, hr, hlk⟩ := id C
  intro k
  induction k with
  | zero =>
    intro x3 x4 x5 S hf
    have hf : (none : Option (Int32 × St)) = some z := hf
    cases hf
  | succ k hg37 =>
    intro x3 x4 x5 S hf H locs ls hP hD hS hl
    have hf : fX11_dearest_b37 N p1 p2 (fX11_dearest_l37 N p1 p2 k) x3 x4 x5 S = some z := hf
    unfold fX11_dearest_b37 at hf
    refine lv_iload (pc := 37) hx hb dX11_dearest_37 (lv_at hl 5 rfl) ?_
    refine lv_bipush (v := (10 : Int32)) (pc := 39) hx hb dX11_dearest_39 (by decide) ?_
    refine lv_icmp_ge (tgt := 89) (pc := 41) hx hb dX11_dearest_41 (by decide) (fun c1 => ?_) (fun c1 => ?_)
    · have hf := pt_t c1 hf
      exact wX11_dearest_89 C hA  hf hP hD hS (lv_sub hl [2, 3, 4] rfl)
    · have hf := pt_f c1 hf
      refine lv_aload_n (pc := 44) hx hb dX11_dearest_44 rfl (lv_at hl 0 rfl) ?_
      refine lv_iload (pc := 45) hx hb dX11_dearest_45 (lv_at hl 5 rfl) ?_
      refine lv_iload_n (pc := 47) hx hb dX11_dearest_47 rfl (lv_at hl 1 rfl) ?_
      obtain ⟨q2, hq2, hf⟩ := pt_b hf
      refine all_i (runU_V (pc := 48) (As := [.int x5, .int p1]) (b := a 0) (rest := []) (ci := 10) (q0 := 0) C lk_RX11_223 (kX11_costs l D cA a hq2 H.size) ⟨Nat.le_of_ble_eq_true rfl, Nat.le_of_ble_eq_true rfl⟩ ⟨Nat.le_refl _, Nat.le_refl _⟩ hP hD rfl rfl rfl hl.1 rfl (Nat.le_of_ble_eq_true rfl) dX11_dearest_48) hD hS hA (fun H locs hP hD hS => ?_)
      refine lv_istore (lv' := [(6, .int q2.1), (0, .ref (a 0)), (1, .int p1), (2, .int p2), (3, .int x3), (4, .int x4), (5, .int x5)]) (pc := 51) hx hb dX11_dearest_51 hl (by decide) rfl (fun ls hl => ?_)
      refine lv_iload (pc := 53) hx hb dX11_dearest_53 (lv_at hl 0 rfl) ?_
      refine lv_iload (pc := 55) hx hb dX11_dearest_55 (lv_at hl 5 rfl) ?_
      refine lv_icmp_le (tgt := 65) (pc := 57) hx hb dX11_dearest_57 (by decide) (fun c3 => ?_) (fun c3 => ?_)
      · have hf := pt_t c3 hf
        refine lv_iload_n (pc := 65) hx hb dX11_dearest_65 rfl (lv_at hl 4 rfl) ?_
        exact wX11_dearest_66 C hA hg37 hf hP hD hS (lv_sub hl [1, 2, 3, 5, 6, 0] rfl)
      · have hf := pt_f c3 hf
        refine lv_iload (pc := 60) hx hb dX11_dearest_60 (lv_at hl 6 rfl) ?_
        refine lv_goto (tgt := 66) (pc := 62) hx hb dX11_dearest_62 (by decide) ?_
        exact wX11_dearest_66 C hA hg37 hf hP hD hS (lv_sub hl [1, 2, 3, 5, 6, 0] rfl)
set_option maxRecDepth 100000 in
set_option maxHeartbeats 4000000 in
theorem wX11_dearest (C : Cx p s m args meth c D cA cX11_dearest 7 RX11 (some .int)) (hA : ∀ q : Nat, s.heap.size ≤ q → A q) {N : Nat} {z : Int32 × St} {S : St} {p1 : Int32} {p2 : Int32} (hf : fX11_dearest N S p1 p2 = some z) {H : Heap} {locs : List Loc} {ls : Array Slot} (hP : va_P D vwCl (w_M cA a S) H) (hD : va_D A (w_M cA a S)) (hS : va_S A s.heap H locs) (hl : lv_has ls 7 [(0, .ref (a 0)), (1, .int p1), (2, .int p2)]) : W p l e (rmU 4 93 0 0) s m args below meth c H locs 0 0 (MQ below (QI D A z.1 (w_M cA a z.2)) args s 0 0 A) (F0 m 0 ls []) := by
  obtain ⟨hx, hb, hml, hown, hts, hK, hN, hr, hlk⟩ := id C
  unfold fX11_dearest at hf
  refine lv_iload_n (pc := 0) hx hb dX11_dearest_0 rfl (lv_at hl 1 rfl) ?_
  refine lv_i2l (v := p1.toInt64) (pc := 1) hx hb dX11_dearest_1 rfl ?_
  refine lv_lconst (v := (0 : Int64)) (pc := 2) hx hb dX11_dearest_2 (by decide) ?_
  refine lv_ldc2 (pc := 3) (v := (9999 : Int64)) hx hb hown (hts _ kl_RX11_202) dX11_dearest_3 ?_
  obtain ⟨q1, hq1, hf⟩ := pt_b hf
  have hPc : va_P D vwCl ([] : va_W) H := hP.sub [] rfl
  have hDc : va_D A ([] : va_W) := hD.sub [] (by decide) rfl
  refine prt_i (runU_S (pc := 6) (As := [.long p1.toInt64, .long ((0 : Int64)), .long ((9999 : Int64))]) (rest := []) C lk_RX11_72 (kX11_in l D cA hq1 H.size) ⟨Nat.le_of_ble_eq_true rfl, Nat.le_of_ble_eq_true rfl⟩ ⟨Nat.le_refl _, Nat.le_refl _⟩ hPc hDc hl.1 rfl (Nat.le_of_ble_eq_true rfl) dX11_dearest_6) hP hD hS hA [] rfl (fun H locs hP hD hS => ?_)
  refine lv_if_eq (tgt := 22) (pc := 9) hx hb dX11_dearest_9 (by decide) (fun c2 => ?_) (fun c2 => ?_)
  · have hf := pt_t c2 hf
    refine lv_iconst (v := (-1 : Int32)) (pc := 22) hx hb dX11_dearest_22 (by decide) ?_
    cases hf
    exact ret_i C hP hD hS dX11_dearest_23
  · have hf := pt_f c2 hf
    refine lv_iload_n (pc := 12) hx hb dX11_dearest_12 rfl (lv_at hl 2 rfl) ?_
    refine lv_i2l (v := p2.toInt64) (pc := 13) hx hb dX11_dearest_13 rfl ?_
    refine lv_lconst (v := (0 : Int64)) (pc := 14) hx hb dX11_dearest_14 (by decide) ?_
    refine lv_lconst (v := (1 : Int64)) (pc := 15) hx hb dX11_dearest_15 (by decide) ?_
    obtain ⟨q3, hq3, hf⟩ := pt_b hf
    have hPc : va_P D vwCl ([] : va_W) H := hP.sub [] rfl
    have hDc : va_D A ([] : va_W) := hD.sub [] (by decide) rfl
    refine prt_i (runU_S (pc := 16) (As := [.long p2.toInt64, .long ((0 : Int64)), .long ((1 : Int64))]) (rest := []) C lk_RX11_72 (kX11_in l D cA hq3 H.size) ⟨Nat.le_of_ble_eq_true rfl, Nat.le_of_ble_eq_true rfl⟩ ⟨Nat.le_refl _, Nat.le_refl _⟩ hPc hDc hl.1 rfl (Nat.le_of_ble_eq_true rfl) dX11_dearest_16) hP hD hS hA [] rfl (fun H locs hP hD hS => ?_)
    refine lv_if_ne (tgt := 24) (pc := 19) hx hb dX11_dearest_19 (by decide) (fun c4 => ?_) (fun c4 => ?_)
    · have hf := pt_f c4 hf
      refine lv_iconst (v := (0 : Int32)) (pc := 24) hx hb dX11_dearest_24 (by decide) ?_
      refine lv_istore_n (lv' := [(3, .int ((0 : Int32))), (0, .ref (a 0)), (1, .int p1), (2, .int p2)]) (pc := 25) hx hb dX11_dearest_25 rfl hl (by decide) rfl (fun ls hl => ?_)
      refine lv_aload_n (pc := 26) hx hb dX11_dearest_26 rfl (lv_at hl 1 rfl) ?_
      refine lv_iconst (v := (0 : Int32)) (pc := 27) hx hb dX11_dearest_27 (by decide) ?_
      refine lv_iload_n (pc := 28) hx hb dX11_dearest_28 rfl (lv_at hl 2 rfl) ?_
      obtain ⟨q5, hq5, hf⟩ := pt_b hf
      refine all_i (runU_V (pc := 29) (As := [.int ((0 : Int32)), .int p1]) (b := a 0) (rest := []) (ci := 10) (q0 := 0) C lk_RX11_223 (kX11_costs l D cA a hq5 H.size) ⟨Nat.le_of_ble_eq_true rfl, Nat.le_of_ble_eq_true rfl⟩ ⟨Nat.le_refl _, Nat.le_refl _⟩ hP hD rfl rfl rfl hl.1 rfl (Nat.le_of_ble_eq_true rfl) dX11_dearest_29) hD hS hA (fun H locs hP hD hS => ?_)
      refine lv_istore (lv' := [(4, .int q5.1), (3, .int ((0 : Int32))), (0, .ref (a 0)), (1, .int p1), (2, .int p2)]) (pc := 32) hx hb dX11_dearest_32 hl (by decide) rfl (fun ls hl => ?_)
      refine lv_iconst (v := (1 : Int32)) (pc := 34) hx hb dX11_dearest_34 (by decide) ?_
      refine lv_istore (lv' := [(5, .int ((1 : Int32))), (4, .int q5.1), (3, .int ((0 : Int32))), (0, .ref (a 0)), (1, .int p1), (2, .int p2)]) (pc := 35) hx hb dX11_dearest_35 hl (by decide) rfl (fun ls hl => ?_)
      exact wX11_dearest_37 C hA  _ ((0 : Int32)) q5.1 ((1 : Int32)) q5.2 hf _ _ _ hP hD hS (lv_sub hl [3, 4, 5, 2, 1, 0] rfl)
    · have hf := pt_t c4 hf
      refine lv_iconst (v := (-1 : Int32)) (pc := 22) hx hb dX11_dearest_22 (by decide) ?_
      cases hf
      exact ret_i C hP hD hS dX11_dearest_23
set_option maxRecDepth 100000 in
set_option maxHeartbeats 4000000 in
theorem kX11_dearest (l : Launch) (D : va_G) (cA : Nat → ClassId) (a : Nat → Nat) {N : Nat} {S : St} {p1 : Int32} {p2 : Int32} {z : Int32 × St} (hf : fX11_dearest N S p1 p2 = some z) : CtI l yX11_dearest cX11_dearest 7 (some .int) 4 93 D cA (w_M cA a S) (w_M cA a z.2) [.ref (a 0), .int p1, .int p2] z.1 := by
  intro sz
  refine Met.ofW (cc := cX11_dearest) (maxL := 7) (ret := (some .int)) (by decide) rfl ?_
  intro p e s m args below meth c s₁ B hml hv
  obtain ⟨rfl, hsz, hP, hK, hD0⟩ := hv
  subst hsz
  have C : Cx p s m _ meth c D cA cX11_dearest 7 RX11 (some .int) := Cx.of B hml hK
  have hD := hD0.self (sz := s.heap.size)
  have hA : ∀ q : Nat, s.heap.size ≤ q → va_A (w_M cA a S) s.heap.size q := fun q h => Or.inr h
  have hS : va_S (va_A (w_M cA a S) s.heap.size) s.heap s.heap [] := va_S.rf
  have hl := lv_entry ([.ref (a 0), .int p1, .int p2]) (n := 7) (Nat.le_of_ble_eq_true rfl)
  rw [lg_entry_eq]
  generalize (lg_sl ([.ref (a 0), .int p1, .int p2]) ++ List.replicate (7 - (lg_sl ([.ref (a 0), .int p1, .int p2])).length) Slot.unset).toArray = ls at hl ⊢
  exact wX11_dearest C hA hf hP hD hS hl
def fX11_sayableIf (N : Nat) (S : St) (p1 : Int32) (p2 : Int32) (p3 : Int32) : Option (Int32 × St) :=
  if ¬ (p1 < 0 ∨ 20 ≤ p1.toNatClampNeg) then (if ¬ (p1 < 0 ∨ 20 ≤ p1.toNatClampNeg) then (Option.bind (fX11_sayableBy N (sti S 9 p1.toNatClampNeg ((1 : Int32))) p2 ((0 : Int32)) p3) (fun q3 => if ¬ (p1 < 0 ∨ 20 ≤ p1.toNatClampNeg) then (some (q3.1, (sti q3.2 9 p1.toNatClampNeg ((S 9 p1.toNatClampNeg))))) else none)) else none) else none
set_option maxRecDepth 100000 in
set_option maxHeartbeats 4000000 in
theorem wX11_sayableIf (C : Cx p s m args meth c D cA cX11_sayableIf 6 RX11 (some .int)) (hA : ∀ q : Nat, s.heap.size ≤ q → A q) {N : Nat} {z : Int32 × St} {S : St} {p1 : Int32} {p2 : Int32} {p3 : Int32} (hf : fX11_sayableIf N S p1 p2 p3 = some z) {H : Heap} {locs : List Loc} {ls : Array Slot} (hP : va_P D vwCl (w_M cA a S) H) (hD : va_D A (w_M cA a S)) (hS : va_S A s.heap H locs) (hl : lv_has ls 6 [(0, .ref (a 0)), (1, .int p1), (2, .int p2), (3, .int p3)]) : W p l e (rmU 3 71 0 0) s m args below meth c H locs 0 0 (MQ below (QI D A z.1 (w_M cA a z.2)) args s 0 0 A) (F0 m 0 ls []) := by
  obtain ⟨hx, hb, hml, hown, hts, hK, hN, hr, hlk⟩ := id C
  unfold fX11_sayableIf at hf
  refine lv_aload_n (pc := 0) hx hb dX11_sayableIf_0 rfl (lv_at hl 0 rfl) ?_
  refine ge_RX11_34_M_0_0 (pc := 1) C hP dX11_sayableIf_1 ?_
  refine lv_iload_n (pc := 4) hx hb dX11_sayableIf_4 rfl (lv_at hl 1 rfl) ?_
  obtain ⟨h1, hf⟩ := pt_g hf
  refine ld_M_0_9 (pc := 5) (j := p1.toNatClampNeg) C hP h1 rfl dX11_sayableIf_5 ?_
  refine lv_istore (lv' := [(4, .int ((S 9 p1.toNatClampNeg))), (0, .ref (a 0)), (1, .int p1), (2, .int p2), (3, .int p3)]) (pc := 6) hx hb dX11_sayableIf_6 hl (by decide) rfl (fun ls hl => ?_)
  refine lv_aload_n (pc := 8) hx hb dX11_sayableIf_8 rfl (lv_at hl 1 rfl) ?_
  refine ge_RX11_34_M_0_0 (pc := 9) C hP dX11_sayableIf_9 ?_
  refine lv_iload_n (pc := 12) hx hb dX11_sayableIf_12 rfl (lv_at hl 2 rfl) ?_
  refine lv_iconst (v := (1 : Int32)) (pc := 13) hx hb dX11_sayableIf_13 (by decide) ?_
  obtain ⟨h2, hf⟩ := pt_g hf
  refine sr_M_0_9 (pc := 14) (j := p1.toNatClampNeg) C hP hD hS h2 rfl dX11_sayableIf_14 (fun H locs hP hD hS => ?_)
  refine lv_aload_n (pc := 15) hx hb dX11_sayableIf_15 rfl (lv_at hl 1 rfl) ?_
  refine lv_iload_n (pc := 16) hx hb dX11_sayableIf_16 rfl (lv_at hl 3 rfl) ?_
  refine lv_iconst (v := (0 : Int32)) (pc := 17) hx hb dX11_sayableIf_17 (by decide) ?_
  refine lv_iload_n (pc := 18) hx hb dX11_sayableIf_18 rfl (lv_at hl 4 rfl) ?_
  obtain ⟨q3, hq3, hf⟩ := pt_b hf
  refine all_i (runU_V (pc := 19) (As := [.int p2, .int ((0 : Int32)), .int p3]) (b := a 0) (rest := []) (ci := 10) (q0 := 0) C lk_RX11_219 (kX11_sayableBy l D cA a hq3 H.size) ⟨Nat.le_of_ble_eq_true rfl, Nat.le_of_ble_eq_true rfl⟩ ⟨Nat.le_refl _, Nat.le_refl _⟩ hP hD rfl rfl rfl hl.1 rfl (Nat.le_of_ble_eq_true rfl) dX11_sayableIf_19) hD hS hA (fun H locs hP hD hS => ?_)
  refine lv_istore (lv' := [(5, .int q3.1), (4, .int ((S 9 p1.toNatClampNeg))), (0, .ref (a 0)), (1, .int p1), (2, .int p2), (3, .int p3)]) (pc := 22) hx hb dX11_sayableIf_22 hl (by decide) rfl (fun ls hl => ?_)
  refine lv_aload_n (pc := 24) hx hb dX11_sayableIf_24 rfl (lv_at hl 2 rfl) ?_
  refine ge_RX11_34_M_0_0 (pc := 25) C hP dX11_sayableIf_25 ?_
  refine lv_iload_n (pc := 28) hx hb dX11_sayableIf_28 rfl (lv_at hl 3 rfl) ?_
  refine lv_iload (pc := 29) hx hb dX11_sayableIf_29 (lv_at hl 1 rfl) ?_
  obtain ⟨h4, hf⟩ := pt_g hf
  refine sr_M_0_9 (pc := 31) (j := p1.toNatClampNeg) C hP hD hS h4 rfl dX11_sayableIf_31 (fun H locs hP hD hS => ?_)
  refine lv_iload (pc := 32) hx hb dX11_sayableIf_32 (lv_at hl 0 rfl) ?_
  cases hf
  exact ret_i C hP hD hS dX11_sayableIf_34
set_option maxRecDepth 100000 in
set_option maxHeartbeats 4000000 in
theorem kX11_sayableIf (l : Launch) (D : va_G) (cA : Nat → ClassId) (a : Nat → Nat) {N : Nat} {S : St} {p1 : Int32} {p2 : Int32} {p3 : Int32} {z : Int32 × St} (hf : fX11_sayableIf N S p1 p2 p3 = some z) : CtI l yX11_sayableIf cX11_sayableIf 6 (some .int) 3 71 D cA (w_M cA a S) (w_M cA a z.2) [.ref (a 0), .int p1, .int p2, .int p3] z.1 := by
  intro sz
  refine Met.ofW (cc := cX11_sayableIf) (maxL := 6) (ret := (some .int)) (by decide) rfl ?_
  intro p e s m args below meth c s₁ B hml hv
  obtain ⟨rfl, hsz, hP, hK, hD0⟩ := hv
  subst hsz
  have C : Cx p s m _ meth c D cA cX11_sayableIf 6 RX11 (some .int) := Cx.of B hml hK
  have hD := hD0.self (sz := s.heap.size)
  have hA : ∀ q : Nat, s.heap.size ≤ q → va_A (w_M cA a S) s.heap.size q := fun q h => Or.inr h
  have hS : va_S (va_A (w_M cA a S) s.heap.size) s.heap s.heap [] := va_S.rf
  have hl := lv_entry ([.ref (a 0), .int p1, .int p2, .int p3]) (n := 6) (Nat.le_of_ble_eq_true rfl)
  rw [lg_entry_eq]
  generalize (lg_sl ([.ref (a 0), .int p1, .int p2, .int p3]) ++ List.replicate (6 - (lg_sl ([.ref (a 0), .int p1, .int p2, .int p3])).length) Slot.unset).toArray = ls at hl ⊢
  exact wX11_sayableIf C hA hf hP hD hS hl
theorem lk_RX11_226 : LkV RX11 226 yX11_sayableIf cX11_sayableIf 6 (some .int) 3 := ⟨⟨by decide +kernel, by decide +kernel, by decide +kernel, by decide +kernel, by decide +kernel, by decide +kernel⟩, by decide +kernel, by decide +kernel⟩
def fX11_bargain (N : Nat) (S : St) (p1 : Int32) (p2 : Int32) (p3 : Int32) : Option (Int32 × St) :=
  Option.bind (fX11_isFigure N p1) (fun q1 => if q1 = 0 then (some ((-1 : Int32), S)) else (Option.bind (fX11_isFigure N p2) (fun q3 => if q3 = 0 then (some ((-1 : Int32), S)) else (if p1 = p2 then (some ((-1 : Int32), S)) else (Option.bind (fX11_in N p3.toInt64 ((0 : Int64)) ((9999 : Int64))) (fun q6 => if q6 = 0 then (some ((-1 : Int32), S)) else (Option.bind (fX11_sayableIf N S p2 p1 p3) (fun q8 => Option.bind (fX11_sayableIf N q8.2 p1 p2 p3) (fun q9 => some (((q8.1 - q9.1) + (10000 : Int32)), q9.2))))))))))
set_option maxRecDepth 100000 in
set_option maxHeartbeats 4000000 in
theorem wX11_bargain (C : Cx p s m args meth c D cA cX11_bargain 4 RX11 (some .int)) (hA : ∀ q : Nat, s.heap.size ≤ q → A q) {N : Nat} {z : Int32 × St} {S : St} {p1 : Int32} {p2 : Int32} {p3 : Int32} (hf : fX11_bargain N S p1 p2 p3 = some z) {H : Heap} {locs : List Loc} {ls : Array Slot} (hP : va_P D vwCl (w_M cA a S) H) (hD : va_D A (w_M cA a S)) (hS : va_S A s.heap H locs) (hl : lv_has ls 4 [(0, .ref (a 0)), (1, .int p1), (2, .int p2), (3, .int p3)]) : W p l e (rmU 4 96 0 0) s m args below meth c H locs 0 0 (MQ below (QI D A z.1 (w_M cA a z.2)) args s 0 0 A) (F0 m 0 ls []) := by
  obtain ⟨hx, hb, hml, hown, hts, hK, hN, hr, hlk⟩ := id C
  unfold fX11_bargain at hf
  refine lv_iload_n (pc := 0) hx hb dX11_bargain_0 rfl (lv_at hl 1 rfl) ?_
  obtain ⟨q1, hq1, hf⟩ := pt_b hf
  have hPc : va_P D vwCl ([] : va_W) H := hP.sub [] rfl
  have hDc : va_D A ([] : va_W) := hD.sub [] (by decide) rfl
  refine prt_i (runU_S (pc := 1) (As := [.int p1]) (rest := []) C lk_RX11_128 (kX11_isFigure l D cA hq1 H.size) ⟨Nat.le_of_ble_eq_true rfl, Nat.le_of_ble_eq_true rfl⟩ ⟨Nat.le_refl _, Nat.le_refl _⟩ hPc hDc hl.1 rfl (Nat.le_of_ble_eq_true rfl) dX11_bargain_1) hP hD hS hA [] rfl (fun H locs hP hD hS => ?_)
  refine lv_if_eq (tgt := 31) (pc := 4) hx hb dX11_bargain_4 (by decide) (fun c2 => ?_) (fun c2 => ?_)
  · have hf := pt_t c2 hf
    refine lv_iconst (v := (-1 : Int32)) (pc := 31) hx hb dX11_bargain_31 (by decide) ?_
    cases hf
    exact ret_i C hP hD hS dX11_bargain_32
  · have hf := pt_f c2 hf
    refine lv_iload_n (pc := 7) hx hb dX11_bargain_7 rfl (lv_at hl 2 rfl) ?_
    obtain ⟨q3, hq3, hf⟩ := pt_b hf
    have hPc : va_P D vwCl ([] : va_W) H := hP.sub [] rfl
    have hDc : va_D A ([] : va_W) := hD.sub [] (by decide) rfl
    refine prt_i (runU_S (pc := 8) (As := [.int p2]) (rest := []) C lk_RX11_128 (kX11_isFigure l D cA hq3 H.size) ⟨Nat.le_of_ble_eq_true rfl, Nat.le_of_ble_eq_true rfl⟩ ⟨Nat.le_refl _, Nat.le_refl _⟩ hPc hDc hl.1 rfl (Nat.le_of_ble_eq_true rfl) dX11_bargain_8) hP hD hS hA [] rfl (fun H locs hP hD hS => ?_)
    refine lv_if_eq (tgt := 31) (pc := 11) hx hb dX11_bargain_11 (by decide) (fun c4 => ?_) (fun c4 => ?_)
    · have hf := pt_t c4 hf
      refine lv_iconst (v := (-1 : Int32)) (pc := 31) hx hb dX11_bargain_31 (by decide) ?_
      cases hf
      exact ret_i C hP hD hS dX11_bargain_32
    · have hf := pt_f c4 hf
      refine lv_iload_n (pc := 14) hx hb dX11_bargain_14 rfl (lv_at hl 1 rfl) ?_
      refine lv_iload_n (pc := 15) hx hb dX11_bargain_15 rfl (lv_at hl 2 rfl) ?_
      refine lv_icmp_eq (tgt := 31) (pc := 16) hx hb dX11_bargain_16 (by decide) (fun c5 => ?_) (fun c5 => ?_)
      · have hf := pt_t c5 hf
        refine lv_iconst (v := (-1 : Int32)) (pc := 31) hx hb dX11_bargain_31 (by decide) ?_
        cases hf
        exact ret_i C hP hD hS dX11_bargain_32
      · have hf := pt_f c5 hf
        refine lv_iload_n (pc := 19) hx hb dX11_bargain_19 rfl (lv_at hl 3 rfl) ?_
        refine lv_i2l (v := p3.toInt64) (pc := 20) hx hb dX11_bargain_20 rfl ?_
        refine lv_lconst (v := (0 : Int64)) (pc := 21) hx hb dX11_bargain_21 (by decide) ?_
        refine lv_ldc2 (pc := 22) (v := (9999 : Int64)) hx hb hown (hts _ kl_RX11_202) dX11_bargain_22 ?_
        obtain ⟨q6, hq6, hf⟩ := pt_b hf
        have hPc : va_P D vwCl ([] : va_W) H := hP.sub [] rfl
        have hDc : va_D A ([] : va_W) := hD.sub [] (by decide) rfl
        refine prt_i (runU_S (pc := 25) (As := [.long p3.toInt64, .long ((0 : Int64)), .long ((9999 : Int64))]) (rest := []) C lk_RX11_72 (kX11_in l D cA hq6 H.size) ⟨Nat.le_of_ble_eq_true rfl, Nat.le_of_ble_eq_true rfl⟩ ⟨Nat.le_refl _, Nat.le_refl _⟩ hPc hDc hl.1 rfl (Nat.le_of_ble_eq_true rfl) dX11_bargain_25) hP hD hS hA [] rfl (fun H locs hP hD hS => ?_)
        refine lv_if_ne (tgt := 33) (pc := 28) hx hb dX11_bargain_28 (by decide) (fun c7 => ?_) (fun c7 => ?_)
        · have hf := pt_f c7 hf
          refine lv_aload_n (pc := 33) hx hb dX11_bargain_33 rfl (lv_at hl 0 rfl) ?_
          refine lv_iload_n (pc := 34) hx hb dX11_bargain_34 rfl (lv_at hl 2 rfl) ?_
          refine lv_iload_n (pc := 35) hx hb dX11_bargain_35 rfl (lv_at hl 1 rfl) ?_
          refine lv_iload_n (pc := 36) hx hb dX11_bargain_36 rfl (lv_at hl 3 rfl) ?_
          obtain ⟨q8, hq8, hf⟩ := pt_b hf
          refine all_i (runU_V (pc := 37) (As := [.int p2, .int p1, .int p3]) (b := a 0) (rest := []) (ci := 10) (q0 := 0) C lk_RX11_226 (kX11_sayableIf l D cA a hq8 H.size) ⟨Nat.le_of_ble_eq_true rfl, Nat.le_of_ble_eq_true rfl⟩ ⟨Nat.le_refl _, Nat.le_refl _⟩ hP hD rfl rfl rfl hl.1 rfl (Nat.le_of_ble_eq_true rfl) dX11_bargain_37) hD hS hA (fun H locs hP hD hS => ?_)
          refine lv_aload_n (pc := 40) hx hb dX11_bargain_40 rfl (lv_at hl 0 rfl) ?_
          refine lv_iload_n (pc := 41) hx hb dX11_bargain_41 rfl (lv_at hl 1 rfl) ?_
          refine lv_iload_n (pc := 42) hx hb dX11_bargain_42 rfl (lv_at hl 2 rfl) ?_
          refine lv_iload_n (pc := 43) hx hb dX11_bargain_43 rfl (lv_at hl 3 rfl) ?_
          obtain ⟨q9, hq9, hf⟩ := pt_b hf
          refine all_i (runU_V (pc := 44) (As := [.int p1, .int p2, .int p3]) (b := a 0) (rest := [.int q8.1]) (ci := 10) (q0 := 0) C lk_RX11_226 (kX11_sayableIf l D cA a hq9 H.size) ⟨Nat.le_of_ble_eq_true rfl, Nat.le_of_ble_eq_true rfl⟩ ⟨Nat.le_refl _, Nat.le_refl _⟩ hP hD rfl rfl rfl hl.1 rfl (Nat.le_of_ble_eq_true rfl) dX11_bargain_44) hD hS hA (fun H locs hP hD hS => ?_)
          refine lv_isub (pc := 47) hx hb dX11_bargain_47 ?_
          refine lv_sipush (v := (10000 : Int32)) (pc := 48) hx hb dX11_bargain_48 (by decide) ?_
          refine lv_iadd (pc := 51) hx hb dX11_bargain_51 ?_
          cases hf
          exact ret_i C hP hD hS dX11_bargain_52
        · have hf := pt_t c7 hf
          refine lv_iconst (v := (-1 : Int32)) (pc := 31) hx hb dX11_bargain_31 (by decide) ?_
          cases hf
          exact ret_i C hP hD hS dX11_bargain_32
set_option maxRecDepth 100000 in
set_option maxHeartbeats 4000000 in
theorem kX11_bargain (l : Launch) (D : va_G) (cA : Nat → ClassId) (a : Nat → Nat) {N : Nat} {S : St} {p1 : Int32} {p2 : Int32} {p3 : Int32} {z : Int32 × St} (hf : fX11_bargain N S p1 p2 p3 = some z) : CtI l yX11_bargain cX11_bargain 4 (some .int) 4 96 D cA (w_M cA a S) (w_M cA a z.2) [.ref (a 0), .int p1, .int p2, .int p3] z.1 := by
  intro sz
  refine Met.ofW (cc := cX11_bargain) (maxL := 4) (ret := (some .int)) (by decide) rfl ?_
  intro p e s m args below meth c s₁ B hml hv
  obtain ⟨rfl, hsz, hP, hK, hD0⟩ := hv
  subst hsz
  have C : Cx p s m _ meth c D cA cX11_bargain 4 RX11 (some .int) := Cx.of B hml hK
  have hD := hD0.self (sz := s.heap.size)
  have hA : ∀ q : Nat, s.heap.size ≤ q → va_A (w_M cA a S) s.heap.size q := fun q h => Or.inr h
  have hS : va_S (va_A (w_M cA a S) s.heap.size) s.heap s.heap [] := va_S.rf
  have hl := lv_entry ([.ref (a 0), .int p1, .int p2, .int p3]) (n := 4) (Nat.le_of_ble_eq_true rfl)
  rw [lg_entry_eq]
  generalize (lg_sl ([.ref (a 0), .int p1, .int p2, .int p3]) ++ List.replicate (4 - (lg_sl ([.ref (a 0), .int p1, .int p2, .int p3])).length) Slot.unset).toArray = ls at hl ⊢
  exact wX11_bargain C hA hf hP hD hS hl
theorem fl_RX11_58 : Cond.fieldLink RX11 58 "SevenOnStrikeModel" "was" "[I" ∈ wsL_law := by decide +kernel
theorem ge_RX11_58_M_0_0 (C : Cx p s m args meth c D cA cc nL RX11 ret) (hP : va_P D vwCl (w_M cA a S) H) (hdg : decode cc pc = .ok (.getfield 58, 3)) (kk : W p l e R s m args below meth c H locs cells slots Q (F0 m (pc + 3) ls (.ref (a 17) :: rest))) : W p l e R s m args below meth c H locs cells slots Q (F0 m pc ls (.ref (a 0) :: rest)) := by
  obtain ⟨hx, hb, -, hown, hts, hK, -, -, -⟩ := C
  exact va_get (D := D) (ci := 10) (v := .ref (a 17)) (C := RX11) (T := TX11) (N := 28) hx hb hts inlX11 hown hK hP 0 rfl rfl 27 (by decide) (hts _ fl_RX11_58) (fun _ h9 => h9) rfl hdg kk
theorem ld_M_0_17 {i : Int32} {j : Nat} (C : Cx p s m args meth c D cA cc nL own ret) (hP : va_P D vwCl (w_M cA a S) H) (hin : vp_in i 10) (hj : i.toNatClampNeg = j) (hdg : decode cc pc = .ok (.iaload, 1)) (kk : W p l e R s m args below meth c H locs cells slots Q (F0 m (pc + 1) ls (.int (S 27 j) :: rest))) : W p l e R s m args below meth c H locs cells slots Q (F0 m pc ls (.int i :: .ref (a 17) :: rest)) := by
  obtain ⟨hx, hb, -, hown, hts, hK, -, -, -⟩ := C
  subst hj
  exact va_iald hx hb hK hP 17 0 rfl rfl hin hdg kk
theorem kl_RX11_231 : Cond.constantLong RX11 231 (7919) ∈ wsL_law := by decide +kernel
theorem kl_RX11_233 : Cond.constantLong RX11 233 (6151) ∈ wsL_law := by decide +kernel
theorem kl_RX11_235 : Cond.constantLong RX11 235 (65521) ∈ wsL_law := by decide +kernel
theorem kl_RX11_237 : Cond.constantLong RX11 237 (4) ∈ wsL_law := by decide +kernel
theorem sr_M_0_17 {i v : Int32} {j : Nat} (C : Cx p s m args meth c D cA cc nL own ret) (hP : va_P D vwCl (w_M cA a S) H) (hD : va_D A (w_M cA a S)) (hS : va_S A s.heap H locs) (hin : vp_in i 10) (hj : i.toNatClampNeg = j) (hdg : decode cc pc = .ok (.iastore, 1)) (kk : ∀ (H1 : Heap) (locs1 : List Loc), va_P D vwCl (w_M cA a (sti S 27 j v)) H1 → va_D A (w_M cA a (sti S 27 j v)) → va_S A s.heap H1 locs1 → W p l e R s m args below meth c H1 locs1 cells slots Q (F0 m (pc + 1) ls rest)) : W p l e R s m args below meth c H locs cells slots Q (F0 m pc ls (.int v :: .int i :: .ref (a 17) :: rest)) := by
  obtain ⟨hx, hb, -, hown, hts, hK, -, -, -⟩ := C
  subst hj
  exact va_iast hx hb hK hP hD hS 17 0 rfl rfl hin hdg (fun H1 locs1 h1 h2 h3 => kk H1 locs1 h1 h2 h3)
theorem kl_RX11_229 : Cond.constantLong RX11 229 (50) ∈ wsL_law := by decide +kernel
def fX11_days_j189 (N : Nat) (p1 : Int32) (p2 : Int32) (p3 : Int32) (x4 : Int32) (x5 : Int32) (S : St) : Option (Int32 × St) :=
  if p3 = 0 then (some (x5, S)) else (some (x4, S))
def fX11_days_b162 (N : Nat) (p1 : Int32) (p2 : Int32) (p3 : Int32) (g162 : Int32 × Int32 × Int32 × St → Option (Int32 × St)) (x4 : Int32) (x5 : Int32) (x6 : Int32) (S : St) : Option (Int32 × St) :=
  if (10 : Int32) ≤ x6 then (fX11_days_j189 N p1 p2 p3 x4 x5 S) else (if ¬ (x6 < 0 ∨ 10 ≤ x6.toNatClampNeg) then (if ¬ (x6 < 0 ∨ 20 ≤ x6.toNatClampNeg) then (g162 ((x4, x5, (x6 + 1), (sti S 9 x6.toNatClampNeg ((S 27 x6.toNatClampNeg)))))) else none) else none)
def fX11_days_l162 (N : Nat) (p1 : Int32) (p2 : Int32) (p3 : Int32) (k : Nat) (q : Int32 × Int32 × Int32 × St) : Option (Int32 × St) := lpN (fun g q => fX11_days_b162 N p1 p2 p3 g q.1 q.2.1 q.2.2.1 q.2.2.2) k q
def fX11_days_j150 (N : Nat) (p1 : Int32) (p2 : Int32) (p3 : Int32) (x4 : Int32) (S : St) : Option (Int32 × St) :=
  Option.bind (fX11_sayable N S ((999 : Int32))) (fun q1 => fX11_days_l162 N p1 p2 p3 N ((x4, q1, (0 : Int32), S)))
def fX11_days_b72 (N : Nat) (p1 : Int32) (p2 : Int32) (p3 : Int32) (g72 : Int32 × Int32 × St → Option (Int32 × St)) (x4 : Int32) (x5 : Int32) (S : St) : Option (Int32 × St) :=
  if p2 ≤ x5 then (fX11_days_j150 N p1 p2 p3 x4 S) else (nm (((((7919 : Int64) * p1.toInt64) + ((6151 : Int64) * x5.toInt64)) + (1 : Int64))) (fun v2 => nm ((((((v2 * v2) - (v2 * v2) / (65521 : Int64) * (65521 : Int64)) / (4 : Int64)) - (((v2 * v2) - (v2 * v2) / (65521 : Int64) * (65521 : Int64)) / (4 : Int64)) / (10 : Int64) * (10 : Int64))).toInt32) (fun v3 => if ¬ (v3 < 0 ∨ 20 ≤ v3.toNatClampNeg) then (if ¬ (v3 < 0 ∨ 20 ≤ v3.toNatClampNeg) then (nm ((x4 + ((sti S 9 v3.toNatClampNeg (((1 : Int32) - (S 9 v3.toNatClampNeg)))) 9 7))) (fun v6 => g72 ((v6, (x5 + 1), (sti S 9 v3.toNatClampNeg (((1 : Int32) - (S 9 v3.toNatClampNeg)))))))) else none) else none)))
def fX11_days_l72 (N : Nat) (p1 : Int32) (p2 : Int32) (p3 : Int32) (k : Nat) (q : Int32 × Int32 × St) : Option (Int32 × St) := lpN (fun g q => fX11_days_b72 N p1 p2 p3 g q.1 q.2.1 q.2.2) k q
def fX11_days_j66 (N : Nat) (p1 : Int32) (p2 : Int32) (p3 : Int32) (S : St) : Option (Int32 × St) :=
  fX11_days_l72 N p1 p2 p3 N (((0 : Int32), (0 : Int32), S))
def fX11_days_b39 (N : Nat) (p1 : Int32) (p2 : Int32) (p3 : Int32) (g39 : Int32 × St → Option (Int32 × St)) (x4 : Int32) (S : St) : Option (Int32 × St) :=
  if (10 : Int32) ≤ x4 then (fX11_days_j66 N p1 p2 p3 S) else (if ¬ (x4 < 0 ∨ 20 ≤ x4.toNatClampNeg) then (if ¬ (x4 < 0 ∨ 10 ≤ x4.toNatClampNeg) then (g39 (((x4 + 1), (sti S 27 x4.toNatClampNeg ((S 9 x4.toNatClampNeg)))))) else none) else none)
def fX11_days_l39 (N : Nat) (p1 : Int32) (p2 : Int32) (p3 : Int32) (k : Nat) (q : Int32 × St) : Option (Int32 × St) := lpN (fun g q => fX11_days_b39 N p1 p2 p3 g q.1 q.2) k q
def fX11_days (N : Nat) (S : St) (p1 : Int32) (p2 : Int32) (p3 : Int32) : Option (Int32 × St) :=
  Option.bind (fX11_in N p1.toInt64 ((0 : Int64)) ((9999 : Int64))) (fun q1 => if q1 = 0 then (some ((-1 : Int32), S)) else (Option.bind (fX11_in N p2.toInt64 ((1 : Int64)) ((50 : Int64))) (fun q3 => if q3 = 0 then (some ((-1 : Int32), S)) else (Option.bind (fX11_in N p3.toInt64 ((0 : Int64)) ((1 : Int64))) (fun q5 => if q5 = 0 then (some ((-1 : Int32), S)) else (fX11_days_l39 N p1 p2 p3 N (((0 : Int32), S))))))))
set_option maxRecDepth 100000 in
set_option maxHeartbeats 4000000 in
theorem wX11_days_189 (C : Cx p s m args meth c D cA cX11_days 9 RX11 (some .int)) (hA : ∀ q : Nat, s.heap.size ≤ q → A q) {N : Nat} {z : Int32 × St} {p1 : Int32} {p2 : Int32} {p3 : Int32} {x4 : Int32} {x5 : Int32} {S : St} (hf : fX11_days_j189 N p1 p2 p3 x4 x5 S = some z) {H : Heap} {locs : List Loc} {ls : Array Slot} (hP : va_P D vwCl (w_M cA a S) H) (hD : va_D A (w_M cA a S)) (hS : va_S A s.heap H locs) (hl : lv_has ls 9 [(3, .int p3), (4, .int x4), (5, .int x5)]) : W p l e (rmU 2 46 0 0) s m args below meth c H locs 0 0 (MQ below (QI D A z.1 (w_M cA a z.2)) args s 0 0 A) (F0 m 189 ls []) := by
  obtain ⟨hx, hb, hml, hown, hts, hK, hN, hr, hlk⟩ := id C
  unfold fX11_days_j189 at hf
  refine lv_iload_n (pc := 189) hx hb dX11_days_189 rfl (lv_at hl 0 rfl) ?_
  refine lv_if_ne (tgt := 198) (pc := 190) hx hb dX11_days_190 (by decide) (fun c1 => ?_) (fun c1 => ?_)
  · have hf := pt_f c1 hf
    refine lv_iload (pc := 198) hx hb dX11_days_198 (lv_at hl 1 rfl) ?_
    cases hf
    exact ret_i C hP hD hS dX11_days_200
  · have hf := pt_t c1 hf
    refine lv_iload (pc := 193) hx hb dX11_days_193 (lv_at hl 2 rfl) ?_
    refine lv_goto (tgt := 200) (pc := 195) hx hb dX11_days_195 (by decide) ?_
    cases hf
    exact ret_i C hP hD hS dX11_days_200
set_option maxRecDepth 100000 in
set_option maxHeartbeats 4000000 in
theorem wX11_days_162 (C : Cx p s m args meth c D cA cX11_days 9 RX11 (some .int)) (hA : ∀ q : Nat, s.heap.size ≤ q → A q) {N : Nat} {z : Int32 × St} {p1 : Int32} {p2 : Int32} {p3 : Int32} : ∀ (k : Nat) (x4 : Int32) (x5 : Int32) (x6 : Int32) (S : St), fX11_days_l162 N p1 p2 p3 k (x4, x5, x6, S) = some z → ∀ (H : Heap) (locs : List Loc) (ls : Array Slot), va_P D vwCl (w_M cA a S) H → va_D A (w_M cA a S) → va_S A s.heap H locs → lv_has ls 9 [(0, .ref (a 0)), (3, .int p3), (4, .int x4), (5, .int x5), (6, .int x6)] → W p l e (rmU 2 46 0 0) s m args below meth c H locs 0 0 (MQ below (QI D A z.1 (w_M cA a z.2)) args s 0 0 A) (F0 m 162 ls []) := by
  obtain ⟨hx, hb, hml, hown, hts, hK, hN, hr, hlk⟩ := id C
  intro k
  induction k with
  | zero =>
    intro x4 x5 x6 S hf
    have hf : (none : Option (Int32 × St)) = some z := hf
    cases hf
  | succ k hg162 =>
    intro x4 x5 x6 S hf H locs ls hP hD hS hl
    have hf : fX11_days_b162 N p1 p2 p3 (fX11_days_l162 N p1 p2 p3 k) x4 x5 x6 S = some z := hf
    unfold fX11_days_b162 at hf
    refine lv_iload (pc := 162) hx hb dX11_days_162 (lv_at hl 4 rfl) ?_
    refine lv_bipush (v := (10 : Int32)) (pc := 164) hx hb dX11_days_164 (by decide) ?_
    refine lv_icmp_ge (tgt := 189) (pc := 166) hx hb dX11_days_166 (by decide) (fun c1 => ?_) (fun c1 => ?_)
    · have hf := pt_t c1 hf
      exact wX11_days_189 C hA  hf hP hD hS (lv_sub hl [1, 2, 3] rfl)
    · have hf := pt_f c1 hf
      refine lv_aload_n (pc := 169) hx hb dX11_days_169 rfl (lv_at hl 0 rfl) ?_
      refine ge_RX11_34_M_0_0 (pc := 170) C hP dX11_days_170 ?_
      refine lv_iload (pc := 173) hx hb dX11_days_173 (lv_at hl 4 rfl) ?_
      refine lv_aload_n (pc := 175) hx hb dX11_days_175 rfl (lv_at hl 0 rfl) ?_
      refine ge_RX11_58_M_0_0 (pc := 176) C hP dX11_days_176 ?_
      refine lv_iload (pc := 179) hx hb dX11_days_179 (lv_at hl 4 rfl) ?_
      obtain ⟨h2, hf⟩ := pt_g hf
      refine ld_M_0_17 (pc := 181) (j := x6.toNatClampNeg) C hP h2 rfl dX11_days_181 ?_
      obtain ⟨h3, hf⟩ := pt_g hf
      refine sr_M_0_9 (pc := 182) (j := x6.toNatClampNeg) C hP hD hS h3 rfl dX11_days_182 (fun H locs hP hD hS => ?_)
      refine lv_iinc (v := (x6 + 1)) (lv' := [(6, .int ((x6 + 1))), (0, .ref (a 0)), (3, .int p3), (4, .int x4), (5, .int x5)]) (pc := 183) hx hb dX11_days_183 hl (k := 4) rfl (by rfl) (by decide) rfl (fun ls hl => ?_)
      refine lv_goto (tgt := 162) (pc := 186) hx hb dX11_days_186 (by decide) ?_
      exact hg162 x4 x5 ((x6 + 1)) ((sti S 9 x6.toNatClampNeg ((S 27 x6.toNatClampNeg)))) hf _ _ _ hP hD hS (lv_sub hl [1, 2, 3, 4, 0] rfl)
set_option maxRecDepth 100000 in
set_option maxHeartbeats 4000000 in
theorem wX11_days_150 (C : Cx p s m args meth c D cA cX11_days 9 RX11 (some .int)) (hA : ∀ q : Nat, s.heap.size ≤ q → A q) {N : Nat} {z : Int32 × St} {p1 : Int32} {p2 : Int32} {p3 : Int32} {x4 : Int32} {S : St} (hf : fX11_days_j150 N p1 p2 p3 x4 S = some z) {H : Heap} {locs : List Loc} {ls : Array Slot} (hP : va_P D vwCl (w_M cA a S) H) (hD : va_D A (w_M cA a S)) (hS : va_S A s.heap H locs) (hl : lv_has ls 9 [(0, .ref (a 0)), (3, .int p3), (4, .int x4)]) : W p l e (rmU 2 46 0 0) s m args below meth c H locs 0 0 (MQ below (QI D A z.1 (w_M cA a z.2)) args s 0 0 A) (F0 m 150 ls []) := by
  obtain ⟨hx, hb, hml, hown, hts, hK, hN, hr, hlk⟩ := id C
  unfold fX11_days_j150 at hf
  refine lv_aload_n (pc := 150) hx hb dX11_days_150 rfl (lv_at hl 0 rfl) ?_
  refine lv_sipush (v := (999 : Int32)) (pc := 151) hx hb dX11_days_151 (by decide) ?_
  obtain ⟨q1, hq1, hf⟩ := pt_b hf
  refine all_i (runU_V (pc := 154) (As := [.int ((999 : Int32))]) (b := a 0) (rest := []) (ci := 10) (q0 := 0) C lk_RX11_140 (kX11_sayable l D cA a hq1 H.size) ⟨Nat.le_of_ble_eq_true rfl, Nat.le_of_ble_eq_true rfl⟩ ⟨Nat.le_refl _, Nat.le_refl _⟩ hP hD rfl rfl rfl hl.1 rfl (Nat.le_of_ble_eq_true rfl) dX11_days_154) hD hS hA (fun H locs hP hD hS => ?_)
  refine lv_istore (lv' := [(5, .int q1), (0, .ref (a 0)), (3, .int p3), (4, .int x4)]) (pc := 157) hx hb dX11_days_157 hl (by decide) rfl (fun ls hl => ?_)
  refine lv_iconst (v := (0 : Int32)) (pc := 159) hx hb dX11_days_159 (by decide) ?_
  refine lv_istore (lv' := [(6, .int ((0 : Int32))), (5, .int q1), (0, .ref (a 0)), (3, .int p3), (4, .int x4)]) (pc := 160) hx hb dX11_days_160 hl (by decide) rfl (fun ls hl => ?_)
  exact wX11_days_162 C hA  _ x4 q1 ((0 : Int32)) S hf _ _ _ hP hD hS (lv_sub hl [2, 3, 4, 1, 0] rfl)
set_option maxRecDepth 100000 in
set_option maxHeartbeats 4000000 in
theorem wX11_days_72 (C : Cx p s m args meth c D cA cX11_days 9 RX11 (some .int)) (hA : ∀ q : Nat, s.heap.size ≤ q → A q) {N : Nat} {z : Int32 × St} {p1 : Int32} {p2 : Int32} {p3 : Int32} : ∀ (k : Nat) (x4 : Int32) (x5 : Int32) (S : St), fX11_days_l72 N p1 p2 p3 k (x4, x5, S) = some z → ∀ (H : Heap) (locs : List Loc) (ls : Array Slot), va_P D vwCl (w_M cA a S) H → va_D A (w_M cA a S) → va_S A s.heap H locs → lv_has ls 9 [(0, .ref (a 0)), (1, .int p1), (2, .int p2), (3, .int p3), (4, .int x4), (5, .int x5)] → W p l e (rmU 2 46 0 0) s m args below meth c H locs 0 0 (MQ below (QI D A z.1 (w_M cA a z.2)) args s 0 0 A) (F0 m 72 ls []) := by
  obtain ⟨hx, hb, hml, hown, hts, hK, hN, hr, hlk⟩ := id C
  intro k
  induction k with
  | zero =>
    intro x4 x5 S hf
    have hf : (none : Option (Int32 × St)) = some z := hf
    cases hf
  | succ k hg72 =>
    intro x4 x5 S hf H locs ls hP hD hS hl
    have hf : fX11_days_b72 N p1 p2 p3 (fX11_days_l72 N p1 p2 p3 k) x4 x5 S = some z := hf
    unfold fX11_days_b72 at hf
    refine lv_iload (pc := 72) hx hb dX11_days_72 (lv_at hl 5 rfl) ?_
    refine lv_iload_n (pc := 74) hx hb dX11_days_74 rfl (lv_at hl 2 rfl) ?_
    refine lv_icmp_ge (tgt := 150) (pc := 75) hx hb dX11_days_75 (by decide) (fun c1 => ?_) (fun c1 => ?_)
    · have hf := pt_t c1 hf
      exact wX11_days_150 C hA  hf hP hD hS (lv_sub hl [0, 3, 4] rfl)
    · have hf := pt_f c1 hf
      refine lv_ldc2 (pc := 78) (v := (7919 : Int64)) hx hb hown (hts _ kl_RX11_231) dX11_days_78 ?_
      refine lv_iload_n (pc := 81) hx hb dX11_days_81 rfl (lv_at hl 1 rfl) ?_
      refine lv_i2l (v := p1.toInt64) (pc := 82) hx hb dX11_days_82 rfl ?_
      refine lv_lmul (pc := 83) hx hb dX11_days_83 ?_
      refine lv_ldc2 (pc := 84) (v := (6151 : Int64)) hx hb hown (hts _ kl_RX11_233) dX11_days_84 ?_
      refine lv_iload (pc := 87) hx hb dX11_days_87 (lv_at hl 5 rfl) ?_
      refine lv_i2l (v := x5.toInt64) (pc := 89) hx hb dX11_days_89 rfl ?_
      refine lv_lmul (pc := 90) hx hb dX11_days_90 ?_
      refine lv_ladd (pc := 91) hx hb dX11_days_91 ?_
      refine lv_lconst (v := (1 : Int64)) (pc := 92) hx hb dX11_days_92 (by decide) ?_
      refine lv_ladd (pc := 93) hx hb dX11_days_93 ?_
      refine lv_topl (fun v2 ev2 => ?_)
      have hf := pt_n ev2 hf
      refine lv_lstore (lv' := [(6, .long v2), (0, .ref (a 0)), (1, .int p1), (2, .int p2), (3, .int p3), (4, .int x4), (5, .int x5)]) (pc := 94) hx hb dX11_days_94 hl (by decide) rfl (fun ls hl => ?_)
      refine lv_lload (pc := 96) hx hb dX11_days_96 (lv_at hl 0 rfl) ?_
      refine lv_lload (pc := 98) hx hb dX11_days_98 (lv_at hl 0 rfl) ?_
      refine lv_lmul (pc := 100) hx hb dX11_days_100 ?_
      refine lv_ldc2 (pc := 101) (v := (65521 : Int64)) hx hb hown (hts _ kl_RX11_235) dX11_days_101 ?_
      refine lv_lrem (pc := 104) hx hb dX11_days_104 (by decide) ?_
      refine lv_ldc2 (pc := 105) (v := (4 : Int64)) hx hb hown (hts _ kl_RX11_237) dX11_days_105 ?_
      refine lv_ldiv (pc := 108) hx hb dX11_days_108 (by decide) ?_
      refine lv_ldc2 (pc := 109) (v := (10 : Int64)) hx hb hown (hts _ kl_RX11_150) dX11_days_109 ?_
      refine lv_lrem (pc := 112) hx hb dX11_days_112 (by decide) ?_
      refine lv_l2i (v := (((((v2 * v2) - (v2 * v2) / (65521 : Int64) * (65521 : Int64)) / (4 : Int64)) - (((v2 * v2) - (v2 * v2) / (65521 : Int64) * (65521 : Int64)) / (4 : Int64)) / (10 : Int64) * (10 : Int64))).toInt32) (pc := 113) hx hb dX11_days_113 rfl ?_
      refine lv_topi (fun v3 ev3 => ?_)
      have hf := pt_n ev3 hf
      refine lv_istore (lv' := [(8, .int v3), (6, .long v2), (0, .ref (a 0)), (1, .int p1), (2, .int p2), (3, .int p3), (4, .int x4), (5, .int x5)]) (pc := 114) hx hb dX11_days_114 hl (by decide) rfl (fun ls hl => ?_)
      refine lv_aload_n (pc := 116) hx hb dX11_days_116 rfl (lv_at hl 2 rfl) ?_
      refine ge_RX11_34_M_0_0 (pc := 117) C hP dX11_days_117 ?_
      refine lv_iload (pc := 120) hx hb dX11_days_120 (lv_at hl 0 rfl) ?_
      refine lv_iconst (v := (1 : Int32)) (pc := 122) hx hb dX11_days_122 (by decide) ?_
      refine lv_aload_n (pc := 123) hx hb dX11_days_123 rfl (lv_at hl 2 rfl) ?_
      refine ge_RX11_34_M_0_0 (pc := 124) C hP dX11_days_124 ?_
      refine lv_iload (pc := 127) hx hb dX11_days_127 (lv_at hl 0 rfl) ?_
      obtain ⟨h4, hf⟩ := pt_g hf
      refine ld_M_0_9 (pc := 129) (j := v3.toNatClampNeg) C hP h4 rfl dX11_days_129 ?_
      refine lv_isub (pc := 130) hx hb dX11_days_130 ?_
      obtain ⟨h5, hf⟩ := pt_g hf
      refine sr_M_0_9 (pc := 131) (j := v3.toNatClampNeg) C hP hD hS h5 rfl dX11_days_131 (fun H locs hP hD hS => ?_)
      refine lv_iload (pc := 132) hx hb dX11_days_132 (lv_at hl 6 rfl) ?_
      refine lv_aload_n (pc := 134) hx hb dX11_days_134 rfl (lv_at hl 2 rfl) ?_
      refine ge_RX11_34_M_0_0 (pc := 135) C hP dX11_days_135 ?_
      refine lv_bipush (v := (7 : Int32)) (pc := 138) hx hb dX11_days_138 (by decide) ?_
      refine ld_M_0_9 (pc := 140) (j := 7) C hP (inK rfl) rfl dX11_days_140 ?_
      refine lv_iadd (pc := 141) hx hb dX11_days_141 ?_
      refine lv_topi (fun v6 ev6 => ?_)
      have hf := pt_n ev6 hf
      refine lv_istore (lv' := [(4, .int v6), (8, .int v3), (6, .long v2), (0, .ref (a 0)), (1, .int p1), (2, .int p2), (3, .int p3), (5, .int x5)]) (pc := 142) hx hb dX11_days_142 hl (by decide) rfl (fun ls hl => ?_)
      refine lv_iinc (v := (x5 + 1)) (lv' := [(5, .int ((x5 + 1))), (4, .int v6), (8, .int v3), (6, .long v2), (0, .ref (a 0)), (1, .int p1), (2, .int p2), (3, .int p3)]) (pc := 144) hx hb dX11_days_144 hl (k := 7) rfl (by rfl) (by decide) rfl (fun ls hl => ?_)
      refine lv_goto (tgt := 72) (pc := 147) hx hb dX11_days_147 (by decide) ?_
      exact hg72 v6 ((x5 + 1)) ((sti S 9 v3.toNatClampNeg (((1 : Int32) - (S 9 v3.toNatClampNeg))))) hf _ _ _ hP hD hS (lv_sub hl [4, 5, 6, 7, 1, 0] rfl)
set_option maxRecDepth 100000 in
set_option maxHeartbeats 4000000 in
theorem wX11_days_66 (C : Cx p s m args meth c D cA cX11_days 9 RX11 (some .int)) (hA : ∀ q : Nat, s.heap.size ≤ q → A q) {N : Nat} {z : Int32 × St} {p1 : Int32} {p2 : Int32} {p3 : Int32} {S : St} (hf : fX11_days_j66 N p1 p2 p3 S = some z) {H : Heap} {locs : List Loc} {ls : Array Slot} (hP : va_P D vwCl (w_M cA a S) H) (hD : va_D A (w_M cA a S)) (hS : va_S A s.heap H locs) (hl : lv_has ls 9 [(0, .ref (a 0)), (1, .int p1), (2, .int p2), (3, .int p3)]) : W p l e (rmU 2 46 0 0) s m args below meth c H locs 0 0 (MQ below (QI D A z.1 (w_M cA a z.2)) args s 0 0 A) (F0 m 66 ls []) := by
  obtain ⟨hx, hb, hml, hown, hts, hK, hN, hr, hlk⟩ := id C
  unfold fX11_days_j66 at hf
  refine lv_iconst (v := (0 : Int32)) (pc := 66) hx hb dX11_days_66 (by decide) ?_
  refine lv_istore (lv' := [(4, .int ((0 : Int32))), (0, .ref (a 0)), (1, .int p1), (2, .int p2), (3, .int p3)]) (pc := 67) hx hb dX11_days_67 hl (by decide) rfl (fun ls hl => ?_)
  refine lv_iconst (v := (0 : Int32)) (pc := 69) hx hb dX11_days_69 (by decide) ?_
  refine lv_istore (lv' := [(5, .int ((0 : Int32))), (4, .int ((0 : Int32))), (0, .ref (a 0)), (1, .int p1), (2, .int p2), (3, .int p3)]) (pc := 70) hx hb dX11_days_70 hl (by decide) rfl (fun ls hl => ?_)
  exact wX11_days_72 C hA  _ ((0 : Int32)) ((0 : Int32)) S hf _ _ _ hP hD hS (lv_sub hl [2, 3, 4, 5, 1, 0] rfl)
set_option maxRecDepth 100000 in
set_option maxHeartbeats 4000000 in
theorem wX11_days_39 (C : Cx p s m args meth c D cA cX11_days 9 RX11 (some .int)) (hA : ∀ q : Nat, s.heap.size ≤ q → A q) {N : Nat} {z : Int32 × St} {p1 : Int32} {p2 : Int32} {p3 : Int32} : ∀ (k : Nat) (x4 : Int32) (S : St), fX11_days_l39 N p1 p2 p3 k (x4, S) = some z → ∀ (H : Heap) (locs : List Loc) (ls : Array Slot), va_P D vwCl (w_M cA a S) H → va_D A (w_M cA a S) → va_S A s.heap H locs → lv_has ls 9 [(0, .ref (a 0)), (1, .int p1), (2, .int p2), (3, .int p3), (4, .int x4)] → W p l e (rmU 2 46 0 0) s m args below meth c H locs 0 0 (MQ below (QI D A z.1 (w_M cA a z.2)) args s 0 0 A) (F0 m 39 ls []) := by
  obtain ⟨hx, hb, hml, hown, hts, hK, hN, hr, hlk⟩ := id C
  intro k
  induction k with
  | zero =>
    intro x4 S hf
    have hf : (none : Option (Int32 × St)) = some z := hf
    cases hf
  | succ k hg39 =>
    intro x4 S hf H locs ls hP hD hS hl
    have hf : fX11_days_b39 N p1 p2 p3 (fX11_days_l39 N p1 p2 p3 k) x4 S = some z := hf
    unfold fX11_days_b39 at hf
    refine lv_iload (pc := 39) hx hb dX11_days_39 (lv_at hl 4 rfl) ?_
    refine lv_bipush (v := (10 : Int32)) (pc := 41) hx hb dX11_days_41 (by decide) ?_
    refine lv_icmp_ge (tgt := 66) (pc := 43) hx hb dX11_days_43 (by decide) (fun c1 => ?_) (fun c1 => ?_)
    · have hf := pt_t c1 hf
      exact wX11_days_66 C hA  hf hP hD hS (lv_sub hl [0, 1, 2, 3] rfl)
    · have hf := pt_f c1 hf
      refine lv_aload_n (pc := 46) hx hb dX11_days_46 rfl (lv_at hl 0 rfl) ?_
      refine ge_RX11_58_M_0_0 (pc := 47) C hP dX11_days_47 ?_
      refine lv_iload (pc := 50) hx hb dX11_days_50 (lv_at hl 4 rfl) ?_
      refine lv_aload_n (pc := 52) hx hb dX11_days_52 rfl (lv_at hl 0 rfl) ?_
      refine ge_RX11_34_M_0_0 (pc := 53) C hP dX11_days_53 ?_
      refine lv_iload (pc := 56) hx hb dX11_days_56 (lv_at hl 4 rfl) ?_
      obtain ⟨h2, hf⟩ := pt_g hf
      refine ld_M_0_9 (pc := 58) (j := x4.toNatClampNeg) C hP h2 rfl dX11_days_58 ?_
      obtain ⟨h3, hf⟩ := pt_g hf
      refine sr_M_0_17 (pc := 59) (j := x4.toNatClampNeg) C hP hD hS h3 rfl dX11_days_59 (fun H locs hP hD hS => ?_)
      refine lv_iinc (v := (x4 + 1)) (lv' := [(4, .int ((x4 + 1))), (0, .ref (a 0)), (1, .int p1), (2, .int p2), (3, .int p3)]) (pc := 60) hx hb dX11_days_60 hl (k := 4) rfl (by rfl) (by decide) rfl (fun ls hl => ?_)
      refine lv_goto (tgt := 39) (pc := 63) hx hb dX11_days_63 (by decide) ?_
      exact hg39 ((x4 + 1)) ((sti S 27 x4.toNatClampNeg ((S 9 x4.toNatClampNeg)))) hf _ _ _ hP hD hS (lv_sub hl [1, 2, 3, 4, 0] rfl)
set_option maxRecDepth 100000 in
set_option maxHeartbeats 4000000 in
theorem wX11_days (C : Cx p s m args meth c D cA cX11_days 9 RX11 (some .int)) (hA : ∀ q : Nat, s.heap.size ≤ q → A q) {N : Nat} {z : Int32 × St} {S : St} {p1 : Int32} {p2 : Int32} {p3 : Int32} (hf : fX11_days N S p1 p2 p3 = some z) {H : Heap} {locs : List Loc} {ls : Array Slot} (hP : va_P D vwCl (w_M cA a S) H) (hD : va_D A (w_M cA a S)) (hS : va_S A s.heap H locs) (hl : lv_has ls 9 [(0, .ref (a 0)), (1, .int p1), (2, .int p2), (3, .int p3)]) : W p l e (rmU 2 46 0 0) s m args below meth c H locs 0 0 (MQ below (QI D A z.1 (w_M cA a z.2)) args s 0 0 A) (F0 m 0 ls []) := by
  obtain ⟨hx, hb, hml, hown, hts, hK, hN, hr, hlk⟩ := id C
  unfold fX11_days at hf
  refine lv_iload_n (pc := 0) hx hb dX11_days_0 rfl (lv_at hl 1 rfl) ?_
  refine lv_i2l (v := p1.toInt64) (pc := 1) hx hb dX11_days_1 rfl ?_
  refine lv_lconst (v := (0 : Int64)) (pc := 2) hx hb dX11_days_2 (by decide) ?_
  refine lv_ldc2 (pc := 3) (v := (9999 : Int64)) hx hb hown (hts _ kl_RX11_202) dX11_days_3 ?_
  obtain ⟨q1, hq1, hf⟩ := pt_b hf
  have hPc : va_P D vwCl ([] : va_W) H := hP.sub [] rfl
  have hDc : va_D A ([] : va_W) := hD.sub [] (by decide) rfl
  refine prt_i (runU_S (pc := 6) (As := [.long p1.toInt64, .long ((0 : Int64)), .long ((9999 : Int64))]) (rest := []) C lk_RX11_72 (kX11_in l D cA hq1 H.size) ⟨Nat.le_of_ble_eq_true rfl, Nat.le_of_ble_eq_true rfl⟩ ⟨Nat.le_refl _, Nat.le_refl _⟩ hPc hDc hl.1 rfl (Nat.le_of_ble_eq_true rfl) dX11_days_6) hP hD hS hA [] rfl (fun H locs hP hD hS => ?_)
  refine lv_if_eq (tgt := 34) (pc := 9) hx hb dX11_days_9 (by decide) (fun c2 => ?_) (fun c2 => ?_)
  · have hf := pt_t c2 hf
    refine lv_iconst (v := (-1 : Int32)) (pc := 34) hx hb dX11_days_34 (by decide) ?_
    cases hf
    exact ret_i C hP hD hS dX11_days_35
  · have hf := pt_f c2 hf
    refine lv_iload_n (pc := 12) hx hb dX11_days_12 rfl (lv_at hl 2 rfl) ?_
    refine lv_i2l (v := p2.toInt64) (pc := 13) hx hb dX11_days_13 rfl ?_
    refine lv_lconst (v := (1 : Int64)) (pc := 14) hx hb dX11_days_14 (by decide) ?_
    refine lv_ldc2 (pc := 15) (v := (50 : Int64)) hx hb hown (hts _ kl_RX11_229) dX11_days_15 ?_
    obtain ⟨q3, hq3, hf⟩ := pt_b hf
    have hPc : va_P D vwCl ([] : va_W) H := hP.sub [] rfl
    have hDc : va_D A ([] : va_W) := hD.sub [] (by decide) rfl
    refine prt_i (runU_S (pc := 18) (As := [.long p2.toInt64, .long ((1 : Int64)), .long ((50 : Int64))]) (rest := []) C lk_RX11_72 (kX11_in l D cA hq3 H.size) ⟨Nat.le_of_ble_eq_true rfl, Nat.le_of_ble_eq_true rfl⟩ ⟨Nat.le_refl _, Nat.le_refl _⟩ hPc hDc hl.1 rfl (Nat.le_of_ble_eq_true rfl) dX11_days_18) hP hD hS hA [] rfl (fun H locs hP hD hS => ?_)
    refine lv_if_eq (tgt := 34) (pc := 21) hx hb dX11_days_21 (by decide) (fun c4 => ?_) (fun c4 => ?_)
    · have hf := pt_t c4 hf
      refine lv_iconst (v := (-1 : Int32)) (pc := 34) hx hb dX11_days_34 (by decide) ?_
      cases hf
      exact ret_i C hP hD hS dX11_days_35
    · have hf := pt_f c4 hf
      refine lv_iload_n (pc := 24) hx hb dX11_days_24 rfl (lv_at hl 3 rfl) ?_
      refine lv_i2l (v := p3.toInt64) (pc := 25) hx hb dX11_days_25 rfl ?_
      refine lv_lconst (v := (0 : Int64)) (pc := 26) hx hb dX11_days_26 (by decide) ?_
      refine lv_lconst (v := (1 : Int64)) (pc := 27) hx hb dX11_days_27 (by decide) ?_
      obtain ⟨q5, hq5, hf⟩ := pt_b hf
      have hPc : va_P D vwCl ([] : va_W) H := hP.sub [] rfl
      have hDc : va_D A ([] : va_W) := hD.sub [] (by decide) rfl
      refine prt_i (runU_S (pc := 28) (As := [.long p3.toInt64, .long ((0 : Int64)), .long ((1 : Int64))]) (rest := []) C lk_RX11_72 (kX11_in l D cA hq5 H.size) ⟨Nat.le_of_ble_eq_true rfl, Nat.le_of_ble_eq_true rfl⟩ ⟨Nat.le_refl _, Nat.le_refl _⟩ hPc hDc hl.1 rfl (Nat.le_of_ble_eq_true rfl) dX11_days_28) hP hD hS hA [] rfl (fun H locs hP hD hS => ?_)
      refine lv_if_ne (tgt := 36) (pc := 31) hx hb dX11_days_31 (by decide) (fun c6 => ?_) (fun c6 => ?_)
      · have hf := pt_f c6 hf
        refine lv_iconst (v := (0 : Int32)) (pc := 36) hx hb dX11_days_36 (by decide) ?_
        refine lv_istore (lv' := [(4, .int ((0 : Int32))), (0, .ref (a 0)), (1, .int p1), (2, .int p2), (3, .int p3)]) (pc := 37) hx hb dX11_days_37 hl (by decide) rfl (fun ls hl => ?_)
        exact wX11_days_39 C hA  _ ((0 : Int32)) S hf _ _ _ hP hD hS (lv_sub hl [1, 2, 3, 4, 0] rfl)
      · have hf := pt_t c6 hf
        refine lv_iconst (v := (-1 : Int32)) (pc := 34) hx hb dX11_days_34 (by decide) ?_
        cases hf
        exact ret_i C hP hD hS dX11_days_35
set_option maxRecDepth 100000 in
set_option maxHeartbeats 4000000 in
theorem kX11_days (l : Launch) (D : va_G) (cA : Nat → ClassId) (a : Nat → Nat) {N : Nat} {S : St} {p1 : Int32} {p2 : Int32} {p3 : Int32} {z : Int32 × St} (hf : fX11_days N S p1 p2 p3 = some z) : CtI l yX11_days cX11_days 9 (some .int) 2 46 D cA (w_M cA a S) (w_M cA a z.2) [.ref (a 0), .int p1, .int p2, .int p3] z.1 := by
  intro sz
  refine Met.ofW (cc := cX11_days) (maxL := 9) (ret := (some .int)) (by decide) rfl ?_
  intro p e s m args below meth c s₁ B hml hv
  obtain ⟨rfl, hsz, hP, hK, hD0⟩ := hv
  subst hsz
  have C : Cx p s m _ meth c D cA cX11_days 9 RX11 (some .int) := Cx.of B hml hK
  have hD := hD0.self (sz := s.heap.size)
  have hA : ∀ q : Nat, s.heap.size ≤ q → va_A (w_M cA a S) s.heap.size q := fun q h => Or.inr h
  have hS : va_S (va_A (w_M cA a S) s.heap.size) s.heap s.heap [] := va_S.rf
  have hl := lv_entry ([.ref (a 0), .int p1, .int p2, .int p3]) (n := 9) (Nat.le_of_ble_eq_true rfl)
  rw [lg_entry_eq]
  generalize (lg_sl ([.ref (a 0), .int p1, .int p2, .int p3]) ++ List.replicate (9 - (lg_sl ([.ref (a 0), .int p1, .int p2, .int p3])).length) Slot.unset).toArray = ls at hl ⊢
  exact wX11_days C hA hf hP hD hS hl
theorem ge_RX11_122_M_0_0 (C : Cx p s m args meth c D cA cc nL RX11 ret) (hP : va_P D vwCl (w_M cA a S) H) (hdg : decode cc pc = .ok (.getfield 122, 3)) (kk : W p l e R s m args below meth c H locs cells slots Q (F0 m (pc + 3) ls (.int (S 13 0) :: rest))) : W p l e R s m args below meth c H locs cells slots Q (F0 m pc ls (.ref (a 0) :: rest)) := by
  obtain ⟨hx, hb, -, hown, hts, hK, -, -, -⟩ := C
  exact va_get (D := D) (ci := 10) (v := .int (S 13 0)) (C := RX11) (T := TX11) (N := 28) hx hb hts inlX11 hown hK hP 0 rfl rfl 13 (by decide) (hts _ fl_RX11_122) (fun _ h9 => h9) rfl hdg kk
theorem fl_RX11_40 : Cond.fieldLink RX11 40 "SevenOnStrikeModel" "kept" "[I" ∈ wsL_law := by decide +kernel
theorem ge_RX11_40_M_0_0 (C : Cx p s m args meth c D cA cc nL RX11 ret) (hP : va_P D vwCl (w_M cA a S) H) (hdg : decode cc pc = .ok (.getfield 40, 3)) (kk : W p l e R s m args below meth c H locs cells slots Q (F0 m (pc + 3) ls (.ref (a 11) :: rest))) : W p l e R s m args below meth c H locs cells slots Q (F0 m pc ls (.ref (a 0) :: rest)) := by
  obtain ⟨hx, hb, -, hown, hts, hK, -, -, -⟩ := C
  exact va_get (D := D) (ci := 10) (v := .ref (a 11)) (C := RX11) (T := TX11) (N := 28) hx hb hts inlX11 hown hK hP 0 rfl rfl 12 (by decide) (hts _ fl_RX11_40) (fun _ h9 => h9) rfl hdg kk
theorem sr_M_0_11 {i v : Int32} {j : Nat} (C : Cx p s m args meth c D cA cc nL own ret) (hP : va_P D vwCl (w_M cA a S) H) (hD : va_D A (w_M cA a S)) (hS : va_S A s.heap H locs) (hin : vp_in i 40) (hj : i.toNatClampNeg = j) (hdg : decode cc pc = .ok (.iastore, 1)) (kk : ∀ (H1 : Heap) (locs1 : List Loc), va_P D vwCl (w_M cA a (sti S 12 j v)) H1 → va_D A (w_M cA a (sti S 12 j v)) → va_S A s.heap H1 locs1 → W p l e R s m args below meth c H1 locs1 cells slots Q (F0 m (pc + 1) ls rest)) : W p l e R s m args below meth c H locs cells slots Q (F0 m pc ls (.int v :: .int i :: .ref (a 11) :: rest)) := by
  obtain ⟨hx, hb, -, hown, hts, hK, -, -, -⟩ := C
  subst hj
  exact va_iast hx hb hK hP hD hS 11 0 rfl rfl hin hdg (fun H1 locs1 h1 h2 h3 => kk H1 locs1 h1 h2 h3)
def fX11_keep_j45 (N : Nat) (S : St) : Option (Int32 × St) :=
  some (((stf S 13 (((S 13 0) + (1 : Int32)))) 13 0), (stf S 13 (((S 13 0) + (1 : Int32)))))
def fX11_keep_b13 (N : Nat) (g13 : Int32 × St → Option (Int32 × St)) (x1 : Int32) (S : St) : Option (Int32 × St) :=
  if (20 : Int32) ≤ x1 then (fX11_keep_j45 N S) else (if ¬ (x1 < 0 ∨ 20 ≤ x1.toNatClampNeg) then (if ¬ ((((20 : Int32) * (S 13 0)) + x1) < 0 ∨ 40 ≤ ((((20 : Int32) * (S 13 0)) + x1)).toNatClampNeg) then (g13 (((x1 + 1), (sti S 12 (((((20 : Int32) * (S 13 0)) + x1)).toNatClampNeg) ((S 9 x1.toNatClampNeg)))))) else none) else none)
def fX11_keep_l13 (N : Nat) (k : Nat) (q : Int32 × St) : Option (Int32 × St) := lpN (fun g q => fX11_keep_b13 N  g q.1 q.2) k q
def fX11_keep (N : Nat) (S : St) : Option (Int32 × St) :=
  if (S 13 0) = (2 : Int32) then (some ((-3 : Int32), S)) else (fX11_keep_l13 N  N (((0 : Int32), S)))
set_option maxRecDepth 100000 in
set_option maxHeartbeats 4000000 in
theorem wX11_keep_45 (C : Cx p s m args meth c D cA cX11_keep 2 RX11 (some .int)) (hA : ∀ q : Nat, s.heap.size ≤ q → A q) {N : Nat} {z : Int32 × St} {S : St} (hf : fX11_keep_j45 N S = some z) {H : Heap} {locs : List Loc} {ls : Array Slot} (hP : va_P D vwCl (w_M cA a S) H) (hD : va_D A (w_M cA a S)) (hS : va_S A s.heap H locs) (hl : lv_has ls 2 [(0, .ref (a 0))]) : W p l e (rmU 0 0 0 0) s m args below meth c H locs 0 0 (MQ below (QI D A z.1 (w_M cA a z.2)) args s 0 0 A) (F0 m 45 ls []) := by
  obtain ⟨hx, hb, hml, hown, hts, hK, hN, hr, hlk⟩ := id C
  unfold fX11_keep_j45 at hf
  refine lv_aload_n (pc := 45) hx hb dX11_keep_45 rfl (lv_at hl 0 rfl) ?_
  refine lv_dup (pc := 46) hx hb dX11_keep_46 rfl ?_
  refine ge_RX11_122_M_0_0 (pc := 47) C hP dX11_keep_47 ?_
  refine lv_iconst (v := (1 : Int32)) (pc := 50) hx hb dX11_keep_50 (by decide) ?_
  refine lv_iadd (pc := 51) hx hb dX11_keep_51 ?_
  refine pu_RX11_122_M_0_0 (pc := 52) C hP hD hS dX11_keep_52 (fun H locs hP hD hS => ?_)
  refine lv_aload_n (pc := 55) hx hb dX11_keep_55 rfl (lv_at hl 0 rfl) ?_
  refine ge_RX11_122_M_0_0 (pc := 56) C hP dX11_keep_56 ?_
  cases hf
  exact ret_i C hP hD hS dX11_keep_59
set_option maxRecDepth 100000 in
set_option maxHeartbeats 4000000 in
theorem wX11_keep_13 (C : Cx p s m args meth c D cA cX11_keep 2 RX11 (some .int)) (hA : ∀ q : Nat, s.heap.size ≤ q → A q) {N : Nat} {z : Int32 × St} : ∀ (k : Nat) (x1 : Int32) (S : St), fX11_keep_l13 N  k (x1, S) = some z → ∀ (H : Heap) (locs : List Loc) (ls : Array Slot), va_P D vwCl (w_M cA a S) H → va_D A (w_M cA a S) → va_S A s.heap H locs → lv_has ls 2 [(0, .ref (a 0)), (1, .int x1)] → W p l e (rmU 0 0 0 0) s m args below meth c H locs 0 0 (MQ below (QI D A z.1 (w_M cA a z.2)) args s 0 0 A) (F0 m 13 ls []) := by
  obtain ⟨hx, hb, hml, hown, hts, hK, hN, hr, hlk⟩ := id C
  intro k
  induction k with
  | zero =>
    intro x1 S hf
    have hf : (none : Option (Int32 × St)) = some z := hf
    cases hf
  | succ k hg13 =>
    intro x1 S hf H locs ls hP hD hS hl
    have hf : fX11_keep_b13 N  (fX11_keep_l13 N  k) x1 S = some z := hf
    unfold fX11_keep_b13 at hf
    refine lv_iload_n (pc := 13) hx hb dX11_keep_13 rfl (lv_at hl 1 rfl) ?_
    refine lv_bipush (v := (20 : Int32)) (pc := 14) hx hb dX11_keep_14 (by decide) ?_
    refine lv_icmp_ge (tgt := 45) (pc := 16) hx hb dX11_keep_16 (by decide) (fun c1 => ?_) (fun c1 => ?_)
    · have hf := pt_t c1 hf
      exact wX11_keep_45 C hA  hf hP hD hS (lv_sub hl [0] rfl)
    · have hf := pt_f c1 hf
      refine lv_aload_n (pc := 19) hx hb dX11_keep_19 rfl (lv_at hl 0 rfl) ?_
      refine ge_RX11_40_M_0_0 (pc := 20) C hP dX11_keep_20 ?_
      refine lv_bipush (v := (20 : Int32)) (pc := 23) hx hb dX11_keep_23 (by decide) ?_
      refine lv_aload_n (pc := 25) hx hb dX11_keep_25 rfl (lv_at hl 0 rfl) ?_
      refine ge_RX11_122_M_0_0 (pc := 26) C hP dX11_keep_26 ?_
      refine lv_imul (pc := 29) hx hb dX11_keep_29 ?_
      refine lv_iload_n (pc := 30) hx hb dX11_keep_30 rfl (lv_at hl 1 rfl) ?_
      refine lv_iadd (pc := 31) hx hb dX11_keep_31 ?_
      refine lv_aload_n (pc := 32) hx hb dX11_keep_32 rfl (lv_at hl 0 rfl) ?_
      refine ge_RX11_34_M_0_0 (pc := 33) C hP dX11_keep_33 ?_
      refine lv_iload_n (pc := 36) hx hb dX11_keep_36 rfl (lv_at hl 1 rfl) ?_
      obtain ⟨h2, hf⟩ := pt_g hf
      refine ld_M_0_9 (pc := 37) (j := x1.toNatClampNeg) C hP h2 rfl dX11_keep_37 ?_
      obtain ⟨h3, hf⟩ := pt_g hf
      refine sr_M_0_11 (pc := 38) (j := ((((20 : Int32) * (S 13 0)) + x1)).toNatClampNeg) C hP hD hS h3 rfl dX11_keep_38 (fun H locs hP hD hS => ?_)
      refine lv_iinc (v := (x1 + 1)) (lv' := [(1, .int ((x1 + 1))), (0, .ref (a 0))]) (pc := 39) hx hb dX11_keep_39 hl (k := 1) rfl (by rfl) (by decide) rfl (fun ls hl => ?_)
      refine lv_goto (tgt := 13) (pc := 42) hx hb dX11_keep_42 (by decide) ?_
      exact hg13 ((x1 + 1)) ((sti S 12 (((((20 : Int32) * (S 13 0)) + x1)).toNatClampNeg) ((S 9 x1.toNatClampNeg)))) hf _ _ _ hP hD hS (lv_sub hl [1, 0] rfl)
set_option maxRecDepth 100000 in
set_option maxHeartbeats 4000000 in
theorem wX11_keep (C : Cx p s m args meth c D cA cX11_keep 2 RX11 (some .int)) (hA : ∀ q : Nat, s.heap.size ≤ q → A q) {N : Nat} {z : Int32 × St} {S : St} (hf : fX11_keep N S = some z) {H : Heap} {locs : List Loc} {ls : Array Slot} (hP : va_P D vwCl (w_M cA a S) H) (hD : va_D A (w_M cA a S)) (hS : va_S A s.heap H locs) (hl : lv_has ls 2 [(0, .ref (a 0))]) : W p l e (rmU 0 0 0 0) s m args below meth c H locs 0 0 (MQ below (QI D A z.1 (w_M cA a z.2)) args s 0 0 A) (F0 m 0 ls []) := by
  obtain ⟨hx, hb, hml, hown, hts, hK, hN, hr, hlk⟩ := id C
  unfold fX11_keep at hf
  refine lv_aload_n (pc := 0) hx hb dX11_keep_0 rfl (lv_at hl 0 rfl) ?_
  refine ge_RX11_122_M_0_0 (pc := 1) C hP dX11_keep_1 ?_
  refine lv_iconst (v := (2 : Int32)) (pc := 4) hx hb dX11_keep_4 (by decide) ?_
  refine lv_icmp_ne (tgt := 11) (pc := 5) hx hb dX11_keep_5 (by decide) (fun c1 => ?_) (fun c1 => ?_)
  · have hf := pt_f c1 hf
    refine lv_iconst (v := (0 : Int32)) (pc := 11) hx hb dX11_keep_11 (by decide) ?_
    refine lv_istore_n (lv' := [(1, .int ((0 : Int32))), (0, .ref (a 0))]) (pc := 12) hx hb dX11_keep_12 rfl hl (by decide) rfl (fun ls hl => ?_)
    exact wX11_keep_13 C hA  _ ((0 : Int32)) S hf _ _ _ hP hD hS (lv_sub hl [1, 0] rfl)
  · have hf := pt_t c1 hf
    refine lv_bipush (v := (-3 : Int32)) (pc := 8) hx hb dX11_keep_8 (by decide) ?_
    cases hf
    exact ret_i C hP hD hS dX11_keep_10
set_option maxRecDepth 100000 in
set_option maxHeartbeats 4000000 in
theorem kX11_keep (l : Launch) (D : va_G) (cA : Nat → ClassId) (a : Nat → Nat) {N : Nat} {S : St} {z : Int32 × St} (hf : fX11_keep N S = some z) : CtI l yX11_keep cX11_keep 2 (some .int) 0 0 D cA (w_M cA a S) (w_M cA a z.2) [.ref (a 0)] z.1 := by
  intro sz
  refine Met.ofW (cc := cX11_keep) (maxL := 2) (ret := (some .int)) (by decide) rfl ?_
  intro p e s m args below meth c s₁ B hml hv
  obtain ⟨rfl, hsz, hP, hK, hD0⟩ := hv
  subst hsz
  have C : Cx p s m _ meth c D cA cX11_keep 2 RX11 (some .int) := Cx.of B hml hK
  have hD := hD0.self (sz := s.heap.size)
  have hA : ∀ q : Nat, s.heap.size ≤ q → va_A (w_M cA a S) s.heap.size q := fun q h => Or.inr h
  have hS : va_S (va_A (w_M cA a S) s.heap.size) s.heap s.heap [] := va_S.rf
  have hl := lv_entry ([.ref (a 0)]) (n := 2) (Nat.le_of_ble_eq_true rfl)
  rw [lg_entry_eq]
  generalize (lg_sl ([.ref (a 0)]) ++ List.replicate (2 - (lg_sl ([.ref (a 0)])).length) Slot.unset).toArray = ls at hl ⊢
  exact wX11_keep C hA hf hP hD hS hl
theorem ld_M_0_11 {i : Int32} {j : Nat} (C : Cx p s m args meth c D cA cc nL own ret) (hP : va_P D vwCl (w_M cA a S) H) (hin : vp_in i 40) (hj : i.toNatClampNeg = j) (hdg : decode cc pc = .ok (.iaload, 1)) (kk : W p l e R s m args below meth c H locs cells slots Q (F0 m (pc + 1) ls (.int (S 12 j) :: rest))) : W p l e R s m args below meth c H locs cells slots Q (F0 m pc ls (.int i :: .ref (a 11) :: rest)) := by
  obtain ⟨hx, hb, -, hown, hts, hK, -, -, -⟩ := C
  subst hj
  exact va_iald hx hb hK hP 11 0 rfl rfl hin hdg kk
def fX11_back_j54 (N : Nat) (S : St) : Option (Int32 × St) :=
  some (((stf S 11 ((0 : Int32))) 13 0), (stf S 11 ((0 : Int32))))
def fX11_back_b22 (N : Nat) (g22 : Int32 × St → Option (Int32 × St)) (x1 : Int32) (S : St) : Option (Int32 × St) :=
  if (20 : Int32) ≤ x1 then (fX11_back_j54 N S) else (if ¬ ((((20 : Int32) * (S 13 0)) + x1) < 0 ∨ 40 ≤ ((((20 : Int32) * (S 13 0)) + x1)).toNatClampNeg) then (if ¬ (x1 < 0 ∨ 20 ≤ x1.toNatClampNeg) then (g22 (((x1 + 1), (sti S 9 x1.toNatClampNeg ((S 12 (((((20 : Int32) * (S 13 0)) + x1)).toNatClampNeg))))))) else none) else none)
def fX11_back_l22 (N : Nat) (k : Nat) (q : Int32 × St) : Option (Int32 × St) := lpN (fun g q => fX11_back_b22 N  g q.1 q.2) k q
def fX11_back (N : Nat) (S : St) : Option (Int32 × St) :=
  if (S 13 0) = 0 then (some ((-2 : Int32), S)) else (fX11_back_l22 N  N (((0 : Int32), (stf S 13 (((S 13 0) - (1 : Int32)))))))
set_option maxRecDepth 100000 in
set_option maxHeartbeats 4000000 in
theorem wX11_back_54 (C : Cx p s m args meth c D cA cX11_back 2 RX11 (some .int)) (hA : ∀ q : Nat, s.heap.size ≤ q → A q) {N : Nat} {z : Int32 × St} {S : St} (hf : fX11_back_j54 N S = some z) {H : Heap} {locs : List Loc} {ls : Array Slot} (hP : va_P D vwCl (w_M cA a S) H) (hD : va_D A (w_M cA a S)) (hS : va_S A s.heap H locs) (hl : lv_has ls 2 [(0, .ref (a 0))]) : W p l e (rmU 0 0 0 0) s m args below meth c H locs 0 0 (MQ below (QI D A z.1 (w_M cA a z.2)) args s 0 0 A) (F0 m 54 ls []) := by
  obtain ⟨hx, hb, hml, hown, hts, hK, hN, hr, hlk⟩ := id C
  unfold fX11_back_j54 at hf
  refine lv_aload_n (pc := 54) hx hb dX11_back_54 rfl (lv_at hl 0 rfl) ?_
  refine lv_iconst (v := (0 : Int32)) (pc := 55) hx hb dX11_back_55 (by decide) ?_
  refine pu_RX11_119_M_0_0 (pc := 56) C hP hD hS dX11_back_56 (fun H locs hP hD hS => ?_)
  refine lv_aload_n (pc := 59) hx hb dX11_back_59 rfl (lv_at hl 0 rfl) ?_
  refine ge_RX11_122_M_0_0 (pc := 60) C hP dX11_back_60 ?_
  cases hf
  exact ret_i C hP hD hS dX11_back_63
set_option maxRecDepth 100000 in
set_option maxHeartbeats 4000000 in
theorem wX11_back_22 (C : Cx p s m args meth c D cA cX11_back 2 RX11 (some .int)) (hA : ∀ q : Nat, s.heap.size ≤ q → A q) {N : Nat} {z : Int32 × St} : ∀ (k : Nat) (x1 : Int32) (S : St), fX11_back_l22 N  k (x1, S) = some z → ∀ (H : Heap) (locs : List Loc) (ls : Array Slot), va_P D vwCl (w_M cA a S) H → va_D A (w_M cA a S) → va_S A s.heap H locs → lv_has ls 2 [(0, .ref (a 0)), (1, .int x1)] → W p l e (rmU 0 0 0 0) s m args below meth c H locs 0 0 (MQ below (QI D A z.1 (w_M cA a z.2)) args s 0 0 A) (F0 m 22 ls []) := by
  obtain ⟨hx, hb, hml, hown, hts, hK, hN, hr, hlk⟩ := id C
  intro k
  induction k with
  | zero =>
    intro x1 S hf
    have hf : (none : Option (Int32 × St)) = some z := hf
    cases hf
  | succ k hg22 =>
    intro x1 S hf H locs ls hP hD hS hl
    have hf : fX11_back_b22 N  (fX11_back_l22 N  k) x1 S = some z := hf
    unfold fX11_back_b22 at hf
    refine lv_iload_n (pc := 22) hx hb dX11_back_22 rfl (lv_at hl 1 rfl) ?_
    refine lv_bipush (v := (20 : Int32)) (pc := 23) hx hb dX11_back_23 (by decide) ?_
    refine lv_icmp_ge (tgt := 54) (pc := 25) hx hb dX11_back_25 (by decide) (fun c1 => ?_) (fun c1 => ?_)
    · have hf := pt_t c1 hf
      exact wX11_back_54 C hA  hf hP hD hS (lv_sub hl [0] rfl)
    · have hf := pt_f c1 hf
      refine lv_aload_n (pc := 28) hx hb dX11_back_28 rfl (lv_at hl 0 rfl) ?_
      refine ge_RX11_34_M_0_0 (pc := 29) C hP dX11_back_29 ?_
      refine lv_iload_n (pc := 32) hx hb dX11_back_32 rfl (lv_at hl 1 rfl) ?_
      refine lv_aload_n (pc := 33) hx hb dX11_back_33 rfl (lv_at hl 0 rfl) ?_
      refine ge_RX11_40_M_0_0 (pc := 34) C hP dX11_back_34 ?_
      refine lv_bipush (v := (20 : Int32)) (pc := 37) hx hb dX11_back_37 (by decide) ?_
      refine lv_aload_n (pc := 39) hx hb dX11_back_39 rfl (lv_at hl 0 rfl) ?_
      refine ge_RX11_122_M_0_0 (pc := 40) C hP dX11_back_40 ?_
      refine lv_imul (pc := 43) hx hb dX11_back_43 ?_
      refine lv_iload_n (pc := 44) hx hb dX11_back_44 rfl (lv_at hl 1 rfl) ?_
      refine lv_iadd (pc := 45) hx hb dX11_back_45 ?_
      obtain ⟨h2, hf⟩ := pt_g hf
      refine ld_M_0_11 (pc := 46) (j := ((((20 : Int32) * (S 13 0)) + x1)).toNatClampNeg) C hP h2 rfl dX11_back_46 ?_
      obtain ⟨h3, hf⟩ := pt_g hf
      refine sr_M_0_9 (pc := 47) (j := x1.toNatClampNeg) C hP hD hS h3 rfl dX11_back_47 (fun H locs hP hD hS => ?_)
      refine lv_iinc (v := (x1 + 1)) (lv' := [(1, .int ((x1 + 1))), (0, .ref (a 0))]) (pc := 48) hx hb dX11_back_48 hl (k := 1) rfl (by rfl) (by decide) rfl (fun ls hl => ?_)
      refine lv_goto (tgt := 22) (pc := 51) hx hb dX11_back_51 (by decide) ?_
      exact hg22 ((x1 + 1)) ((sti S 9 x1.toNatClampNeg ((S 12 (((((20 : Int32) * (S 13 0)) + x1)).toNatClampNeg))))) hf _ _ _ hP hD hS (lv_sub hl [1, 0] rfl)
set_option maxRecDepth 100000 in
set_option maxHeartbeats 4000000 in
theorem wX11_back (C : Cx p s m args meth c D cA cX11_back 2 RX11 (some .int)) (hA : ∀ q : Nat, s.heap.size ≤ q → A q) {N : Nat} {z : Int32 × St} {S : St} (hf : fX11_back N S = some z) {H : Heap} {locs : List Loc} {ls : Array Slot} (hP : va_P D vwCl (w_M cA a S) H) (hD : va_D A (w_M cA a S)) (hS : va_S A s.heap H locs) (hl : lv_has ls 2 [(0, .ref (a 0))]) : W p l e (rmU 0 0 0 0) s m args below meth c H locs 0 0 (MQ below (QI D A z.1 (w_M cA a z.2)) args s 0 0 A) (F0 m 0 ls []) := by
  obtain ⟨hx, hb, hml, hown, hts, hK, hN, hr, hlk⟩ := id C
  unfold fX11_back at hf
  refine lv_aload_n (pc := 0) hx hb dX11_back_0 rfl (lv_at hl 0 rfl) ?_
  refine ge_RX11_122_M_0_0 (pc := 1) C hP dX11_back_1 ?_
  refine lv_if_ne (tgt := 10) (pc := 4) hx hb dX11_back_4 (by decide) (fun c1 => ?_) (fun c1 => ?_)
  · have hf := pt_f c1 hf
    refine lv_aload_n (pc := 10) hx hb dX11_back_10 rfl (lv_at hl 0 rfl) ?_
    refine lv_dup (pc := 11) hx hb dX11_back_11 rfl ?_
    refine ge_RX11_122_M_0_0 (pc := 12) C hP dX11_back_12 ?_
    refine lv_iconst (v := (1 : Int32)) (pc := 15) hx hb dX11_back_15 (by decide) ?_
    refine lv_isub (pc := 16) hx hb dX11_back_16 ?_
    refine pu_RX11_122_M_0_0 (pc := 17) C hP hD hS dX11_back_17 (fun H locs hP hD hS => ?_)
    refine lv_iconst (v := (0 : Int32)) (pc := 20) hx hb dX11_back_20 (by decide) ?_
    refine lv_istore_n (lv' := [(1, .int ((0 : Int32))), (0, .ref (a 0))]) (pc := 21) hx hb dX11_back_21 rfl hl (by decide) rfl (fun ls hl => ?_)
    exact wX11_back_22 C hA  _ ((0 : Int32)) ((stf S 13 (((S 13 0) - (1 : Int32))))) hf _ _ _ hP hD hS (lv_sub hl [1, 0] rfl)
  · have hf := pt_t c1 hf
    refine lv_bipush (v := (-2 : Int32)) (pc := 7) hx hb dX11_back_7 (by decide) ?_
    cases hf
    exact ret_i C hP hD hS dX11_back_9
set_option maxRecDepth 100000 in
set_option maxHeartbeats 4000000 in
theorem kX11_back (l : Launch) (D : va_G) (cA : Nat → ClassId) (a : Nat → Nat) {N : Nat} {S : St} {z : Int32 × St} (hf : fX11_back N S = some z) : CtI l yX11_back cX11_back 2 (some .int) 0 0 D cA (w_M cA a S) (w_M cA a z.2) [.ref (a 0)] z.1 := by
  intro sz
  refine Met.ofW (cc := cX11_back) (maxL := 2) (ret := (some .int)) (by decide) rfl ?_
  intro p e s m args below meth c s₁ B hml hv
  obtain ⟨rfl, hsz, hP, hK, hD0⟩ := hv
  subst hsz
  have C : Cx p s m _ meth c D cA cX11_back 2 RX11 (some .int) := Cx.of B hml hK
  have hD := hD0.self (sz := s.heap.size)
  have hA : ∀ q : Nat, s.heap.size ≤ q → va_A (w_M cA a S) s.heap.size q := fun q h => Or.inr h
  have hS : va_S (va_A (w_M cA a S) s.heap.size) s.heap s.heap [] := va_S.rf
  have hl := lv_entry ([.ref (a 0)]) (n := 2) (Nat.le_of_ble_eq_true rfl)
  rw [lg_entry_eq]
  generalize (lg_sl ([.ref (a 0)]) ++ List.replicate (2 - (lg_sl ([.ref (a 0)])).length) Slot.unset).toArray = ls at hl ⊢
  exact wX11_back C hA hf hP hD hS hl
def fX11_count (N : Nat) (S : St) (p1 : Int32) : Option (Int32) :=
  if p1 = (0 : Int32) then (Option.bind (fX11_strikers N S) (fun q2 => some q2)) else (if p1 = (1 : Int32) then (some ((S 4 0))) else (if p1 = (2 : Int32) then (some ((S 5 0))) else (if p1 = (3 : Int32) then (some ((S 6 0))) else (if p1 = (4 : Int32) then (some ((S 14 0))) else (if p1 = (5 : Int32) then (some ((S 11 0))) else (if p1 = (6 : Int32) then (some ((S 13 0))) else (if p1 = (7 : Int32) then (some ((S 0 0))) else (some ((-1 : Int32))))))))))
set_option maxRecDepth 100000 in
set_option maxHeartbeats 4000000 in
theorem wX11_count (C : Cx p s m args meth c D cA cX11_count 2 RX11 (some .int)) (hA : ∀ q : Nat, s.heap.size ≤ q → A q) {N : Nat} {z : Int32} {S : St} {p1 : Int32} (hf : fX11_count N S p1 = some z) {H : Heap} {locs : List Loc} {ls : Array Slot} (hP : va_P D vwCl (w_M cA a S) H) (hD : va_D A (w_M cA a S)) (hS : va_S A s.heap H locs) (hl : lv_has ls 2 [(0, .ref (a 0)), (1, .int p1)]) : W p l e (rmU 1 22 0 0) s m args below meth c H locs 0 0 (MQ below (QI D A z (w_M cA a S)) args s 0 0 A) (F0 m 0 ls []) := by
  obtain ⟨hx, hb, hml, hown, hts, hK, hN, hr, hlk⟩ := id C
  unfold fX11_count at hf
  refine lv_iload_n (pc := 0) hx hb dX11_count_0 rfl (lv_at hl 1 rfl) ?_
  by_cases c1 : p1 = (0 : Int32)
  · have hf := pt_t c1 hf
    refine lv_tableIn (off := 47) (tgt := 48) (pc := 1) hx hb dX11_count_1 (by rw [c1]; decide) (by rw [c1]; decide) (by rw [c1]; rfl) (by decide) ?_
    refine lv_aload_n (pc := 48) hx hb dX11_count_48 rfl (lv_at hl 0 rfl) ?_
    obtain ⟨q2, hq2, hf⟩ := pt_b hf
    refine all_i (runU_V (pc := 49) (As := []) (b := a 0) (rest := []) (ci := 10) (q0 := 0) C lk_RX11_116 (kX11_strikers l D cA a hq2 H.size) ⟨Nat.le_of_ble_eq_true rfl, Nat.le_of_ble_eq_true rfl⟩ ⟨Nat.le_refl _, Nat.le_refl _⟩ hP hD rfl rfl rfl hl.1 rfl (Nat.le_of_ble_eq_true rfl) dX11_count_49) hD hS hA (fun H locs hP hD hS => ?_)
    cases hf
    exact ret_i C hP hD hS dX11_count_52
  · have hf := pt_f c1 hf
    by_cases c3 : p1 = (1 : Int32)
    · have hf := pt_t c3 hf
      refine lv_tableIn (off := 52) (tgt := 53) (pc := 1) hx hb dX11_count_1 (by rw [c3]; decide) (by rw [c3]; decide) (by rw [c3]; rfl) (by decide) ?_
      refine lv_aload_n (pc := 53) hx hb dX11_count_53 rfl (lv_at hl 0 rfl) ?_
      refine ge_RX11_19_M_0_0 (pc := 54) C hP dX11_count_54 ?_
      refine lv_iconst (v := (0 : Int32)) (pc := 57) hx hb dX11_count_57 (by decide) ?_
      refine ld_M_0_4 (pc := 58) (j := 0) C hP (inK rfl) rfl dX11_count_58 ?_
      cases hf
      exact ret_i C hP hD hS dX11_count_59
    · have hf := pt_f c3 hf
      by_cases c4 : p1 = (2 : Int32)
      · have hf := pt_t c4 hf
        refine lv_tableIn (off := 59) (tgt := 60) (pc := 1) hx hb dX11_count_1 (by rw [c4]; decide) (by rw [c4]; decide) (by rw [c4]; rfl) (by decide) ?_
        refine lv_aload_n (pc := 60) hx hb dX11_count_60 rfl (lv_at hl 0 rfl) ?_
        refine ge_RX11_22_M_0_0 (pc := 61) C hP dX11_count_61 ?_
        refine lv_iconst (v := (0 : Int32)) (pc := 64) hx hb dX11_count_64 (by decide) ?_
        refine ld_M_0_5 (pc := 65) (j := 0) C hP (inK rfl) rfl dX11_count_65 ?_
        cases hf
        exact ret_i C hP hD hS dX11_count_66
      · have hf := pt_f c4 hf
        by_cases c5 : p1 = (3 : Int32)
        · have hf := pt_t c5 hf
          refine lv_tableIn (off := 66) (tgt := 67) (pc := 1) hx hb dX11_count_1 (by rw [c5]; decide) (by rw [c5]; decide) (by rw [c5]; rfl) (by decide) ?_
          refine lv_aload_n (pc := 67) hx hb dX11_count_67 rfl (lv_at hl 0 rfl) ?_
          refine ge_RX11_25_M_0_0 (pc := 68) C hP dX11_count_68 ?_
          refine lv_iconst (v := (0 : Int32)) (pc := 71) hx hb dX11_count_71 (by decide) ?_
          refine ld_M_0_6 (pc := 72) (j := 0) C hP (inK rfl) rfl dX11_count_72 ?_
          cases hf
          exact ret_i C hP hD hS dX11_count_73
        · have hf := pt_f c5 hf
          by_cases c6 : p1 = (4 : Int32)
          · have hf := pt_t c6 hf
            refine lv_tableIn (off := 73) (tgt := 74) (pc := 1) hx hb dX11_count_1 (by rw [c6]; decide) (by rw [c6]; decide) (by rw [c6]; rfl) (by decide) ?_
            refine lv_aload_n (pc := 74) hx hb dX11_count_74 rfl (lv_at hl 0 rfl) ?_
            refine ge_RX11_125_M_0_0 (pc := 75) C hP dX11_count_75 ?_
            cases hf
            exact ret_i C hP hD hS dX11_count_78
          · have hf := pt_f c6 hf
            by_cases c7 : p1 = (5 : Int32)
            · have hf := pt_t c7 hf
              refine lv_tableIn (off := 78) (tgt := 79) (pc := 1) hx hb dX11_count_1 (by rw [c7]; decide) (by rw [c7]; decide) (by rw [c7]; rfl) (by decide) ?_
              refine lv_aload_n (pc := 79) hx hb dX11_count_79 rfl (lv_at hl 0 rfl) ?_
              refine ge_RX11_119_M_0_0 (pc := 80) C hP dX11_count_80 ?_
              cases hf
              exact ret_i C hP hD hS dX11_count_83
            · have hf := pt_f c7 hf
              by_cases c8 : p1 = (6 : Int32)
              · have hf := pt_t c8 hf
                refine lv_tableIn (off := 83) (tgt := 84) (pc := 1) hx hb dX11_count_1 (by rw [c8]; decide) (by rw [c8]; decide) (by rw [c8]; rfl) (by decide) ?_
                refine lv_aload_n (pc := 84) hx hb dX11_count_84 rfl (lv_at hl 0 rfl) ?_
                refine ge_RX11_122_M_0_0 (pc := 85) C hP dX11_count_85 ?_
                cases hf
                exact ret_i C hP hD hS dX11_count_88
              · have hf := pt_f c8 hf
                by_cases c9 : p1 = (7 : Int32)
                · have hf := pt_t c9 hf
                  refine lv_tableIn (off := 88) (tgt := 89) (pc := 1) hx hb dX11_count_1 (by rw [c9]; decide) (by rw [c9]; decide) (by rw [c9]; rfl) (by decide) ?_
                  refine lv_aload_n (pc := 89) hx hb dX11_count_89 rfl (lv_at hl 0 rfl) ?_
                  refine ge_RX11_76_M_0_0 (pc := 90) C hP dX11_count_90 ?_
                  cases hf
                  exact ret_i C hP hD hS dX11_count_93
                · have hf := pt_f c9 hf
                  refine lv_tableOut (tgt := 94) (pc := 1) hx hb dX11_count_1 (by have t0 := lv_neT (a := 0) c1 (by decide); have t1 := lv_neT (a := 1) c3 (by decide); have t2 := lv_neT (a := 2) c4 (by decide); have t3 := lv_neT (a := 3) c5 (by decide); have t4 := lv_neT (a := 4) c6 (by decide); have t5 := lv_neT (a := 5) c7 (by decide); have t6 := lv_neT (a := 6) c8 (by decide); have t7 := lv_neT (a := 7) c9 (by decide); omega) (by decide) ?_
                  refine lv_iconst (v := (-1 : Int32)) (pc := 94) hx hb dX11_count_94 (by decide) ?_
                  cases hf
                  exact ret_i C hP hD hS dX11_count_95
set_option maxRecDepth 100000 in
set_option maxHeartbeats 4000000 in
theorem kX11_count (l : Launch) (D : va_G) (cA : Nat → ClassId) (a : Nat → Nat) {N : Nat} {S : St} {p1 : Int32} {z : Int32} (hf : fX11_count N S p1 = some z) : CtI l yX11_count cX11_count 2 (some .int) 1 22 D cA (w_M cA a S) (w_M cA a S) [.ref (a 0), .int p1] z := by
  intro sz
  refine Met.ofW (cc := cX11_count) (maxL := 2) (ret := (some .int)) (by decide) rfl ?_
  intro p e s m args below meth c s₁ B hml hv
  obtain ⟨rfl, hsz, hP, hK, hD0⟩ := hv
  subst hsz
  have C : Cx p s m _ meth c D cA cX11_count 2 RX11 (some .int) := Cx.of B hml hK
  have hD := hD0.self (sz := s.heap.size)
  have hA : ∀ q : Nat, s.heap.size ≤ q → va_A (w_M cA a S) s.heap.size q := fun q h => Or.inr h
  have hS : va_S (va_A (w_M cA a S) s.heap.size) s.heap s.heap [] := va_S.rf
  have hl := lv_entry ([.ref (a 0), .int p1]) (n := 2) (Nat.le_of_ble_eq_true rfl)
  rw [lg_entry_eq]
  generalize (lg_sl ([.ref (a 0), .int p1]) ++ List.replicate (2 - (lg_sl ([.ref (a 0), .int p1])).length) Slot.unset).toArray = ls at hl ⊢
  exact wX11_count C hA hf hP hD hS hl
end PMoC
