/-! ===== the law: its loop, over any relation of the two states that every call keeps ===== -/
def LwS (D : va_G) (cA : Nat → ClassId) (s : State) (A : Nat → Prop) (a : Nat → Nat) (S : St) (d : Nat → Nat) (M : St) (H : Heap) (locs : List Loc) : Prop := va_P D vwCl (w_X cA a S) H ∧ va_P D vwCl (w_M cA d M) H ∧ va_D A (w_X cA a S) ∧ va_D A (w_M cA d M) ∧ (∀ (i j : Nat) (x y : Nat × va_E), (w_X cA a S)[i]? = some x → (w_M cA d M)[j]? = some y → x.1 ≠ y.1) ∧ va_S A s.heap H locs
section PLaw
variable {p : Program} {l : Launch} {e : Env} {R : Room} {s : State} {m : MethodId} {args : Array Value} {below : List Frame} {meth : Method} {c : Code} {H : Heap} {locs : List Loc} {cells slots : Nat} {Q : State → Prop}
variable {D : va_G} {cA : Nat → ClassId} {cc : ByteArray} {nL : Nat} {own : String} {ret : Option FieldType} {pc : Nat} {ls : Array Slot} {rest : List Value} {A : Nat → Prop} {a a1 d : Nat → Nat} {S S1 M M1 : St}
theorem two_i {WX WM W1 : va_W} {v : Int32} {st0 : List Value} {a9 : Array Value} (hr : va_Run p l e R s m args below meth c H locs cells slots 0 0 (F0 m pc ls st0) rest (QI D (va_A WX H.size) v W1 a9) (va_A WX H.size)) (hPM : va_P D vwCl WM H) (hDX : va_D A WX) (hDM : va_D A WM) (hXM : ∀ (i j : Nat) (x y : Nat × va_E), WX[i]? = some x → WM[j]? = some y → x.1 ≠ y.1) (hS : va_S A s.heap H locs) (hA : ∀ q : Nat, s.heap.size ≤ q → A q)
    (kk : ∀ (H1 : Heap) (locs1 : List Loc), va_P D vwCl W1 H1 → va_P D vwCl WM H1 → va_D A W1 → (∀ (i j : Nat) (x y : Nat × va_E), W1[i]? = some x → WM[j]? = some y → x.1 ≠ y.1) → va_S A s.heap H1 locs1 → W p l e R s m args below meth c H1 locs1 cells slots Q (F0 m (pc + 3) ls (.int v :: rest))) : W p l e R s m args below meth c H locs cells slots Q (F0 m pc ls st0) := by
  have hF := free0 hDX hS hA
  have out : ∀ (k : Nat) (x : Nat × va_E), WM[k]? = some x → x.1 < H.size ∧ ¬ va_A WX H.size x.1 := by
    intro k x hx
    refine ⟨(hPM k x hx).lt, fun h => ?_⟩
    rcases h with ⟨k2, e2, h⟩ | h
    · exact hXM k2 k (x.1, e2) x h hx rfl
    · exact absurd (hPM k x hx).lt (by omega)
  refine va_calli hr hS (fun q _ h => hF q h) hF (fun r u t H1 locs1 ht hvm hw hB1 hz1 hk1 hS1 => ?_)
  obtain ⟨hP1, hD1⟩ := hB1
  rw [ht] at hP1
  have hw : r = v := hw
  subst hw
  exact kk H1 locs1 hP1 (fun k x hx => (hPM k x hx).kept (hk1 x.1 (out k x hx).1 (out k x hx).2)) (hD1.weaken (fun _ q _ h => hF q.1 h)) (fun i j x y hx hy hxy => (out j y hy).2 (by rw [← hxy]; exact hD1.2 i x hx)) hS1
variable {y : MethodName} {bytes : ByteArray} {maxL fr lo n idx : Nat} {rt : Option FieldType} {As : List Value} {v : Int32}
theorem lx_i (C : Cx p s m args meth c D cA cc nL RL ret) (hA : ∀ q : Nat, s.heap.size ≤ q → A q) (L : LkV RL idx y bytes maxL rt n) (hy : y.cls = RX10) (hM : CtI l y bytes maxL rt fr lo D cA (w_X cA a S) (w_X cA a1 S1) (.ref (a 0) :: As) v) (hR : fr + 1 ≤ R.frames ∧ 8 + (maxL + 11) + lo ≤ R.locals) (hf : cells ≤ R.cells ∧ slots ≤ R.slots) (hLS : LwS D cA s A a S d M H locs) (hl : ls.size = nL) (hn : As.length = n) (hw : (rest.map fun v => v.category).sum ≤ 8) (hdg : decode cc pc = .ok (.invokevirtual idx, 3))
    (kk : ∀ (H1 : Heap) (locs1 : List Loc), LwS D cA s A a1 S1 d M H1 locs1 → W p l e R s m args below meth c H1 locs1 cells slots Q (F0 m (pc + 3) ls (.int v :: rest))) : W p l e R s m args below meth c H locs cells slots Q (F0 m pc ls (As.reverse ++ .ref (a 0) :: rest)) := by
  obtain ⟨h1, h2, h3, h4, h5, h6⟩ := hLS
  exact two_i (runU_V (b := a 0) (ci := 9) (q0 := 0) C L (hM H.size) hR hf h1 h3 rfl rfl hy hl hn hw hdg) h2 h3 h4 h5 h6 hA (fun H1 locs1 g1 g2 g3 g4 g5 => kk H1 locs1 ⟨g1, g2, g3, h4, g4, g5⟩)
theorem lm_i (C : Cx p s m args meth c D cA cc nL RL ret) (hA : ∀ q : Nat, s.heap.size ≤ q → A q) (L : LkV RL idx y bytes maxL rt n) (hy : y.cls = RX11) (hM : CtI l y bytes maxL rt fr lo D cA (w_M cA d M) (w_M cA d M1) (.ref (d 0) :: As) v) (hR : fr + 1 ≤ R.frames ∧ 8 + (maxL + 11) + lo ≤ R.locals) (hf : cells ≤ R.cells ∧ slots ≤ R.slots) (hLS : LwS D cA s A a S d M H locs) (hl : ls.size = nL) (hn : As.length = n) (hw : (rest.map fun v => v.category).sum ≤ 8) (hdg : decode cc pc = .ok (.invokevirtual idx, 3))
    (kk : ∀ (H1 : Heap) (locs1 : List Loc), LwS D cA s A a S d M1 H1 locs1 → W p l e R s m args below meth c H1 locs1 cells slots Q (F0 m (pc + 3) ls (.int v :: rest))) : W p l e R s m args below meth c H locs cells slots Q (F0 m pc ls (As.reverse ++ .ref (d 0) :: rest)) := by
  obtain ⟨h1, h2, h3, h4, h5, h6⟩ := hLS
  exact two_i (runU_V (b := d 0) (ci := 10) (q0 := 0) C L (hM H.size) hR hf h2 h4 rfl rfl hy hl hn hw hdg) h1 h4 h3 (fun i j x y hx hy e => h5 j i y x hy hx e.symm) h6 hA (fun H1 locs1 g1 g2 g3 g4 g5 => kk H1 locs1 ⟨g2, g1, h3, g3, fun i j x y hx hy e => g4 j i y x hy hx e.symm, g5⟩)
theorem sld {b L i j : Nat} {xs : Nat → Int32} {jj : Int32} (C : Cx p s m args meth c D cA cc nL own ret) (hX : va_X b L xs s s.heap) (hbl : b < s.heap.size) (hbA : ¬ A b) (hS : va_S A s.heap H locs) (hj : jj = nI j) (hlt : i + j < L) (hL : L ≤ 256) (hdg : decode cc pc = .ok (.iaload, 1)) (kk : W p l e R s m args below meth c H locs cells slots Q (F0 m (pc + 1) ls (.int (xs (i + j)) :: rest))) : W p l e R s m args below meth c H locs cells slots Q (F0 m pc ls (.int (nI i + jj) :: .ref b :: rest)) := by
  subst hj
  rw [nI_add]
  refine va_sld C.1 C.2.1 hX hbl hbA hS (vp_in_nI hlt (by omega)) hdg ?_
  rw [nI_clamp (by omega)]
  exact kk
def OB_write (N : Nat) (Rel : St → St → Prop) : Prop := ∀ (S M : St) (p1 : Int32), Rel S M → ∃ v : Int32, ∃ S1 : St, ∃ M1 : St, fX10_write N S p1 = some (v, S1) ∧ fX11_write N M p1 = some (v, M1) ∧ Rel S1 M1
set_option maxRecDepth 100000 in
set_option maxHeartbeats 4000000 in
theorem lw_write {N b L i : Nat} {xs : Nat → Int32} {Rel : St → St → Prop} (C : Cx p s m args meth c D cA code 4 RL ret) (hA : ∀ q : Nat, s.heap.size ≤ q → A q) (hX : va_X b L xs s s.heap) (hbl : b < s.heap.size) (hbA : ¬ A b) (hL : L ≤ 256) (hi : i + 4 ≤ L) (ob : OB_write N Rel) (hR : Rel S M) (hg : ∀ (a : Nat → Nat) (S M : St), Rel S M → ∀ (H : Heap) (locs : List Loc) (ls : Array Slot), LwS D cA s A a S d M H locs → lv_has ls 4 [(0, .ref b), (1, .ref (a 0)), (2, .ref (d 0)), (3, .int (nI i))] → W p l e room_1 s m args below meth c H locs 51 2570 Q (F0 m 959 ls [])) {H : Heap} {locs : List Loc} {ls : Array Slot} (hLS : LwS D cA s A a S d M H locs) (hl : lv_has ls 4 [(0, .ref b), (1, .ref (a 0)), (2, .ref (d 0)), (3, .int (nI i))]) : W p l e room_1 s m args below meth c H locs 51 2570 Q (F0 m 180 ls []) := by
  obtain ⟨hx, hb, hml, hown, hts, hK, hN, hr, hlk⟩ := id C
  obtain ⟨v, S1, M1, h1, h2, hR⟩ := ob S M (xs (i + 1)) hR
  refine lv_aload_n (pc := 180) hx hb dL_law_180 rfl (lv_at hl 1 rfl) ?_
  refine lv_aload_n (pc := 181) hx hb dL_law_181 rfl (lv_at hl 0 rfl) ?_
  refine lv_iload_n (pc := 182) hx hb dL_law_182 rfl (lv_at hl 3 rfl) ?_
  refine lv_iconst (v := (1 : Int32)) (pc := 183) hx hb dL_law_183 (by decide) ?_
  refine lv_iadd (pc := 184) hx hb dL_law_184 ?_
  refine sld (pc := 185) (j := 1) C hX hbl hbA hLS.2.2.2.2.2 (by decide) (by omega) hL dL_law_185 ?_
  refine lx_i (As := [.int (xs (i + 1))]) (rest := []) (a1 := a) (S1 := S1) (pc := 186) C hA lk_RL_13 rfl (kX10_write l D cA a h1) ⟨Nat.le_of_ble_eq_true rfl, Nat.le_of_ble_eq_true rfl⟩ ⟨Nat.le_refl _, Nat.le_refl _⟩ hLS hl.1 rfl (Nat.le_of_ble_eq_true rfl) dL_law_186 (fun H locs hLS => ?_)
  refine lv_aload_n (pc := 189) hx hb dL_law_189 rfl (lv_at hl 2 rfl) ?_
  refine lv_aload_n (pc := 190) hx hb dL_law_190 rfl (lv_at hl 0 rfl) ?_
  refine lv_iload_n (pc := 191) hx hb dL_law_191 rfl (lv_at hl 3 rfl) ?_
  refine lv_iconst (v := (1 : Int32)) (pc := 192) hx hb dL_law_192 (by decide) ?_
  refine lv_iadd (pc := 193) hx hb dL_law_193 ?_
  refine sld (pc := 194) (j := 1) C hX hbl hbA hLS.2.2.2.2.2 (by decide) (by omega) hL dL_law_194 ?_
  refine lm_i (As := [.int (xs (i + 1))]) (rest := [.int v]) (M1 := M1) (pc := 195) C hA lk_RL_17 rfl (kX11_write l D cA d h2) ⟨Nat.le_of_ble_eq_true rfl, Nat.le_of_ble_eq_true rfl⟩ ⟨Nat.le_refl _, Nat.le_refl _⟩ hLS hl.1 rfl (Nat.le_of_ble_eq_true rfl) dL_law_195 (fun H locs hLS => ?_)
  refine lv_icmp_eq (tgt := 959) (pc := 198) hx hb dL_law_198 (by decide) (fun _ => ?_) (fun c1 => absurd rfl c1)
  exact hg a S1 M1 hR _ _ _ hLS hl
def OB_wipe (N : Nat) (Rel : St → St → Prop) : Prop := ∀ (S M : St), Rel S M → ∃ v : Int32, ∃ S1 : St, ∃ M1 : St, fX10_wipe N S  = some (v, S1) ∧ fX11_wipe N M  = some (v, M1) ∧ Rel S1 M1
set_option maxRecDepth 100000 in
set_option maxHeartbeats 4000000 in
theorem lw_wipe {N b L i : Nat} {xs : Nat → Int32} {Rel : St → St → Prop} (C : Cx p s m args meth c D cA code 4 RL ret) (hA : ∀ q : Nat, s.heap.size ≤ q → A q) (hX : va_X b L xs s s.heap) (hbl : b < s.heap.size) (hbA : ¬ A b) (hL : L ≤ 256) (hi : i + 4 ≤ L) (ob : OB_wipe N Rel) (hR : Rel S M) (hg : ∀ (a : Nat → Nat) (S M : St), Rel S M → ∀ (H : Heap) (locs : List Loc) (ls : Array Slot), LwS D cA s A a S d M H locs → lv_has ls 4 [(0, .ref b), (1, .ref (a 0)), (2, .ref (d 0)), (3, .int (nI i))] → W p l e room_1 s m args below meth c H locs 51 2570 Q (F0 m 959 ls [])) {H : Heap} {locs : List Loc} {ls : Array Slot} (hLS : LwS D cA s A a S d M H locs) (hl : lv_has ls 4 [(0, .ref b), (1, .ref (a 0)), (2, .ref (d 0)), (3, .int (nI i))]) : W p l e room_1 s m args below meth c H locs 51 2570 Q (F0 m 203 ls []) := by
  obtain ⟨hx, hb, hml, hown, hts, hK, hN, hr, hlk⟩ := id C
  obtain ⟨v, S1, M1, h1, h2, hR⟩ := ob S M  hR
  refine lv_aload_n (pc := 203) hx hb dL_law_203 rfl (lv_at hl 1 rfl) ?_
  refine lx_i (As := []) (rest := []) (a1 := a) (S1 := S1) (pc := 204) C hA lk_RL_18 rfl (kX10_wipe l D cA a h1) ⟨Nat.le_of_ble_eq_true rfl, Nat.le_of_ble_eq_true rfl⟩ ⟨Nat.le_refl _, Nat.le_refl _⟩ hLS hl.1 rfl (Nat.le_of_ble_eq_true rfl) dL_law_204 (fun H locs hLS => ?_)
  refine lv_aload_n (pc := 207) hx hb dL_law_207 rfl (lv_at hl 2 rfl) ?_
  refine lm_i (As := []) (rest := [.int v]) (M1 := M1) (pc := 208) C hA lk_RL_22 rfl (kX11_wipe l D cA d h2) ⟨Nat.le_of_ble_eq_true rfl, Nat.le_of_ble_eq_true rfl⟩ ⟨Nat.le_refl _, Nat.le_refl _⟩ hLS hl.1 rfl (Nat.le_of_ble_eq_true rfl) dL_law_208 (fun H locs hLS => ?_)
  refine lv_icmp_eq (tgt := 959) (pc := 211) hx hb dL_law_211 (by decide) (fun _ => ?_) (fun c1 => absurd rfl c1)
  exact hg a S1 M1 hR _ _ _ hLS hl
def OB_fault (N : Nat) (Rel : St → St → Prop) : Prop := ∀ (S M : St), Rel S M → ∃ v : Int32, ∃ S1 : St, ∃ M1 : St, fX10_fault N S  = some (v, S1) ∧ fX11_fault N M  = some (v, M1) ∧ Rel S1 M1
set_option maxRecDepth 100000 in
set_option maxHeartbeats 4000000 in
theorem lw_fault {N b L i : Nat} {xs : Nat → Int32} {Rel : St → St → Prop} (C : Cx p s m args meth c D cA code 4 RL ret) (hA : ∀ q : Nat, s.heap.size ≤ q → A q) (hX : va_X b L xs s s.heap) (hbl : b < s.heap.size) (hbA : ¬ A b) (hL : L ≤ 256) (hi : i + 4 ≤ L) (ob : OB_fault N Rel) (hR : Rel S M) (hg : ∀ (a : Nat → Nat) (S M : St), Rel S M → ∀ (H : Heap) (locs : List Loc) (ls : Array Slot), LwS D cA s A a S d M H locs → lv_has ls 4 [(0, .ref b), (1, .ref (a 0)), (2, .ref (d 0)), (3, .int (nI i))] → W p l e room_1 s m args below meth c H locs 51 2570 Q (F0 m 959 ls [])) {H : Heap} {locs : List Loc} {ls : Array Slot} (hLS : LwS D cA s A a S d M H locs) (hl : lv_has ls 4 [(0, .ref b), (1, .ref (a 0)), (2, .ref (d 0)), (3, .int (nI i))]) : W p l e room_1 s m args below meth c H locs 51 2570 Q (F0 m 216 ls []) := by
  obtain ⟨hx, hb, hml, hown, hts, hK, hN, hr, hlk⟩ := id C
  obtain ⟨v, S1, M1, h1, h2, hR⟩ := ob S M  hR
  refine lv_aload_n (pc := 216) hx hb dL_law_216 rfl (lv_at hl 1 rfl) ?_
  refine lx_i (As := []) (rest := []) (a1 := a) (S1 := S1) (pc := 217) C hA lk_RL_23 rfl (kX10_fault l D cA a h1) ⟨Nat.le_of_ble_eq_true rfl, Nat.le_of_ble_eq_true rfl⟩ ⟨Nat.le_refl _, Nat.le_refl _⟩ hLS hl.1 rfl (Nat.le_of_ble_eq_true rfl) dL_law_217 (fun H locs hLS => ?_)
  refine lv_aload_n (pc := 220) hx hb dL_law_220 rfl (lv_at hl 2 rfl) ?_
  refine lm_i (As := []) (rest := [.int v]) (M1 := M1) (pc := 221) C hA lk_RL_26 rfl (kX11_fault l D cA d h2) ⟨Nat.le_of_ble_eq_true rfl, Nat.le_of_ble_eq_true rfl⟩ ⟨Nat.le_refl _, Nat.le_refl _⟩ hLS hl.1 rfl (Nat.le_of_ble_eq_true rfl) dL_law_221 (fun H locs hLS => ?_)
  refine lv_icmp_eq (tgt := 959) (pc := 224) hx hb dL_law_224 (by decide) (fun _ => ?_) (fun c1 => absurd rfl c1)
  exact hg a S1 M1 hR _ _ _ hLS hl
def OB_lay (N : Nat) (Rel : St → St → Prop) : Prop := ∀ (S M : St), Rel S M → ∃ v : Int32, ∃ S1 : St, ∃ M1 : St, (∀ a : Nat → Nat, ∃ a1 : Nat → Nat, fX10_lay N a S = some (v, a1, S1)) ∧ fX11_lay N M  = some (v, M1) ∧ Rel S1 M1
set_option maxRecDepth 100000 in
set_option maxHeartbeats 4000000 in
theorem lw_lay {N b L i : Nat} {xs : Nat → Int32} {Rel : St → St → Prop} (C : Cx p s m args meth c D cA code 4 RL ret) (hA : ∀ q : Nat, s.heap.size ≤ q → A q) (hX : va_X b L xs s s.heap) (hbl : b < s.heap.size) (hbA : ¬ A b) (hL : L ≤ 256) (hi : i + 4 ≤ L) (ob : OB_lay N Rel) (hR : Rel S M) (hg : ∀ (a : Nat → Nat) (S M : St), Rel S M → ∀ (H : Heap) (locs : List Loc) (ls : Array Slot), LwS D cA s A a S d M H locs → lv_has ls 4 [(0, .ref b), (1, .ref (a 0)), (2, .ref (d 0)), (3, .int (nI i))] → W p l e room_1 s m args below meth c H locs 51 2570 Q (F0 m 959 ls [])) {H : Heap} {locs : List Loc} {ls : Array Slot} (hLS : LwS D cA s A a S d M H locs) (hl : lv_has ls 4 [(0, .ref b), (1, .ref (a 0)), (2, .ref (d 0)), (3, .int (nI i))]) : W p l e room_1 s m args below meth c H locs 51 2570 Q (F0 m 229 ls []) := by
  obtain ⟨hx, hb, hml, hown, hts, hK, hN, hr, hlk⟩ := id C
  obtain ⟨v, S1, M1, h1, h2, hR⟩ := ob S M  hR
  obtain ⟨a1, h1⟩ := h1 a
  have h0 : a1 0 = a 0 := lay_a0' h1
  refine lv_aload_n (pc := 229) hx hb dL_law_229 rfl (lv_at hl 1 rfl) ?_
  refine lx_i (As := []) (rest := []) (a1 := a1) (S1 := S1) (pc := 230) C hA lk_RL_27 rfl (kX10_lay l D cA a h1) ⟨Nat.le_of_ble_eq_true rfl, Nat.le_of_ble_eq_true rfl⟩ ⟨Nat.le_refl _, Nat.le_refl _⟩ hLS hl.1 rfl (Nat.le_of_ble_eq_true rfl) dL_law_230 (fun H locs hLS => ?_)
  refine lv_aload_n (pc := 233) hx hb dL_law_233 rfl (lv_at hl 2 rfl) ?_
  refine lm_i (As := []) (rest := [.int v]) (M1 := M1) (pc := 234) C hA lk_RL_30 rfl (kX11_lay l D cA d h2) ⟨Nat.le_of_ble_eq_true rfl, Nat.le_of_ble_eq_true rfl⟩ ⟨Nat.le_refl _, Nat.le_refl _⟩ hLS hl.1 rfl (Nat.le_of_ble_eq_true rfl) dL_law_234 (fun H locs hLS => ?_)
  refine lv_icmp_eq (tgt := 959) (pc := 237) hx hb dL_law_237 (by decide) (fun _ => ?_) (fun c1 => absurd rfl c1)
  exact hg a1 S1 M1 hR _ _ _ hLS (by rw [h0]; exact hl)
def OB_figure (N : Nat) (Rel : St → St → Prop) : Prop := ∀ (S M : St) (p1 : Int32) (p2 : Int32), Rel S M → ∃ v : Int32, fX10_figure N S p1 p2 = some v ∧ fX11_figure N M p1 p2 = some v ∧ Rel S M
set_option maxRecDepth 100000 in
set_option maxHeartbeats 4000000 in
theorem lw_figure {N b L i : Nat} {xs : Nat → Int32} {Rel : St → St → Prop} (C : Cx p s m args meth c D cA code 4 RL ret) (hA : ∀ q : Nat, s.heap.size ≤ q → A q) (hX : va_X b L xs s s.heap) (hbl : b < s.heap.size) (hbA : ¬ A b) (hL : L ≤ 256) (hi : i + 4 ≤ L) (ob : OB_figure N Rel) (hR : Rel S M) (hg : ∀ (a : Nat → Nat) (S M : St), Rel S M → ∀ (H : Heap) (locs : List Loc) (ls : Array Slot), LwS D cA s A a S d M H locs → lv_has ls 4 [(0, .ref b), (1, .ref (a 0)), (2, .ref (d 0)), (3, .int (nI i))] → W p l e room_1 s m args below meth c H locs 51 2570 Q (F0 m 959 ls [])) {H : Heap} {locs : List Loc} {ls : Array Slot} (hLS : LwS D cA s A a S d M H locs) (hl : lv_has ls 4 [(0, .ref b), (1, .ref (a 0)), (2, .ref (d 0)), (3, .int (nI i))]) : W p l e room_1 s m args below meth c H locs 51 2570 Q (F0 m 242 ls []) := by
  obtain ⟨hx, hb, hml, hown, hts, hK, hN, hr, hlk⟩ := id C
  obtain ⟨v, h1, h2, hR⟩ := ob S M (xs (i + 1)) (xs (i + 2)) hR
  refine lv_aload_n (pc := 242) hx hb dL_law_242 rfl (lv_at hl 1 rfl) ?_
  refine lv_aload_n (pc := 243) hx hb dL_law_243 rfl (lv_at hl 0 rfl) ?_
  refine lv_iload_n (pc := 244) hx hb dL_law_244 rfl (lv_at hl 3 rfl) ?_
  refine lv_iconst (v := (1 : Int32)) (pc := 245) hx hb dL_law_245 (by decide) ?_
  refine lv_iadd (pc := 246) hx hb dL_law_246 ?_
  refine sld (pc := 247) (j := 1) C hX hbl hbA hLS.2.2.2.2.2 (by decide) (by omega) hL dL_law_247 ?_
  refine lv_aload_n (pc := 248) hx hb dL_law_248 rfl (lv_at hl 0 rfl) ?_
  refine lv_iload_n (pc := 249) hx hb dL_law_249 rfl (lv_at hl 3 rfl) ?_
  refine lv_iconst (v := (2 : Int32)) (pc := 250) hx hb dL_law_250 (by decide) ?_
  refine lv_iadd (pc := 251) hx hb dL_law_251 ?_
  refine sld (pc := 252) (j := 2) C hX hbl hbA hLS.2.2.2.2.2 (by decide) (by omega) hL dL_law_252 ?_
  refine lx_i (As := [.int (xs (i + 1)), .int (xs (i + 2))]) (rest := []) (a1 := a) (S1 := S) (pc := 253) C hA lk_RL_31 rfl (kX10_figure l D cA a h1) ⟨Nat.le_of_ble_eq_true rfl, Nat.le_of_ble_eq_true rfl⟩ ⟨Nat.le_refl _, Nat.le_refl _⟩ hLS hl.1 rfl (Nat.le_of_ble_eq_true rfl) dL_law_253 (fun H locs hLS => ?_)
  refine lv_aload_n (pc := 256) hx hb dL_law_256 rfl (lv_at hl 2 rfl) ?_
  refine lv_aload_n (pc := 257) hx hb dL_law_257 rfl (lv_at hl 0 rfl) ?_
  refine lv_iload_n (pc := 258) hx hb dL_law_258 rfl (lv_at hl 3 rfl) ?_
  refine lv_iconst (v := (1 : Int32)) (pc := 259) hx hb dL_law_259 (by decide) ?_
  refine lv_iadd (pc := 260) hx hb dL_law_260 ?_
  refine sld (pc := 261) (j := 1) C hX hbl hbA hLS.2.2.2.2.2 (by decide) (by omega) hL dL_law_261 ?_
  refine lv_aload_n (pc := 262) hx hb dL_law_262 rfl (lv_at hl 0 rfl) ?_
  refine lv_iload_n (pc := 263) hx hb dL_law_263 rfl (lv_at hl 3 rfl) ?_
  refine lv_iconst (v := (2 : Int32)) (pc := 264) hx hb dL_law_264 (by decide) ?_
  refine lv_iadd (pc := 265) hx hb dL_law_265 ?_
  refine sld (pc := 266) (j := 2) C hX hbl hbA hLS.2.2.2.2.2 (by decide) (by omega) hL dL_law_266 ?_
  refine lm_i (As := [.int (xs (i + 1)), .int (xs (i + 2))]) (rest := [.int v]) (M1 := M) (pc := 267) C hA lk_RL_35 rfl (kX11_figure l D cA d h2) ⟨Nat.le_of_ble_eq_true rfl, Nat.le_of_ble_eq_true rfl⟩ ⟨Nat.le_refl _, Nat.le_refl _⟩ hLS hl.1 rfl (Nat.le_of_ble_eq_true rfl) dL_law_267 (fun H locs hLS => ?_)
  refine lv_icmp_eq (tgt := 959) (pc := 270) hx hb dL_law_270 (by decide) (fun _ => ?_) (fun c1 => absurd rfl c1)
  exact hg a S M hR _ _ _ hLS hl
def OB_coin (N : Nat) (Rel : St → St → Prop) : Prop := ∀ (S M : St) (p1 : Int32), Rel S M → ∃ v : Int32, fX10_coin N S p1 = some v ∧ fX11_coin N M p1 = some v ∧ Rel S M
set_option maxRecDepth 100000 in
set_option maxHeartbeats 4000000 in
theorem lw_coin {N b L i : Nat} {xs : Nat → Int32} {Rel : St → St → Prop} (C : Cx p s m args meth c D cA code 4 RL ret) (hA : ∀ q : Nat, s.heap.size ≤ q → A q) (hX : va_X b L xs s s.heap) (hbl : b < s.heap.size) (hbA : ¬ A b) (hL : L ≤ 256) (hi : i + 4 ≤ L) (ob : OB_coin N Rel) (hR : Rel S M) (hg : ∀ (a : Nat → Nat) (S M : St), Rel S M → ∀ (H : Heap) (locs : List Loc) (ls : Array Slot), LwS D cA s A a S d M H locs → lv_has ls 4 [(0, .ref b), (1, .ref (a 0)), (2, .ref (d 0)), (3, .int (nI i))] → W p l e room_1 s m args below meth c H locs 51 2570 Q (F0 m 959 ls [])) {H : Heap} {locs : List Loc} {ls : Array Slot} (hLS : LwS D cA s A a S d M H locs) (hl : lv_has ls 4 [(0, .ref b), (1, .ref (a 0)), (2, .ref (d 0)), (3, .int (nI i))]) : W p l e room_1 s m args below meth c H locs 51 2570 Q (F0 m 275 ls []) := by
  obtain ⟨hx, hb, hml, hown, hts, hK, hN, hr, hlk⟩ := id C
  obtain ⟨v, h1, h2, hR⟩ := ob S M (xs (i + 1)) hR
  refine lv_aload_n (pc := 275) hx hb dL_law_275 rfl (lv_at hl 1 rfl) ?_
  refine lv_aload_n (pc := 276) hx hb dL_law_276 rfl (lv_at hl 0 rfl) ?_
  refine lv_iload_n (pc := 277) hx hb dL_law_277 rfl (lv_at hl 3 rfl) ?_
  refine lv_iconst (v := (1 : Int32)) (pc := 278) hx hb dL_law_278 (by decide) ?_
  refine lv_iadd (pc := 279) hx hb dL_law_279 ?_
  refine sld (pc := 280) (j := 1) C hX hbl hbA hLS.2.2.2.2.2 (by decide) (by omega) hL dL_law_280 ?_
  refine lx_i (As := [.int (xs (i + 1))]) (rest := []) (a1 := a) (S1 := S) (pc := 281) C hA lk_RL_36 rfl (kX10_coin l D cA a h1) ⟨Nat.le_of_ble_eq_true rfl, Nat.le_of_ble_eq_true rfl⟩ ⟨Nat.le_refl _, Nat.le_refl _⟩ hLS hl.1 rfl (Nat.le_of_ble_eq_true rfl) dL_law_281 (fun H locs hLS => ?_)
  refine lv_aload_n (pc := 284) hx hb dL_law_284 rfl (lv_at hl 2 rfl) ?_
  refine lv_aload_n (pc := 285) hx hb dL_law_285 rfl (lv_at hl 0 rfl) ?_
  refine lv_iload_n (pc := 286) hx hb dL_law_286 rfl (lv_at hl 3 rfl) ?_
  refine lv_iconst (v := (1 : Int32)) (pc := 287) hx hb dL_law_287 (by decide) ?_
  refine lv_iadd (pc := 288) hx hb dL_law_288 ?_
  refine sld (pc := 289) (j := 1) C hX hbl hbA hLS.2.2.2.2.2 (by decide) (by omega) hL dL_law_289 ?_
  refine lm_i (As := [.int (xs (i + 1))]) (rest := [.int v]) (M1 := M) (pc := 290) C hA lk_RL_39 rfl (kX11_coin l D cA d h2) ⟨Nat.le_of_ble_eq_true rfl, Nat.le_of_ble_eq_true rfl⟩ ⟨Nat.le_refl _, Nat.le_refl _⟩ hLS hl.1 rfl (Nat.le_of_ble_eq_true rfl) dL_law_290 (fun H locs hLS => ?_)
  refine lv_icmp_eq (tgt := 959) (pc := 293) hx hb dL_law_293 (by decide) (fun _ => ?_) (fun c1 => absurd rfl c1)
  exact hg a S M hR _ _ _ hLS hl
def OB_strike (N : Nat) (Rel : St → St → Prop) : Prop := ∀ (S M : St) (p1 : Int32) (p2 : Int32), Rel S M → ∃ v : Int32, ∃ S1 : St, ∃ M1 : St, fX10_strike N S p1 p2 = some (v, S1) ∧ fX11_strike N M p1 p2 = some (v, M1) ∧ Rel S1 M1
set_option maxRecDepth 100000 in
set_option maxHeartbeats 4000000 in
theorem lw_strike {N b L i : Nat} {xs : Nat → Int32} {Rel : St → St → Prop} (C : Cx p s m args meth c D cA code 4 RL ret) (hA : ∀ q : Nat, s.heap.size ≤ q → A q) (hX : va_X b L xs s s.heap) (hbl : b < s.heap.size) (hbA : ¬ A b) (hL : L ≤ 256) (hi : i + 4 ≤ L) (ob : OB_strike N Rel) (hR : Rel S M) (hg : ∀ (a : Nat → Nat) (S M : St), Rel S M → ∀ (H : Heap) (locs : List Loc) (ls : Array Slot), LwS D cA s A a S d M H locs → lv_has ls 4 [(0, .ref b), (1, .ref (a 0)), (2, .ref (d 0)), (3, .int (nI i))] → W p l e room_1 s m args below meth c H locs 51 2570 Q (F0 m 959 ls [])) {H : Heap} {locs : List Loc} {ls : Array Slot} (hLS : LwS D cA s A a S d M H locs) (hl : lv_has ls 4 [(0, .ref b), (1, .ref (a 0)), (2, .ref (d 0)), (3, .int (nI i))]) : W p l e room_1 s m args below meth c H locs 51 2570 Q (F0 m 298 ls []) := by
  obtain ⟨hx, hb, hml, hown, hts, hK, hN, hr, hlk⟩ := id C
  obtain ⟨v, S1, M1, h1, h2, hR⟩ := ob S M (xs (i + 1)) (xs (i + 2)) hR
  refine lv_aload_n (pc := 298) hx hb dL_law_298 rfl (lv_at hl 1 rfl) ?_
  refine lv_aload_n (pc := 299) hx hb dL_law_299 rfl (lv_at hl 0 rfl) ?_
  refine lv_iload_n (pc := 300) hx hb dL_law_300 rfl (lv_at hl 3 rfl) ?_
  refine lv_iconst (v := (1 : Int32)) (pc := 301) hx hb dL_law_301 (by decide) ?_
  refine lv_iadd (pc := 302) hx hb dL_law_302 ?_
  refine sld (pc := 303) (j := 1) C hX hbl hbA hLS.2.2.2.2.2 (by decide) (by omega) hL dL_law_303 ?_
  refine lv_aload_n (pc := 304) hx hb dL_law_304 rfl (lv_at hl 0 rfl) ?_
  refine lv_iload_n (pc := 305) hx hb dL_law_305 rfl (lv_at hl 3 rfl) ?_
  refine lv_iconst (v := (2 : Int32)) (pc := 306) hx hb dL_law_306 (by decide) ?_
  refine lv_iadd (pc := 307) hx hb dL_law_307 ?_
  refine sld (pc := 308) (j := 2) C hX hbl hbA hLS.2.2.2.2.2 (by decide) (by omega) hL dL_law_308 ?_
  refine lx_i (As := [.int (xs (i + 1)), .int (xs (i + 2))]) (rest := []) (a1 := a) (S1 := S1) (pc := 309) C hA lk_RL_40 rfl (kX10_strike l D cA a h1) ⟨Nat.le_of_ble_eq_true rfl, Nat.le_of_ble_eq_true rfl⟩ ⟨Nat.le_refl _, Nat.le_refl _⟩ hLS hl.1 rfl (Nat.le_of_ble_eq_true rfl) dL_law_309 (fun H locs hLS => ?_)
  refine lv_aload_n (pc := 312) hx hb dL_law_312 rfl (lv_at hl 2 rfl) ?_
  refine lv_aload_n (pc := 313) hx hb dL_law_313 rfl (lv_at hl 0 rfl) ?_
  refine lv_iload_n (pc := 314) hx hb dL_law_314 rfl (lv_at hl 3 rfl) ?_
  refine lv_iconst (v := (1 : Int32)) (pc := 315) hx hb dL_law_315 (by decide) ?_
  refine lv_iadd (pc := 316) hx hb dL_law_316 ?_
  refine sld (pc := 317) (j := 1) C hX hbl hbA hLS.2.2.2.2.2 (by decide) (by omega) hL dL_law_317 ?_
  refine lv_aload_n (pc := 318) hx hb dL_law_318 rfl (lv_at hl 0 rfl) ?_
  refine lv_iload_n (pc := 319) hx hb dL_law_319 rfl (lv_at hl 3 rfl) ?_
  refine lv_iconst (v := (2 : Int32)) (pc := 320) hx hb dL_law_320 (by decide) ?_
  refine lv_iadd (pc := 321) hx hb dL_law_321 ?_
  refine sld (pc := 322) (j := 2) C hX hbl hbA hLS.2.2.2.2.2 (by decide) (by omega) hL dL_law_322 ?_
  refine lm_i (As := [.int (xs (i + 1)), .int (xs (i + 2))]) (rest := [.int v]) (M1 := M1) (pc := 323) C hA lk_RL_43 rfl (kX11_strike l D cA d h2) ⟨Nat.le_of_ble_eq_true rfl, Nat.le_of_ble_eq_true rfl⟩ ⟨Nat.le_refl _, Nat.le_refl _⟩ hLS hl.1 rfl (Nat.le_of_ble_eq_true rfl) dL_law_323 (fun H locs hLS => ?_)
  refine lv_icmp_eq (tgt := 959) (pc := 326) hx hb dL_law_326 (by decide) (fun _ => ?_) (fun c1 => absurd rfl c1)
  exact hg a S1 M1 hR _ _ _ hLS hl
def OB_standIn (N : Nat) (Rel : St → St → Prop) : Prop := ∀ (S M : St) (p1 : Int32) (p2 : Int32), Rel S M → ∃ v : Int32, ∃ S1 : St, ∃ M1 : St, fX10_standIn N S p1 p2 = some (v, S1) ∧ fX11_standIn N M p1 p2 = some (v, M1) ∧ Rel S1 M1
set_option maxRecDepth 100000 in
set_option maxHeartbeats 4000000 in
theorem lw_standIn {N b L i : Nat} {xs : Nat → Int32} {Rel : St → St → Prop} (C : Cx p s m args meth c D cA code 4 RL ret) (hA : ∀ q : Nat, s.heap.size ≤ q → A q) (hX : va_X b L xs s s.heap) (hbl : b < s.heap.size) (hbA : ¬ A b) (hL : L ≤ 256) (hi : i + 4 ≤ L) (ob : OB_standIn N Rel) (hR : Rel S M) (hg : ∀ (a : Nat → Nat) (S M : St), Rel S M → ∀ (H : Heap) (locs : List Loc) (ls : Array Slot), LwS D cA s A a S d M H locs → lv_has ls 4 [(0, .ref b), (1, .ref (a 0)), (2, .ref (d 0)), (3, .int (nI i))] → W p l e room_1 s m args below meth c H locs 51 2570 Q (F0 m 959 ls [])) {H : Heap} {locs : List Loc} {ls : Array Slot} (hLS : LwS D cA s A a S d M H locs) (hl : lv_has ls 4 [(0, .ref b), (1, .ref (a 0)), (2, .ref (d 0)), (3, .int (nI i))]) : W p l e room_1 s m args below meth c H locs 51 2570 Q (F0 m 331 ls []) := by
  obtain ⟨hx, hb, hml, hown, hts, hK, hN, hr, hlk⟩ := id C
  obtain ⟨v, S1, M1, h1, h2, hR⟩ := ob S M (xs (i + 1)) (xs (i + 2)) hR
  refine lv_aload_n (pc := 331) hx hb dL_law_331 rfl (lv_at hl 1 rfl) ?_
  refine lv_aload_n (pc := 332) hx hb dL_law_332 rfl (lv_at hl 0 rfl) ?_
  refine lv_iload_n (pc := 333) hx hb dL_law_333 rfl (lv_at hl 3 rfl) ?_
  refine lv_iconst (v := (1 : Int32)) (pc := 334) hx hb dL_law_334 (by decide) ?_
  refine lv_iadd (pc := 335) hx hb dL_law_335 ?_
  refine sld (pc := 336) (j := 1) C hX hbl hbA hLS.2.2.2.2.2 (by decide) (by omega) hL dL_law_336 ?_
  refine lv_aload_n (pc := 337) hx hb dL_law_337 rfl (lv_at hl 0 rfl) ?_
  refine lv_iload_n (pc := 338) hx hb dL_law_338 rfl (lv_at hl 3 rfl) ?_
  refine lv_iconst (v := (2 : Int32)) (pc := 339) hx hb dL_law_339 (by decide) ?_
  refine lv_iadd (pc := 340) hx hb dL_law_340 ?_
  refine sld (pc := 341) (j := 2) C hX hbl hbA hLS.2.2.2.2.2 (by decide) (by omega) hL dL_law_341 ?_
  refine lx_i (As := [.int (xs (i + 1)), .int (xs (i + 2))]) (rest := []) (a1 := a) (S1 := S1) (pc := 342) C hA lk_RL_44 rfl (kX10_standIn l D cA a h1) ⟨Nat.le_of_ble_eq_true rfl, Nat.le_of_ble_eq_true rfl⟩ ⟨Nat.le_refl _, Nat.le_refl _⟩ hLS hl.1 rfl (Nat.le_of_ble_eq_true rfl) dL_law_342 (fun H locs hLS => ?_)
  refine lv_aload_n (pc := 345) hx hb dL_law_345 rfl (lv_at hl 2 rfl) ?_
  refine lv_aload_n (pc := 346) hx hb dL_law_346 rfl (lv_at hl 0 rfl) ?_
  refine lv_iload_n (pc := 347) hx hb dL_law_347 rfl (lv_at hl 3 rfl) ?_
  refine lv_iconst (v := (1 : Int32)) (pc := 348) hx hb dL_law_348 (by decide) ?_
  refine lv_iadd (pc := 349) hx hb dL_law_349 ?_
  refine sld (pc := 350) (j := 1) C hX hbl hbA hLS.2.2.2.2.2 (by decide) (by omega) hL dL_law_350 ?_
  refine lv_aload_n (pc := 351) hx hb dL_law_351 rfl (lv_at hl 0 rfl) ?_
  refine lv_iload_n (pc := 352) hx hb dL_law_352 rfl (lv_at hl 3 rfl) ?_
  refine lv_iconst (v := (2 : Int32)) (pc := 353) hx hb dL_law_353 (by decide) ?_
  refine lv_iadd (pc := 354) hx hb dL_law_354 ?_
  refine sld (pc := 355) (j := 2) C hX hbl hbA hLS.2.2.2.2.2 (by decide) (by omega) hL dL_law_355 ?_
  refine lm_i (As := [.int (xs (i + 1)), .int (xs (i + 2))]) (rest := [.int v]) (M1 := M1) (pc := 356) C hA lk_RL_47 rfl (kX11_standIn l D cA d h2) ⟨Nat.le_of_ble_eq_true rfl, Nat.le_of_ble_eq_true rfl⟩ ⟨Nat.le_refl _, Nat.le_refl _⟩ hLS hl.1 rfl (Nat.le_of_ble_eq_true rfl) dL_law_356 (fun H locs hLS => ?_)
  refine lv_icmp_eq (tgt := 959) (pc := 359) hx hb dL_law_359 (by decide) (fun _ => ?_) (fun c1 => absurd rfl c1)
  exact hg a S1 M1 hR _ _ _ hLS hl
def OB_undo (N : Nat) (Rel : St → St → Prop) : Prop := ∀ (S M : St), Rel S M → ∃ v : Int32, ∃ S1 : St, ∃ M1 : St, fX10_undo N S  = some (v, S1) ∧ fX11_undo N M  = some (v, M1) ∧ Rel S1 M1
set_option maxRecDepth 100000 in
set_option maxHeartbeats 4000000 in
theorem lw_undo {N b L i : Nat} {xs : Nat → Int32} {Rel : St → St → Prop} (C : Cx p s m args meth c D cA code 4 RL ret) (hA : ∀ q : Nat, s.heap.size ≤ q → A q) (hX : va_X b L xs s s.heap) (hbl : b < s.heap.size) (hbA : ¬ A b) (hL : L ≤ 256) (hi : i + 4 ≤ L) (ob : OB_undo N Rel) (hR : Rel S M) (hg : ∀ (a : Nat → Nat) (S M : St), Rel S M → ∀ (H : Heap) (locs : List Loc) (ls : Array Slot), LwS D cA s A a S d M H locs → lv_has ls 4 [(0, .ref b), (1, .ref (a 0)), (2, .ref (d 0)), (3, .int (nI i))] → W p l e room_1 s m args below meth c H locs 51 2570 Q (F0 m 959 ls [])) {H : Heap} {locs : List Loc} {ls : Array Slot} (hLS : LwS D cA s A a S d M H locs) (hl : lv_has ls 4 [(0, .ref b), (1, .ref (a 0)), (2, .ref (d 0)), (3, .int (nI i))]) : W p l e room_1 s m args below meth c H locs 51 2570 Q (F0 m 364 ls []) := by
  obtain ⟨hx, hb, hml, hown, hts, hK, hN, hr, hlk⟩ := id C
  obtain ⟨v, S1, M1, h1, h2, hR⟩ := ob S M  hR
  refine lv_aload_n (pc := 364) hx hb dL_law_364 rfl (lv_at hl 1 rfl) ?_
  refine lx_i (As := []) (rest := []) (a1 := a) (S1 := S1) (pc := 365) C hA lk_RL_48 rfl (kX10_undo l D cA a h1) ⟨Nat.le_of_ble_eq_true rfl, Nat.le_of_ble_eq_true rfl⟩ ⟨Nat.le_refl _, Nat.le_refl _⟩ hLS hl.1 rfl (Nat.le_of_ble_eq_true rfl) dL_law_365 (fun H locs hLS => ?_)
  refine lv_aload_n (pc := 368) hx hb dL_law_368 rfl (lv_at hl 2 rfl) ?_
  refine lm_i (As := []) (rest := [.int v]) (M1 := M1) (pc := 369) C hA lk_RL_51 rfl (kX11_undo l D cA d h2) ⟨Nat.le_of_ble_eq_true rfl, Nat.le_of_ble_eq_true rfl⟩ ⟨Nat.le_refl _, Nat.le_refl _⟩ hLS hl.1 rfl (Nat.le_of_ble_eq_true rfl) dL_law_369 (fun H locs hLS => ?_)
  refine lv_icmp_eq (tgt := 959) (pc := 372) hx hb dL_law_372 (by decide) (fun _ => ?_) (fun c1 => absurd rfl c1)
  exact hg a S1 M1 hR _ _ _ hLS hl
def OB_said (N : Nat) (Rel : St → St → Prop) : Prop := ∀ (S M : St) (p1 : Int32), Rel S M → ∃ v : Int32, fX10_said N S p1 = some v ∧ fX11_said N M p1 = some v ∧ Rel S M
set_option maxRecDepth 100000 in
set_option maxHeartbeats 4000000 in
theorem lw_said {N b L i : Nat} {xs : Nat → Int32} {Rel : St → St → Prop} (C : Cx p s m args meth c D cA code 4 RL ret) (hA : ∀ q : Nat, s.heap.size ≤ q → A q) (hX : va_X b L xs s s.heap) (hbl : b < s.heap.size) (hbA : ¬ A b) (hL : L ≤ 256) (hi : i + 4 ≤ L) (ob : OB_said N Rel) (hR : Rel S M) (hg : ∀ (a : Nat → Nat) (S M : St), Rel S M → ∀ (H : Heap) (locs : List Loc) (ls : Array Slot), LwS D cA s A a S d M H locs → lv_has ls 4 [(0, .ref b), (1, .ref (a 0)), (2, .ref (d 0)), (3, .int (nI i))] → W p l e room_1 s m args below meth c H locs 51 2570 Q (F0 m 959 ls [])) {H : Heap} {locs : List Loc} {ls : Array Slot} (hLS : LwS D cA s A a S d M H locs) (hl : lv_has ls 4 [(0, .ref b), (1, .ref (a 0)), (2, .ref (d 0)), (3, .int (nI i))]) : W p l e room_1 s m args below meth c H locs 51 2570 Q (F0 m 377 ls []) := by
  obtain ⟨hx, hb, hml, hown, hts, hK, hN, hr, hlk⟩ := id C
  obtain ⟨v, h1, h2, hR⟩ := ob S M (xs (i + 1)) hR
  refine lv_aload_n (pc := 377) hx hb dL_law_377 rfl (lv_at hl 1 rfl) ?_
  refine lv_aload_n (pc := 378) hx hb dL_law_378 rfl (lv_at hl 0 rfl) ?_
  refine lv_iload_n (pc := 379) hx hb dL_law_379 rfl (lv_at hl 3 rfl) ?_
  refine lv_iconst (v := (1 : Int32)) (pc := 380) hx hb dL_law_380 (by decide) ?_
  refine lv_iadd (pc := 381) hx hb dL_law_381 ?_
  refine sld (pc := 382) (j := 1) C hX hbl hbA hLS.2.2.2.2.2 (by decide) (by omega) hL dL_law_382 ?_
  refine lx_i (As := [.int (xs (i + 1))]) (rest := []) (a1 := a) (S1 := S) (pc := 383) C hA lk_RL_52 rfl (kX10_said l D cA a h1) ⟨Nat.le_of_ble_eq_true rfl, Nat.le_of_ble_eq_true rfl⟩ ⟨Nat.le_refl _, Nat.le_refl _⟩ hLS hl.1 rfl (Nat.le_of_ble_eq_true rfl) dL_law_383 (fun H locs hLS => ?_)
  refine lv_aload_n (pc := 386) hx hb dL_law_386 rfl (lv_at hl 2 rfl) ?_
  refine lv_aload_n (pc := 387) hx hb dL_law_387 rfl (lv_at hl 0 rfl) ?_
  refine lv_iload_n (pc := 388) hx hb dL_law_388 rfl (lv_at hl 3 rfl) ?_
  refine lv_iconst (v := (1 : Int32)) (pc := 389) hx hb dL_law_389 (by decide) ?_
  refine lv_iadd (pc := 390) hx hb dL_law_390 ?_
  refine sld (pc := 391) (j := 1) C hX hbl hbA hLS.2.2.2.2.2 (by decide) (by omega) hL dL_law_391 ?_
  refine lm_i (As := [.int (xs (i + 1))]) (rest := [.int v]) (M1 := M) (pc := 392) C hA lk_RL_55 rfl (kX11_said l D cA d h2) ⟨Nat.le_of_ble_eq_true rfl, Nat.le_of_ble_eq_true rfl⟩ ⟨Nat.le_refl _, Nat.le_refl _⟩ hLS hl.1 rfl (Nat.le_of_ble_eq_true rfl) dL_law_392 (fun H locs hLS => ?_)
  refine lv_icmp_eq (tgt := 959) (pc := 395) hx hb dL_law_395 (by decide) (fun _ => ?_) (fun c1 => absurd rfl c1)
  exact hg a S M hR _ _ _ hLS hl
def OB_next (N : Nat) (Rel : St → St → Prop) : Prop := ∀ (S M : St) (p1 : Int32), Rel S M → ∃ v : Int32, fX10_next N S p1 = some v ∧ fX11_next N M p1 = some v ∧ Rel S M
set_option maxRecDepth 100000 in
set_option maxHeartbeats 4000000 in
theorem lw_next {N b L i : Nat} {xs : Nat → Int32} {Rel : St → St → Prop} (C : Cx p s m args meth c D cA code 4 RL ret) (hA : ∀ q : Nat, s.heap.size ≤ q → A q) (hX : va_X b L xs s s.heap) (hbl : b < s.heap.size) (hbA : ¬ A b) (hL : L ≤ 256) (hi : i + 4 ≤ L) (ob : OB_next N Rel) (hR : Rel S M) (hg : ∀ (a : Nat → Nat) (S M : St), Rel S M → ∀ (H : Heap) (locs : List Loc) (ls : Array Slot), LwS D cA s A a S d M H locs → lv_has ls 4 [(0, .ref b), (1, .ref (a 0)), (2, .ref (d 0)), (3, .int (nI i))] → W p l e room_1 s m args below meth c H locs 51 2570 Q (F0 m 959 ls [])) {H : Heap} {locs : List Loc} {ls : Array Slot} (hLS : LwS D cA s A a S d M H locs) (hl : lv_has ls 4 [(0, .ref b), (1, .ref (a 0)), (2, .ref (d 0)), (3, .int (nI i))]) : W p l e room_1 s m args below meth c H locs 51 2570 Q (F0 m 400 ls []) := by
  obtain ⟨hx, hb, hml, hown, hts, hK, hN, hr, hlk⟩ := id C
  obtain ⟨v, h1, h2, hR⟩ := ob S M (xs (i + 1)) hR
  refine lv_aload_n (pc := 400) hx hb dL_law_400 rfl (lv_at hl 1 rfl) ?_
  refine lv_aload_n (pc := 401) hx hb dL_law_401 rfl (lv_at hl 0 rfl) ?_
  refine lv_iload_n (pc := 402) hx hb dL_law_402 rfl (lv_at hl 3 rfl) ?_
  refine lv_iconst (v := (1 : Int32)) (pc := 403) hx hb dL_law_403 (by decide) ?_
  refine lv_iadd (pc := 404) hx hb dL_law_404 ?_
  refine sld (pc := 405) (j := 1) C hX hbl hbA hLS.2.2.2.2.2 (by decide) (by omega) hL dL_law_405 ?_
  refine lx_i (As := [.int (xs (i + 1))]) (rest := []) (a1 := a) (S1 := S) (pc := 406) C hA lk_RL_56 rfl (kX10_next l D cA a h1) ⟨Nat.le_of_ble_eq_true rfl, Nat.le_of_ble_eq_true rfl⟩ ⟨Nat.le_refl _, Nat.le_refl _⟩ hLS hl.1 rfl (Nat.le_of_ble_eq_true rfl) dL_law_406 (fun H locs hLS => ?_)
  refine lv_aload_n (pc := 409) hx hb dL_law_409 rfl (lv_at hl 2 rfl) ?_
  refine lv_aload_n (pc := 410) hx hb dL_law_410 rfl (lv_at hl 0 rfl) ?_
  refine lv_iload_n (pc := 411) hx hb dL_law_411 rfl (lv_at hl 3 rfl) ?_
  refine lv_iconst (v := (1 : Int32)) (pc := 412) hx hb dL_law_412 (by decide) ?_
  refine lv_iadd (pc := 413) hx hb dL_law_413 ?_
  refine sld (pc := 414) (j := 1) C hX hbl hbA hLS.2.2.2.2.2 (by decide) (by omega) hL dL_law_414 ?_
  refine lm_i (As := [.int (xs (i + 1))]) (rest := [.int v]) (M1 := M) (pc := 415) C hA lk_RL_59 rfl (kX11_next l D cA d h2) ⟨Nat.le_of_ble_eq_true rfl, Nat.le_of_ble_eq_true rfl⟩ ⟨Nat.le_refl _, Nat.le_refl _⟩ hLS hl.1 rfl (Nat.le_of_ble_eq_true rfl) dL_law_415 (fun H locs hLS => ?_)
  refine lv_icmp_eq (tgt := 959) (pc := 418) hx hb dL_law_418 (by decide) (fun _ => ?_) (fun c1 => absurd rfl c1)
  exact hg a S M hR _ _ _ hLS hl
def OB_rank (N : Nat) (Rel : St → St → Prop) : Prop := ∀ (S M : St) (p1 : Int32), Rel S M → ∃ v : Int32, fX10_rank N S p1 = some v ∧ fX11_rank N M p1 = some v ∧ Rel S M
set_option maxRecDepth 100000 in
set_option maxHeartbeats 4000000 in
theorem lw_rank {N b L i : Nat} {xs : Nat → Int32} {Rel : St → St → Prop} (C : Cx p s m args meth c D cA code 4 RL ret) (hA : ∀ q : Nat, s.heap.size ≤ q → A q) (hX : va_X b L xs s s.heap) (hbl : b < s.heap.size) (hbA : ¬ A b) (hL : L ≤ 256) (hi : i + 4 ≤ L) (ob : OB_rank N Rel) (hR : Rel S M) (hg : ∀ (a : Nat → Nat) (S M : St), Rel S M → ∀ (H : Heap) (locs : List Loc) (ls : Array Slot), LwS D cA s A a S d M H locs → lv_has ls 4 [(0, .ref b), (1, .ref (a 0)), (2, .ref (d 0)), (3, .int (nI i))] → W p l e room_1 s m args below meth c H locs 51 2570 Q (F0 m 959 ls [])) {H : Heap} {locs : List Loc} {ls : Array Slot} (hLS : LwS D cA s A a S d M H locs) (hl : lv_has ls 4 [(0, .ref b), (1, .ref (a 0)), (2, .ref (d 0)), (3, .int (nI i))]) : W p l e room_1 s m args below meth c H locs 51 2570 Q (F0 m 423 ls []) := by
  obtain ⟨hx, hb, hml, hown, hts, hK, hN, hr, hlk⟩ := id C
  obtain ⟨v, h1, h2, hR⟩ := ob S M (xs (i + 1)) hR
  refine lv_aload_n (pc := 423) hx hb dL_law_423 rfl (lv_at hl 1 rfl) ?_
  refine lv_aload_n (pc := 424) hx hb dL_law_424 rfl (lv_at hl 0 rfl) ?_
  refine lv_iload_n (pc := 425) hx hb dL_law_425 rfl (lv_at hl 3 rfl) ?_
  refine lv_iconst (v := (1 : Int32)) (pc := 426) hx hb dL_law_426 (by decide) ?_
  refine lv_iadd (pc := 427) hx hb dL_law_427 ?_
  refine sld (pc := 428) (j := 1) C hX hbl hbA hLS.2.2.2.2.2 (by decide) (by omega) hL dL_law_428 ?_
  refine lx_i (As := [.int (xs (i + 1))]) (rest := []) (a1 := a) (S1 := S) (pc := 429) C hA lk_RL_60 rfl (kX10_rank l D cA a h1) ⟨Nat.le_of_ble_eq_true rfl, Nat.le_of_ble_eq_true rfl⟩ ⟨Nat.le_refl _, Nat.le_refl _⟩ hLS hl.1 rfl (Nat.le_of_ble_eq_true rfl) dL_law_429 (fun H locs hLS => ?_)
  refine lv_aload_n (pc := 432) hx hb dL_law_432 rfl (lv_at hl 2 rfl) ?_
  refine lv_aload_n (pc := 433) hx hb dL_law_433 rfl (lv_at hl 0 rfl) ?_
  refine lv_iload_n (pc := 434) hx hb dL_law_434 rfl (lv_at hl 3 rfl) ?_
  refine lv_iconst (v := (1 : Int32)) (pc := 435) hx hb dL_law_435 (by decide) ?_
  refine lv_iadd (pc := 436) hx hb dL_law_436 ?_
  refine sld (pc := 437) (j := 1) C hX hbl hbA hLS.2.2.2.2.2 (by decide) (by omega) hL dL_law_437 ?_
  refine lm_i (As := [.int (xs (i + 1))]) (rest := [.int v]) (M1 := M) (pc := 438) C hA lk_RL_63 rfl (kX11_rank l D cA d h2) ⟨Nat.le_of_ble_eq_true rfl, Nat.le_of_ble_eq_true rfl⟩ ⟨Nat.le_refl _, Nat.le_refl _⟩ hLS hl.1 rfl (Nat.le_of_ble_eq_true rfl) dL_law_438 (fun H locs hLS => ?_)
  refine lv_icmp_eq (tgt := 959) (pc := 441) hx hb dL_law_441 (by decide) (fun _ => ?_) (fun c1 => absurd rfl c1)
  exact hg a S M hR _ _ _ hLS hl
def OB_kth (N : Nat) (Rel : St → St → Prop) : Prop := ∀ (S M : St) (p1 : Int32), Rel S M → ∃ v : Int32, fX10_kth N S p1 = some v ∧ fX11_kth N M p1 = some v ∧ Rel S M
set_option maxRecDepth 100000 in
set_option maxHeartbeats 4000000 in
theorem lw_kth {N b L i : Nat} {xs : Nat → Int32} {Rel : St → St → Prop} (C : Cx p s m args meth c D cA code 4 RL ret) (hA : ∀ q : Nat, s.heap.size ≤ q → A q) (hX : va_X b L xs s s.heap) (hbl : b < s.heap.size) (hbA : ¬ A b) (hL : L ≤ 256) (hi : i + 4 ≤ L) (ob : OB_kth N Rel) (hR : Rel S M) (hg : ∀ (a : Nat → Nat) (S M : St), Rel S M → ∀ (H : Heap) (locs : List Loc) (ls : Array Slot), LwS D cA s A a S d M H locs → lv_has ls 4 [(0, .ref b), (1, .ref (a 0)), (2, .ref (d 0)), (3, .int (nI i))] → W p l e room_1 s m args below meth c H locs 51 2570 Q (F0 m 959 ls [])) {H : Heap} {locs : List Loc} {ls : Array Slot} (hLS : LwS D cA s A a S d M H locs) (hl : lv_has ls 4 [(0, .ref b), (1, .ref (a 0)), (2, .ref (d 0)), (3, .int (nI i))]) : W p l e room_1 s m args below meth c H locs 51 2570 Q (F0 m 446 ls []) := by
  obtain ⟨hx, hb, hml, hown, hts, hK, hN, hr, hlk⟩ := id C
  obtain ⟨v, h1, h2, hR⟩ := ob S M (xs (i + 1)) hR
  refine lv_aload_n (pc := 446) hx hb dL_law_446 rfl (lv_at hl 1 rfl) ?_
  refine lv_aload_n (pc := 447) hx hb dL_law_447 rfl (lv_at hl 0 rfl) ?_
  refine lv_iload_n (pc := 448) hx hb dL_law_448 rfl (lv_at hl 3 rfl) ?_
  refine lv_iconst (v := (1 : Int32)) (pc := 449) hx hb dL_law_449 (by decide) ?_
  refine lv_iadd (pc := 450) hx hb dL_law_450 ?_
  refine sld (pc := 451) (j := 1) C hX hbl hbA hLS.2.2.2.2.2 (by decide) (by omega) hL dL_law_451 ?_
  refine lx_i (As := [.int (xs (i + 1))]) (rest := []) (a1 := a) (S1 := S) (pc := 452) C hA lk_RL_64 rfl (kX10_kth l D cA a h1) ⟨Nat.le_of_ble_eq_true rfl, Nat.le_of_ble_eq_true rfl⟩ ⟨Nat.le_refl _, Nat.le_refl _⟩ hLS hl.1 rfl (Nat.le_of_ble_eq_true rfl) dL_law_452 (fun H locs hLS => ?_)
  refine lv_aload_n (pc := 455) hx hb dL_law_455 rfl (lv_at hl 2 rfl) ?_
  refine lv_aload_n (pc := 456) hx hb dL_law_456 rfl (lv_at hl 0 rfl) ?_
  refine lv_iload_n (pc := 457) hx hb dL_law_457 rfl (lv_at hl 3 rfl) ?_
  refine lv_iconst (v := (1 : Int32)) (pc := 458) hx hb dL_law_458 (by decide) ?_
  refine lv_iadd (pc := 459) hx hb dL_law_459 ?_
  refine sld (pc := 460) (j := 1) C hX hbl hbA hLS.2.2.2.2.2 (by decide) (by omega) hL dL_law_460 ?_
  refine lm_i (As := [.int (xs (i + 1))]) (rest := [.int v]) (M1 := M) (pc := 461) C hA lk_RL_67 rfl (kX11_kth l D cA d h2) ⟨Nat.le_of_ble_eq_true rfl, Nat.le_of_ble_eq_true rfl⟩ ⟨Nat.le_refl _, Nat.le_refl _⟩ hLS hl.1 rfl (Nat.le_of_ble_eq_true rfl) dL_law_461 (fun H locs hLS => ?_)
  refine lv_icmp_eq (tgt := 959) (pc := 464) hx hb dL_law_464 (by decide) (fun _ => ?_) (fun c1 => absurd rfl c1)
  exact hg a S M hR _ _ _ hLS hl
def OB_sum (N : Nat) (Rel : St → St → Prop) : Prop := ∀ (S M : St) (p1 : Int32), Rel S M → ∃ v : Int32, ∃ M1 : St, fX10_sum N S p1 = some v ∧ fX11_sum N M p1 = some (v, M1) ∧ Rel S M1
set_option maxRecDepth 100000 in
set_option maxHeartbeats 4000000 in
theorem lw_sum {N b L i : Nat} {xs : Nat → Int32} {Rel : St → St → Prop} (C : Cx p s m args meth c D cA code 4 RL ret) (hA : ∀ q : Nat, s.heap.size ≤ q → A q) (hX : va_X b L xs s s.heap) (hbl : b < s.heap.size) (hbA : ¬ A b) (hL : L ≤ 256) (hi : i + 4 ≤ L) (ob : OB_sum N Rel) (hR : Rel S M) (hg : ∀ (a : Nat → Nat) (S M : St), Rel S M → ∀ (H : Heap) (locs : List Loc) (ls : Array Slot), LwS D cA s A a S d M H locs → lv_has ls 4 [(0, .ref b), (1, .ref (a 0)), (2, .ref (d 0)), (3, .int (nI i))] → W p l e room_1 s m args below meth c H locs 51 2570 Q (F0 m 959 ls [])) {H : Heap} {locs : List Loc} {ls : Array Slot} (hLS : LwS D cA s A a S d M H locs) (hl : lv_has ls 4 [(0, .ref b), (1, .ref (a 0)), (2, .ref (d 0)), (3, .int (nI i))]) : W p l e room_1 s m args below meth c H locs 51 2570 Q (F0 m 469 ls []) := by
  obtain ⟨hx, hb, hml, hown, hts, hK, hN, hr, hlk⟩ := id C
  obtain ⟨v, M1, h1, h2, hR⟩ := ob S M (xs (i + 1)) hR
  refine lv_aload_n (pc := 469) hx hb dL_law_469 rfl (lv_at hl 1 rfl) ?_
  refine lv_aload_n (pc := 470) hx hb dL_law_470 rfl (lv_at hl 0 rfl) ?_
  refine lv_iload_n (pc := 471) hx hb dL_law_471 rfl (lv_at hl 3 rfl) ?_
  refine lv_iconst (v := (1 : Int32)) (pc := 472) hx hb dL_law_472 (by decide) ?_
  refine lv_iadd (pc := 473) hx hb dL_law_473 ?_
  refine sld (pc := 474) (j := 1) C hX hbl hbA hLS.2.2.2.2.2 (by decide) (by omega) hL dL_law_474 ?_
  refine lx_i (As := [.int (xs (i + 1))]) (rest := []) (a1 := a) (S1 := S) (pc := 475) C hA lk_RL_68 rfl (kX10_sum l D cA a h1) ⟨Nat.le_of_ble_eq_true rfl, Nat.le_of_ble_eq_true rfl⟩ ⟨Nat.le_refl _, Nat.le_refl _⟩ hLS hl.1 rfl (Nat.le_of_ble_eq_true rfl) dL_law_475 (fun H locs hLS => ?_)
  refine lv_aload_n (pc := 478) hx hb dL_law_478 rfl (lv_at hl 2 rfl) ?_
  refine lv_aload_n (pc := 479) hx hb dL_law_479 rfl (lv_at hl 0 rfl) ?_
  refine lv_iload_n (pc := 480) hx hb dL_law_480 rfl (lv_at hl 3 rfl) ?_
  refine lv_iconst (v := (1 : Int32)) (pc := 481) hx hb dL_law_481 (by decide) ?_
  refine lv_iadd (pc := 482) hx hb dL_law_482 ?_
  refine sld (pc := 483) (j := 1) C hX hbl hbA hLS.2.2.2.2.2 (by decide) (by omega) hL dL_law_483 ?_
  refine lm_i (As := [.int (xs (i + 1))]) (rest := [.int v]) (M1 := M1) (pc := 484) C hA lk_RL_71 rfl (kX11_sum l D cA d h2) ⟨Nat.le_of_ble_eq_true rfl, Nat.le_of_ble_eq_true rfl⟩ ⟨Nat.le_refl _, Nat.le_refl _⟩ hLS hl.1 rfl (Nat.le_of_ble_eq_true rfl) dL_law_484 (fun H locs hLS => ?_)
  refine lv_icmp_eq (tgt := 959) (pc := 487) hx hb dL_law_487 (by decide) (fun _ => ?_) (fun c1 => absurd rfl c1)
  exact hg a S M1 hR _ _ _ hLS hl
def OB_ways (N : Nat) (Rel : St → St → Prop) : Prop := ∀ (S M : St) (p1 : Int32), Rel S M → ∃ v : Int32, ∃ S1 : St, ∃ M1 : St, fX10_ways N S p1 = some (v, S1) ∧ fX11_ways N M p1 = some (v, M1) ∧ Rel S1 M1
set_option maxRecDepth 100000 in
set_option maxHeartbeats 4000000 in
theorem lw_ways {N b L i : Nat} {xs : Nat → Int32} {Rel : St → St → Prop} (C : Cx p s m args meth c D cA code 4 RL ret) (hA : ∀ q : Nat, s.heap.size ≤ q → A q) (hX : va_X b L xs s s.heap) (hbl : b < s.heap.size) (hbA : ¬ A b) (hL : L ≤ 256) (hi : i + 4 ≤ L) (ob : OB_ways N Rel) (hR : Rel S M) (hg : ∀ (a : Nat → Nat) (S M : St), Rel S M → ∀ (H : Heap) (locs : List Loc) (ls : Array Slot), LwS D cA s A a S d M H locs → lv_has ls 4 [(0, .ref b), (1, .ref (a 0)), (2, .ref (d 0)), (3, .int (nI i))] → W p l e room_1 s m args below meth c H locs 51 2570 Q (F0 m 959 ls [])) {H : Heap} {locs : List Loc} {ls : Array Slot} (hLS : LwS D cA s A a S d M H locs) (hl : lv_has ls 4 [(0, .ref b), (1, .ref (a 0)), (2, .ref (d 0)), (3, .int (nI i))]) : W p l e room_1 s m args below meth c H locs 51 2570 Q (F0 m 492 ls []) := by
  obtain ⟨hx, hb, hml, hown, hts, hK, hN, hr, hlk⟩ := id C
  obtain ⟨v, S1, M1, h1, h2, hR⟩ := ob S M (xs (i + 1)) hR
  refine lv_aload_n (pc := 492) hx hb dL_law_492 rfl (lv_at hl 1 rfl) ?_
  refine lv_aload_n (pc := 493) hx hb dL_law_493 rfl (lv_at hl 0 rfl) ?_
  refine lv_iload_n (pc := 494) hx hb dL_law_494 rfl (lv_at hl 3 rfl) ?_
  refine lv_iconst (v := (1 : Int32)) (pc := 495) hx hb dL_law_495 (by decide) ?_
  refine lv_iadd (pc := 496) hx hb dL_law_496 ?_
  refine sld (pc := 497) (j := 1) C hX hbl hbA hLS.2.2.2.2.2 (by decide) (by omega) hL dL_law_497 ?_
  refine lx_i (As := [.int (xs (i + 1))]) (rest := []) (a1 := a) (S1 := S1) (pc := 498) C hA lk_RL_72 rfl (kX10_ways l D cA a h1) ⟨Nat.le_of_ble_eq_true rfl, Nat.le_of_ble_eq_true rfl⟩ ⟨Nat.le_refl _, Nat.le_refl _⟩ hLS hl.1 rfl (Nat.le_of_ble_eq_true rfl) dL_law_498 (fun H locs hLS => ?_)
  refine lv_aload_n (pc := 501) hx hb dL_law_501 rfl (lv_at hl 2 rfl) ?_
  refine lv_aload_n (pc := 502) hx hb dL_law_502 rfl (lv_at hl 0 rfl) ?_
  refine lv_iload_n (pc := 503) hx hb dL_law_503 rfl (lv_at hl 3 rfl) ?_
  refine lv_iconst (v := (1 : Int32)) (pc := 504) hx hb dL_law_504 (by decide) ?_
  refine lv_iadd (pc := 505) hx hb dL_law_505 ?_
  refine sld (pc := 506) (j := 1) C hX hbl hbA hLS.2.2.2.2.2 (by decide) (by omega) hL dL_law_506 ?_
  refine lm_i (As := [.int (xs (i + 1))]) (rest := [.int v]) (M1 := M1) (pc := 507) C hA lk_RL_75 rfl (kX11_ways l D cA d h2) ⟨Nat.le_of_ble_eq_true rfl, Nat.le_of_ble_eq_true rfl⟩ ⟨Nat.le_refl _, Nat.le_refl _⟩ hLS hl.1 rfl (Nat.le_of_ble_eq_true rfl) dL_law_507 (fun H locs hLS => ?_)
  refine lv_icmp_eq (tgt := 959) (pc := 510) hx hb dL_law_510 (by decide) (fun _ => ?_) (fun c1 => absurd rfl c1)
  exact hg a S1 M1 hR _ _ _ hLS hl
def OB_shortest (N : Nat) (Rel : St → St → Prop) : Prop := ∀ (S M : St) (p1 : Int32) (p2 : Int32), Rel S M → ∃ v : Int32, ∃ S1 : St, ∃ M1 : St, fX10_shortest N S p1 p2 = some (v, S1) ∧ fX11_shortest N M p1 p2 = some (v, M1) ∧ Rel S1 M1
set_option maxRecDepth 100000 in
set_option maxHeartbeats 4000000 in
theorem lw_shortest {N b L i : Nat} {xs : Nat → Int32} {Rel : St → St → Prop} (C : Cx p s m args meth c D cA code 4 RL ret) (hA : ∀ q : Nat, s.heap.size ≤ q → A q) (hX : va_X b L xs s s.heap) (hbl : b < s.heap.size) (hbA : ¬ A b) (hL : L ≤ 256) (hi : i + 4 ≤ L) (ob : OB_shortest N Rel) (hR : Rel S M) (hg : ∀ (a : Nat → Nat) (S M : St), Rel S M → ∀ (H : Heap) (locs : List Loc) (ls : Array Slot), LwS D cA s A a S d M H locs → lv_has ls 4 [(0, .ref b), (1, .ref (a 0)), (2, .ref (d 0)), (3, .int (nI i))] → W p l e room_1 s m args below meth c H locs 51 2570 Q (F0 m 959 ls [])) {H : Heap} {locs : List Loc} {ls : Array Slot} (hLS : LwS D cA s A a S d M H locs) (hl : lv_has ls 4 [(0, .ref b), (1, .ref (a 0)), (2, .ref (d 0)), (3, .int (nI i))]) : W p l e room_1 s m args below meth c H locs 51 2570 Q (F0 m 515 ls []) := by
  obtain ⟨hx, hb, hml, hown, hts, hK, hN, hr, hlk⟩ := id C
  obtain ⟨v, S1, M1, h1, h2, hR⟩ := ob S M (xs (i + 1)) (xs (i + 2)) hR
  refine lv_aload_n (pc := 515) hx hb dL_law_515 rfl (lv_at hl 1 rfl) ?_
  refine lv_aload_n (pc := 516) hx hb dL_law_516 rfl (lv_at hl 0 rfl) ?_
  refine lv_iload_n (pc := 517) hx hb dL_law_517 rfl (lv_at hl 3 rfl) ?_
  refine lv_iconst (v := (1 : Int32)) (pc := 518) hx hb dL_law_518 (by decide) ?_
  refine lv_iadd (pc := 519) hx hb dL_law_519 ?_
  refine sld (pc := 520) (j := 1) C hX hbl hbA hLS.2.2.2.2.2 (by decide) (by omega) hL dL_law_520 ?_
  refine lv_aload_n (pc := 521) hx hb dL_law_521 rfl (lv_at hl 0 rfl) ?_
  refine lv_iload_n (pc := 522) hx hb dL_law_522 rfl (lv_at hl 3 rfl) ?_
  refine lv_iconst (v := (2 : Int32)) (pc := 523) hx hb dL_law_523 (by decide) ?_
  refine lv_iadd (pc := 524) hx hb dL_law_524 ?_
  refine sld (pc := 525) (j := 2) C hX hbl hbA hLS.2.2.2.2.2 (by decide) (by omega) hL dL_law_525 ?_
  refine lx_i (As := [.int (xs (i + 1)), .int (xs (i + 2))]) (rest := []) (a1 := a) (S1 := S1) (pc := 526) C hA lk_RL_76 rfl (kX10_shortest l D cA a h1) ⟨Nat.le_of_ble_eq_true rfl, Nat.le_of_ble_eq_true rfl⟩ ⟨Nat.le_refl _, Nat.le_refl _⟩ hLS hl.1 rfl (Nat.le_of_ble_eq_true rfl) dL_law_526 (fun H locs hLS => ?_)
  refine lv_aload_n (pc := 529) hx hb dL_law_529 rfl (lv_at hl 2 rfl) ?_
  refine lv_aload_n (pc := 530) hx hb dL_law_530 rfl (lv_at hl 0 rfl) ?_
  refine lv_iload_n (pc := 531) hx hb dL_law_531 rfl (lv_at hl 3 rfl) ?_
  refine lv_iconst (v := (1 : Int32)) (pc := 532) hx hb dL_law_532 (by decide) ?_
  refine lv_iadd (pc := 533) hx hb dL_law_533 ?_
  refine sld (pc := 534) (j := 1) C hX hbl hbA hLS.2.2.2.2.2 (by decide) (by omega) hL dL_law_534 ?_
  refine lv_aload_n (pc := 535) hx hb dL_law_535 rfl (lv_at hl 0 rfl) ?_
  refine lv_iload_n (pc := 536) hx hb dL_law_536 rfl (lv_at hl 3 rfl) ?_
  refine lv_iconst (v := (2 : Int32)) (pc := 537) hx hb dL_law_537 (by decide) ?_
  refine lv_iadd (pc := 538) hx hb dL_law_538 ?_
  refine sld (pc := 539) (j := 2) C hX hbl hbA hLS.2.2.2.2.2 (by decide) (by omega) hL dL_law_539 ?_
  refine lm_i (As := [.int (xs (i + 1)), .int (xs (i + 2))]) (rest := [.int v]) (M1 := M1) (pc := 540) C hA lk_RL_79 rfl (kX11_shortest l D cA d h2) ⟨Nat.le_of_ble_eq_true rfl, Nat.le_of_ble_eq_true rfl⟩ ⟨Nat.le_refl _, Nat.le_refl _⟩ hLS hl.1 rfl (Nat.le_of_ble_eq_true rfl) dL_law_540 (fun H locs hLS => ?_)
  refine lv_icmp_eq (tgt := 959) (pc := 543) hx hb dL_law_543 (by decide) (fun _ => ?_) (fun c1 => absurd rfl c1)
  exact hg a S1 M1 hR _ _ _ hLS hl
def OB_change (N : Nat) (Rel : St → St → Prop) : Prop := ∀ (S M : St) (p1 : Int32), Rel S M → ∃ v : Int32, ∃ S1 : St, ∃ M1 : St, fX10_change N S p1 = some (v, S1) ∧ fX11_change N M p1 = some (v, M1) ∧ Rel S1 M1
set_option maxRecDepth 100000 in
set_option maxHeartbeats 4000000 in
theorem lw_change {N b L i : Nat} {xs : Nat → Int32} {Rel : St → St → Prop} (C : Cx p s m args meth c D cA code 4 RL ret) (hA : ∀ q : Nat, s.heap.size ≤ q → A q) (hX : va_X b L xs s s.heap) (hbl : b < s.heap.size) (hbA : ¬ A b) (hL : L ≤ 256) (hi : i + 4 ≤ L) (ob : OB_change N Rel) (hR : Rel S M) (hg : ∀ (a : Nat → Nat) (S M : St), Rel S M → ∀ (H : Heap) (locs : List Loc) (ls : Array Slot), LwS D cA s A a S d M H locs → lv_has ls 4 [(0, .ref b), (1, .ref (a 0)), (2, .ref (d 0)), (3, .int (nI i))] → W p l e room_1 s m args below meth c H locs 51 2570 Q (F0 m 959 ls [])) {H : Heap} {locs : List Loc} {ls : Array Slot} (hLS : LwS D cA s A a S d M H locs) (hl : lv_has ls 4 [(0, .ref b), (1, .ref (a 0)), (2, .ref (d 0)), (3, .int (nI i))]) : W p l e room_1 s m args below meth c H locs 51 2570 Q (F0 m 548 ls []) := by
  obtain ⟨hx, hb, hml, hown, hts, hK, hN, hr, hlk⟩ := id C
  obtain ⟨v, S1, M1, h1, h2, hR⟩ := ob S M (xs (i + 1)) hR
  refine lv_aload_n (pc := 548) hx hb dL_law_548 rfl (lv_at hl 1 rfl) ?_
  refine lv_aload_n (pc := 549) hx hb dL_law_549 rfl (lv_at hl 0 rfl) ?_
  refine lv_iload_n (pc := 550) hx hb dL_law_550 rfl (lv_at hl 3 rfl) ?_
  refine lv_iconst (v := (1 : Int32)) (pc := 551) hx hb dL_law_551 (by decide) ?_
  refine lv_iadd (pc := 552) hx hb dL_law_552 ?_
  refine sld (pc := 553) (j := 1) C hX hbl hbA hLS.2.2.2.2.2 (by decide) (by omega) hL dL_law_553 ?_
  refine lx_i (As := [.int (xs (i + 1))]) (rest := []) (a1 := a) (S1 := S1) (pc := 554) C hA lk_RL_80 rfl (kX10_change l D cA a h1) ⟨Nat.le_of_ble_eq_true rfl, Nat.le_of_ble_eq_true rfl⟩ ⟨Nat.le_refl _, Nat.le_refl _⟩ hLS hl.1 rfl (Nat.le_of_ble_eq_true rfl) dL_law_554 (fun H locs hLS => ?_)
  refine lv_aload_n (pc := 557) hx hb dL_law_557 rfl (lv_at hl 2 rfl) ?_
  refine lv_aload_n (pc := 558) hx hb dL_law_558 rfl (lv_at hl 0 rfl) ?_
  refine lv_iload_n (pc := 559) hx hb dL_law_559 rfl (lv_at hl 3 rfl) ?_
  refine lv_iconst (v := (1 : Int32)) (pc := 560) hx hb dL_law_560 (by decide) ?_
  refine lv_iadd (pc := 561) hx hb dL_law_561 ?_
  refine sld (pc := 562) (j := 1) C hX hbl hbA hLS.2.2.2.2.2 (by decide) (by omega) hL dL_law_562 ?_
  refine lm_i (As := [.int (xs (i + 1))]) (rest := [.int v]) (M1 := M1) (pc := 563) C hA lk_RL_83 rfl (kX11_change l D cA d h2) ⟨Nat.le_of_ble_eq_true rfl, Nat.le_of_ble_eq_true rfl⟩ ⟨Nat.le_refl _, Nat.le_refl _⟩ hLS hl.1 rfl (Nat.le_of_ble_eq_true rfl) dL_law_563 (fun H locs hLS => ?_)
  refine lv_icmp_eq (tgt := 959) (pc := 566) hx hb dL_law_566 (by decide) (fun _ => ?_) (fun c1 => absurd rfl c1)
  exact hg a S1 M1 hR _ _ _ hLS hl
def OB_never (N : Nat) (Rel : St → St → Prop) : Prop := ∀ (S M : St), Rel S M → ∃ v : Int32, ∃ S1 : St, ∃ M1 : St, fX10_never N S  = some (v, S1) ∧ fX11_never N M  = some (v, M1) ∧ Rel S1 M1
set_option maxRecDepth 100000 in
set_option maxHeartbeats 4000000 in
theorem lw_never {N b L i : Nat} {xs : Nat → Int32} {Rel : St → St → Prop} (C : Cx p s m args meth c D cA code 4 RL ret) (hA : ∀ q : Nat, s.heap.size ≤ q → A q) (hX : va_X b L xs s s.heap) (hbl : b < s.heap.size) (hbA : ¬ A b) (hL : L ≤ 256) (hi : i + 4 ≤ L) (ob : OB_never N Rel) (hR : Rel S M) (hg : ∀ (a : Nat → Nat) (S M : St), Rel S M → ∀ (H : Heap) (locs : List Loc) (ls : Array Slot), LwS D cA s A a S d M H locs → lv_has ls 4 [(0, .ref b), (1, .ref (a 0)), (2, .ref (d 0)), (3, .int (nI i))] → W p l e room_1 s m args below meth c H locs 51 2570 Q (F0 m 959 ls [])) {H : Heap} {locs : List Loc} {ls : Array Slot} (hLS : LwS D cA s A a S d M H locs) (hl : lv_has ls 4 [(0, .ref b), (1, .ref (a 0)), (2, .ref (d 0)), (3, .int (nI i))]) : W p l e room_1 s m args below meth c H locs 51 2570 Q (F0 m 571 ls []) := by
  obtain ⟨hx, hb, hml, hown, hts, hK, hN, hr, hlk⟩ := id C
  obtain ⟨v, S1, M1, h1, h2, hR⟩ := ob S M  hR
  refine lv_aload_n (pc := 571) hx hb dL_law_571 rfl (lv_at hl 1 rfl) ?_
  refine lx_i (As := []) (rest := []) (a1 := a) (S1 := S1) (pc := 572) C hA lk_RL_84 rfl (kX10_never l D cA a h1) ⟨Nat.le_of_ble_eq_true rfl, Nat.le_of_ble_eq_true rfl⟩ ⟨Nat.le_refl _, Nat.le_refl _⟩ hLS hl.1 rfl (Nat.le_of_ble_eq_true rfl) dL_law_572 (fun H locs hLS => ?_)
  refine lv_aload_n (pc := 575) hx hb dL_law_575 rfl (lv_at hl 2 rfl) ?_
  refine lm_i (As := []) (rest := [.int v]) (M1 := M1) (pc := 576) C hA lk_RL_87 rfl (kX11_never l D cA d h2) ⟨Nat.le_of_ble_eq_true rfl, Nat.le_of_ble_eq_true rfl⟩ ⟨Nat.le_refl _, Nat.le_refl _⟩ hLS hl.1 rfl (Nat.le_of_ble_eq_true rfl) dL_law_576 (fun H locs hLS => ?_)
  refine lv_icmp_eq (tgt := 959) (pc := 579) hx hb dL_law_579 (by decide) (fun _ => ?_) (fun c1 => absurd rfl c1)
  exact hg a S1 M1 hR _ _ _ hLS hl
def OB_pays (N : Nat) (Rel : St → St → Prop) : Prop := ∀ (S M : St) (p1 : Int32), Rel S M → ∃ v : Int32, ∃ S1 : St, ∃ M1 : St, fX10_pays N S p1 = some (v, S1) ∧ fX11_pays N M p1 = some (v, M1) ∧ Rel S1 M1
set_option maxRecDepth 100000 in
set_option maxHeartbeats 4000000 in
theorem lw_pays {N b L i : Nat} {xs : Nat → Int32} {Rel : St → St → Prop} (C : Cx p s m args meth c D cA code 4 RL ret) (hA : ∀ q : Nat, s.heap.size ≤ q → A q) (hX : va_X b L xs s s.heap) (hbl : b < s.heap.size) (hbA : ¬ A b) (hL : L ≤ 256) (hi : i + 4 ≤ L) (ob : OB_pays N Rel) (hR : Rel S M) (hg : ∀ (a : Nat → Nat) (S M : St), Rel S M → ∀ (H : Heap) (locs : List Loc) (ls : Array Slot), LwS D cA s A a S d M H locs → lv_has ls 4 [(0, .ref b), (1, .ref (a 0)), (2, .ref (d 0)), (3, .int (nI i))] → W p l e room_1 s m args below meth c H locs 51 2570 Q (F0 m 959 ls [])) {H : Heap} {locs : List Loc} {ls : Array Slot} (hLS : LwS D cA s A a S d M H locs) (hl : lv_has ls 4 [(0, .ref b), (1, .ref (a 0)), (2, .ref (d 0)), (3, .int (nI i))]) : W p l e room_1 s m args below meth c H locs 51 2570 Q (F0 m 584 ls []) := by
  obtain ⟨hx, hb, hml, hown, hts, hK, hN, hr, hlk⟩ := id C
  obtain ⟨v, S1, M1, h1, h2, hR⟩ := ob S M (xs (i + 1)) hR
  refine lv_aload_n (pc := 584) hx hb dL_law_584 rfl (lv_at hl 1 rfl) ?_
  refine lv_aload_n (pc := 585) hx hb dL_law_585 rfl (lv_at hl 0 rfl) ?_
  refine lv_iload_n (pc := 586) hx hb dL_law_586 rfl (lv_at hl 3 rfl) ?_
  refine lv_iconst (v := (1 : Int32)) (pc := 587) hx hb dL_law_587 (by decide) ?_
  refine lv_iadd (pc := 588) hx hb dL_law_588 ?_
  refine sld (pc := 589) (j := 1) C hX hbl hbA hLS.2.2.2.2.2 (by decide) (by omega) hL dL_law_589 ?_
  refine lx_i (As := [.int (xs (i + 1))]) (rest := []) (a1 := a) (S1 := S1) (pc := 590) C hA lk_RL_88 rfl (kX10_pays l D cA a h1) ⟨Nat.le_of_ble_eq_true rfl, Nat.le_of_ble_eq_true rfl⟩ ⟨Nat.le_refl _, Nat.le_refl _⟩ hLS hl.1 rfl (Nat.le_of_ble_eq_true rfl) dL_law_590 (fun H locs hLS => ?_)
  refine lv_aload_n (pc := 593) hx hb dL_law_593 rfl (lv_at hl 2 rfl) ?_
  refine lv_aload_n (pc := 594) hx hb dL_law_594 rfl (lv_at hl 0 rfl) ?_
  refine lv_iload_n (pc := 595) hx hb dL_law_595 rfl (lv_at hl 3 rfl) ?_
  refine lv_iconst (v := (1 : Int32)) (pc := 596) hx hb dL_law_596 (by decide) ?_
  refine lv_iadd (pc := 597) hx hb dL_law_597 ?_
  refine sld (pc := 598) (j := 1) C hX hbl hbA hLS.2.2.2.2.2 (by decide) (by omega) hL dL_law_598 ?_
  refine lm_i (As := [.int (xs (i + 1))]) (rest := [.int v]) (M1 := M1) (pc := 599) C hA lk_RL_91 rfl (kX11_pays l D cA d h2) ⟨Nat.le_of_ble_eq_true rfl, Nat.le_of_ble_eq_true rfl⟩ ⟨Nat.le_refl _, Nat.le_refl _⟩ hLS hl.1 rfl (Nat.le_of_ble_eq_true rfl) dL_law_599 (fun H locs hLS => ?_)
  refine lv_icmp_eq (tgt := 959) (pc := 602) hx hb dL_law_602 (by decide) (fun _ => ?_) (fun c1 => absurd rfl c1)
  exact hg a S1 M1 hR _ _ _ hLS hl
def OB_day (N : Nat) (Rel : St → St → Prop) : Prop := ∀ (S M : St) (p1 : Int32), Rel S M → ∃ v : Int32, fX10_day N S p1 = some v ∧ fX11_day N M p1 = some v ∧ Rel S M
set_option maxRecDepth 100000 in
set_option maxHeartbeats 4000000 in
theorem lw_day {N b L i : Nat} {xs : Nat → Int32} {Rel : St → St → Prop} (C : Cx p s m args meth c D cA code 4 RL ret) (hA : ∀ q : Nat, s.heap.size ≤ q → A q) (hX : va_X b L xs s s.heap) (hbl : b < s.heap.size) (hbA : ¬ A b) (hL : L ≤ 256) (hi : i + 4 ≤ L) (ob : OB_day N Rel) (hR : Rel S M) (hg : ∀ (a : Nat → Nat) (S M : St), Rel S M → ∀ (H : Heap) (locs : List Loc) (ls : Array Slot), LwS D cA s A a S d M H locs → lv_has ls 4 [(0, .ref b), (1, .ref (a 0)), (2, .ref (d 0)), (3, .int (nI i))] → W p l e room_1 s m args below meth c H locs 51 2570 Q (F0 m 959 ls [])) {H : Heap} {locs : List Loc} {ls : Array Slot} (hLS : LwS D cA s A a S d M H locs) (hl : lv_has ls 4 [(0, .ref b), (1, .ref (a 0)), (2, .ref (d 0)), (3, .int (nI i))]) : W p l e room_1 s m args below meth c H locs 51 2570 Q (F0 m 607 ls []) := by
  obtain ⟨hx, hb, hml, hown, hts, hK, hN, hr, hlk⟩ := id C
  obtain ⟨v, h1, h2, hR⟩ := ob S M (xs (i + 1)) hR
  refine lv_aload_n (pc := 607) hx hb dL_law_607 rfl (lv_at hl 1 rfl) ?_
  refine lv_aload_n (pc := 608) hx hb dL_law_608 rfl (lv_at hl 0 rfl) ?_
  refine lv_iload_n (pc := 609) hx hb dL_law_609 rfl (lv_at hl 3 rfl) ?_
  refine lv_iconst (v := (1 : Int32)) (pc := 610) hx hb dL_law_610 (by decide) ?_
  refine lv_iadd (pc := 611) hx hb dL_law_611 ?_
  refine sld (pc := 612) (j := 1) C hX hbl hbA hLS.2.2.2.2.2 (by decide) (by omega) hL dL_law_612 ?_
  refine lx_i (As := [.int (xs (i + 1))]) (rest := []) (a1 := a) (S1 := S) (pc := 613) C hA lk_RL_92 rfl (kX10_day l D cA a h1) ⟨Nat.le_of_ble_eq_true rfl, Nat.le_of_ble_eq_true rfl⟩ ⟨Nat.le_refl _, Nat.le_refl _⟩ hLS hl.1 rfl (Nat.le_of_ble_eq_true rfl) dL_law_613 (fun H locs hLS => ?_)
  refine lv_aload_n (pc := 616) hx hb dL_law_616 rfl (lv_at hl 2 rfl) ?_
  refine lv_aload_n (pc := 617) hx hb dL_law_617 rfl (lv_at hl 0 rfl) ?_
  refine lv_iload_n (pc := 618) hx hb dL_law_618 rfl (lv_at hl 3 rfl) ?_
  refine lv_iconst (v := (1 : Int32)) (pc := 619) hx hb dL_law_619 (by decide) ?_
  refine lv_iadd (pc := 620) hx hb dL_law_620 ?_
  refine sld (pc := 621) (j := 1) C hX hbl hbA hLS.2.2.2.2.2 (by decide) (by omega) hL dL_law_621 ?_
  refine lm_i (As := [.int (xs (i + 1))]) (rest := [.int v]) (M1 := M) (pc := 622) C hA lk_RL_95 rfl (kX11_day l D cA d h2) ⟨Nat.le_of_ble_eq_true rfl, Nat.le_of_ble_eq_true rfl⟩ ⟨Nat.le_refl _, Nat.le_refl _⟩ hLS hl.1 rfl (Nat.le_of_ble_eq_true rfl) dL_law_622 (fun H locs hLS => ?_)
  refine lv_icmp_eq (tgt := 959) (pc := 625) hx hb dL_law_625 (by decide) (fun _ => ?_) (fun c1 => absurd rfl c1)
  exact hg a S M hR _ _ _ hLS hl
def OB_agree (N : Nat) (Rel : St → St → Prop) : Prop := ∀ (S M : St), Rel S M → ∃ v : Int32, fX10_agree N S  = some v ∧ fX11_agree N M  = some v ∧ Rel S M
set_option maxRecDepth 100000 in
set_option maxHeartbeats 4000000 in
theorem lw_agree {N b L i : Nat} {xs : Nat → Int32} {Rel : St → St → Prop} (C : Cx p s m args meth c D cA code 4 RL ret) (hA : ∀ q : Nat, s.heap.size ≤ q → A q) (hX : va_X b L xs s s.heap) (hbl : b < s.heap.size) (hbA : ¬ A b) (hL : L ≤ 256) (hi : i + 4 ≤ L) (ob : OB_agree N Rel) (hR : Rel S M) (hg : ∀ (a : Nat → Nat) (S M : St), Rel S M → ∀ (H : Heap) (locs : List Loc) (ls : Array Slot), LwS D cA s A a S d M H locs → lv_has ls 4 [(0, .ref b), (1, .ref (a 0)), (2, .ref (d 0)), (3, .int (nI i))] → W p l e room_1 s m args below meth c H locs 51 2570 Q (F0 m 959 ls [])) {H : Heap} {locs : List Loc} {ls : Array Slot} (hLS : LwS D cA s A a S d M H locs) (hl : lv_has ls 4 [(0, .ref b), (1, .ref (a 0)), (2, .ref (d 0)), (3, .int (nI i))]) : W p l e room_1 s m args below meth c H locs 51 2570 Q (F0 m 630 ls []) := by
  obtain ⟨hx, hb, hml, hown, hts, hK, hN, hr, hlk⟩ := id C
  obtain ⟨v, h1, h2, hR⟩ := ob S M  hR
  refine lv_aload_n (pc := 630) hx hb dL_law_630 rfl (lv_at hl 1 rfl) ?_
  refine lx_i (As := []) (rest := []) (a1 := a) (S1 := S) (pc := 631) C hA lk_RL_96 rfl (kX10_agree l D cA a h1) ⟨Nat.le_of_ble_eq_true rfl, Nat.le_of_ble_eq_true rfl⟩ ⟨Nat.le_refl _, Nat.le_refl _⟩ hLS hl.1 rfl (Nat.le_of_ble_eq_true rfl) dL_law_631 (fun H locs hLS => ?_)
  refine lv_aload_n (pc := 634) hx hb dL_law_634 rfl (lv_at hl 2 rfl) ?_
  refine lm_i (As := []) (rest := [.int v]) (M1 := M) (pc := 635) C hA lk_RL_99 rfl (kX11_agree l D cA d h2) ⟨Nat.le_of_ble_eq_true rfl, Nat.le_of_ble_eq_true rfl⟩ ⟨Nat.le_refl _, Nat.le_refl _⟩ hLS hl.1 rfl (Nat.le_of_ble_eq_true rfl) dL_law_635 (fun H locs hLS => ?_)
  refine lv_icmp_eq (tgt := 959) (pc := 638) hx hb dL_law_638 (by decide) (fun _ => ?_) (fun c1 => absurd rfl c1)
  exact hg a S M hR _ _ _ hLS hl
def OB_odds (N : Nat) (Rel : St → St → Prop) : Prop := ∀ (S M : St) (p1 : Int32) (p2 : Int32), Rel S M → ∃ v : Int32, fX10_odds N S p1 p2 = some v ∧ fX11_odds N M p1 p2 = some v ∧ Rel S M
set_option maxRecDepth 100000 in
set_option maxHeartbeats 4000000 in
theorem lw_odds {N b L i : Nat} {xs : Nat → Int32} {Rel : St → St → Prop} (C : Cx p s m args meth c D cA code 4 RL ret) (hA : ∀ q : Nat, s.heap.size ≤ q → A q) (hX : va_X b L xs s s.heap) (hbl : b < s.heap.size) (hbA : ¬ A b) (hL : L ≤ 256) (hi : i + 4 ≤ L) (ob : OB_odds N Rel) (hR : Rel S M) (hg : ∀ (a : Nat → Nat) (S M : St), Rel S M → ∀ (H : Heap) (locs : List Loc) (ls : Array Slot), LwS D cA s A a S d M H locs → lv_has ls 4 [(0, .ref b), (1, .ref (a 0)), (2, .ref (d 0)), (3, .int (nI i))] → W p l e room_1 s m args below meth c H locs 51 2570 Q (F0 m 959 ls [])) {H : Heap} {locs : List Loc} {ls : Array Slot} (hLS : LwS D cA s A a S d M H locs) (hl : lv_has ls 4 [(0, .ref b), (1, .ref (a 0)), (2, .ref (d 0)), (3, .int (nI i))]) : W p l e room_1 s m args below meth c H locs 51 2570 Q (F0 m 643 ls []) := by
  obtain ⟨hx, hb, hml, hown, hts, hK, hN, hr, hlk⟩ := id C
  obtain ⟨v, h1, h2, hR⟩ := ob S M (xs (i + 1)) (xs (i + 2)) hR
  refine lv_aload_n (pc := 643) hx hb dL_law_643 rfl (lv_at hl 1 rfl) ?_
  refine lv_aload_n (pc := 644) hx hb dL_law_644 rfl (lv_at hl 0 rfl) ?_
  refine lv_iload_n (pc := 645) hx hb dL_law_645 rfl (lv_at hl 3 rfl) ?_
  refine lv_iconst (v := (1 : Int32)) (pc := 646) hx hb dL_law_646 (by decide) ?_
  refine lv_iadd (pc := 647) hx hb dL_law_647 ?_
  refine sld (pc := 648) (j := 1) C hX hbl hbA hLS.2.2.2.2.2 (by decide) (by omega) hL dL_law_648 ?_
  refine lv_aload_n (pc := 649) hx hb dL_law_649 rfl (lv_at hl 0 rfl) ?_
  refine lv_iload_n (pc := 650) hx hb dL_law_650 rfl (lv_at hl 3 rfl) ?_
  refine lv_iconst (v := (2 : Int32)) (pc := 651) hx hb dL_law_651 (by decide) ?_
  refine lv_iadd (pc := 652) hx hb dL_law_652 ?_
  refine sld (pc := 653) (j := 2) C hX hbl hbA hLS.2.2.2.2.2 (by decide) (by omega) hL dL_law_653 ?_
  refine lx_i (As := [.int (xs (i + 1)), .int (xs (i + 2))]) (rest := []) (a1 := a) (S1 := S) (pc := 654) C hA lk_RL_100 rfl (kX10_odds l D cA a h1) ⟨Nat.le_of_ble_eq_true rfl, Nat.le_of_ble_eq_true rfl⟩ ⟨Nat.le_refl _, Nat.le_refl _⟩ hLS hl.1 rfl (Nat.le_of_ble_eq_true rfl) dL_law_654 (fun H locs hLS => ?_)
  refine lv_aload_n (pc := 657) hx hb dL_law_657 rfl (lv_at hl 2 rfl) ?_
  refine lv_aload_n (pc := 658) hx hb dL_law_658 rfl (lv_at hl 0 rfl) ?_
  refine lv_iload_n (pc := 659) hx hb dL_law_659 rfl (lv_at hl 3 rfl) ?_
  refine lv_iconst (v := (1 : Int32)) (pc := 660) hx hb dL_law_660 (by decide) ?_
  refine lv_iadd (pc := 661) hx hb dL_law_661 ?_
  refine sld (pc := 662) (j := 1) C hX hbl hbA hLS.2.2.2.2.2 (by decide) (by omega) hL dL_law_662 ?_
  refine lv_aload_n (pc := 663) hx hb dL_law_663 rfl (lv_at hl 0 rfl) ?_
  refine lv_iload_n (pc := 664) hx hb dL_law_664 rfl (lv_at hl 3 rfl) ?_
  refine lv_iconst (v := (2 : Int32)) (pc := 665) hx hb dL_law_665 (by decide) ?_
  refine lv_iadd (pc := 666) hx hb dL_law_666 ?_
  refine sld (pc := 667) (j := 2) C hX hbl hbA hLS.2.2.2.2.2 (by decide) (by omega) hL dL_law_667 ?_
  refine lm_i (As := [.int (xs (i + 1)), .int (xs (i + 2))]) (rest := [.int v]) (M1 := M) (pc := 668) C hA lk_RL_103 rfl (kX11_odds l D cA d h2) ⟨Nat.le_of_ble_eq_true rfl, Nat.le_of_ble_eq_true rfl⟩ ⟨Nat.le_refl _, Nat.le_refl _⟩ hLS hl.1 rfl (Nat.le_of_ble_eq_true rfl) dL_law_668 (fun H locs hLS => ?_)
  refine lv_icmp_eq (tgt := 959) (pc := 671) hx hb dL_law_671 (by decide) (fun _ => ?_) (fun c1 => absurd rfl c1)
  exact hg a S M hR _ _ _ hLS hl
def OB_mean (N : Nat) (Rel : St → St → Prop) : Prop := ∀ (S M : St) (p1 : Int32), Rel S M → ∃ v : Int32, fX10_mean N S p1 = some v ∧ fX11_mean N M p1 = some v ∧ Rel S M
set_option maxRecDepth 100000 in
set_option maxHeartbeats 4000000 in
theorem lw_mean {N b L i : Nat} {xs : Nat → Int32} {Rel : St → St → Prop} (C : Cx p s m args meth c D cA code 4 RL ret) (hA : ∀ q : Nat, s.heap.size ≤ q → A q) (hX : va_X b L xs s s.heap) (hbl : b < s.heap.size) (hbA : ¬ A b) (hL : L ≤ 256) (hi : i + 4 ≤ L) (ob : OB_mean N Rel) (hR : Rel S M) (hg : ∀ (a : Nat → Nat) (S M : St), Rel S M → ∀ (H : Heap) (locs : List Loc) (ls : Array Slot), LwS D cA s A a S d M H locs → lv_has ls 4 [(0, .ref b), (1, .ref (a 0)), (2, .ref (d 0)), (3, .int (nI i))] → W p l e room_1 s m args below meth c H locs 51 2570 Q (F0 m 959 ls [])) {H : Heap} {locs : List Loc} {ls : Array Slot} (hLS : LwS D cA s A a S d M H locs) (hl : lv_has ls 4 [(0, .ref b), (1, .ref (a 0)), (2, .ref (d 0)), (3, .int (nI i))]) : W p l e room_1 s m args below meth c H locs 51 2570 Q (F0 m 676 ls []) := by
  obtain ⟨hx, hb, hml, hown, hts, hK, hN, hr, hlk⟩ := id C
  obtain ⟨v, h1, h2, hR⟩ := ob S M (xs (i + 1)) hR
  refine lv_aload_n (pc := 676) hx hb dL_law_676 rfl (lv_at hl 1 rfl) ?_
  refine lv_aload_n (pc := 677) hx hb dL_law_677 rfl (lv_at hl 0 rfl) ?_
  refine lv_iload_n (pc := 678) hx hb dL_law_678 rfl (lv_at hl 3 rfl) ?_
  refine lv_iconst (v := (1 : Int32)) (pc := 679) hx hb dL_law_679 (by decide) ?_
  refine lv_iadd (pc := 680) hx hb dL_law_680 ?_
  refine sld (pc := 681) (j := 1) C hX hbl hbA hLS.2.2.2.2.2 (by decide) (by omega) hL dL_law_681 ?_
  refine lx_i (As := [.int (xs (i + 1))]) (rest := []) (a1 := a) (S1 := S) (pc := 682) C hA lk_RL_104 rfl (kX10_mean l D cA a h1) ⟨Nat.le_of_ble_eq_true rfl, Nat.le_of_ble_eq_true rfl⟩ ⟨Nat.le_refl _, Nat.le_refl _⟩ hLS hl.1 rfl (Nat.le_of_ble_eq_true rfl) dL_law_682 (fun H locs hLS => ?_)
  refine lv_aload_n (pc := 685) hx hb dL_law_685 rfl (lv_at hl 2 rfl) ?_
  refine lv_aload_n (pc := 686) hx hb dL_law_686 rfl (lv_at hl 0 rfl) ?_
  refine lv_iload_n (pc := 687) hx hb dL_law_687 rfl (lv_at hl 3 rfl) ?_
  refine lv_iconst (v := (1 : Int32)) (pc := 688) hx hb dL_law_688 (by decide) ?_
  refine lv_iadd (pc := 689) hx hb dL_law_689 ?_
  refine sld (pc := 690) (j := 1) C hX hbl hbA hLS.2.2.2.2.2 (by decide) (by omega) hL dL_law_690 ?_
  refine lm_i (As := [.int (xs (i + 1))]) (rest := [.int v]) (M1 := M) (pc := 691) C hA lk_RL_107 rfl (kX11_mean l D cA d h2) ⟨Nat.le_of_ble_eq_true rfl, Nat.le_of_ble_eq_true rfl⟩ ⟨Nat.le_refl _, Nat.le_refl _⟩ hLS hl.1 rfl (Nat.le_of_ble_eq_true rfl) dL_law_691 (fun H locs hLS => ?_)
  refine lv_icmp_eq (tgt := 959) (pc := 694) hx hb dL_law_694 (by decide) (fun _ => ?_) (fun c1 => absurd rfl c1)
  exact hg a S M hR _ _ _ hLS hl
def OB_dark (N : Nat) (Rel : St → St → Prop) : Prop := ∀ (S M : St) (p1 : Int32) (p2 : Int32), Rel S M → ∃ v : Int32, ∃ S1 : St, ∃ M1 : St, fX10_dark N S p1 p2 = some (v, S1) ∧ fX11_dark N M p1 p2 = some (v, M1) ∧ Rel S1 M1
set_option maxRecDepth 100000 in
set_option maxHeartbeats 4000000 in
theorem lw_dark {N b L i : Nat} {xs : Nat → Int32} {Rel : St → St → Prop} (C : Cx p s m args meth c D cA code 4 RL ret) (hA : ∀ q : Nat, s.heap.size ≤ q → A q) (hX : va_X b L xs s s.heap) (hbl : b < s.heap.size) (hbA : ¬ A b) (hL : L ≤ 256) (hi : i + 4 ≤ L) (ob : OB_dark N Rel) (hR : Rel S M) (hg : ∀ (a : Nat → Nat) (S M : St), Rel S M → ∀ (H : Heap) (locs : List Loc) (ls : Array Slot), LwS D cA s A a S d M H locs → lv_has ls 4 [(0, .ref b), (1, .ref (a 0)), (2, .ref (d 0)), (3, .int (nI i))] → W p l e room_1 s m args below meth c H locs 51 2570 Q (F0 m 959 ls [])) {H : Heap} {locs : List Loc} {ls : Array Slot} (hLS : LwS D cA s A a S d M H locs) (hl : lv_has ls 4 [(0, .ref b), (1, .ref (a 0)), (2, .ref (d 0)), (3, .int (nI i))]) : W p l e room_1 s m args below meth c H locs 51 2570 Q (F0 m 699 ls []) := by
  obtain ⟨hx, hb, hml, hown, hts, hK, hN, hr, hlk⟩ := id C
  obtain ⟨v, S1, M1, h1, h2, hR⟩ := ob S M (xs (i + 1)) (xs (i + 2)) hR
  refine lv_aload_n (pc := 699) hx hb dL_law_699 rfl (lv_at hl 1 rfl) ?_
  refine lv_aload_n (pc := 700) hx hb dL_law_700 rfl (lv_at hl 0 rfl) ?_
  refine lv_iload_n (pc := 701) hx hb dL_law_701 rfl (lv_at hl 3 rfl) ?_
  refine lv_iconst (v := (1 : Int32)) (pc := 702) hx hb dL_law_702 (by decide) ?_
  refine lv_iadd (pc := 703) hx hb dL_law_703 ?_
  refine sld (pc := 704) (j := 1) C hX hbl hbA hLS.2.2.2.2.2 (by decide) (by omega) hL dL_law_704 ?_
  refine lv_aload_n (pc := 705) hx hb dL_law_705 rfl (lv_at hl 0 rfl) ?_
  refine lv_iload_n (pc := 706) hx hb dL_law_706 rfl (lv_at hl 3 rfl) ?_
  refine lv_iconst (v := (2 : Int32)) (pc := 707) hx hb dL_law_707 (by decide) ?_
  refine lv_iadd (pc := 708) hx hb dL_law_708 ?_
  refine sld (pc := 709) (j := 2) C hX hbl hbA hLS.2.2.2.2.2 (by decide) (by omega) hL dL_law_709 ?_
  refine lx_i (As := [.int (xs (i + 1)), .int (xs (i + 2))]) (rest := []) (a1 := a) (S1 := S1) (pc := 710) C hA lk_RL_108 rfl (kX10_dark l D cA a h1) ⟨Nat.le_of_ble_eq_true rfl, Nat.le_of_ble_eq_true rfl⟩ ⟨Nat.le_refl _, Nat.le_refl _⟩ hLS hl.1 rfl (Nat.le_of_ble_eq_true rfl) dL_law_710 (fun H locs hLS => ?_)
  refine lv_aload_n (pc := 713) hx hb dL_law_713 rfl (lv_at hl 2 rfl) ?_
  refine lv_aload_n (pc := 714) hx hb dL_law_714 rfl (lv_at hl 0 rfl) ?_
  refine lv_iload_n (pc := 715) hx hb dL_law_715 rfl (lv_at hl 3 rfl) ?_
  refine lv_iconst (v := (1 : Int32)) (pc := 716) hx hb dL_law_716 (by decide) ?_
  refine lv_iadd (pc := 717) hx hb dL_law_717 ?_
  refine sld (pc := 718) (j := 1) C hX hbl hbA hLS.2.2.2.2.2 (by decide) (by omega) hL dL_law_718 ?_
  refine lv_aload_n (pc := 719) hx hb dL_law_719 rfl (lv_at hl 0 rfl) ?_
  refine lv_iload_n (pc := 720) hx hb dL_law_720 rfl (lv_at hl 3 rfl) ?_
  refine lv_iconst (v := (2 : Int32)) (pc := 721) hx hb dL_law_721 (by decide) ?_
  refine lv_iadd (pc := 722) hx hb dL_law_722 ?_
  refine sld (pc := 723) (j := 2) C hX hbl hbA hLS.2.2.2.2.2 (by decide) (by omega) hL dL_law_723 ?_
  refine lm_i (As := [.int (xs (i + 1)), .int (xs (i + 2))]) (rest := [.int v]) (M1 := M1) (pc := 724) C hA lk_RL_111 rfl (kX11_dark l D cA d h2) ⟨Nat.le_of_ble_eq_true rfl, Nat.le_of_ble_eq_true rfl⟩ ⟨Nat.le_refl _, Nat.le_refl _⟩ hLS hl.1 rfl (Nat.le_of_ble_eq_true rfl) dL_law_724 (fun H locs hLS => ?_)
  refine lv_icmp_eq (tgt := 959) (pc := 727) hx hb dL_law_727 (by decide) (fun _ => ?_) (fun c1 => absurd rfl c1)
  exact hg a S1 M1 hR _ _ _ hLS hl
def OB_forget (N : Nat) (Rel : St → St → Prop) : Prop := ∀ (S M : St), Rel S M → ∃ v : Int32, ∃ S1 : St, ∃ M1 : St, fX10_forget N S  = some (v, S1) ∧ fX11_forget N M  = some (v, M1) ∧ Rel S1 M1
set_option maxRecDepth 100000 in
set_option maxHeartbeats 4000000 in
theorem lw_forget {N b L i : Nat} {xs : Nat → Int32} {Rel : St → St → Prop} (C : Cx p s m args meth c D cA code 4 RL ret) (hA : ∀ q : Nat, s.heap.size ≤ q → A q) (hX : va_X b L xs s s.heap) (hbl : b < s.heap.size) (hbA : ¬ A b) (hL : L ≤ 256) (hi : i + 4 ≤ L) (ob : OB_forget N Rel) (hR : Rel S M) (hg : ∀ (a : Nat → Nat) (S M : St), Rel S M → ∀ (H : Heap) (locs : List Loc) (ls : Array Slot), LwS D cA s A a S d M H locs → lv_has ls 4 [(0, .ref b), (1, .ref (a 0)), (2, .ref (d 0)), (3, .int (nI i))] → W p l e room_1 s m args below meth c H locs 51 2570 Q (F0 m 959 ls [])) {H : Heap} {locs : List Loc} {ls : Array Slot} (hLS : LwS D cA s A a S d M H locs) (hl : lv_has ls 4 [(0, .ref b), (1, .ref (a 0)), (2, .ref (d 0)), (3, .int (nI i))]) : W p l e room_1 s m args below meth c H locs 51 2570 Q (F0 m 732 ls []) := by
  obtain ⟨hx, hb, hml, hown, hts, hK, hN, hr, hlk⟩ := id C
  obtain ⟨v, S1, M1, h1, h2, hR⟩ := ob S M  hR
  refine lv_aload_n (pc := 732) hx hb dL_law_732 rfl (lv_at hl 1 rfl) ?_
  refine lx_i (As := []) (rest := []) (a1 := a) (S1 := S1) (pc := 733) C hA lk_RL_112 rfl (kX10_forget l D cA a h1) ⟨Nat.le_of_ble_eq_true rfl, Nat.le_of_ble_eq_true rfl⟩ ⟨Nat.le_refl _, Nat.le_refl _⟩ hLS hl.1 rfl (Nat.le_of_ble_eq_true rfl) dL_law_733 (fun H locs hLS => ?_)
  refine lv_aload_n (pc := 736) hx hb dL_law_736 rfl (lv_at hl 2 rfl) ?_
  refine lm_i (As := []) (rest := [.int v]) (M1 := M1) (pc := 737) C hA lk_RL_115 rfl (kX11_forget l D cA d h2) ⟨Nat.le_of_ble_eq_true rfl, Nat.le_of_ble_eq_true rfl⟩ ⟨Nat.le_refl _, Nat.le_refl _⟩ hLS hl.1 rfl (Nat.le_of_ble_eq_true rfl) dL_law_737 (fun H locs hLS => ?_)
  refine lv_icmp_eq (tgt := 959) (pc := 740) hx hb dL_law_740 (by decide) (fun _ => ?_) (fun c1 => absurd rfl c1)
  exact hg a S1 M1 hR _ _ _ hLS hl
def OB_works (N : Nat) (Rel : St → St → Prop) : Prop := ∀ (S M : St), Rel S M → ∃ v : Int32, ∃ M1 : St, fX10_works N S  = some v ∧ fX11_works N M  = some (v, M1) ∧ Rel S M1
set_option maxRecDepth 100000 in
set_option maxHeartbeats 4000000 in
theorem lw_works {N b L i : Nat} {xs : Nat → Int32} {Rel : St → St → Prop} (C : Cx p s m args meth c D cA code 4 RL ret) (hA : ∀ q : Nat, s.heap.size ≤ q → A q) (hX : va_X b L xs s s.heap) (hbl : b < s.heap.size) (hbA : ¬ A b) (hL : L ≤ 256) (hi : i + 4 ≤ L) (ob : OB_works N Rel) (hR : Rel S M) (hg : ∀ (a : Nat → Nat) (S M : St), Rel S M → ∀ (H : Heap) (locs : List Loc) (ls : Array Slot), LwS D cA s A a S d M H locs → lv_has ls 4 [(0, .ref b), (1, .ref (a 0)), (2, .ref (d 0)), (3, .int (nI i))] → W p l e room_1 s m args below meth c H locs 51 2570 Q (F0 m 959 ls [])) {H : Heap} {locs : List Loc} {ls : Array Slot} (hLS : LwS D cA s A a S d M H locs) (hl : lv_has ls 4 [(0, .ref b), (1, .ref (a 0)), (2, .ref (d 0)), (3, .int (nI i))]) : W p l e room_1 s m args below meth c H locs 51 2570 Q (F0 m 745 ls []) := by
  obtain ⟨hx, hb, hml, hown, hts, hK, hN, hr, hlk⟩ := id C
  obtain ⟨v, M1, h1, h2, hR⟩ := ob S M  hR
  refine lv_aload_n (pc := 745) hx hb dL_law_745 rfl (lv_at hl 1 rfl) ?_
  refine lx_i (As := []) (rest := []) (a1 := a) (S1 := S) (pc := 746) C hA lk_RL_116 rfl (kX10_works l D cA a h1) ⟨Nat.le_of_ble_eq_true rfl, Nat.le_of_ble_eq_true rfl⟩ ⟨Nat.le_refl _, Nat.le_refl _⟩ hLS hl.1 rfl (Nat.le_of_ble_eq_true rfl) dL_law_746 (fun H locs hLS => ?_)
  refine lv_aload_n (pc := 749) hx hb dL_law_749 rfl (lv_at hl 2 rfl) ?_
  refine lm_i (As := []) (rest := [.int v]) (M1 := M1) (pc := 750) C hA lk_RL_119 rfl (kX11_works l D cA d h2) ⟨Nat.le_of_ble_eq_true rfl, Nat.le_of_ble_eq_true rfl⟩ ⟨Nat.le_refl _, Nat.le_refl _⟩ hLS hl.1 rfl (Nat.le_of_ble_eq_true rfl) dL_law_750 (fun H locs hLS => ?_)
  refine lv_icmp_eq (tgt := 959) (pc := 753) hx hb dL_law_753 (by decide) (fun _ => ?_) (fun c1 => absurd rfl c1)
  exact hg a S M1 hR _ _ _ hLS hl
def OB_costs (N : Nat) (Rel : St → St → Prop) : Prop := ∀ (S M : St) (p1 : Int32) (p2 : Int32), Rel S M → ∃ v : Int32, ∃ M1 : St, fX10_costs N S p1 p2 = some v ∧ fX11_costs N M p1 p2 = some (v, M1) ∧ Rel S M1
set_option maxRecDepth 100000 in
set_option maxHeartbeats 4000000 in
theorem lw_costs {N b L i : Nat} {xs : Nat → Int32} {Rel : St → St → Prop} (C : Cx p s m args meth c D cA code 4 RL ret) (hA : ∀ q : Nat, s.heap.size ≤ q → A q) (hX : va_X b L xs s s.heap) (hbl : b < s.heap.size) (hbA : ¬ A b) (hL : L ≤ 256) (hi : i + 4 ≤ L) (ob : OB_costs N Rel) (hR : Rel S M) (hg : ∀ (a : Nat → Nat) (S M : St), Rel S M → ∀ (H : Heap) (locs : List Loc) (ls : Array Slot), LwS D cA s A a S d M H locs → lv_has ls 4 [(0, .ref b), (1, .ref (a 0)), (2, .ref (d 0)), (3, .int (nI i))] → W p l e room_1 s m args below meth c H locs 51 2570 Q (F0 m 959 ls [])) {H : Heap} {locs : List Loc} {ls : Array Slot} (hLS : LwS D cA s A a S d M H locs) (hl : lv_has ls 4 [(0, .ref b), (1, .ref (a 0)), (2, .ref (d 0)), (3, .int (nI i))]) : W p l e room_1 s m args below meth c H locs 51 2570 Q (F0 m 758 ls []) := by
  obtain ⟨hx, hb, hml, hown, hts, hK, hN, hr, hlk⟩ := id C
  obtain ⟨v, M1, h1, h2, hR⟩ := ob S M (xs (i + 1)) (xs (i + 2)) hR
  refine lv_aload_n (pc := 758) hx hb dL_law_758 rfl (lv_at hl 1 rfl) ?_
  refine lv_aload_n (pc := 759) hx hb dL_law_759 rfl (lv_at hl 0 rfl) ?_
  refine lv_iload_n (pc := 760) hx hb dL_law_760 rfl (lv_at hl 3 rfl) ?_
  refine lv_iconst (v := (1 : Int32)) (pc := 761) hx hb dL_law_761 (by decide) ?_
  refine lv_iadd (pc := 762) hx hb dL_law_762 ?_
  refine sld (pc := 763) (j := 1) C hX hbl hbA hLS.2.2.2.2.2 (by decide) (by omega) hL dL_law_763 ?_
  refine lv_aload_n (pc := 764) hx hb dL_law_764 rfl (lv_at hl 0 rfl) ?_
  refine lv_iload_n (pc := 765) hx hb dL_law_765 rfl (lv_at hl 3 rfl) ?_
  refine lv_iconst (v := (2 : Int32)) (pc := 766) hx hb dL_law_766 (by decide) ?_
  refine lv_iadd (pc := 767) hx hb dL_law_767 ?_
  refine sld (pc := 768) (j := 2) C hX hbl hbA hLS.2.2.2.2.2 (by decide) (by omega) hL dL_law_768 ?_
  refine lx_i (As := [.int (xs (i + 1)), .int (xs (i + 2))]) (rest := []) (a1 := a) (S1 := S) (pc := 769) C hA lk_RL_120 rfl (kX10_costs l D cA a h1) ⟨Nat.le_of_ble_eq_true rfl, Nat.le_of_ble_eq_true rfl⟩ ⟨Nat.le_refl _, Nat.le_refl _⟩ hLS hl.1 rfl (Nat.le_of_ble_eq_true rfl) dL_law_769 (fun H locs hLS => ?_)
  refine lv_aload_n (pc := 772) hx hb dL_law_772 rfl (lv_at hl 2 rfl) ?_
  refine lv_aload_n (pc := 773) hx hb dL_law_773 rfl (lv_at hl 0 rfl) ?_
  refine lv_iload_n (pc := 774) hx hb dL_law_774 rfl (lv_at hl 3 rfl) ?_
  refine lv_iconst (v := (1 : Int32)) (pc := 775) hx hb dL_law_775 (by decide) ?_
  refine lv_iadd (pc := 776) hx hb dL_law_776 ?_
  refine sld (pc := 777) (j := 1) C hX hbl hbA hLS.2.2.2.2.2 (by decide) (by omega) hL dL_law_777 ?_
  refine lv_aload_n (pc := 778) hx hb dL_law_778 rfl (lv_at hl 0 rfl) ?_
  refine lv_iload_n (pc := 779) hx hb dL_law_779 rfl (lv_at hl 3 rfl) ?_
  refine lv_iconst (v := (2 : Int32)) (pc := 780) hx hb dL_law_780 (by decide) ?_
  refine lv_iadd (pc := 781) hx hb dL_law_781 ?_
  refine sld (pc := 782) (j := 2) C hX hbl hbA hLS.2.2.2.2.2 (by decide) (by omega) hL dL_law_782 ?_
  refine lm_i (As := [.int (xs (i + 1)), .int (xs (i + 2))]) (rest := [.int v]) (M1 := M1) (pc := 783) C hA lk_RL_123 rfl (kX11_costs l D cA d h2) ⟨Nat.le_of_ble_eq_true rfl, Nat.le_of_ble_eq_true rfl⟩ ⟨Nat.le_refl _, Nat.le_refl _⟩ hLS hl.1 rfl (Nat.le_of_ble_eq_true rfl) dL_law_783 (fun H locs hLS => ?_)
  refine lv_icmp_eq (tgt := 959) (pc := 786) hx hb dL_law_786 (by decide) (fun _ => ?_) (fun c1 => absurd rfl c1)
  exact hg a S M1 hR _ _ _ hLS hl
def OB_dearest (N : Nat) (Rel : St → St → Prop) : Prop := ∀ (S M : St) (p1 : Int32) (p2 : Int32), Rel S M → ∃ v : Int32, ∃ M1 : St, fX10_dearest N S p1 p2 = some v ∧ fX11_dearest N M p1 p2 = some (v, M1) ∧ Rel S M1
set_option maxRecDepth 100000 in
set_option maxHeartbeats 4000000 in
theorem lw_dearest {N b L i : Nat} {xs : Nat → Int32} {Rel : St → St → Prop} (C : Cx p s m args meth c D cA code 4 RL ret) (hA : ∀ q : Nat, s.heap.size ≤ q → A q) (hX : va_X b L xs s s.heap) (hbl : b < s.heap.size) (hbA : ¬ A b) (hL : L ≤ 256) (hi : i + 4 ≤ L) (ob : OB_dearest N Rel) (hR : Rel S M) (hg : ∀ (a : Nat → Nat) (S M : St), Rel S M → ∀ (H : Heap) (locs : List Loc) (ls : Array Slot), LwS D cA s A a S d M H locs → lv_has ls 4 [(0, .ref b), (1, .ref (a 0)), (2, .ref (d 0)), (3, .int (nI i))] → W p l e room_1 s m args below meth c H locs 51 2570 Q (F0 m 959 ls [])) {H : Heap} {locs : List Loc} {ls : Array Slot} (hLS : LwS D cA s A a S d M H locs) (hl : lv_has ls 4 [(0, .ref b), (1, .ref (a 0)), (2, .ref (d 0)), (3, .int (nI i))]) : W p l e room_1 s m args below meth c H locs 51 2570 Q (F0 m 791 ls []) := by
  obtain ⟨hx, hb, hml, hown, hts, hK, hN, hr, hlk⟩ := id C
  obtain ⟨v, M1, h1, h2, hR⟩ := ob S M (xs (i + 1)) (xs (i + 2)) hR
  refine lv_aload_n (pc := 791) hx hb dL_law_791 rfl (lv_at hl 1 rfl) ?_
  refine lv_aload_n (pc := 792) hx hb dL_law_792 rfl (lv_at hl 0 rfl) ?_
  refine lv_iload_n (pc := 793) hx hb dL_law_793 rfl (lv_at hl 3 rfl) ?_
  refine lv_iconst (v := (1 : Int32)) (pc := 794) hx hb dL_law_794 (by decide) ?_
  refine lv_iadd (pc := 795) hx hb dL_law_795 ?_
  refine sld (pc := 796) (j := 1) C hX hbl hbA hLS.2.2.2.2.2 (by decide) (by omega) hL dL_law_796 ?_
  refine lv_aload_n (pc := 797) hx hb dL_law_797 rfl (lv_at hl 0 rfl) ?_
  refine lv_iload_n (pc := 798) hx hb dL_law_798 rfl (lv_at hl 3 rfl) ?_
  refine lv_iconst (v := (2 : Int32)) (pc := 799) hx hb dL_law_799 (by decide) ?_
  refine lv_iadd (pc := 800) hx hb dL_law_800 ?_
  refine sld (pc := 801) (j := 2) C hX hbl hbA hLS.2.2.2.2.2 (by decide) (by omega) hL dL_law_801 ?_
  refine lx_i (As := [.int (xs (i + 1)), .int (xs (i + 2))]) (rest := []) (a1 := a) (S1 := S) (pc := 802) C hA lk_RL_124 rfl (kX10_dearest l D cA a h1) ⟨Nat.le_of_ble_eq_true rfl, Nat.le_of_ble_eq_true rfl⟩ ⟨Nat.le_refl _, Nat.le_refl _⟩ hLS hl.1 rfl (Nat.le_of_ble_eq_true rfl) dL_law_802 (fun H locs hLS => ?_)
  refine lv_aload_n (pc := 805) hx hb dL_law_805 rfl (lv_at hl 2 rfl) ?_
  refine lv_aload_n (pc := 806) hx hb dL_law_806 rfl (lv_at hl 0 rfl) ?_
  refine lv_iload_n (pc := 807) hx hb dL_law_807 rfl (lv_at hl 3 rfl) ?_
  refine lv_iconst (v := (1 : Int32)) (pc := 808) hx hb dL_law_808 (by decide) ?_
  refine lv_iadd (pc := 809) hx hb dL_law_809 ?_
  refine sld (pc := 810) (j := 1) C hX hbl hbA hLS.2.2.2.2.2 (by decide) (by omega) hL dL_law_810 ?_
  refine lv_aload_n (pc := 811) hx hb dL_law_811 rfl (lv_at hl 0 rfl) ?_
  refine lv_iload_n (pc := 812) hx hb dL_law_812 rfl (lv_at hl 3 rfl) ?_
  refine lv_iconst (v := (2 : Int32)) (pc := 813) hx hb dL_law_813 (by decide) ?_
  refine lv_iadd (pc := 814) hx hb dL_law_814 ?_
  refine sld (pc := 815) (j := 2) C hX hbl hbA hLS.2.2.2.2.2 (by decide) (by omega) hL dL_law_815 ?_
  refine lm_i (As := [.int (xs (i + 1)), .int (xs (i + 2))]) (rest := [.int v]) (M1 := M1) (pc := 816) C hA lk_RL_127 rfl (kX11_dearest l D cA d h2) ⟨Nat.le_of_ble_eq_true rfl, Nat.le_of_ble_eq_true rfl⟩ ⟨Nat.le_refl _, Nat.le_refl _⟩ hLS hl.1 rfl (Nat.le_of_ble_eq_true rfl) dL_law_816 (fun H locs hLS => ?_)
  refine lv_icmp_eq (tgt := 959) (pc := 819) hx hb dL_law_819 (by decide) (fun _ => ?_) (fun c1 => absurd rfl c1)
  exact hg a S M1 hR _ _ _ hLS hl
def OB_bargain (N : Nat) (Rel : St → St → Prop) : Prop := ∀ (S M : St) (p1 : Int32) (p2 : Int32) (p3 : Int32), Rel S M → ∃ v : Int32, ∃ M1 : St, fX10_bargain N S p1 p2 p3 = some v ∧ fX11_bargain N M p1 p2 p3 = some (v, M1) ∧ Rel S M1
set_option maxRecDepth 100000 in
set_option maxHeartbeats 4000000 in
theorem lw_bargain {N b L i : Nat} {xs : Nat → Int32} {Rel : St → St → Prop} (C : Cx p s m args meth c D cA code 4 RL ret) (hA : ∀ q : Nat, s.heap.size ≤ q → A q) (hX : va_X b L xs s s.heap) (hbl : b < s.heap.size) (hbA : ¬ A b) (hL : L ≤ 256) (hi : i + 4 ≤ L) (ob : OB_bargain N Rel) (hR : Rel S M) (hg : ∀ (a : Nat → Nat) (S M : St), Rel S M → ∀ (H : Heap) (locs : List Loc) (ls : Array Slot), LwS D cA s A a S d M H locs → lv_has ls 4 [(0, .ref b), (1, .ref (a 0)), (2, .ref (d 0)), (3, .int (nI i))] → W p l e room_1 s m args below meth c H locs 51 2570 Q (F0 m 959 ls [])) {H : Heap} {locs : List Loc} {ls : Array Slot} (hLS : LwS D cA s A a S d M H locs) (hl : lv_has ls 4 [(0, .ref b), (1, .ref (a 0)), (2, .ref (d 0)), (3, .int (nI i))]) : W p l e room_1 s m args below meth c H locs 51 2570 Q (F0 m 824 ls []) := by
  obtain ⟨hx, hb, hml, hown, hts, hK, hN, hr, hlk⟩ := id C
  obtain ⟨v, M1, h1, h2, hR⟩ := ob S M (xs (i + 1)) (xs (i + 2)) (xs (i + 3)) hR
  refine lv_aload_n (pc := 824) hx hb dL_law_824 rfl (lv_at hl 1 rfl) ?_
  refine lv_aload_n (pc := 825) hx hb dL_law_825 rfl (lv_at hl 0 rfl) ?_
  refine lv_iload_n (pc := 826) hx hb dL_law_826 rfl (lv_at hl 3 rfl) ?_
  refine lv_iconst (v := (1 : Int32)) (pc := 827) hx hb dL_law_827 (by decide) ?_
  refine lv_iadd (pc := 828) hx hb dL_law_828 ?_
  refine sld (pc := 829) (j := 1) C hX hbl hbA hLS.2.2.2.2.2 (by decide) (by omega) hL dL_law_829 ?_
  refine lv_aload_n (pc := 830) hx hb dL_law_830 rfl (lv_at hl 0 rfl) ?_
  refine lv_iload_n (pc := 831) hx hb dL_law_831 rfl (lv_at hl 3 rfl) ?_
  refine lv_iconst (v := (2 : Int32)) (pc := 832) hx hb dL_law_832 (by decide) ?_
  refine lv_iadd (pc := 833) hx hb dL_law_833 ?_
  refine sld (pc := 834) (j := 2) C hX hbl hbA hLS.2.2.2.2.2 (by decide) (by omega) hL dL_law_834 ?_
  refine lv_aload_n (pc := 835) hx hb dL_law_835 rfl (lv_at hl 0 rfl) ?_
  refine lv_iload_n (pc := 836) hx hb dL_law_836 rfl (lv_at hl 3 rfl) ?_
  refine lv_iconst (v := (3 : Int32)) (pc := 837) hx hb dL_law_837 (by decide) ?_
  refine lv_iadd (pc := 838) hx hb dL_law_838 ?_
  refine sld (pc := 839) (j := 3) C hX hbl hbA hLS.2.2.2.2.2 (by decide) (by omega) hL dL_law_839 ?_
  refine lx_i (As := [.int (xs (i + 1)), .int (xs (i + 2)), .int (xs (i + 3))]) (rest := []) (a1 := a) (S1 := S) (pc := 840) C hA lk_RL_128 rfl (kX10_bargain l D cA a h1) ⟨Nat.le_of_ble_eq_true rfl, Nat.le_of_ble_eq_true rfl⟩ ⟨Nat.le_refl _, Nat.le_refl _⟩ hLS hl.1 rfl (Nat.le_of_ble_eq_true rfl) dL_law_840 (fun H locs hLS => ?_)
  refine lv_aload_n (pc := 843) hx hb dL_law_843 rfl (lv_at hl 2 rfl) ?_
  refine lv_aload_n (pc := 844) hx hb dL_law_844 rfl (lv_at hl 0 rfl) ?_
  refine lv_iload_n (pc := 845) hx hb dL_law_845 rfl (lv_at hl 3 rfl) ?_
  refine lv_iconst (v := (1 : Int32)) (pc := 846) hx hb dL_law_846 (by decide) ?_
  refine lv_iadd (pc := 847) hx hb dL_law_847 ?_
  refine sld (pc := 848) (j := 1) C hX hbl hbA hLS.2.2.2.2.2 (by decide) (by omega) hL dL_law_848 ?_
  refine lv_aload_n (pc := 849) hx hb dL_law_849 rfl (lv_at hl 0 rfl) ?_
  refine lv_iload_n (pc := 850) hx hb dL_law_850 rfl (lv_at hl 3 rfl) ?_
  refine lv_iconst (v := (2 : Int32)) (pc := 851) hx hb dL_law_851 (by decide) ?_
  refine lv_iadd (pc := 852) hx hb dL_law_852 ?_
  refine sld (pc := 853) (j := 2) C hX hbl hbA hLS.2.2.2.2.2 (by decide) (by omega) hL dL_law_853 ?_
  refine lv_aload_n (pc := 854) hx hb dL_law_854 rfl (lv_at hl 0 rfl) ?_
  refine lv_iload_n (pc := 855) hx hb dL_law_855 rfl (lv_at hl 3 rfl) ?_
  refine lv_iconst (v := (3 : Int32)) (pc := 856) hx hb dL_law_856 (by decide) ?_
  refine lv_iadd (pc := 857) hx hb dL_law_857 ?_
  refine sld (pc := 858) (j := 3) C hX hbl hbA hLS.2.2.2.2.2 (by decide) (by omega) hL dL_law_858 ?_
  refine lm_i (As := [.int (xs (i + 1)), .int (xs (i + 2)), .int (xs (i + 3))]) (rest := [.int v]) (M1 := M1) (pc := 859) C hA lk_RL_132 rfl (kX11_bargain l D cA d h2) ⟨Nat.le_of_ble_eq_true rfl, Nat.le_of_ble_eq_true rfl⟩ ⟨Nat.le_refl _, Nat.le_refl _⟩ hLS hl.1 rfl (Nat.le_of_ble_eq_true rfl) dL_law_859 (fun H locs hLS => ?_)
  refine lv_icmp_eq (tgt := 959) (pc := 862) hx hb dL_law_862 (by decide) (fun _ => ?_) (fun c1 => absurd rfl c1)
  exact hg a S M1 hR _ _ _ hLS hl
def OB_days (N : Nat) (Rel : St → St → Prop) : Prop := ∀ (S M : St) (p1 : Int32) (p2 : Int32) (p3 : Int32), Rel S M → ∃ v : Int32, ∃ M1 : St, fX10_days N S p1 p2 p3 = some v ∧ fX11_days N M p1 p2 p3 = some (v, M1) ∧ Rel S M1
set_option maxRecDepth 100000 in
set_option maxHeartbeats 4000000 in
theorem lw_days {N b L i : Nat} {xs : Nat → Int32} {Rel : St → St → Prop} (C : Cx p s m args meth c D cA code 4 RL ret) (hA : ∀ q : Nat, s.heap.size ≤ q → A q) (hX : va_X b L xs s s.heap) (hbl : b < s.heap.size) (hbA : ¬ A b) (hL : L ≤ 256) (hi : i + 4 ≤ L) (ob : OB_days N Rel) (hR : Rel S M) (hg : ∀ (a : Nat → Nat) (S M : St), Rel S M → ∀ (H : Heap) (locs : List Loc) (ls : Array Slot), LwS D cA s A a S d M H locs → lv_has ls 4 [(0, .ref b), (1, .ref (a 0)), (2, .ref (d 0)), (3, .int (nI i))] → W p l e room_1 s m args below meth c H locs 51 2570 Q (F0 m 959 ls [])) {H : Heap} {locs : List Loc} {ls : Array Slot} (hLS : LwS D cA s A a S d M H locs) (hl : lv_has ls 4 [(0, .ref b), (1, .ref (a 0)), (2, .ref (d 0)), (3, .int (nI i))]) : W p l e room_1 s m args below meth c H locs 51 2570 Q (F0 m 867 ls []) := by
  obtain ⟨hx, hb, hml, hown, hts, hK, hN, hr, hlk⟩ := id C
  obtain ⟨v, M1, h1, h2, hR⟩ := ob S M (xs (i + 1)) (xs (i + 2)) (xs (i + 3)) hR
  refine lv_aload_n (pc := 867) hx hb dL_law_867 rfl (lv_at hl 1 rfl) ?_
  refine lv_aload_n (pc := 868) hx hb dL_law_868 rfl (lv_at hl 0 rfl) ?_
  refine lv_iload_n (pc := 869) hx hb dL_law_869 rfl (lv_at hl 3 rfl) ?_
  refine lv_iconst (v := (1 : Int32)) (pc := 870) hx hb dL_law_870 (by decide) ?_
  refine lv_iadd (pc := 871) hx hb dL_law_871 ?_
  refine sld (pc := 872) (j := 1) C hX hbl hbA hLS.2.2.2.2.2 (by decide) (by omega) hL dL_law_872 ?_
  refine lv_aload_n (pc := 873) hx hb dL_law_873 rfl (lv_at hl 0 rfl) ?_
  refine lv_iload_n (pc := 874) hx hb dL_law_874 rfl (lv_at hl 3 rfl) ?_
  refine lv_iconst (v := (2 : Int32)) (pc := 875) hx hb dL_law_875 (by decide) ?_
  refine lv_iadd (pc := 876) hx hb dL_law_876 ?_
  refine sld (pc := 877) (j := 2) C hX hbl hbA hLS.2.2.2.2.2 (by decide) (by omega) hL dL_law_877 ?_
  refine lv_aload_n (pc := 878) hx hb dL_law_878 rfl (lv_at hl 0 rfl) ?_
  refine lv_iload_n (pc := 879) hx hb dL_law_879 rfl (lv_at hl 3 rfl) ?_
  refine lv_iconst (v := (3 : Int32)) (pc := 880) hx hb dL_law_880 (by decide) ?_
  refine lv_iadd (pc := 881) hx hb dL_law_881 ?_
  refine sld (pc := 882) (j := 3) C hX hbl hbA hLS.2.2.2.2.2 (by decide) (by omega) hL dL_law_882 ?_
  refine lx_i (As := [.int (xs (i + 1)), .int (xs (i + 2)), .int (xs (i + 3))]) (rest := []) (a1 := a) (S1 := S) (pc := 883) C hA lk_RL_133 rfl (kX10_days l D cA a h1) ⟨Nat.le_of_ble_eq_true rfl, Nat.le_of_ble_eq_true rfl⟩ ⟨Nat.le_refl _, Nat.le_refl _⟩ hLS hl.1 rfl (Nat.le_of_ble_eq_true rfl) dL_law_883 (fun H locs hLS => ?_)
  refine lv_aload_n (pc := 886) hx hb dL_law_886 rfl (lv_at hl 2 rfl) ?_
  refine lv_aload_n (pc := 887) hx hb dL_law_887 rfl (lv_at hl 0 rfl) ?_
  refine lv_iload_n (pc := 888) hx hb dL_law_888 rfl (lv_at hl 3 rfl) ?_
  refine lv_iconst (v := (1 : Int32)) (pc := 889) hx hb dL_law_889 (by decide) ?_
  refine lv_iadd (pc := 890) hx hb dL_law_890 ?_
  refine sld (pc := 891) (j := 1) C hX hbl hbA hLS.2.2.2.2.2 (by decide) (by omega) hL dL_law_891 ?_
  refine lv_aload_n (pc := 892) hx hb dL_law_892 rfl (lv_at hl 0 rfl) ?_
  refine lv_iload_n (pc := 893) hx hb dL_law_893 rfl (lv_at hl 3 rfl) ?_
  refine lv_iconst (v := (2 : Int32)) (pc := 894) hx hb dL_law_894 (by decide) ?_
  refine lv_iadd (pc := 895) hx hb dL_law_895 ?_
  refine sld (pc := 896) (j := 2) C hX hbl hbA hLS.2.2.2.2.2 (by decide) (by omega) hL dL_law_896 ?_
  refine lv_aload_n (pc := 897) hx hb dL_law_897 rfl (lv_at hl 0 rfl) ?_
  refine lv_iload_n (pc := 898) hx hb dL_law_898 rfl (lv_at hl 3 rfl) ?_
  refine lv_iconst (v := (3 : Int32)) (pc := 899) hx hb dL_law_899 (by decide) ?_
  refine lv_iadd (pc := 900) hx hb dL_law_900 ?_
  refine sld (pc := 901) (j := 3) C hX hbl hbA hLS.2.2.2.2.2 (by decide) (by omega) hL dL_law_901 ?_
  refine lm_i (As := [.int (xs (i + 1)), .int (xs (i + 2)), .int (xs (i + 3))]) (rest := [.int v]) (M1 := M1) (pc := 902) C hA lk_RL_136 rfl (kX11_days l D cA d h2) ⟨Nat.le_of_ble_eq_true rfl, Nat.le_of_ble_eq_true rfl⟩ ⟨Nat.le_refl _, Nat.le_refl _⟩ hLS hl.1 rfl (Nat.le_of_ble_eq_true rfl) dL_law_902 (fun H locs hLS => ?_)
  refine lv_icmp_eq (tgt := 959) (pc := 905) hx hb dL_law_905 (by decide) (fun _ => ?_) (fun c1 => absurd rfl c1)
  exact hg a S M1 hR _ _ _ hLS hl
def OB_keep (N : Nat) (Rel : St → St → Prop) : Prop := ∀ (S M : St), Rel S M → ∃ v : Int32, ∃ S1 : St, ∃ M1 : St, fX10_keep N S  = some (v, S1) ∧ fX11_keep N M  = some (v, M1) ∧ Rel S1 M1
set_option maxRecDepth 100000 in
set_option maxHeartbeats 4000000 in
theorem lw_keep {N b L i : Nat} {xs : Nat → Int32} {Rel : St → St → Prop} (C : Cx p s m args meth c D cA code 4 RL ret) (hA : ∀ q : Nat, s.heap.size ≤ q → A q) (hX : va_X b L xs s s.heap) (hbl : b < s.heap.size) (hbA : ¬ A b) (hL : L ≤ 256) (hi : i + 4 ≤ L) (ob : OB_keep N Rel) (hR : Rel S M) (hg : ∀ (a : Nat → Nat) (S M : St), Rel S M → ∀ (H : Heap) (locs : List Loc) (ls : Array Slot), LwS D cA s A a S d M H locs → lv_has ls 4 [(0, .ref b), (1, .ref (a 0)), (2, .ref (d 0)), (3, .int (nI i))] → W p l e room_1 s m args below meth c H locs 51 2570 Q (F0 m 959 ls [])) {H : Heap} {locs : List Loc} {ls : Array Slot} (hLS : LwS D cA s A a S d M H locs) (hl : lv_has ls 4 [(0, .ref b), (1, .ref (a 0)), (2, .ref (d 0)), (3, .int (nI i))]) : W p l e room_1 s m args below meth c H locs 51 2570 Q (F0 m 910 ls []) := by
  obtain ⟨hx, hb, hml, hown, hts, hK, hN, hr, hlk⟩ := id C
  obtain ⟨v, S1, M1, h1, h2, hR⟩ := ob S M  hR
  refine lv_aload_n (pc := 910) hx hb dL_law_910 rfl (lv_at hl 1 rfl) ?_
  refine lx_i (As := []) (rest := []) (a1 := a) (S1 := S1) (pc := 911) C hA lk_RL_137 rfl (kX10_keep l D cA a h1) ⟨Nat.le_of_ble_eq_true rfl, Nat.le_of_ble_eq_true rfl⟩ ⟨Nat.le_refl _, Nat.le_refl _⟩ hLS hl.1 rfl (Nat.le_of_ble_eq_true rfl) dL_law_911 (fun H locs hLS => ?_)
  refine lv_aload_n (pc := 914) hx hb dL_law_914 rfl (lv_at hl 2 rfl) ?_
  refine lm_i (As := []) (rest := [.int v]) (M1 := M1) (pc := 915) C hA lk_RL_140 rfl (kX11_keep l D cA d h2) ⟨Nat.le_of_ble_eq_true rfl, Nat.le_of_ble_eq_true rfl⟩ ⟨Nat.le_refl _, Nat.le_refl _⟩ hLS hl.1 rfl (Nat.le_of_ble_eq_true rfl) dL_law_915 (fun H locs hLS => ?_)
  refine lv_icmp_eq (tgt := 959) (pc := 918) hx hb dL_law_918 (by decide) (fun _ => ?_) (fun c1 => absurd rfl c1)
  exact hg a S1 M1 hR _ _ _ hLS hl
def OB_back (N : Nat) (Rel : St → St → Prop) : Prop := ∀ (S M : St), Rel S M → ∃ v : Int32, ∃ S1 : St, ∃ M1 : St, fX10_back N S  = some (v, S1) ∧ fX11_back N M  = some (v, M1) ∧ Rel S1 M1
set_option maxRecDepth 100000 in
set_option maxHeartbeats 4000000 in
theorem lw_back {N b L i : Nat} {xs : Nat → Int32} {Rel : St → St → Prop} (C : Cx p s m args meth c D cA code 4 RL ret) (hA : ∀ q : Nat, s.heap.size ≤ q → A q) (hX : va_X b L xs s s.heap) (hbl : b < s.heap.size) (hbA : ¬ A b) (hL : L ≤ 256) (hi : i + 4 ≤ L) (ob : OB_back N Rel) (hR : Rel S M) (hg : ∀ (a : Nat → Nat) (S M : St), Rel S M → ∀ (H : Heap) (locs : List Loc) (ls : Array Slot), LwS D cA s A a S d M H locs → lv_has ls 4 [(0, .ref b), (1, .ref (a 0)), (2, .ref (d 0)), (3, .int (nI i))] → W p l e room_1 s m args below meth c H locs 51 2570 Q (F0 m 959 ls [])) {H : Heap} {locs : List Loc} {ls : Array Slot} (hLS : LwS D cA s A a S d M H locs) (hl : lv_has ls 4 [(0, .ref b), (1, .ref (a 0)), (2, .ref (d 0)), (3, .int (nI i))]) : W p l e room_1 s m args below meth c H locs 51 2570 Q (F0 m 923 ls []) := by
  obtain ⟨hx, hb, hml, hown, hts, hK, hN, hr, hlk⟩ := id C
  obtain ⟨v, S1, M1, h1, h2, hR⟩ := ob S M  hR
  refine lv_aload_n (pc := 923) hx hb dL_law_923 rfl (lv_at hl 1 rfl) ?_
  refine lx_i (As := []) (rest := []) (a1 := a) (S1 := S1) (pc := 924) C hA lk_RL_141 rfl (kX10_back l D cA a h1) ⟨Nat.le_of_ble_eq_true rfl, Nat.le_of_ble_eq_true rfl⟩ ⟨Nat.le_refl _, Nat.le_refl _⟩ hLS hl.1 rfl (Nat.le_of_ble_eq_true rfl) dL_law_924 (fun H locs hLS => ?_)
  refine lv_aload_n (pc := 927) hx hb dL_law_927 rfl (lv_at hl 2 rfl) ?_
  refine lm_i (As := []) (rest := [.int v]) (M1 := M1) (pc := 928) C hA lk_RL_144 rfl (kX11_back l D cA d h2) ⟨Nat.le_of_ble_eq_true rfl, Nat.le_of_ble_eq_true rfl⟩ ⟨Nat.le_refl _, Nat.le_refl _⟩ hLS hl.1 rfl (Nat.le_of_ble_eq_true rfl) dL_law_928 (fun H locs hLS => ?_)
  refine lv_icmp_eq (tgt := 959) (pc := 931) hx hb dL_law_931 (by decide) (fun _ => ?_) (fun c1 => absurd rfl c1)
  exact hg a S1 M1 hR _ _ _ hLS hl
def OB_count (N : Nat) (Rel : St → St → Prop) : Prop := ∀ (S M : St) (p1 : Int32), Rel S M → ∃ v : Int32, fX10_count N S p1 = some v ∧ fX11_count N M p1 = some v ∧ Rel S M
set_option maxRecDepth 100000 in
set_option maxHeartbeats 4000000 in
theorem lw_count {N b L i : Nat} {xs : Nat → Int32} {Rel : St → St → Prop} (C : Cx p s m args meth c D cA code 4 RL ret) (hA : ∀ q : Nat, s.heap.size ≤ q → A q) (hX : va_X b L xs s s.heap) (hbl : b < s.heap.size) (hbA : ¬ A b) (hL : L ≤ 256) (hi : i + 4 ≤ L) (ob : OB_count N Rel) (hR : Rel S M) (hg : ∀ (a : Nat → Nat) (S M : St), Rel S M → ∀ (H : Heap) (locs : List Loc) (ls : Array Slot), LwS D cA s A a S d M H locs → lv_has ls 4 [(0, .ref b), (1, .ref (a 0)), (2, .ref (d 0)), (3, .int (nI i))] → W p l e room_1 s m args below meth c H locs 51 2570 Q (F0 m 959 ls [])) {H : Heap} {locs : List Loc} {ls : Array Slot} (hLS : LwS D cA s A a S d M H locs) (hl : lv_has ls 4 [(0, .ref b), (1, .ref (a 0)), (2, .ref (d 0)), (3, .int (nI i))]) : W p l e room_1 s m args below meth c H locs 51 2570 Q (F0 m 936 ls []) := by
  obtain ⟨hx, hb, hml, hown, hts, hK, hN, hr, hlk⟩ := id C
  obtain ⟨v, h1, h2, hR⟩ := ob S M (xs (i + 1)) hR
  refine lv_aload_n (pc := 936) hx hb dL_law_936 rfl (lv_at hl 1 rfl) ?_
  refine lv_aload_n (pc := 937) hx hb dL_law_937 rfl (lv_at hl 0 rfl) ?_
  refine lv_iload_n (pc := 938) hx hb dL_law_938 rfl (lv_at hl 3 rfl) ?_
  refine lv_iconst (v := (1 : Int32)) (pc := 939) hx hb dL_law_939 (by decide) ?_
  refine lv_iadd (pc := 940) hx hb dL_law_940 ?_
  refine sld (pc := 941) (j := 1) C hX hbl hbA hLS.2.2.2.2.2 (by decide) (by omega) hL dL_law_941 ?_
  refine lx_i (As := [.int (xs (i + 1))]) (rest := []) (a1 := a) (S1 := S) (pc := 942) C hA lk_RL_145 rfl (kX10_count l D cA a h1) ⟨Nat.le_of_ble_eq_true rfl, Nat.le_of_ble_eq_true rfl⟩ ⟨Nat.le_refl _, Nat.le_refl _⟩ hLS hl.1 rfl (Nat.le_of_ble_eq_true rfl) dL_law_942 (fun H locs hLS => ?_)
  refine lv_aload_n (pc := 945) hx hb dL_law_945 rfl (lv_at hl 2 rfl) ?_
  refine lv_aload_n (pc := 946) hx hb dL_law_946 rfl (lv_at hl 0 rfl) ?_
  refine lv_iload_n (pc := 947) hx hb dL_law_947 rfl (lv_at hl 3 rfl) ?_
  refine lv_iconst (v := (1 : Int32)) (pc := 948) hx hb dL_law_948 (by decide) ?_
  refine lv_iadd (pc := 949) hx hb dL_law_949 ?_
  refine sld (pc := 950) (j := 1) C hX hbl hbA hLS.2.2.2.2.2 (by decide) (by omega) hL dL_law_950 ?_
  refine lm_i (As := [.int (xs (i + 1))]) (rest := [.int v]) (M1 := M) (pc := 951) C hA lk_RL_148 rfl (kX11_count l D cA d h2) ⟨Nat.le_of_ble_eq_true rfl, Nat.le_of_ble_eq_true rfl⟩ ⟨Nat.le_refl _, Nat.le_refl _⟩ hLS hl.1 rfl (Nat.le_of_ble_eq_true rfl) dL_law_951 (fun H locs hLS => ?_)
  refine lv_icmp_eq (tgt := 959) (pc := 954) hx hb dL_law_954 (by decide) (fun _ => ?_) (fun c1 => absurd rfl c1)
  exact hg a S M hR _ _ _ hLS hl
def OBS (N : Nat) (Rel : St → St → Prop) : Prop := OB_write N Rel ∧ OB_wipe N Rel ∧ OB_fault N Rel ∧ OB_lay N Rel ∧ OB_figure N Rel ∧ OB_coin N Rel ∧ OB_strike N Rel ∧ OB_standIn N Rel ∧ OB_undo N Rel ∧ OB_said N Rel ∧ OB_next N Rel ∧ OB_rank N Rel ∧ OB_kth N Rel ∧ OB_sum N Rel ∧ OB_ways N Rel ∧ OB_shortest N Rel ∧ OB_change N Rel ∧ OB_never N Rel ∧ OB_pays N Rel ∧ OB_day N Rel ∧ OB_agree N Rel ∧ OB_odds N Rel ∧ OB_mean N Rel ∧ OB_dark N Rel ∧ OB_forget N Rel ∧ OB_works N Rel ∧ OB_costs N Rel ∧ OB_dearest N Rel ∧ OB_bargain N Rel ∧ OB_days N Rel ∧ OB_keep N Rel ∧ OB_back N Rel ∧ OB_count N Rel
theorem lw_gt {L i : Nat} (h : L < i + 4) (hL : L ≤ 300) (hi : i ≤ 300) : Int32.ofNat L - 4 < nI i := by
  rw [Int32.lt_iff_toInt_lt]
  have e1 : (nI L - nI 4).toInt = (L : Int) - (4 : Nat) := pk_sub_toInt (by omega) (by omega)
  have e2 : (nI i).toInt = (i : Int) := nI_toInt (by omega)
  show (nI L - nI 4).toInt < (nI i).toInt
  rw [e1, e2]
  omega
set_option maxRecDepth 100000 in
set_option maxHeartbeats 4000000 in
theorem lw_loop {N b L : Nat} {xs : Nat → Int32} {Rel : St → St → Prop} (C : Cx p s m #[Value.ref b] meth c D cA code 4 RL ret) (hr0 : meth.sig.returnType = (some .boolean)) (hlocks : meth.locks = false) (hX : va_X b L xs s s.heap) (hbl : b < s.heap.size) (hL : L ≤ 256) (ob : OBS N Rel) : ∀ (k i : Nat), L < i + k → ∀ (a : Nat → Nat) (S M : St), Rel S M → ∀ (H : Heap) (locs : List Loc) (ls : Array Slot), LwS D cA s (fun q : Nat => s.heap.size ≤ q) a S d M H locs → i ≤ 300 → lv_has ls 4 [(0, .ref b), (1, .ref (a 0)), (2, .ref (d 0)), (3, .int (nI i))] → W p l e room_1 s m #[Value.ref b] below meth c H locs 51 2570 (lw_Z below #[Value.ref b] s) (F0 m 18 ls []) := by
  obtain ⟨hx, hb, hml, hown, hts, hK, hN, hr, hlk⟩ := id C
  have hA : ∀ q : Nat, s.heap.size ≤ q → (fun q : Nat => s.heap.size ≤ q) q := fun _ h => h
  have hbA : ¬ (fun q : Nat => s.heap.size ≤ q) b := Nat.not_le.mpr hbl
  intro k
  induction k with
  | zero =>
    intro i hk a S M hR H locs ls hLS hi3 hl
    refine lv_iload_n (pc := 18) hx hb dL_law_18 rfl (lv_at hl 3 rfl) ?_
    refine lv_aload_n (pc := 19) hx hb dL_law_19 rfl (lv_at hl 0 rfl) ?_
    refine va_slen (pc := 20) hx hb hX hbl hbA hLS.2.2.2.2.2 dL_law_20 ?_
    refine lv_iconst (v := (4 : Int32)) (pc := 21) hx hb dL_law_21 (by decide) ?_
    refine lv_isub (pc := 22) hx hb dL_law_22 ?_
    refine lv_icmp_gt (tgt := 965) (pc := 23) hx hb dL_law_23 (by decide) (fun _ => ?_) (fun c1 => absurd (lw_gt (by omega) (by omega) (by omega)) c1)
    refine lv_iconst (v := (1 : Int32)) (pc := 965) hx hb dL_law_965 (by decide) ?_
    refine va_forget (fun q hq => hLS.2.2.2.2.2.2.2 q hq) ?_
    exact lw_ret hx hb hr0 hlocks dL_law_966
  | succ k ih =>
    intro i hk a S M hR H locs ls hLS hi3 hl
    refine lv_iload_n (pc := 18) hx hb dL_law_18 rfl (lv_at hl 3 rfl) ?_
    refine lv_aload_n (pc := 19) hx hb dL_law_19 rfl (lv_at hl 0 rfl) ?_
    refine va_slen (pc := 20) hx hb hX hbl hbA hLS.2.2.2.2.2 dL_law_20 ?_
    refine lv_iconst (v := (4 : Int32)) (pc := 21) hx hb dL_law_21 (by decide) ?_
    refine lv_isub (pc := 22) hx hb dL_law_22 ?_
    refine lv_icmp_gt (tgt := 965) (pc := 23) hx hb dL_law_23 (by decide) (fun _ => ?_) (fun c1 => ?_)
    · refine lv_iconst (v := (1 : Int32)) (pc := 965) hx hb dL_law_965 (by decide) ?_
      refine va_forget (fun q hq => hLS.2.2.2.2.2.2.2 q hq) ?_
      exact lw_ret hx hb hr0 hlocks dL_law_966
    · have hi : i + 4 ≤ L := by
        rcases Nat.lt_or_ge L (i + 4) with q | q
        · exact absurd (lw_gt q (by omega) (by omega)) c1
        · exact q
      have hg : ∀ (a : Nat → Nat) (S M : St), Rel S M → ∀ (H : Heap) (locs : List Loc) (ls : Array Slot), LwS D cA s (fun q : Nat => s.heap.size ≤ q) a S d M H locs → lv_has ls 4 [(0, .ref b), (1, .ref (a 0)), (2, .ref (d 0)), (3, .int (nI i))] → W p l e room_1 s m #[Value.ref b] below meth c H locs 51 2570 (lw_Z below #[Value.ref b] s) (F0 m 959 ls []) := by
        intro a S M hR H locs ls hLS hl
        refine lv_iinc (v := nI (i + 4)) (lv' := [(3, .int (nI (i + 4))), (0, .ref b), (1, .ref (a 0)), (2, .ref (d 0))]) (pc := 959) hx hb dL_law_959 hl (k := 3) rfl (nI_add i 4) (by decide) rfl (fun ls hl => ?_)
        refine lv_goto (tgt := 18) (pc := 962) hx hb dL_law_962 (by decide) ?_
        exact ih (i + 4) (by omega) a S M hR _ _ _ hLS (by omega) (lv_sub hl [1, 2, 3, 0] rfl)
      refine lv_aload_n (pc := 26) hx hb dL_law_26 rfl (lv_at hl 0 rfl) ?_
      refine lv_iload_n (pc := 27) hx hb dL_law_27 rfl (lv_at hl 3 rfl) ?_
      refine va_sld (pc := 28) hx hb hX hbl hbA hLS.2.2.2.2.2 (vp_in_nI (n := i) (N := L) (by omega) (by omega)) dL_law_28 ?_
      refine lv_bipush (v := (63 : Int32)) (pc := 29) hx hb dL_law_29 (by decide) ?_
      refine lv_iand (pc := 31) hx hb dL_law_31 ?_
      refine lv_topi (fun x ex => ?_)
      obtain ⟨j, hj, rfl⟩ : ∃ j : Nat, j < 64 ∧ x = nI j := by rw [ex]; exact pk_andE _ (m := 63) 6 (by decide)
      rcases Nat.lt_or_ge j 33 with h33 | h33
      · have go : ∀ k : Nat, k < 33 → j = k → W p l e room_1 s m #[Value.ref b] below meth c H locs 51 2570 (lw_Z below #[Value.ref b] s) (F0 m 32 ls [.int (nI j)]) := by
          intro k hk hjk
          subst hjk
          match j, hk with
          | 0, _ => exact lv_tableIn (off := 148) (tgt := 180) (pc := 32) hx hb dL_law_32 (by decide) (by decide) rfl (by decide) (lw_write C hA hX hbl hbA hL hi ob.1 hR hg hLS hl)
          | 1, _ => exact lv_tableIn (off := 171) (tgt := 203) (pc := 32) hx hb dL_law_32 (by decide) (by decide) rfl (by decide) (lw_wipe C hA hX hbl hbA hL hi ob.2.1 hR hg hLS hl)
          | 2, _ => exact lv_tableIn (off := 184) (tgt := 216) (pc := 32) hx hb dL_law_32 (by decide) (by decide) rfl (by decide) (lw_fault C hA hX hbl hbA hL hi ob.2.2.1 hR hg hLS hl)
          | 3, _ => exact lv_tableIn (off := 197) (tgt := 229) (pc := 32) hx hb dL_law_32 (by decide) (by decide) rfl (by decide) (lw_lay C hA hX hbl hbA hL hi ob.2.2.2.1 hR hg hLS hl)
          | 4, _ => exact lv_tableIn (off := 210) (tgt := 242) (pc := 32) hx hb dL_law_32 (by decide) (by decide) rfl (by decide) (lw_figure C hA hX hbl hbA hL hi ob.2.2.2.2.1 hR hg hLS hl)
          | 5, _ => exact lv_tableIn (off := 243) (tgt := 275) (pc := 32) hx hb dL_law_32 (by decide) (by decide) rfl (by decide) (lw_coin C hA hX hbl hbA hL hi ob.2.2.2.2.2.1 hR hg hLS hl)
          | 6, _ => exact lv_tableIn (off := 266) (tgt := 298) (pc := 32) hx hb dL_law_32 (by decide) (by decide) rfl (by decide) (lw_strike C hA hX hbl hbA hL hi ob.2.2.2.2.2.2.1 hR hg hLS hl)
          | 7, _ => exact lv_tableIn (off := 299) (tgt := 331) (pc := 32) hx hb dL_law_32 (by decide) (by decide) rfl (by decide) (lw_standIn C hA hX hbl hbA hL hi ob.2.2.2.2.2.2.2.1 hR hg hLS hl)
          | 8, _ => exact lv_tableIn (off := 332) (tgt := 364) (pc := 32) hx hb dL_law_32 (by decide) (by decide) rfl (by decide) (lw_undo C hA hX hbl hbA hL hi ob.2.2.2.2.2.2.2.2.1 hR hg hLS hl)
          | 9, _ => exact lv_tableIn (off := 345) (tgt := 377) (pc := 32) hx hb dL_law_32 (by decide) (by decide) rfl (by decide) (lw_said C hA hX hbl hbA hL hi ob.2.2.2.2.2.2.2.2.2.1 hR hg hLS hl)
          | 10, _ => exact lv_tableIn (off := 368) (tgt := 400) (pc := 32) hx hb dL_law_32 (by decide) (by decide) rfl (by decide) (lw_next C hA hX hbl hbA hL hi ob.2.2.2.2.2.2.2.2.2.2.1 hR hg hLS hl)
          | 11, _ => exact lv_tableIn (off := 391) (tgt := 423) (pc := 32) hx hb dL_law_32 (by decide) (by decide) rfl (by decide) (lw_rank C hA hX hbl hbA hL hi ob.2.2.2.2.2.2.2.2.2.2.2.1 hR hg hLS hl)
          | 12, _ => exact lv_tableIn (off := 414) (tgt := 446) (pc := 32) hx hb dL_law_32 (by decide) (by decide) rfl (by decide) (lw_kth C hA hX hbl hbA hL hi ob.2.2.2.2.2.2.2.2.2.2.2.2.1 hR hg hLS hl)
          | 13, _ => exact lv_tableIn (off := 437) (tgt := 469) (pc := 32) hx hb dL_law_32 (by decide) (by decide) rfl (by decide) (lw_sum C hA hX hbl hbA hL hi ob.2.2.2.2.2.2.2.2.2.2.2.2.2.1 hR hg hLS hl)
          | 14, _ => exact lv_tableIn (off := 460) (tgt := 492) (pc := 32) hx hb dL_law_32 (by decide) (by decide) rfl (by decide) (lw_ways C hA hX hbl hbA hL hi ob.2.2.2.2.2.2.2.2.2.2.2.2.2.2.1 hR hg hLS hl)
          | 15, _ => exact lv_tableIn (off := 483) (tgt := 515) (pc := 32) hx hb dL_law_32 (by decide) (by decide) rfl (by decide) (lw_shortest C hA hX hbl hbA hL hi ob.2.2.2.2.2.2.2.2.2.2.2.2.2.2.2.1 hR hg hLS hl)
          | 16, _ => exact lv_tableIn (off := 516) (tgt := 548) (pc := 32) hx hb dL_law_32 (by decide) (by decide) rfl (by decide) (lw_change C hA hX hbl hbA hL hi ob.2.2.2.2.2.2.2.2.2.2.2.2.2.2.2.2.1 hR hg hLS hl)
          | 17, _ => exact lv_tableIn (off := 539) (tgt := 571) (pc := 32) hx hb dL_law_32 (by decide) (by decide) rfl (by decide) (lw_never C hA hX hbl hbA hL hi ob.2.2.2.2.2.2.2.2.2.2.2.2.2.2.2.2.2.1 hR hg hLS hl)
          | 18, _ => exact lv_tableIn (off := 552) (tgt := 584) (pc := 32) hx hb dL_law_32 (by decide) (by decide) rfl (by decide) (lw_pays C hA hX hbl hbA hL hi ob.2.2.2.2.2.2.2.2.2.2.2.2.2.2.2.2.2.2.1 hR hg hLS hl)
          | 19, _ => exact lv_tableIn (off := 575) (tgt := 607) (pc := 32) hx hb dL_law_32 (by decide) (by decide) rfl (by decide) (lw_day C hA hX hbl hbA hL hi ob.2.2.2.2.2.2.2.2.2.2.2.2.2.2.2.2.2.2.2.1 hR hg hLS hl)
          | 20, _ => exact lv_tableIn (off := 598) (tgt := 630) (pc := 32) hx hb dL_law_32 (by decide) (by decide) rfl (by decide) (lw_agree C hA hX hbl hbA hL hi ob.2.2.2.2.2.2.2.2.2.2.2.2.2.2.2.2.2.2.2.2.1 hR hg hLS hl)
          | 21, _ => exact lv_tableIn (off := 611) (tgt := 643) (pc := 32) hx hb dL_law_32 (by decide) (by decide) rfl (by decide) (lw_odds C hA hX hbl hbA hL hi ob.2.2.2.2.2.2.2.2.2.2.2.2.2.2.2.2.2.2.2.2.2.1 hR hg hLS hl)
          | 22, _ => exact lv_tableIn (off := 644) (tgt := 676) (pc := 32) hx hb dL_law_32 (by decide) (by decide) rfl (by decide) (lw_mean C hA hX hbl hbA hL hi ob.2.2.2.2.2.2.2.2.2.2.2.2.2.2.2.2.2.2.2.2.2.2.1 hR hg hLS hl)
          | 23, _ => exact lv_tableIn (off := 667) (tgt := 699) (pc := 32) hx hb dL_law_32 (by decide) (by decide) rfl (by decide) (lw_dark C hA hX hbl hbA hL hi ob.2.2.2.2.2.2.2.2.2.2.2.2.2.2.2.2.2.2.2.2.2.2.2.1 hR hg hLS hl)
          | 24, _ => exact lv_tableIn (off := 700) (tgt := 732) (pc := 32) hx hb dL_law_32 (by decide) (by decide) rfl (by decide) (lw_forget C hA hX hbl hbA hL hi ob.2.2.2.2.2.2.2.2.2.2.2.2.2.2.2.2.2.2.2.2.2.2.2.2.1 hR hg hLS hl)
          | 25, _ => exact lv_tableIn (off := 713) (tgt := 745) (pc := 32) hx hb dL_law_32 (by decide) (by decide) rfl (by decide) (lw_works C hA hX hbl hbA hL hi ob.2.2.2.2.2.2.2.2.2.2.2.2.2.2.2.2.2.2.2.2.2.2.2.2.2.1 hR hg hLS hl)
          | 26, _ => exact lv_tableIn (off := 726) (tgt := 758) (pc := 32) hx hb dL_law_32 (by decide) (by decide) rfl (by decide) (lw_costs C hA hX hbl hbA hL hi ob.2.2.2.2.2.2.2.2.2.2.2.2.2.2.2.2.2.2.2.2.2.2.2.2.2.2.1 hR hg hLS hl)
          | 27, _ => exact lv_tableIn (off := 759) (tgt := 791) (pc := 32) hx hb dL_law_32 (by decide) (by decide) rfl (by decide) (lw_dearest C hA hX hbl hbA hL hi ob.2.2.2.2.2.2.2.2.2.2.2.2.2.2.2.2.2.2.2.2.2.2.2.2.2.2.2.1 hR hg hLS hl)
          | 28, _ => exact lv_tableIn (off := 792) (tgt := 824) (pc := 32) hx hb dL_law_32 (by decide) (by decide) rfl (by decide) (lw_bargain C hA hX hbl hbA hL hi ob.2.2.2.2.2.2.2.2.2.2.2.2.2.2.2.2.2.2.2.2.2.2.2.2.2.2.2.2.1 hR hg hLS hl)
          | 29, _ => exact lv_tableIn (off := 835) (tgt := 867) (pc := 32) hx hb dL_law_32 (by decide) (by decide) rfl (by decide) (lw_days C hA hX hbl hbA hL hi ob.2.2.2.2.2.2.2.2.2.2.2.2.2.2.2.2.2.2.2.2.2.2.2.2.2.2.2.2.2.1 hR hg hLS hl)
          | 30, _ => exact lv_tableIn (off := 878) (tgt := 910) (pc := 32) hx hb dL_law_32 (by decide) (by decide) rfl (by decide) (lw_keep C hA hX hbl hbA hL hi ob.2.2.2.2.2.2.2.2.2.2.2.2.2.2.2.2.2.2.2.2.2.2.2.2.2.2.2.2.2.2.1 hR hg hLS hl)
          | 31, _ => exact lv_tableIn (off := 891) (tgt := 923) (pc := 32) hx hb dL_law_32 (by decide) (by decide) rfl (by decide) (lw_back C hA hX hbl hbA hL hi ob.2.2.2.2.2.2.2.2.2.2.2.2.2.2.2.2.2.2.2.2.2.2.2.2.2.2.2.2.2.2.2.1 hR hg hLS hl)
          | 32, _ => exact lv_tableIn (off := 904) (tgt := 936) (pc := 32) hx hb dL_law_32 (by decide) (by decide) rfl (by decide) (lw_count C hA hX hbl hbA hL hi ob.2.2.2.2.2.2.2.2.2.2.2.2.2.2.2.2.2.2.2.2.2.2.2.2.2.2.2.2.2.2.2.2 hR hg hLS hl)
          | k + 33, h => exact absurd h (by omega)
        exact go j h33 rfl
      · refine lv_tableOut (tgt := 959) (pc := 32) hx hb dL_law_32 (Or.inr (by rw [nI_toInt (by omega)]; omega)) (by decide) ?_
        exact hg a S M hR _ _ _ hLS hl
end PLaw
