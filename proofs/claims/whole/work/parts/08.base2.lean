/-! ===== more of the base: a world with some cells changed, calls behind it ===== -/
def stf (S : St) (k : Nat) (v : Int32) : St := va_up S k (fun _ => v)
def sti (S : St) (k j : Nat) (v : Int32) : St := va_up S k (upd (S k) j v)
def nm {α β : Type} (x : α) (k : α → β) : β := k x
theorem pt_n {α β : Type} {x y : α} {k : α → Option β} {z : β} (h : y = x) (e : nm x k = some z) : k y = some z := by subst h; exact e
def qf2 (x y : Nat) : Nat → Option Nat := fun k => if k = 0 then some x else if k = 1 then some y else none
theorem inK {i : Int32} {n : Nat} (h : (decide (i < 0) || decide (n ≤ i.toNatClampNeg)) = false) : vp_in i n := by
  intro q
  rcases q with q | q
  · simp [q] at h
  · simp [q] at h
def putW : List Nat → va_W → va_W → va_W
  | i :: is, w :: W1, ws => putW is W1 (ws.set i w)
  | _, _, ws => ws
theorem putW_get : ∀ (is : List Nat) (W1 ws : va_W) (k : Nat) (q : Nat × va_E), va_nd is = true → W1.length = is.length → (putW is W1 ws)[k]? = some q → (∃ j : Nat, is[j]? = some k ∧ W1[j]? = some q) ∨ (k ∉ is ∧ ws[k]? = some q)
  | [], W1, ws, k, q, _, _, h => Or.inr ⟨by simp, by cases W1 <;> exact h⟩
  | i :: is, [], ws, k, q, _, hl, _ => by simp at hl
  | i :: is, w :: W1, ws, k, q, hn, hl, h => by
    have hn' : i ∉ is ∧ va_nd is = true := by
      have h9 := hn
      simp only [va_nd, Bool.and_eq_true, decide_eq_true_eq] at h9
      exact h9
    have hl' : W1.length = is.length := by simpa using hl
    rcases putW_get is W1 (ws.set i w) k q hn'.2 hl' h with ⟨j, h1, h2⟩ | ⟨h1, h2⟩
    · exact Or.inl ⟨j + 1, by simpa using h1, by simpa using h2⟩
    · by_cases hk : k = i
      · subst hk
        refine Or.inl ⟨0, rfl, ?_⟩
        rw [List.getElem?_set] at h2
        simp only [if_true] at h2
        by_cases hlt : k < ws.length
        · rw [if_pos hlt] at h2; simpa using h2
        · rw [if_neg hlt] at h2; cases h2
      · refine Or.inr ⟨by simp [hk, h1], ?_⟩
        rw [List.getElem?_set, if_neg (Ne.symm hk)] at h2
        exact h2
section Base2
variable {p : Program} {l : Launch} {e : Env} {R : Room} {s : State} {m : MethodId} {args : Array Value} {below : List Frame} {meth : Method} {c : Code} {H : Heap} {locs : List Loc} {cells slots : Nat} {Q : State → Prop}
variable {D : va_G} {pc : Nat} {ls : Array Slot} {rest : List Value} {A : Nat → Prop} {ws Wc W1 : va_W} {st0 : List Value} {a : Array Value}
theorem aft_u {H1 : Heap} (hP : va_P D vwCl ws H) (hD : va_D A ws) (hF : ∀ q : Nat, va_A Wc H.size q → A q) (isC : List Nat) (hC : isC.map (fun i => ws[i]?) = Wc.map some) (hn : va_nd isC = true) (hlen : W1.length = isC.length)
    (hk1 : ∀ q : Nat, q < H.size → ¬ va_A Wc H.size q → H1[q]? = H[q]?) (hP1 : va_P D vwCl W1 H1) (hD1 : va_D (va_A Wc H.size) W1) : va_P D vwCl (putW isC W1 ws) H1 ∧ va_D A (putW isC W1 ws) := by
  have out : ∀ (k : Nat) (q : Nat × va_E), k ∉ isC → ws[k]? = some q → q.1 < H.size ∧ ¬ va_A Wc H.size q.1 := by
    intro k q hk hq
    refine ⟨(hP k q hq).lt, fun h => ?_⟩
    rcases h with ⟨k2, e2, h⟩ | h
    · have h1 : (Wc.map some)[k2]? = some (some (q.1, e2)) := by rw [List.getElem?_map, h]; rfl
      rw [← hC, List.getElem?_map] at h1
      cases hb : isC[k2]? with
      | none => rw [hb] at h1; cases h1
      | some i =>
        rw [hb] at h1
        have h2 : ws[i]? = some (q.1, e2) := Option.some.inj h1
        have h3 := hD.1 k i q (q.1, e2) hq h2 rfl
        subst h3
        exact hk (List.mem_of_getElem? hb)
    · exact absurd (hP k q hq).lt (by omega)
  refine ⟨fun k q hk => ?_, fun i j x y hx hy hxy => ?_, fun k q hk => ?_⟩
  · rcases putW_get isC W1 ws k q hn hlen hk with ⟨j, h1, h2⟩ | ⟨h1, h2⟩
    · exact hP1 j q h2
    · exact (hP k q h2).kept (hk1 q.1 (out k q h1 h2).1 (out k q h1 h2).2)
  · rcases putW_get isC W1 ws i x hn hlen hx with ⟨j1, h1, h2⟩ | ⟨h1, h2⟩ <;> rcases putW_get isC W1 ws j y hn hlen hy with ⟨j2, h3, h4⟩ | ⟨h3, h4⟩
    · have := hD1.1 j1 j2 x y h2 h4 hxy
      subst this
      rw [h1] at h3
      exact Option.some.inj h3
    · exact absurd (by rw [← hxy]; exact hD1.2 j1 x h2) (out j y h3 h4).2
    · exact absurd (by rw [hxy]; exact hD1.2 j2 y h4) (out i x h1 h2).2
    · exact hD.1 i j x y h2 h4 hxy
  · rcases putW_get isC W1 ws k q hn hlen hk with ⟨j, h1, h2⟩ | ⟨h1, h2⟩
    · exact hF q.1 (hD1.2 j q h2)
    · exact hD.2 k q h2
theorem aft_p {H1 : Heap} (hP : va_P D vwCl ws H) (hD : va_D A ws) (isC : List Nat) (hC : isC.map (fun i => ws[i]?) = Wc.map some)
    (hk1 : ∀ q : Nat, q < H.size → ¬ va_A Wc H.size q → H1[q]? = H[q]?) (hP1 : va_P D vwCl Wc H1) : va_P D vwCl ws H1 := by
  intro k q hk
  by_cases h : va_A Wc H.size q.1
  · rcases h with ⟨k2, e2, h⟩ | h
    · have h1 : (Wc.map some)[k2]? = some (some (q.1, e2)) := by rw [List.getElem?_map, h]; rfl
      rw [← hC, List.getElem?_map] at h1
      cases hb : isC[k2]? with
      | none => rw [hb] at h1; cases h1
      | some i =>
        rw [hb] at h1
        have h2 : ws[i]? = some (q.1, e2) := Option.some.inj h1
        have h3 := hD.1 k i q (q.1, e2) hk h2 rfl
        subst h3
        rw [hk] at h2
        have h5 : q = (q.1, e2) := Option.some.inj h2
        have h6 := hP1 k2 _ h
        rw [← h5] at h6
        exact h6
    · exact absurd (hP k q hk).lt (by omega)
  · exact (hP k q hk).kept (hk1 q.1 (hP k q hk).lt h)
theorem free0 (hD : va_D A ws) (hS : va_S A s.heap H locs) (hA : ∀ q : Nat, s.heap.size ≤ q → A q) : ∀ q : Nat, va_A ws H.size q → A q := by
  intro q h
  rcases h with ⟨k, e2, h⟩ | h
  · exact hD.2 k _ h
  · exact hA q (Nat.le_trans hS.1 h)
/-- the callee's world is the caller's whole world -/
theorem all_i {v : Int32} (hr : va_Run p l e R s m args below meth c H locs cells slots 0 0 (F0 m pc ls st0) rest (QI D (va_A ws H.size) v W1 a) (va_A ws H.size)) (hD : va_D A ws) (hS : va_S A s.heap H locs) (hA : ∀ q : Nat, s.heap.size ≤ q → A q)
    (kk : ∀ (H1 : Heap) (locs1 : List Loc), va_P D vwCl W1 H1 → va_D A W1 → va_S A s.heap H1 locs1 → W p l e R s m args below meth c H1 locs1 cells slots Q (F0 m (pc + 3) ls (.int v :: rest))) : W p l e R s m args below meth c H locs cells slots Q (F0 m pc ls st0) := by
  have hF := free0 hD hS hA
  refine va_calli hr hS (fun q _ h => hF q h) hF (fun r u t H1 locs1 ht hvm hw hB1 hz1 hk1 hS1 => ?_)
  obtain ⟨hP1, hD1⟩ := hB1
  rw [ht] at hP1
  have hw : r = v := hw
  subst hw
  exact kk H1 locs1 hP1 (hD1.weaken (fun _ q _ h => hF q.1 h)) hS1
theorem all_l {v : Int64} (hr : va_Run p l e R s m args below meth c H locs cells slots 0 0 (F0 m pc ls st0) rest (QL D (va_A ws H.size) v W1 a) (va_A ws H.size)) (hD : va_D A ws) (hS : va_S A s.heap H locs) (hA : ∀ q : Nat, s.heap.size ≤ q → A q)
    (kk : ∀ (H1 : Heap) (locs1 : List Loc), va_P D vwCl W1 H1 → va_D A W1 → va_S A s.heap H1 locs1 → W p l e R s m args below meth c H1 locs1 cells slots Q (F0 m (pc + 3) ls (.long v :: rest))) : W p l e R s m args below meth c H locs cells slots Q (F0 m pc ls st0) := by
  have hF := free0 hD hS hA
  refine va_calll hr hS (fun q _ h => hF q h) hF (fun r u t H1 locs1 ht hvm hw hB1 hz1 hk1 hS1 => ?_)
  obtain ⟨hP1, hD1⟩ := hB1
  rw [ht] at hP1
  have hw : r = v := hw
  subst hw
  exact kk H1 locs1 hP1 (hD1.weaken (fun _ q _ h => hF q.1 h)) hS1
theorem all_v (hr : va_Run p l e R s m args below meth c H locs cells slots 0 0 (F0 m pc ls st0) rest (QV D (va_A ws H.size) W1 a) (va_A ws H.size)) (hD : va_D A ws) (hS : va_S A s.heap H locs) (hA : ∀ q : Nat, s.heap.size ≤ q → A q)
    (kk : ∀ (H1 : Heap) (locs1 : List Loc), va_P D vwCl W1 H1 → va_D A W1 → va_S A s.heap H1 locs1 → W p l e R s m args below meth c H1 locs1 cells slots Q (F0 m (pc + 3) ls rest)) : W p l e R s m args below meth c H locs cells slots Q (F0 m pc ls st0) := by
  have hF := free0 hD hS hA
  refine va_callv hr hS (fun q _ h => hF q h) hF (fun u t H1 locs1 ht hvm hw hB1 hz1 hk1 hS1 => ?_)
  obtain ⟨hP1, hD1⟩ := hB1
  rw [ht] at hP1
  exact kk H1 locs1 hP1 (hD1.weaken (fun _ q _ h => hF q.1 h)) hS1
/-- the callee's world is a part of the caller's, and stays as it is -/
theorem prt_i {v : Int32} (hr : va_Run p l e R s m args below meth c H locs cells slots 0 0 (F0 m pc ls st0) rest (QI D (va_A Wc H.size) v Wc a) (va_A Wc H.size)) (hP : va_P D vwCl ws H) (hD : va_D A ws) (hS : va_S A s.heap H locs) (hA : ∀ q : Nat, s.heap.size ≤ q → A q) (isC : List Nat) (hC : isC.map (fun i => ws[i]?) = Wc.map some)
    (kk : ∀ (H1 : Heap) (locs1 : List Loc), va_P D vwCl ws H1 → va_D A ws → va_S A s.heap H1 locs1 → W p l e R s m args below meth c H1 locs1 cells slots Q (F0 m (pc + 3) ls (.int v :: rest))) : W p l e R s m args below meth c H locs cells slots Q (F0 m pc ls st0) := by
  have hF := va_free (wc := Wc) hD hS hA isC hC
  refine va_calli hr hS (fun q _ h => hF q h) hF (fun r u t H1 locs1 ht hvm hw hB1 hz1 hk1 hS1 => ?_)
  obtain ⟨hP1, hD1⟩ := hB1
  rw [ht] at hP1
  have hw : r = v := hw
  subst hw
  exact kk H1 locs1 (aft_p hP hD isC hC hk1 hP1) hD hS1
theorem prt_l {v : Int64} (hr : va_Run p l e R s m args below meth c H locs cells slots 0 0 (F0 m pc ls st0) rest (QL D (va_A Wc H.size) v Wc a) (va_A Wc H.size)) (hP : va_P D vwCl ws H) (hD : va_D A ws) (hS : va_S A s.heap H locs) (hA : ∀ q : Nat, s.heap.size ≤ q → A q) (isC : List Nat) (hC : isC.map (fun i => ws[i]?) = Wc.map some)
    (kk : ∀ (H1 : Heap) (locs1 : List Loc), va_P D vwCl ws H1 → va_D A ws → va_S A s.heap H1 locs1 → W p l e R s m args below meth c H1 locs1 cells slots Q (F0 m (pc + 3) ls (.long v :: rest))) : W p l e R s m args below meth c H locs cells slots Q (F0 m pc ls st0) := by
  have hF := va_free (wc := Wc) hD hS hA isC hC
  refine va_calll hr hS (fun q _ h => hF q h) hF (fun r u t H1 locs1 ht hvm hw hB1 hz1 hk1 hS1 => ?_)
  obtain ⟨hP1, hD1⟩ := hB1
  rw [ht] at hP1
  have hw : r = v := hw
  subst hw
  exact kk H1 locs1 (aft_p hP hD isC hC hk1 hP1) hD hS1
/-- the callee's world is a part of the caller's, and comes back changed -/
theorem upd_i {v : Int32} (hr : va_Run p l e R s m args below meth c H locs cells slots 0 0 (F0 m pc ls st0) rest (QI D (va_A Wc H.size) v W1 a) (va_A Wc H.size)) (hP : va_P D vwCl ws H) (hD : va_D A ws) (hS : va_S A s.heap H locs) (hA : ∀ q : Nat, s.heap.size ≤ q → A q) (isC : List Nat) (hC : isC.map (fun i => ws[i]?) = Wc.map some) (hn : va_nd isC = true) (hlen : W1.length = isC.length)
    (kk : ∀ (H1 : Heap) (locs1 : List Loc), va_P D vwCl (putW isC W1 ws) H1 → va_D A (putW isC W1 ws) → va_S A s.heap H1 locs1 → W p l e R s m args below meth c H1 locs1 cells slots Q (F0 m (pc + 3) ls (.int v :: rest))) : W p l e R s m args below meth c H locs cells slots Q (F0 m pc ls st0) := by
  have hF := va_free (wc := Wc) hD hS hA isC hC
  refine va_calli hr hS (fun q _ h => hF q h) hF (fun r u t H1 locs1 ht hvm hw hB1 hz1 hk1 hS1 => ?_)
  obtain ⟨hP1, hD1⟩ := hB1
  rw [ht] at hP1
  have hw : r = v := hw
  subst hw
  have h2 := aft_u hP hD hF isC hC hn hlen hk1 hP1 hD1
  exact kk H1 locs1 h2.1 h2.2 hS1
theorem upd_v (hr : va_Run p l e R s m args below meth c H locs cells slots 0 0 (F0 m pc ls st0) rest (QV D (va_A Wc H.size) W1 a) (va_A Wc H.size)) (hP : va_P D vwCl ws H) (hD : va_D A ws) (hS : va_S A s.heap H locs) (hA : ∀ q : Nat, s.heap.size ≤ q → A q) (isC : List Nat) (hC : isC.map (fun i => ws[i]?) = Wc.map some) (hn : va_nd isC = true) (hlen : W1.length = isC.length)
    (kk : ∀ (H1 : Heap) (locs1 : List Loc), va_P D vwCl (putW isC W1 ws) H1 → va_D A (putW isC W1 ws) → va_S A s.heap H1 locs1 → W p l e R s m args below meth c H1 locs1 cells slots Q (F0 m (pc + 3) ls rest)) : W p l e R s m args below meth c H locs cells slots Q (F0 m pc ls st0) := by
  have hF := va_free (wc := Wc) hD hS hA isC hC
  refine va_callv hr hS (fun q _ h => hF q h) hF (fun u t H1 locs1 ht hvm hw hB1 hz1 hk1 hS1 => ?_)
  obtain ⟨hP1, hD1⟩ := hB1
  rw [ht] at hP1
  have h2 := aft_u hP hD hF isC hC hn hlen hk1 hP1 hD1
  exact kk H1 locs1 h2.1 h2.2 hS1
end Base2
