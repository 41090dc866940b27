/-! ===== the start ===== -/
def L0 : List Nat := [120, 55, 59, 102, 55, 44, 54, 59, 99, 53, 59, 99, 49, 48, 59, 99, 50, 55, 59, 99, 53, 48, 59, 101, 53, 54, 43, 55, 42, 56, 45, 49, 55, 59]
def lt0 (j : Nat) : Nat := if j < 34 then L0.getD j 0 else 0
theorem ch_0 : ∀ j, j < 34 → chS j = nI (lt0 j) ∧ 32 ≤ lt0 j ∧ lt0 j ≤ 126 := by decide +kernel
theorem TL0 : TL 34 lt0 := ⟨by omega, fun j h => (ch_0 j h).2, fun j h => if_neg (by omega)⟩
theorem app7_X {N k : Nat} {S : St} (hk : k < 34) (e : S 0 0 = nI k) : fX7_append N S (chS k) = some (1, stf (sti S 1 k (nI (lt0 k))) 0 (nI (k + 1))) := by
  obtain ⟨c1, c2, c3⟩ := ch_0 k hk
  unfold fX7_append
  have f : (sti S 1 k (nI (lt0 k))) 0 0 = nI k := e
  rw [c1, e, if_pos (show nI k < (200 : Int32) from nI_lt (b := 200) (by omega) (by omega)), if_pos (in_nI (by omega) (by omega)), nI_clamp (by omega), byt_ok _ (by omega), f, show nI k + (1 : Int32) = nI (k + 1) from nI_1 k]
theorem cp_X {N : Nat} : ∀ (r k : Nat) (S : St), k + r = 34 → S 0 0 = nI k → (∀ j, j < k → S 1 j = nI (lt0 j)) → ∃ S', cpF N r k S = some S' ∧ TX 34 lt0 S'
  | 0, k, S, h1, h2, h3 => ⟨S, rfl, by rw [h2, show k = 34 by omega], fun j hj => h3 j (by omega)⟩
  | r + 1, k, S, h1, h2, h3 => by
    show ∃ S', Option.bind (fX7_append N S (chS k)) (fun q => cpF N r (k + 1) q.2) = some S' ∧ TX 34 lt0 S'
    rw [app7_X (by omega) h2]
    simp only [Option.bind_some]
    refine cp_X r (k + 1) _ (by omega) rfl (fun j hj => ?_)
    show upd (S 1) k (nI (lt0 k)) j = nI (lt0 j)
    by_cases q : j = k
    · rw [q, upd_s]
    · rw [upd_n _ _ q]; exact h3 j (by omega)
def D1 : DT := (128, (fun f => if f = 7 then 6 else f), [5, 10, 27, 50], 6, 7, [53, 54, 43, 55, 42, 56, 45, 49, 55])
theorem pA_0 : (pA lt0 34 201 0 D0).1 = none ∧ (pA lt0 34 201 0 D0).2.1 = D1.1 ∧ (∀ f, f < 10 → (pA lt0 34 201 0 D0).2.2.1 f = D1.2.1 f) ∧ (pA lt0 34 201 0 D0).2.2.2 = D1.2.2 := by decide +kernel
theorem RX.eqv {T : St} {D D' : DT} (h : RX T D) (h1 : D.1 = D'.1) (h2 : ∀ f, f < 10 → D.2.1 f = D'.2.1 f) (h3 : D.2.2 = D'.2.2) : RX T D' := by
  unfold RX at h ⊢
  rw [h1, h3] at h
  exact ⟨h.1, fun f hf => by rw [← h2 f hf]; exact h.2.1 f hf, h.2.2⟩
theorem VD1 : VD D1 := ⟨by decide, by decide, ⟨by decide, by decide⟩, by decide, by decide, by decide, Or.inr ⟨2, by decide, by decide⟩⟩
theorem bi_128 : ∀ f, f < 10 → bi 128 f = if f = 7 then 1 else 0 := by decide
theorem init_M {N : Nat} (hN : 100 ≤ N) : ∃ Z, fX11_init N zS = some Z ∧ LM Z D1 ∧ Z 11 0 = 0 ∧ Z 13 0 = 0 ∧ Z 14 0 = 0 ∧ Z 0 0 = 0 := by
  obtain ⟨U, u1, u2, u3⟩ := nothing_M (N := N) (b := 0) (M := zS) hN (by omega)
  unfold fX11_init
  rw [show fX11_nothing N zS (0 : Int32) = _ from u1]
  simp only [Option.bind_some]
  obtain ⟨V, v1, v2, v3⟩ := begin_M (N := N) (U := (sti (sti (sti (sti (sti (sti (sti (sti (sti (sti (sti (sti (sti (sti (sti (sti (sti (sti (sti (sti (sti U 4 0 0) 5 0 6) 6 0 7) 8 0 0) 2 7 ((1 : Int32))) 2 17 ((6 : Int32))) 3 0 ((5 : Int32))) 3 1 ((10 : Int32))) 3 2 ((27 : Int32))) 3 3 ((50 : Int32))) 4 0 ((4 : Int32))) 7 0 ((53 : Int32))) 7 1 ((54 : Int32))) 7 2 ((43 : Int32))) 7 3 ((55 : Int32))) 7 4 ((42 : Int32))) 7 5 ((56 : Int32))) 7 6 ((45 : Int32))) 7 7 ((49 : Int32))) 7 8 ((55 : Int32))) 8 0 ((9 : Int32)))) hN
  rw [v1]
  simp only [Option.bind_some]
  refine ⟨_, rfl, ⟨fun f hf => ⟨?_, ?_⟩, ⟨?_, fun j hj => ?_⟩, ?_, ?_, ?_, fun j hj => ?_⟩, rfl, rfl, rfl, ?_⟩
  · show V 9 f = nI (bi 128 f)
    rw [v2 f (by omega), bi_128 f hf]
    show upd (upd (U 2) 7 1) 17 6 f = _
    rw [upd_n _ _ (by omega)]
    by_cases q : f = 7
    · rw [if_pos q, q, upd_s]; rfl
    · rw [if_neg q, upd_n _ _ q]
      have := (u2 f hf).1
      rw [show 20 * 0 + f = f by omega] at this
      exact this
  · show V 9 (10 + f) = nI (if f = 7 then 6 else f)
    rw [v2 (10 + f) (by omega)]
    show upd (upd (U 2) 7 1) 17 6 (10 + f) = _
    by_cases q : f = 7
    · rw [if_pos q, q, upd_s]; rfl
    · rw [if_neg q, upd_n _ _ (by omega), upd_n _ _ (by omega)]
      have := (u2 f hf).2
      rw [show 20 * 0 + 10 + f = 10 + f by omega] at this
      exact this
  · show V 4 0 = _
    rw [v3 4 (by omega)]
    rfl
  · show V 3 j = nI ([5, 10, 27, 50].getD j 0)
    have hj' : j < 4 := hj
    rw [v3 3 (by omega)]
    rcases (show j = 0 ∨ j = 1 ∨ j = 2 ∨ j = 3 by omega) with rfl | rfl | rfl | rfl <;> rfl
  · show V 5 0 = _
    rw [v3 5 (by omega)]
    rfl
  · show V 6 0 = _
    rw [v3 6 (by omega)]
    rfl
  · show V 8 0 = _
    rw [v3 8 (by omega)]
    rfl
  · show V 7 j = nI ([53, 54, 43, 55, 42, 56, 45, 49, 55].getD j 0)
    have hj' : j < 9 := hj
    rw [v3 7 (by omega)]
    rcases (show j = 0 ∨ j = 1 ∨ j = 2 ∨ j = 3 ∨ j = 4 ∨ j = 5 ∨ j = 6 ∨ j = 7 ∨ j = 8 by omega) with rfl | rfl | rfl | rfl | rfl | rfl | rfl | rfl | rfl <;> rfl
  · show V 0 0 = 0
    rw [v3 0 (by omega)]
    show U 0 0 = 0
    rw [u3 0 (by omega)]
theorem bind_of {α β : Type} {x : Option α} {y : α} {f : α → Option β} (h : x = some y) : Option.bind x f = f y := by
  subst h
  rfl
theorem copy_X {N : Nat} {S X : St} (x1 : cpF N 34 0 (stf S 0 0) = some X) : fX7_copyFrom N S = some X :=
  (bind_of (x := fX7_clear N S) (y := stf S 0 0) (f := fun q => cpF N 34 0 q) rfl).trans x1
theorem init_X {N : Nat} {S0 X T : St} (a : Nat → Nat) (x0 : fX7_copyFrom N (sh S0 0) = some X) (t1 : fX9_readFrom N (sh (pt S0 0 2 X) 32) (sh (pt S0 0 2 X) 0) = some (-4, T)) : fX10_init N a S0 = some (swA a, pt (layS (pt S0 0 2 X) T) 0 2 (stf (sh (layS (pt S0 0 2 X) T) 0) 0 0)) := by
  unfold fX10_init
  rw [bind_of x0, bind_of (layT_X a t1)]
  exact bind_of (x := fX7_clear N (sh (layS (pt S0 0 2 X) T) 0)) rfl
theorem rel_Z {Y Z : St} (h : RF Y Z ∧ RK Y Z ∧ RN Y Z ∧ RS Y ∧ RL0 Y Z) (z : Z 0 0 = 0) : Rel (pt Y 0 2 (stf (sh Y 0) 0 0)) Z := by
  obtain ⟨r1, r2, r3, r4, r5⟩ := h
  exact ⟨⟨0, by omega, rfl, z, fun j hj => absurd hj (Nat.not_lt_zero j)⟩, r1.congr rfl rfl rfl rfl rfl rfl rfl rfl, r2.congr rfl rfl rfl rfl rfl rfl rfl, r3.congr rfl rfl rfl rfl rfl rfl, r4.congr rfl rfl, r5.congr rfl rfl rfl rfl rfl rfl rfl rfl rfl rfl rfl rfl⟩
theorem read_0 {N : Nat} {X T : St} (hN : 1000 ≤ N) (hX : TX 34 lt0 X) : ∃ T', fX9_readFrom N T X = some (-4, T') ∧ RX T' D1 := by
  obtain ⟨T', t1, t2⟩ := readFrom_X (N := N) (T := T) hN TL0 hX
  obtain ⟨p1, p2, p3, p4⟩ := pA_0
  generalize pA lt0 34 201 0 D0 = A at t1 t2 p1 p2 p3 p4
  refine ⟨T', ?_, (t2 p1).eqv p2 p3 p4⟩
  rw [t1, p1]
  rfl
theorem start_pure {N : Nat} (hN : 1000 ≤ N) : ∃ Zx Zm : St, (∀ a : Nat → Nat, ∃ a9 : Nat → Nat, fX10_init N a (stf (stf (stf (stf (stf zS 15 (-1)) 24 6) 25 7) 33 6) 34 7) = some (a9, Zx)) ∧ fX11_init N zS = some Zm ∧ Rel Zx Zm := by
  obtain ⟨Z, z1, z2, z3, z4, z5, z6⟩ := init_M (N := N) (by omega)
  have hS15 : (stf (stf (stf (stf (stf zS 15 (-1)) 24 6) 25 7) 33 6) 34 7) 15 0 = -1 := rfl
  generalize (stf (stf (stf (stf (stf zS 15 (-1)) 24 6) 25 7) 33 6) 34 7) = S0 at hS15 ⊢
  obtain ⟨X, x1, x2⟩ := cp_X (N := N) 34 0 (stf (sh S0 0) 0 0) rfl rfl (fun j hj => absurd hj (Nat.not_lt_zero j))
  have x2' : TX 34 lt0 (sh (pt S0 0 2 X) 0) := x2
  obtain ⟨T, t1, hX⟩ := read_0 (N := N) (T := sh (pt S0 0 2 X) 32) hN x2'
  have hS : RS (pt S0 0 2 X) := Or.inl hS15
  exact ⟨_, Z, fun a => ⟨swA a, init_X a (copy_X x1) t1⟩, z1, rel_Z (rel_lay hX VD1 z2 z3 z4 z5 hS) z6⟩
theorem all_ob {N : Nat} (hN : 200000 ≤ N) : OBS N Rel := ⟨ob_write, ob_wipe, ob_fault (by omega), ob_lay (by omega), ob_figure, ob_coin, ob_strike (by omega), ob_standIn (by omega), ob_undo (by omega), ob_said hN, ob_next hN, ob_rank hN, ob_kth hN, ob_sum (by omega), ob_ways (by omega), ob_shortest (by omega), ob_change (by omega), ob_never (by omega), ob_pays (by omega), ob_day (by omega), ob_agree (by omega), ob_odds (by omega), ob_mean (by omega), ob_dark (by omega), ob_forget, ob_works (by omega), ob_costs hN, ob_dearest hN, ob_bargain hN, ob_days hN, ob_keep (by omega), ob_back (by omega), ob_count (by omega)⟩
