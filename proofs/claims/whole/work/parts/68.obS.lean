/-! ===== fault, lay ===== -/
theorem RT.tl {S M : St} (h : RT S M) : ∃ n lt, TL n lt ∧ TX n lt (sh S 0) ∧ TX n lt M := by
  obtain ⟨n, hn, e1, e2, hj⟩ := h
  have hv : ∀ j, j < n → ∃ c, 32 ≤ c ∧ c ≤ 126 ∧ (if j < n then (S 1 j).toNatClampNeg else 0) = c ∧ S 1 j = nI c ∧ M 1 j = nI c := by
    intro j h
    obtain ⟨c, c1, c2, c3, c4⟩ := hj j h
    refine ⟨c, c1, c2, ?_, c3, c4⟩
    rw [if_pos h, c3, nI_clamp (by omega)]
  refine ⟨n, fun j => if j < n then (S 1 j).toNatClampNeg else 0, ⟨hn, fun j h => ?_, fun j h => if_neg (by omega)⟩, ⟨e1, fun j h => ?_⟩, ⟨e2, fun j h => ?_⟩⟩
  · obtain ⟨c, c1, c2, c3, c4, c5⟩ := hv j h
    dsimp only
    rw [c3]; exact ⟨c1, c2⟩
  · obtain ⟨c, c1, c2, c3, c4, c5⟩ := hv j h
    dsimp only
    rw [c3]; exact c4
  · obtain ⟨c, c1, c2, c3, c4, c5⟩ := hv j h
    dsimp only
    rw [c3]; exact c5
theorem FM.all {M U : St} (h : FM M U) {i : Nat} (hi : ∀ x, ¬ Dr i x) : U i = M i := funext fun x => h i x (hi x)
theorem RL0.fm {S M U : St} (h : RL0 S M) (hF : FM M U) : RL0 S U := by
  obtain ⟨⟨c, hc, e1, e2, hj⟩, ⟨d, d1, d2, d3, d4⟩, ⟨w, w1, w2, w3, w4⟩, L, hL, hs, l1, l2, l3⟩ := h
  refine ⟨⟨c, hc, e1, (hF 4 0 (by unfold Dr; omega)).trans e2, fun j hjc => ?_⟩, ⟨d, d1, d2, d3, (hF 5 0 (by unfold Dr; omega)).trans d4⟩, ⟨w, w1, w2, w3, (hF 6 0 (by unfold Dr; omega)).trans w4⟩, L, hL, hs, l1, (hF 8 0 (by unfold Dr; omega)).trans l2, fun j hjl => ⟨(l3 j hjl).1, (hF 7 j (by unfold Dr; omega)).trans (l3 j hjl).2⟩⟩
  obtain ⟨x, x1, x2, x3, x4⟩ := hj j hjc
  exact ⟨x, x1, x2, x3, (hF 3 j (by unfold Dr; omega)).trans x4⟩
theorem Rel.fm {S M U : St} (h : Rel S M) (hF : FM M U) (T : St) : Rel (pt S 32 9 T) U := by
  refine ⟨h.1.congr rfl rfl (hF.all ?_) (hF.all ?_), h.2.1.congr rfl rfl rfl rfl rfl (hF.all ?_) (hF.all ?_) (hF.all ?_), h.2.2.1.congr rfl rfl rfl rfl rfl (hF.all ?_) (hF.all ?_), h.2.2.2.1.congr rfl rfl rfl (hF.all ?_) (hF.all ?_) (hF.all ?_), h.2.2.2.2.1.congr rfl rfl, (h.2.2.2.2.2.fm hF).congr rfl rfl rfl rfl rfl rfl rfl rfl rfl rfl rfl rfl⟩
  all_goals (intro x; unfold Dr; omega)
theorem ob_fault {N : Nat} (hN : 1000 ≤ N) : OB_fault N Rel := by
  intro S M hR
  obtain ⟨n, lt, hT, hX, hM⟩ := hR.1.tl
  obtain ⟨T, e1, -⟩ := readFrom_X (N := N) (T := sh S 32) hN hT hX
  obtain ⟨U, e2, hF, -⟩ := readAll_M (N := N) hN hT hM
  unfold fX10_fault fX11_fault
  rw [e1, e2]
  exact ⟨_, _, _, rfl, rfl, hR.fm hF T⟩
theorem pA_lt {lt : Nat → Nat} {n : Nat} : ∀ (m s : Nat) (D : DT) (s1 : Nat), (pA lt n m s D).1 = some s1 → s1 < n
  | 0, _, _, _, h => by cases h
  | m + 1, s, D, s1, h => by
    rw [pA] at h
    by_cases c : n ≤ s
    · rw [if_pos c] at h; cases h
    · rw [if_neg c] at h
      cases e : pI lt s D with
      | none =>
        rw [e] at h
        have : s = s1 := Option.some.inj h
        omega
      | some q =>
        rw [e] at h
        exact pA_lt m (q.1 + 1) q.2 s1 h
/-- the class's state when a text is laid -/
def layS (S T : St) : St := swS (stf (stf (stf (pt (pt S 32 9 T) 2 2 (va_up (stf (sh (pt S 32 9 T) 2) 0 ((sh (pt S 32 9 T) 37) 0 0)) 1 (va_cpy ((sh (pt S 32 9 T) 37) 1) ((stf (sh (pt S 32 9 T) 2) 0 ((sh (pt S 32 9 T) 37) 0 0)) 1) 0 0 10))) 12 0) 4 0) 7 0)
theorem layT_X {N : Nat} {S T : St} (a : Nat → Nat) (h : fX9_readFrom N (sh S 32) (sh S 0) = some (-4, T)) : fX10_layText N a S = some (1, swA a, layS S T) := by
  unfold fX10_layText fX0_copyFrom
  rw [h]
  simp only [Option.bind_some]
  rw [if_pos trivial]
  rfl
theorem layF_X {N : Nat} {S T : St} {v : Int32} (a : Nat → Nat) (h : fX9_readFrom N (sh S 32) (sh S 0) = some (v, T)) (hv : ¬ v = -4) : fX10_layText N a S = some (0, a, pt S 32 9 T) := by
  unfold fX10_layText
  rw [h]
  simp only [Option.bind_some]
  rw [if_neg hv]
/-- the reference's state when a text is laid -/
def LM (M : St) (D : DT) : Prop := (∀ f, f < 10 → M 9 f = nI (bi D.1 f) ∧ M 9 (10 + f) = nI (D.2.1 f)) ∧ (M 4 0 = nI D.2.2.1.length ∧ ∀ j, j < D.2.2.1.length → M 3 j = nI (D.2.2.1.getD j 0)) ∧ M 5 0 = nI D.2.2.2.1 ∧ M 6 0 = nI D.2.2.2.2.1 ∧ (M 8 0 = nI D.2.2.2.2.2.length ∧ ∀ j, j < D.2.2.2.2.2.length → M 7 j = nI (D.2.2.2.2.2.getD j 0))
theorem rel_lay {S T M : St} {D : DT} (hX : RX T D) (hV : VD D) (hM : LM M D) (h11 : M 11 0 = 0) (h13 : M 13 0 = 0) (h14 : M 14 0 = 0) (hS : RS S) : RF (layS S T) M ∧ RK (layS S T) M ∧ RN (layS S T) M ∧ RS (layS S T) ∧ RL0 (layS S T) M := by
  refine ⟨⟨D.1, 0, hX.1, ⟨hV.1, fun f hf => ⟨(hM.1 f hf).1, ?_, D.2.1 f, hV.2.1 f hf, (hM.1 f hf).2⟩⟩, by omega, rfl, h11, trivial⟩, ⟨0, by omega, rfl, h13, fun j h => absurd h (by omega)⟩, ⟨0, by omega, rfl, h14, fun j h => absurd h (by omega)⟩, hS.congr rfl rfl, ?_⟩
  · show va_cpy (T 6) _ 0 0 10 f = M 9 (10 + f)
    rw [cpy_in _ _ (by omega), (hM.1 f hf).2, ← hX.2.1 f hf]
    congr 1
    omega
  · refine ⟨⟨D.2.2.1.length, hV.2.2.1.1, hX.2.2.1.1, hM.2.1.1, fun j hj => ⟨D.2.2.1.getD j 0, (hV.2.2.1.2 j hj).1, (hV.2.2.1.2 j hj).2, hX.2.2.1.2 j hj, hM.2.1.2 j hj⟩⟩, ⟨D.2.2.2.1, hV.2.2.2.1.1, hV.2.2.2.1.2, hX.2.2.2.1, hM.2.2.1⟩, ⟨D.2.2.2.2.1, hV.2.2.2.2.1.1, hV.2.2.2.2.1.2, hX.2.2.2.2.1, hM.2.2.2.1⟩, D.2.2.2.2.2, hV.2.2.2.2.2.1, hV.2.2.2.2.2.2, hX.2.2.2.2.2.1, hM.2.2.2.2.1, fun j hj => ⟨hX.2.2.2.2.2.2 j hj, hM.2.2.2.2.2 j hj⟩⟩
theorem lay14_M {N : Nat} {U : St} (hN : 100 ≤ N) : ∃ V, fX11_lay_l14 N N (0, U) = fX11_lay_j56 N V ∧ (∀ x, x < 20 → V 2 x = U 2 (20 + x) ∧ V 7 x = U 7 (20 + x)) ∧ ∀ i, i ≠ 2 → i ≠ 7 → V i = U i := by
  unfold fX11_lay_l14
  have key := lpN_h (body := fun g q => fX11_lay_b14 N g q.1 q.2) (enc := fun i : Nat × Nat × St => (nI i.2.1, i.2.2)) (I := fun i => i.2.1 + i.1 = 20 ∧ (∀ x, x < i.2.1 → i.2.2 2 x = U 2 (20 + x) ∧ i.2.2 7 x = U 7 (20 + x)) ∧ (∀ x, i.2.1 ≤ x → i.2.2 2 x = U 2 x ∧ i.2.2 7 x = U 7 x) ∧ ∀ a, a ≠ 2 → a ≠ 7 → i.2.2 a = U a) (μ := fun i => i.1) (P := fun _ o => ∃ V, o = fX11_lay_j56 N V ∧ (∀ x, x < 20 → V 2 x = U 2 (20 + x) ∧ V 7 x = U 7 (20 + x)) ∧ ∀ i, i ≠ 2 → i ≠ 7 → V i = U i) ?_ N (20, 0, U) ⟨rfl, fun x hx => absurd hx (Nat.not_lt_zero x), fun _ _ => ⟨rfl, rfl⟩, fun _ _ _ => rfl⟩ (by show 20 < N; omega)
  · exact key
  rintro g ⟨m, j, V⟩ ⟨hm, h1, h2, h3⟩ ih
  dsimp only at hm h1 h2 h3 ih ⊢
  unfold fX11_lay_b14
  cases m with
  | zero =>
    rw [if_pos (show (20 : Int32) ≤ nI j from nI_le (a := 20) (by omega) (by omega))]
    exact ⟨V, rfl, fun x hx => h1 x (by omega), h3⟩
  | succ m =>
    rw [if_neg (show ¬ (20 : Int32) ≤ nI j from nI_ge (b := 20) (by omega) (by omega)), show (20 : Int32) + nI j = nI (20 + j) from nI_add 20 j, if_pos (in_nI (by omega) (by omega)), if_pos (in_nI (by omega) (by omega)), if_pos (in_nI (by omega) (by omega)), if_pos (in_nI (by omega) (by omega)), nI_clamp (by omega), nI_clamp (by omega), show nI j + (1 : Int32) = nI (j + 1) from nI_1 j]
    refine ih (m, j + 1, sti (sti V 2 j (V 2 (20 + j))) 7 j ((sti V 2 j (V 2 (20 + j))) 7 (20 + j))) ⟨by show j + 1 + m = 20; omega, fun x hx => ?_, fun x hx => ?_, fun a a2 a7 => ?_⟩ (by show m < m + 1; omega)
    · have hx' : x < j + 1 := hx
      show upd (V 2) j (V 2 (20 + j)) x = U 2 (20 + x) ∧ upd (V 7) j (V 7 (20 + j)) x = U 7 (20 + x)
      by_cases q : x = j
      · rw [q, upd_s, upd_s]; exact h2 (20 + j) (by omega)
      · rw [upd_n _ _ q, upd_n _ _ q]; exact h1 x (by omega)
    · have hx' : j + 1 ≤ x := hx
      show upd (V 2) j (V 2 (20 + j)) x = U 2 x ∧ upd (V 7) j (V 7 (20 + j)) x = U 7 x
      rw [upd_n _ _ (by omega), upd_n _ _ (by omega)]; exact h2 x (by omega)
    · show (if a = 7 then _ else if a = 2 then _ else V a) = U a
      rw [if_neg a7, if_neg a2]; exact h3 a a2 a7
theorem lay58_M {N : Nat} {U : St} (hN : 100 ≤ N) : ∃ V, fX11_lay_l58 N N (0, U) = fX11_lay_j85 N V ∧ (∀ x, x < 6 → V 3 x = U 3 (6 + x)) ∧ ∀ i, i ≠ 3 → V i = U i := by
  unfold fX11_lay_l58
  have key := lpN_h (body := fun g q => fX11_lay_b58 N g q.1 q.2) (enc := fun i : Nat × Nat × St => (nI i.2.1, i.2.2)) (I := fun i => i.2.1 + i.1 = 6 ∧ (∀ x, x < i.2.1 → i.2.2 3 x = U 3 (6 + x)) ∧ (∀ x, i.2.1 ≤ x → i.2.2 3 x = U 3 x) ∧ ∀ a, a ≠ 3 → i.2.2 a = U a) (μ := fun i => i.1) (P := fun _ o => ∃ V, o = fX11_lay_j85 N V ∧ (∀ x, x < 6 → V 3 x = U 3 (6 + x)) ∧ ∀ i, i ≠ 3 → V i = U i) ?_ N (6, 0, U) ⟨rfl, fun x hx => absurd hx (Nat.not_lt_zero x), fun _ _ => rfl, fun _ _ => rfl⟩ (by show 6 < N; omega)
  · exact key
  rintro g ⟨m, j, V⟩ ⟨hm, h1, h2, h3⟩ ih
  dsimp only at hm h1 h2 h3 ih ⊢
  unfold fX11_lay_b58
  cases m with
  | zero =>
    rw [if_pos (show (6 : Int32) ≤ nI j from nI_le (a := 6) (by omega) (by omega))]
    exact ⟨V, rfl, fun x hx => h1 x (by omega), h3⟩
  | succ m =>
    rw [if_neg (show ¬ (6 : Int32) ≤ nI j from nI_ge (b := 6) (by omega) (by omega)), show (6 : Int32) + nI j = nI (6 + j) from nI_add 6 j, if_pos (in_nI (by omega) (by omega)), if_pos (in_nI (by omega) (by omega)), nI_clamp (by omega), nI_clamp (by omega), show nI j + (1 : Int32) = nI (j + 1) from nI_1 j]
    refine ih (m, j + 1, sti V 3 j (V 3 (6 + j))) ⟨by show j + 1 + m = 6; omega, fun x hx => ?_, fun x hx => ?_, fun a a3 => ?_⟩ (by show m < m + 1; omega)
    · have hx' : x < j + 1 := hx
      show upd (V 3) j (V 3 (6 + j)) x = U 3 (6 + x)
      by_cases q : x = j
      · rw [q, upd_s]; exact h2 (6 + j) (by omega)
      · rw [upd_n _ _ q]; exact h1 x (by omega)
    · have hx' : j + 1 ≤ x := hx
      show upd (V 3) j (V 3 (6 + j)) x = U 3 x
      rw [upd_n _ _ (by omega)]; exact h2 x (by omega)
    · show (if a = 3 then _ else V a) = U a
      rw [if_neg a3]; exact h3 a a3
theorem begin_M {N : Nat} {U : St} (hN : 100 ≤ N) : ∃ V, fX11_begin N U = some (stf (stf (stf V 11 0) 13 0) 14 0) ∧ (∀ x, x < 20 → V 9 x = U 2 x) ∧ ∀ i, i ≠ 9 → V i = U i := by
  unfold fX11_begin fX11_begin_l2
  have key := lpN_h (body := fun g q => fX11_begin_b2 N g q.1 q.2) (enc := fun i : Nat × Nat × St => (nI i.2.1, i.2.2)) (I := fun i => i.2.1 + i.1 = 20 ∧ (∀ x, x < i.2.1 → i.2.2 9 x = U 2 x) ∧ ∀ a, a ≠ 9 → i.2.2 a = U a) (μ := fun i => i.1) (P := fun _ o => ∃ V, o = some (stf (stf (stf V 11 0) 13 0) 14 0) ∧ (∀ x, x < 20 → V 9 x = U 2 x) ∧ ∀ i, i ≠ 9 → V i = U i) ?_ N (20, 0, U) ⟨rfl, fun x hx => absurd hx (Nat.not_lt_zero x), fun _ _ => rfl⟩ (by show 20 < N; omega)
  · exact key
  rintro g ⟨m, j, V⟩ ⟨hm, h1, h2⟩ ih
  dsimp only at hm h1 h2 ih ⊢
  unfold fX11_begin_b2 fX11_begin_j26
  cases m with
  | zero =>
    rw [if_pos (show (20 : Int32) ≤ nI j from nI_le (a := 20) (by omega) (by omega))]
    exact ⟨V, rfl, fun x hx => h1 x (by omega), h2⟩
  | succ m =>
    rw [if_neg (show ¬ (20 : Int32) ≤ nI j from nI_ge (b := 20) (by omega) (by omega)), if_pos (in_nI (by omega) (by omega)), if_pos (in_nI (by omega) (by omega)), nI_clamp (by omega), show nI j + (1 : Int32) = nI (j + 1) from nI_1 j]
    refine ih (m, j + 1, sti V 9 j (V 2 j)) ⟨by show j + 1 + m = 20; omega, fun x hx => ?_, fun a a9 => ?_⟩ (by show m < m + 1; omega)
    · have hx' : x < j + 1 := hx
      show upd (V 9) j (V 2 j) x = U 2 x
      by_cases q : x = j
      · rw [q, upd_s, h2 2 (by omega)]
      · rw [upd_n _ _ q]; exact h1 x (by omega)
    · show (if a = 9 then _ else V a) = U a
      rw [if_neg a9]; exact h2 a a9
theorem lay_M {N : Nat} {U : St} {D : DT} (hN : 100 ≤ N) (hR : RM U D) (hV : VD D) : ∃ Z, fX11_lay_l14 N N (0, U) = some (nI (pc D.1), Z) ∧ LM Z D ∧ Z 11 0 = 0 ∧ Z 13 0 = 0 ∧ Z 14 0 = 0 ∧ Z 0 = U 0 ∧ Z 1 = U 1 := by
  obtain ⟨V, v1, v2, v3⟩ := lay14_M (N := N) (U := U) hN
  obtain ⟨W, w1, w2, w3⟩ := lay58_M (N := N) (U := V) hN
  obtain ⟨Z, z1, z2, z3⟩ := begin_M (N := N) (U := sti (sti (sti (sti W 4 0 ((W 4 1))) 5 0 (((sti W 4 0 ((W 4 1))) 5 1))) 6 0 (((sti (sti W 4 0 ((W 4 1))) 5 0 (((sti W 4 0 ((W 4 1))) 5 1))) 6 1))) 8 0 (((sti (sti (sti W 4 0 ((W 4 1))) 5 0 (((sti W 4 0 ((W 4 1))) 5 1))) 6 0 (((sti (sti W 4 0 ((W 4 1))) 5 0 (((sti W 4 0 ((W 4 1))) 5 1))) 6 1))) 8 1))) hN
  rw [v1]
  unfold fX11_lay_j56
  rw [w1]
  unfold fX11_lay_j85
  rw [z1]
  simp only [Option.bind_some]
  have e2 : ∀ x, x < 20 → Z 9 x = U 2 (20 + x) := fun x hx => by
    rw [z2 x hx]
    show W 2 x = _
    rw [w3 2 (by omega)]
    exact (v2 x hx).1
  have hL : LM (stf (stf (stf Z 11 0) 13 0) 14 0) D := by
    refine ⟨fun f hf => ⟨?_, ?_⟩, ⟨?_, fun j hj => ?_⟩, ?_, ?_, ?_, fun j hj => ?_⟩
    · show Z 9 f = _
      rw [e2 f (by omega)]; exact (hR.1 f hf).1
    · show Z 9 (10 + f) = _
      rw [e2 (10 + f) (by omega), show 20 + (10 + f) = 30 + f by omega]; exact (hR.1 f hf).2
    · show Z 4 0 = _
      rw [z3 4 (by omega)]
      show upd (W 4) 0 (W 4 1) 0 = _
      rw [upd_s, w3 4 (by omega), v3 4 (by omega) (by omega)]; exact hR.2.1.1
    · show Z 3 j = _
      have := hV.2.2.1.1
      rw [z3 3 (by omega)]
      show W 3 j = _
      rw [w2 j (by omega), v3 3 (by omega) (by omega)]; exact hR.2.1.2 j hj
    · show Z 5 0 = _
      rw [z3 5 (by omega)]
      show upd (W 5) 0 (W 5 1) 0 = _
      rw [upd_s, w3 5 (by omega), v3 5 (by omega) (by omega)]; exact hR.2.2.1
    · show Z 6 0 = _
      rw [z3 6 (by omega)]
      show upd (W 6) 0 (W 6 1) 0 = _
      rw [upd_s, w3 6 (by omega), v3 6 (by omega) (by omega)]; exact hR.2.2.2.1
    · show Z 8 0 = _
      rw [z3 8 (by omega)]
      show upd (W 8) 0 (W 8 1) 0 = _
      rw [upd_s, w3 8 (by omega), v3 8 (by omega) (by omega)]; exact hR.2.2.2.2.1
    · show Z 7 j = _
      have := hV.2.2.2.2.2.1
      rw [z3 7 (by omega)]
      show W 7 j = _
      rw [w3 7 (by omega), (v2 j (by omega)).2]; exact hR.2.2.2.2.2 j hj
  have hw : NW D.1 (stf (stf (stf Z 11 0) 13 0) 14 0) := fun f hf => (hL.1 f hf).1
  rw [strikers_M hN hw]
  refine ⟨_, rfl, hL, rfl, rfl, rfl, ?_, ?_⟩
  · show Z 0 = U 0
    rw [z3 0 (by omega)]
    show W 0 = U 0
    rw [w3 0 (by omega), v3 0 (by omega) (by omega)]
  · show Z 1 = U 1
    rw [z3 1 (by omega)]
    show W 1 = U 1
    rw [w3 1 (by omega), v3 1 (by omega) (by omega)]
theorem ob_lay {N : Nat} (hN : 1000 ≤ N) : OB_lay N Rel := by
  intro S M hR
  obtain ⟨n, lt, hT, hX, hM⟩ := hR.1.tl
  obtain ⟨T, e1, hRX⟩ := readFrom_X (N := N) (T := sh S 32) hN hT hX
  obtain ⟨U, e2, hF, hRM⟩ := readAll_M (N := N) hN hT hM
  have hV := pA_VD (lt := lt) (n := n) 201 0 D0 VD.d0
  unfold fX10_lay fX11_lay
  rw [e2]
  simp only [Option.bind_some]
  cases hc : (pA lt n 201 0 D0).1 with
  | some s1 =>
    have hs1 := pA_lt 201 0 D0 s1 hc
    have hn := hT.1
    have hv : ¬ fvN (some s1) = -4 := by
      show ¬ nI s1 = -4
      intro q
      have := nI_pos (n := s1) (by omega)
      rw [q] at this
      exact this (by decide)
    rw [hc] at e1
    rw [if_neg hv]
    refine ⟨-2, pt S 32 9 T, U, fun a => ⟨a, ?_⟩, rfl, hR.fm hF T⟩
    rw [layF_X a e1 hv]
    rfl
  | none =>
    rw [hc] at e1
    have hX' := hRX hc
    have hM' := hRM hc
    obtain ⟨Z, z1, z2, z3, z4, z5, z6, z7⟩ := lay_M (N := N) (by omega) hM' hV
    rw [if_pos (show fvN none = (-4 : Int32) from rfl), z1]
    refine ⟨_, layS S T, Z, fun a => ⟨swA a, ?_⟩, rfl, ?_⟩
    · rw [layT_X a e1]
      simp only [Option.bind_some]
      rw [if_neg i10, strikers_X (F := sh (layS S T) 2) hV.1 hX'.1]
      rfl
    · refine ⟨hR.1.congr rfl rfl (z6.trans (hF.all ?_)) (z7.trans (hF.all ?_)), rel_lay hX' hV z2 z3 z4 z5 hR.2.2.2.2.1⟩
      all_goals (intro x; unfold Dr; omega)
