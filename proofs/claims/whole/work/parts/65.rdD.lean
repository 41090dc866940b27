/-! ===== the reference's reader ===== -/
def Dr (i x : Nat) : Prop := i = 2 ∨ (i = 3 ∧ 6 ≤ x) ∨ (i = 4 ∧ 1 ≤ x) ∨ (i = 5 ∧ 1 ≤ x) ∨ (i = 6 ∧ 1 ≤ x) ∨ (i = 7 ∧ 20 ≤ x) ∨ (i = 8 ∧ 1 ≤ x) ∨ i = 17 ∨ i = 18
def FM (M U : St) : Prop := ∀ i x, ¬ Dr i x → U i x = M i x
theorem FM.refl (M : St) : FM M M := fun _ _ _ => rfl
theorem FM.trans {M U V : St} (h1 : FM M U) (h2 : FM U V) : FM M V := fun i x h => (h2 i x h).trans (h1 i x h)
theorem FM.sti {M U : St} (h : FM M U) {i x : Nat} {v : Int32} (hd : Dr i x) : FM M (sti U i x v) := by
  intro a y hn
  show (if a = i then upd (U i) x v else U a) y = M a y
  by_cases e : a = i
  · subst e
    rw [if_pos rfl]
    by_cases e2 : y = x
    · subst e2; exact absurd hd hn
    · rw [upd_n _ _ e2]; exact h a y hn
  · rw [if_neg e]; exact h a y hn
theorem FM.s17 {M U : St} (h : FM M U) {v : Int32} : FM M (stf U 17 v) := by
  intro a y hn
  show (if a = 17 then (fun _ => v) else U a) y = M a y
  by_cases e : a = 17
  · exact absurd (show Dr a y by unfold Dr; omega) hn
  · rw [if_neg e]; exact h a y hn
theorem FM.g {M U : St} (h : ∀ i, i ≠ 17 → i ≠ 18 → U i = M i) : FM M U := by
  intro i x hn
  unfold Dr at hn
  rw [h i (by omega) (by omega)]
theorem FM.tx {n : Nat} {lt : Nat → Nat} {M U : St} (h : FM M U) (hX : TX n lt M) : TX n lt U := by
  refine ⟨(h 0 0 (by unfold Dr; omega)).trans hX.1, fun j hj => (h 1 j (by unfold Dr; omega)).trans (hX.2 j hj)⟩
def RM (M : St) (D : DT) : Prop := (∀ f, f < 10 → M 2 (20 + f) = nI (bi D.1 f) ∧ M 2 (30 + f) = nI (D.2.1 f)) ∧ (M 4 1 = nI D.2.2.1.length ∧ ∀ j, j < D.2.2.1.length → M 3 (6 + j) = nI (D.2.2.1.getD j 0)) ∧ M 5 1 = nI D.2.2.2.1 ∧ M 6 1 = nI D.2.2.2.2.1 ∧ (M 8 1 = nI D.2.2.2.2.2.length ∧ ∀ j, j < D.2.2.2.2.2.length → M 7 (20 + j) = nI (D.2.2.2.2.2.getD j 0))
theorem RM.g {M U : St} {D : DT} (hR : RM M D) (h : ∀ i, i ≠ 17 → i ≠ 18 → U i = M i) : RM U D := by
  unfold RM at hR ⊢
  rw [h 2 (by omega) (by omega), h 3 (by omega) (by omega), h 4 (by omega) (by omega), h 5 (by omega) (by omega), h 6 (by omega) (by omega), h 7 (by omega) (by omega), h 8 (by omega) (by omega)]
  exact hR
theorem fst_M {N n s f v : Nat} {lt : Nat → Nat} {U : St} {p1 x2 : Int32} {g2 : Int32 × St → Option (Int32 × St)} {g12 : Int32 × Int32 × Int32 × St → Option (Int32 × St)} (hT : TL n lt) (hX : TX n lt U) (hs : s ≤ 400) (e : U 17 0 = nI s) (hf : f ≤ 3) : fX11_figures_b12 N p1 g2 g12 x2 (nI f) (nI v) U = if dg (lt s) = true ∧ f < 3 then g12 (x2, nI (f + 1), nI (10 * v + (lt s - 48)), stf U 17 (nI (s + 1))) else fX11_figures_j73 N p1 g2 x2 (nI f) (nI v) U := by
  have hl := hT.le s
  unfold fX11_figures_b12
  rw [e, let_M hT hX hs]
  simp only [Option.bind_some]
  rw [dig_M (by omega)]
  simp only [Option.bind_some]
  cases d : dg (lt s) with
  | false => rw [if_pos (show nI (bN false) = (0 : Int32) by rfl), if_neg (fun q => absurd q.1 (by decide))]
  | true =>
    have a0 := dg_t.mp d
    rw [if_neg (show ¬ nI (bN true) = (0 : Int32) by decide)]
    by_cases c : f < 3
    · rw [if_neg (show ¬ (3 : Int32) ≤ nI f from nI_ge (b := 3) c (by omega)), if_pos ⟨by trivial, c⟩]
      unfold nm
      dsimp only
      rw [show ((10 : Int32) * nI v + nI (lt s)) - 48 = nI (10 * v + (lt s - 48)) by
        show (nI 10 * nI v + nI (lt s)) - nI 48 = _
        rw [pk_mul, nI_add, pk_sub (by omega)]
        congr 1
        omega, show nI f + (1 : Int32) = nI (f + 1) from nI_1 f, show nI s + (1 : Int32) = nI (s + 1) from nI_1 s]
    · rw [if_pos (show (3 : Int32) ≤ nI f from nI_le (a := 3) (by omega) (by omega)), if_neg (fun q => c q.2)]
theorem st17 {M : St} {v : Int32} : ∀ i, i ≠ 17 → (stf M 17 v) i = M i := fun i hi => by show (if i = 17 then _ else M i) = M i; rw [if_neg hi]
theorem fi_M {N K n s : Nat} {lt : Nat → Nat} {M : St} {p1 x2 : Int32} {g2 : Int32 × St → Option (Int32 × St)} (hT : TL n lt) (hX : TX n lt M) (hs : s ≤ 300) (e : M 17 0 = nI s) : ∃ U f v, fX11_figures_l12 N p1 g2 (K + 1 + 1 + 1 + 1) (x2, nI 0, nI 0, M) = fX11_figures_j73 N p1 g2 x2 (nI f) (nI v) U ∧ U 17 0 = nI (s + f) ∧ (∀ i, i ≠ 17 → U i = M i) ∧ ((f = ndN lt s ∧ v = vvN lt s) ∨ (f = 3 ∧ ndN lt s = 2 ∧ dg (lt (s + 2)) = true)) := by
  have u : ∀ k q, fX11_figures_l12 N p1 g2 (k + 1) q = fX11_figures_b12 N p1 g2 (fX11_figures_l12 N p1 g2 k) q.1 q.2.1 q.2.2.1 q.2.2.2 := fun _ _ => rfl
  rw [u]
  dsimp only
  rw [fst_M hT hX (by omega) e (by omega)]
  cases d0 : dg (lt s) with
  | false =>
    have hn : ndN lt s = 0 := by unfold ndN; rw [d0, if_neg (by decide)]
    have hv : vvN lt s = 0 := by unfold vvN; rw [d0, if_neg (by decide)]
    rw [if_neg (fun q => absurd q.1 (by decide))]
    exact ⟨M, 0, 0, rfl, e, fun _ _ => rfl, Or.inl ⟨hn.symm, hv.symm⟩⟩
  | true =>
    rw [if_pos ⟨by trivial, by omega⟩, u]
    dsimp only
    rw [fst_M (U := stf M 17 (nI (s + 1))) hT hX (by omega) rfl (by omega)]
    cases d1 : dg (lt (s + 1)) with
    | false =>
      have hn : ndN lt s = 1 := by unfold ndN; rw [d0, if_pos rfl, d1, if_neg (by decide)]
      have hv : vvN lt s = lt s - 48 := by unfold vvN; rw [d0, if_pos rfl, d1, if_neg (by decide)]
      rw [if_neg (fun q => absurd q.1 (by decide))]
      exact ⟨_, 0 + 1, 10 * 0 + (lt s - 48), rfl, rfl, st17, Or.inl ⟨hn.symm, by omega⟩⟩
    | true =>
      have hn : ndN lt s = 2 := by unfold ndN; rw [d0, if_pos rfl, d1, if_pos rfl]
      have hv : vvN lt s = 10 * (lt s - 48) + (lt (s + 1) - 48) := by unfold vvN; rw [d0, if_pos rfl, d1, if_pos rfl]
      rw [if_pos ⟨by trivial, by omega⟩, u]
      dsimp only
      rw [fst_M (U := stf (stf M 17 (nI (s + 1))) 17 (nI (s + 1 + 1))) hT hX (by omega) rfl (by omega)]
      cases d2 : dg (lt (s + 1 + 1)) with
      | false =>
        rw [if_neg (fun q => absurd q.1 (by decide))]
        exact ⟨_, 0 + 1 + 1, 10 * (10 * 0 + (lt s - 48)) + (lt (s + 1) - 48), rfl, rfl, fun i hi => (st17 i hi).trans (st17 i hi), Or.inl ⟨hn.symm, by omega⟩⟩
      | true =>
        rw [if_pos ⟨by trivial, by omega⟩, u]
        dsimp only
        rw [fst_M (U := stf (stf (stf M 17 (nI (s + 1))) 17 (nI (s + 1 + 1))) 17 (nI (s + 1 + 1 + 1))) hT hX (by omega) rfl (by omega), if_neg (fun q => absurd q.2 (by omega))]
        exact ⟨_, 0 + 1 + 1 + 1, _, rfl, rfl, fun i hi => (st17 i hi).trans ((st17 i hi).trans (st17 i hi)), Or.inr ⟨rfl, hn, rfl⟩⟩
theorem fg_M {N n s x t : Nat} {lt : Nat → Nat} {M : St} {p1 : Int32} {g2 : Int32 × St → Option (Int32 × St)} (hN : 10 ≤ N) (hT : TL n lt) (hX : TX n lt M) (hs : s ≤ 300) (e : M 17 0 = nI s) (hx : x < 2) (hq : ((p1 - 1) ≤ nI x ∧ t = 59) ∨ (¬ (p1 - 1) ≤ nI x ∧ t = 44)) : ∃ U, (∀ i, i ≠ 17 → i ≠ 18 → U i = M i) ∧ ((1 ≤ ndN lt s ∧ lt (s + ndN lt s) = t ∧ fX11_figures_l12 N p1 g2 N (nI x, nI 0, nI 0, M) = g2 (nI (x + 1), U) ∧ U 17 0 = nI (s + ndN lt s + 1) ∧ U 18 = upd (M 18) x (nI (vvN lt s))) ∨ (¬ (1 ≤ ndN lt s ∧ lt (s + ndN lt s) = t) ∧ fX11_figures_l12 N p1 g2 N (nI x, nI 0, nI 0, M) = some (0, U))) := by
  obtain ⟨K, hK⟩ : ∃ K, N = K + 1 + 1 + 1 + 1 := ⟨N - 4, by omega⟩
  obtain ⟨U, f, v, e1, e2, e3, e4⟩ := fi_M (N := N) (K := K) (p1 := p1) (x2 := nI x) (g2 := g2) hT hX hs e
  rw [← hK] at e1
  rw [e1]
  have hnd := nd_le lt s
  have hXU : TX n lt U := by
    unfold TX
    rw [e3 0 (by omega), e3 1 (by omega)]
    exact hX
  unfold fX11_figures_j73
  rw [show (1 : Int64) = lN 1 from rfl, show (2 : Int64) = lN 2 from rfl, nI_l (by rcases e4 with ⟨q, -⟩ | ⟨q, -⟩ <;> omega)]
  have hin : fX11_in N (lN f) (lN 1) (lN 2) = some (if 1 ≤ f ∧ f ≤ 2 then 1 else 0) := by
    have h := in_lit (N := N) (nI f) 1 2 (by omega) (by omega)
    rw [nI_l (by rcases e4 with ⟨q, -⟩ | ⟨q, -⟩ <;> omega)] at h
    have hf3 : f ≤ 3 := by rcases e4 with ⟨q, -⟩ | ⟨q, -⟩ <;> omega
    refine h.trans ?_
    congr 1
    by_cases c : 1 ≤ f ∧ f ≤ 2
    · rw [if_pos c, if_pos (rng_t c.1 c.2 (by omega))]
    · rw [if_neg c, if_neg (fun q => c ⟨(nI_leI (by omega) (by omega)).mp q.1, (nI_leI (by omega) (by omega)).mp q.2⟩)]
  rw [hin]
  simp only [Option.bind_some]
  by_cases c0 : 1 ≤ f ∧ f ≤ 2
  · rcases e4 with ⟨q1, q2⟩ | ⟨q1, -⟩
    · subst q1
      subst q2
      have hl := hT.le (s + ndN lt s)
      rw [if_pos c0, if_neg i10, e2, let_M hT hXU (by omega)]
      simp only [Option.bind_some]
      have hj : (if p1 - 1 ≤ nI x then fX11_figures_j107 N p1 g2 (nI x) (nI (vvN lt s)) (nI (lt (s + ndN lt s))) 59 U else fX11_figures_j107 N p1 g2 (nI x) (nI (vvN lt s)) (nI (lt (s + ndN lt s))) 44 U) = fX11_figures_j107 N p1 g2 (nI x) (nI (vvN lt s)) (nI (lt (s + ndN lt s))) (nI t) U := by
        rcases hq with ⟨z1, z2⟩ | ⟨z1, z2⟩
        · rw [if_pos z1, z2]; rfl
        · rw [if_neg z1, z2]; rfl
      rw [hj]
      unfold fX11_figures_j107
      by_cases c1 : lt (s + ndN lt s) = t
      · rw [if_pos (nc_p c1), if_pos (in_nI (by omega) (by omega)), nI_clamp (by omega), show nI x + (1 : Int32) = nI (x + 1) from nI_1 x]
        have e5 : (sti U 18 x (nI (vvN lt s))) 17 0 = nI (s + ndN lt s) := e2
        rw [e5, show nI (s + ndN lt s) + (1 : Int32) = nI (s + ndN lt s + 1) from nI_1 _]
        refine ⟨stf (sti U 18 x (nI (vvN lt s))) 17 (nI (s + ndN lt s + 1)), fun i h17 h18 => ?_, Or.inl ⟨c0.1, c1, rfl, rfl, ?_⟩⟩
        · show (if i = 17 then _ else if i = 18 then _ else U i) = M i
          rw [if_neg h17, if_neg h18]
          exact e3 i h17
        · show upd (U 18) x (nI (vvN lt s)) = _
          rw [e3 18 (by omega)]
      · have ht : t ≤ 126 := by rcases hq with ⟨-, z2⟩ | ⟨-, z2⟩ <;> omega
        rw [if_neg (nc_n hl ht c1)]
        exact ⟨U, fun i h17 _ => e3 i h17, Or.inr ⟨fun q => c1 q.2, rfl⟩⟩
    · omega
  · rw [if_neg c0, if_pos (by trivial)]
    refine ⟨U, fun i h17 _ => e3 i h17, Or.inr ⟨fun q => ?_, rfl⟩⟩
    rcases e4 with ⟨q1, q2⟩ | ⟨q1, q2, q3⟩
    · omega
    · have := dg_t.mp q3
      rw [q2] at q
      rcases hq with ⟨-, z2⟩ | ⟨-, z2⟩ <;> omega
theorem fig1_M {N n s : Nat} {lt : Nat → Nat} {M : St} (hN : 10 ≤ N) (hT : TL n lt) (hX : TX n lt M) (hs : s ≤ 300) (e : M 17 0 = nI s) : ∃ U, (∀ i, i ≠ 17 → i ≠ 18 → U i = M i) ∧ ((1 ≤ ndN lt s ∧ lt (s + ndN lt s) = 59 ∧ fX11_figures N M 1 = some (1, U) ∧ U 17 0 = nI (s + ndN lt s + 1) ∧ U 18 0 = nI (vvN lt s)) ∨ (¬ (1 ≤ ndN lt s ∧ lt (s + ndN lt s) = 59) ∧ fX11_figures N M 1 = some (0, U))) := by
  obtain ⟨K, hK⟩ : ∃ K, N = K + 1 + 1 := ⟨N - 2, by omega⟩
  have u : ∀ k q, fX11_figures_l2 N 1 (k + 1) q = fX11_figures_b2 N 1 (fX11_figures_l2 N 1 k) q.1 q.2 := fun _ _ => rfl
  have h0 : fX11_figures N M 1 = fX11_figures_l12 N 1 (fX11_figures_l2 N 1 (K + 1)) N (nI 0, nI 0, nI 0, M) := by
    unfold fX11_figures
    have : fX11_figures_l2 N 1 N (0, M) = fX11_figures_l2 N 1 (K + 1 + 1) (0, M) := by rw [← hK]
    rw [this, u]
    unfold fX11_figures_b2
    rw [if_neg (show ¬ (1 : Int32) ≤ 0 by decide)]
    rfl
  obtain ⟨U, h1, h2⟩ := fg_M (N := N) (x := 0) (t := 59) (p1 := 1) (g2 := fX11_figures_l2 N 1 (K + 1)) hN hT hX hs e (by omega) (Or.inl ⟨by decide, rfl⟩)
  refine ⟨U, h1, ?_⟩
  rw [h0]
  rcases h2 with ⟨a1, a2, a3, a4, a5⟩ | ⟨a1, a2⟩
  · refine Or.inl ⟨a1, a2, ?_, a4, ?_⟩
    · rw [a3, u]
      unfold fX11_figures_b2
      dsimp only
      rw [if_pos (show (1 : Int32) ≤ nI (0 + 1) by decide)]
    · rw [a5, upd_s]
  · exact Or.inr ⟨a1, a2⟩
theorem fig2_M {N n s : Nat} {lt : Nat → Nat} {M : St} (hN : 10 ≤ N) (hT : TL n lt) (hX : TX n lt M) (hs : s ≤ 290) (e : M 17 0 = nI s) : ∃ U, (∀ i, i ≠ 17 → i ≠ 18 → U i = M i) ∧ (((1 ≤ ndN lt s ∧ lt (s + ndN lt s) = 44) ∧ (1 ≤ ndN lt (s + ndN lt s + 1) ∧ lt (s + ndN lt s + 1 + ndN lt (s + ndN lt s + 1)) = 59) ∧ fX11_figures N M 2 = some (1, U) ∧ U 17 0 = nI (s + ndN lt s + 1 + ndN lt (s + ndN lt s + 1) + 1) ∧ U 18 0 = nI (vvN lt s) ∧ U 18 1 = nI (vvN lt (s + ndN lt s + 1))) ∨ (¬ ((1 ≤ ndN lt s ∧ lt (s + ndN lt s) = 44) ∧ (1 ≤ ndN lt (s + ndN lt s + 1) ∧ lt (s + ndN lt s + 1 + ndN lt (s + ndN lt s + 1)) = 59)) ∧ fX11_figures N M 2 = some (0, U))) := by
  obtain ⟨K, hK⟩ : ∃ K, N = K + 1 + 1 + 1 := ⟨N - 3, by omega⟩
  have u : ∀ k q, fX11_figures_l2 N 2 (k + 1) q = fX11_figures_b2 N 2 (fX11_figures_l2 N 2 k) q.1 q.2 := fun _ _ => rfl
  have hnd := nd_le lt s
  have h0 : fX11_figures N M 2 = fX11_figures_l12 N 2 (fX11_figures_l2 N 2 (K + 1 + 1)) N (nI 0, nI 0, nI 0, M) := by
    unfold fX11_figures
    have : fX11_figures_l2 N 2 N (0, M) = fX11_figures_l2 N 2 (K + 1 + 1 + 1) (0, M) := by rw [← hK]
    rw [this, u]
    unfold fX11_figures_b2
    rw [if_neg (show ¬ (2 : Int32) ≤ 0 by decide)]
    rfl
  obtain ⟨U, h1, h2⟩ := fg_M (N := N) (x := 0) (t := 44) (p1 := 2) (g2 := fX11_figures_l2 N 2 (K + 1 + 1)) hN hT hX (by omega) e (by omega) (Or.inr ⟨by decide, rfl⟩)
  rw [h0]
  rcases h2 with ⟨a1, a2, a3, a4, a5⟩ | ⟨a1, a2⟩
  · have hXU : TX n lt U := by
      unfold TX
      rw [h1 0 (by omega) (by omega), h1 1 (by omega) (by omega)]
      exact hX
    obtain ⟨V, k1, k2⟩ := fg_M (N := N) (x := 1) (t := 59) (p1 := 2) (g2 := fX11_figures_l2 N 2 (K + 1)) (M := U) (s := s + ndN lt s + 1) hN hT hXU (by omega) a4 (by omega) (Or.inl ⟨by decide, rfl⟩)
    have h3 : fX11_figures_l2 N 2 (K + 1 + 1) (nI (0 + 1), U) = fX11_figures_l12 N 2 (fX11_figures_l2 N 2 (K + 1)) N (nI 1, nI 0, nI 0, U) := by
      rw [u]
      unfold fX11_figures_b2
      dsimp only
      rw [if_neg (show ¬ (2 : Int32) ≤ nI (0 + 1) by decide)]
      rfl
    refine ⟨V, fun i h17 h18 => (k1 i h17 h18).trans (h1 i h17 h18), ?_⟩
    rw [a3, h3]
    rcases k2 with ⟨b1, b2, b3, b4, b5⟩ | ⟨b1, b2⟩
    · refine Or.inl ⟨⟨a1, a2⟩, ⟨b1, b2⟩, ?_, b4, ?_, ?_⟩
      · rw [b3, u]
        unfold fX11_figures_b2
        dsimp only
        rw [if_pos (show (2 : Int32) ≤ nI (1 + 1) by decide)]
      · rw [b5, upd_n _ _ (by omega), a5, upd_s]
      · rw [b5, upd_s]
    · exact Or.inr ⟨fun q => b1 q.2, b2⟩
  · exact ⟨U, h1, Or.inr ⟨fun q => a1 q.1, a2⟩⟩
