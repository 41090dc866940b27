/-! ===== the reference's reader: an item, all; fault ===== -/
theorem bi_or {k f g : Nat} : bi (k ||| 2 ^ f) g = if g = f then 1 else bi k g := by
  rw [bi_tb, bi_tb, Nat.testBit_or, Nat.testBit_two_pow]
  by_cases h : g = f
  · subst h
    rw [if_pos rfl]
    simp [bN]
  · rw [if_neg h]
    have : ¬ f = g := fun h2 => h h2.symm
    simp [this]
theorem item_M {N n s : Nat} {lt : Nat → Nat} {M : St} {D : DT} (hN : 100 ≤ N) (hT : TL n lt) (hX : TX n lt M) (hs : s ≤ 200) (e : M 17 0 = nI s) (hR : RM M D) (hV : VD D) : OM M (pI lt s D) (fX11_item N M) := by
  have hl := hT.le s
  unfold fX11_item pI
  rw [e, let_M hT hX (by omega)]
  simp only [Option.bind_some]
  rw [show nI s + (1 : Int32) = nI (s + 1) from nI_1 s]
  have hF : FM M (stf M 17 (nI (s + 1))) := (FM.refl M).s17
  have hR' : RM (stf M 17 (nI (s + 1))) D := hR.g (fun i h17 _ => st17 i h17)
  have hX' : TX n lt (stf M 17 (nI (s + 1))) := hX
  have hvv := vv_le lt (s + 1)
  by_cases c1 : lt s = 99
  · rw [if_pos (show nI (lt s) = (99 : Int32) from nc_p c1), if_pos c1]
    exact ((coin_M (by omega) hT hX' (by omega) rfl hR' hV).wrap).from hF
  · rw [if_neg (show ¬ nI (lt s) = (99 : Int32) from nc_n (d := 99) hl (by omega) c1), if_neg c1]
    by_cases c2 : lt s = 100
    · rw [if_pos (show nI (lt s) = (100 : Int32) from nc_p c2), if_pos c2]
      refine OM.from ?_ hF
      obtain ⟨U, fr, h⟩ := fig1_M (N := N) (by omega) hT hX' (show s + 1 ≤ 300 by omega) rfl
      have hRU := hR'.g fr
      unfold pD
      rcases h with ⟨a1, a2, a3, a4, a5⟩ | ⟨a1, a2⟩
      · rw [a3]
        simp only [Option.bind_some]
        rw [if_neg i10, a5, in_lit _ 2 9 (by omega) (by omega)]
        by_cases c : 2 ≤ vvN lt (s + 1) ∧ vvN lt (s + 1) ≤ 9
        · rw [if_pos (rng_t c.1 c.2 (by omega)), if_pos ⟨a1, c, a2⟩]
          simp only [Option.bind_some]
          rw [if_neg i10]
          exact Or.inr ⟨_, _, _, rfl, rfl, a4, ⟨hRU.1, hRU.2.1, upd_s (U 5) 1 (nI (vvN lt (s + 1))), hRU.2.2.2⟩, (FM.g fr).sti (by unfold Dr; omega)⟩
        · rw [if_neg (fun q => c q.2.1), if_neg (fun q => c ⟨(nI_leI (by omega) (by omega)).mp q.1, (nI_leI (by omega) (by omega)).mp q.2⟩)]
          exact Or.inl ⟨rfl, U, rfl, FM.g fr⟩
      · rw [a2, if_neg (fun q => a1 ⟨q.1, q.2.2⟩)]
        exact Or.inl ⟨rfl, U, rfl, FM.g fr⟩
    · rw [if_neg (show ¬ nI (lt s) = (100 : Int32) from nc_n (d := 100) hl (by omega) c2), if_neg c2]
      by_cases c3 : lt s = 101
      · rw [if_pos (show nI (lt s) = (101 : Int32) from nc_p c3), if_pos c3]
        exact (((sum_M (by omega) hT hX' (by omega) rfl).om hR').wrap).from hF
      · rw [if_neg (show ¬ nI (lt s) = (101 : Int32) from nc_n (d := 101) hl (by omega) c3), if_neg c3]
        by_cases c4 : lt s = 102
        · rw [if_pos (show nI (lt s) = (102 : Int32) from nc_p c4), if_pos c4]
          refine OM.from ?_ hF
          obtain ⟨U, fr, h⟩ := fig2_M (N := N) (by omega) hT hX' (show s + 1 ≤ 290 by omega) rfl
          have hRU := hR'.g fr
          unfold pF
          rcases h with ⟨a1, a2, a3, a4, a5, a6⟩ | ⟨a1, a2⟩
          · have hvv2 := vv_le lt (s + 1 + ndN lt (s + 1) + 1)
            rw [a3]
            simp only [Option.bind_some]
            rw [if_neg i10, a5, a6]
            by_cases c : vvN lt (s + 1) ≤ 9
            · rw [if_neg (show ¬ (9 : Int32) < nI (vvN lt (s + 1)) from nI_nlt (a := 9) (by omega) (by omega))]
              by_cases d : vvN lt (s + 1 + ndN lt (s + 1) + 1) ≤ 9
              · rw [if_pos (show nI (vvN lt (s + 1 + ndN lt (s + 1) + 1)) ≤ (9 : Int32) from nI_le (b := 9) d (by omega)), show (30 : Int32) + nI (vvN lt (s + 1)) = nI (30 + vvN lt (s + 1)) from nI_add 30 _, if_pos (in_nI (by omega) (by omega)), nI_clamp (by omega), if_pos ⟨⟨a1.1, c, a1.2⟩, a2.1, d, a2.2⟩]
                refine Or.inr ⟨_, _, _, rfl, rfl, a4, ⟨fun f hf => ⟨?_, ?_⟩, hRU.2⟩, (FM.g fr).sti (by unfold Dr; omega)⟩
                · show upd (U 2) (30 + vvN lt (s + 1)) (nI (vvN lt (s + 1 + ndN lt (s + 1) + 1))) (20 + f) = nI (bi D.1 f)
                  rw [upd_n _ _ (by omega)]; exact (hRU.1 f hf).1
                · show upd (U 2) (30 + vvN lt (s + 1)) (nI (vvN lt (s + 1 + ndN lt (s + 1) + 1))) (30 + f) = nI (if f = vvN lt (s + 1) then vvN lt (s + 1 + ndN lt (s + 1) + 1) else D.2.1 f)
                  by_cases q : f = vvN lt (s + 1)
                  · rw [if_pos q, q, upd_s]
                  · rw [if_neg q, upd_n _ _ (by omega)]; exact (hRU.1 f hf).2
              · rw [if_neg (show ¬ nI (vvN lt (s + 1 + ndN lt (s + 1) + 1)) ≤ (9 : Int32) from nI_ge (a := 9) (by omega) (by omega)), if_neg (fun q => d q.2.2.1)]
                exact Or.inl ⟨rfl, U, rfl, FM.g fr⟩
            · rw [if_pos (show (9 : Int32) < nI (vvN lt (s + 1)) from nI_lt (a := 9) (by omega) (by omega)), if_neg (fun q => c q.1.2.1)]
              exact Or.inl ⟨rfl, U, rfl, FM.g fr⟩
          · rw [a2, if_neg (fun q => a1 ⟨⟨q.1.1, q.1.2.2⟩, q.2.1, q.2.2.2⟩)]
            exact Or.inl ⟨rfl, U, rfl, FM.g fr⟩
        · rw [if_neg (show ¬ nI (lt s) = (102 : Int32) from nc_n (d := 102) hl (by omega) c4), if_neg c4]
          by_cases c5 : lt s = 119
          · rw [if_pos (show nI (lt s) = (119 : Int32) from nc_p c5), if_pos c5]
            refine OM.from ?_ hF
            obtain ⟨U, fr, h⟩ := fig1_M (N := N) (by omega) hT hX' (show s + 1 ≤ 300 by omega) rfl
            have hRU := hR'.g fr
            unfold pW
            rcases h with ⟨a1, a2, a3, a4, a5⟩ | ⟨a1, a2⟩
            · rw [a3]
              simp only [Option.bind_some]
              rw [if_neg i10, a5, in_lit _ 1 9 (by omega) (by omega)]
              by_cases c : 1 ≤ vvN lt (s + 1) ∧ vvN lt (s + 1) ≤ 9
              · rw [if_pos (rng_t c.1 c.2 (by omega)), if_pos ⟨a1, c, a2⟩]
                simp only [Option.bind_some]
                rw [if_neg i10]
                exact Or.inr ⟨_, _, _, rfl, rfl, a4, ⟨hRU.1, hRU.2.1, hRU.2.2.1, upd_s (U 6) 1 (nI (vvN lt (s + 1))), hRU.2.2.2.2⟩, (FM.g fr).sti (by unfold Dr; omega)⟩
              · rw [if_neg (fun q => c q.2.1), if_neg (fun q => c ⟨(nI_leI (by omega) (by omega)).mp q.1, (nI_leI (by omega) (by omega)).mp q.2⟩)]
                exact Or.inl ⟨rfl, U, rfl, FM.g fr⟩
            · rw [a2, if_neg (fun q => a1 ⟨q.1, q.2.2⟩)]
              exact Or.inl ⟨rfl, U, rfl, FM.g fr⟩
          · rw [if_neg (show ¬ nI (lt s) = (119 : Int32) from nc_n (d := 119) hl (by omega) c5), if_neg c5]
            by_cases c6 : lt s = 120
            · rw [if_pos (show nI (lt s) = (120 : Int32) from nc_p c6), if_pos c6]
              refine OM.from ?_ hF
              obtain ⟨U, fr, h⟩ := fig1_M (N := N) (by omega) hT hX' (show s + 1 ≤ 300 by omega) rfl
              have hRU := hR'.g fr
              unfold pX
              rcases h with ⟨a1, a2, a3, a4, a5⟩ | ⟨a1, a2⟩
              · rw [a3]
                simp only [Option.bind_some]
                rw [if_neg i10, a5]
                by_cases c : vvN lt (s + 1) ≤ 9
                · rw [if_pos (show nI (vvN lt (s + 1)) ≤ (9 : Int32) from nI_le (b := 9) c (by omega)), show (20 : Int32) + nI (vvN lt (s + 1)) = nI (20 + vvN lt (s + 1)) from nI_add 20 _, if_pos (in_nI (by omega) (by omega)), nI_clamp (by omega), if_pos ⟨a1, c, a2⟩]
                  refine Or.inr ⟨_, _, _, rfl, rfl, a4, ⟨fun f hf => ⟨?_, ?_⟩, hRU.2⟩, (FM.g fr).sti (by unfold Dr; omega)⟩
                  · show upd (U 2) (20 + vvN lt (s + 1)) 1 (20 + f) = nI (bi (D.1 ||| 2 ^ vvN lt (s + 1)) f)
                    rw [bi_or]
                    by_cases q : f = vvN lt (s + 1)
                    · rw [if_pos q, q, upd_s]; rfl
                    · rw [if_neg q, upd_n _ _ (by omega)]; exact (hRU.1 f hf).1
                  · show upd (U 2) (20 + vvN lt (s + 1)) 1 (30 + f) = nI (D.2.1 f)
                    rw [upd_n _ _ (by omega)]; exact (hRU.1 f hf).2
                · rw [if_neg (show ¬ nI (vvN lt (s + 1)) ≤ (9 : Int32) from nI_ge (a := 9) (by omega) (by omega)), if_neg (fun q => c q.2.1)]
                  exact Or.inl ⟨rfl, U, rfl, FM.g fr⟩
              · rw [a2, if_neg (fun q => a1 ⟨q.1, q.2.2⟩)]
                exact Or.inl ⟨rfl, U, rfl, FM.g fr⟩
            · rw [if_neg (show ¬ nI (lt s) = (120 : Int32) from nc_n (d := 120) hl (by omega) c6), if_neg c6]
              exact Or.inl ⟨rfl, _, rfl, hF⟩
theorem nothing_M {N b : Nat} {M : St} (hN : 100 ≤ N) (hb : b < 2) : ∃ U, fX11_nothing N M (nI b) = some (sti (sti (sti (sti U 4 b 0) 5 b 6) 6 b 7) 8 b 0) ∧ (∀ f, f < 10 → U 2 (20 * b + f) = 0 ∧ U 2 (20 * b + 10 + f) = nI f) ∧ ∀ i, i ≠ 2 → U i = M i := by
  unfold fX11_nothing fX11_nothing_l2
  have key := lpN_h (body := fun g q => fX11_nothing_b2 N (nI b) g q.1 q.2) (enc := fun i : Nat × Nat × St => (nI i.2.1, i.2.2)) (I := fun i => i.2.1 + i.1 = 10 ∧ (∀ f, f < i.2.1 → i.2.2 2 (20 * b + f) = 0 ∧ i.2.2 2 (20 * b + 10 + f) = nI f) ∧ ∀ a, a ≠ 2 → i.2.2 a = M a) (μ := fun i => i.1) (P := fun _ o => ∃ U, o = some (sti (sti (sti (sti U 4 b 0) 5 b 6) 6 b 7) 8 b 0) ∧ (∀ f, f < 10 → U 2 (20 * b + f) = 0 ∧ U 2 (20 * b + 10 + f) = nI f) ∧ ∀ i, i ≠ 2 → U i = M i) ?_ N (10, 0, M) ⟨rfl, fun f hf => absurd hf (Nat.not_lt_zero f), fun _ _ => rfl⟩ (by show 10 < N; omega)
  · exact key
  rintro g ⟨m, j, U⟩ ⟨hm, h1, h2⟩ ih
  dsimp only at hm h1 h2 ih ⊢
  unfold fX11_nothing_b2
  cases m with
  | zero =>
    rw [if_pos (show (10 : Int32) ≤ nI j from nI_le (a := 10) (by omega) (by omega))]
    unfold fX11_nothing_j41
    have hq : ¬ (nI b < 0 ∨ 2 ≤ (nI b).toNatClampNeg) := in_nI hb (by omega)
    rw [if_pos hq, if_pos hq, if_pos hq, if_pos hq, nI_clamp (by omega)]
    exact ⟨U, rfl, fun f hf => h1 f (by omega), h2⟩
  | succ m =>
    have e1 : (20 : Int32) * nI b + nI j = nI (20 * b + j) := by
      show nI 20 * nI b + nI j = _
      rw [pk_mul, nI_add]
    have e2 : (20 : Int32) * nI b + 10 + nI j = nI (20 * b + 10 + j) := by
      show nI 20 * nI b + nI 10 + nI j = _
      rw [pk_mul, nI_add, nI_add]
    rw [if_neg (show ¬ (10 : Int32) ≤ nI j from nI_ge (b := 10) (by omega) (by omega)), e1, e2, if_pos (in_nI (by omega) (by omega)), if_pos (in_nI (by omega) (by omega)), nI_clamp (by omega), nI_clamp (by omega), show nI j + (1 : Int32) = nI (j + 1) from nI_1 j]
    refine ih (m, j + 1, sti (sti U 2 (20 * b + j) 0) 2 (20 * b + 10 + j) (nI j)) ⟨by show j + 1 + m = 10; omega, fun f hf => ⟨?_, ?_⟩, fun a ha => ?_⟩ (by show m < m + 1; omega)
    · have hf' : f < j + 1 := hf
      show upd (upd (U 2) (20 * b + j) 0) (20 * b + 10 + j) (nI j) (20 * b + f) = 0
      rw [upd_n _ _ (by omega)]
      by_cases q : f = j
      · rw [q, upd_s]
      · rw [upd_n _ _ (by omega)]; exact (h1 f (by omega)).1
    · have hf' : f < j + 1 := hf
      show upd (upd (U 2) (20 * b + j) 0) (20 * b + 10 + j) (nI j) (20 * b + 10 + f) = nI f
      by_cases q : f = j
      · rw [q, upd_s]
      · rw [upd_n _ _ (by omega), upd_n _ _ (by omega)]; exact (h1 f (by omega)).2
    · show (if a = 2 then _ else if a = 2 then _ else U a) = M a
      rw [if_neg ha, if_neg ha]; exact h2 a ha
theorem readAll_M {N n : Nat} {lt : Nat → Nat} {M : St} (hN : 1000 ≤ N) (hT : TL n lt) (hX : TX n lt M) : ∃ U, fX11_readAll N M = some (fvN (pA lt n 201 0 D0).1, U) ∧ FM M U ∧ ((pA lt n 201 0 D0).1 = none → RM U (pA lt n 201 0 D0).2) := by
  have hn := hT.1
  unfold fX11_readAll
  obtain ⟨V, v1, v2, v3⟩ := nothing_M (N := N) (b := 1) (M := M) (by omega) (by omega)
  rw [show fX11_nothing N M (1 : Int32) = _ from v1]
  simp only [Option.bind_some]
  have hF0 : FM M (stf (sti (sti (sti (sti V 4 1 0) 5 1 6) 6 1 7) 8 1 0) 17 0) := by
    refine FM.s17 (FM.sti (FM.sti (FM.sti (FM.sti ?_ ?_) ?_) ?_) ?_)
    · intro i x hn
      unfold Dr at hn
      rw [v3 i (by omega)]
    all_goals (unfold Dr; omega)
  have hR0 : RM (stf (sti (sti (sti (sti V 4 1 0) 5 1 6) 6 1 7) 8 1 0) 17 0) D0 := by
    refine ⟨fun f hf => ⟨?_, ?_⟩, ⟨upd_s (V 4) 1 0, fun j hj => absurd hj (Nat.not_lt_zero j)⟩, upd_s (V 5) 1 6, upd_s (V 6) 1 7, upd_s (V 8) 1 0, fun j hj => absurd hj (Nat.not_lt_zero j)⟩
    · show V 2 (20 + f) = nI (bi 0 f)
      rw [bi_0]; exact (v2 f hf).1
    · show V 2 (30 + f) = nI f
      exact (v2 f hf).2
  unfold fX11_readAll_l10
  have key := lpN_h (body := fun g q => fX11_readAll_b10 N g q) (enc := fun i : Nat × Nat × DT × St => i.2.2.2) (I := fun i => i.2.1 ≤ n ∧ n < i.2.1 + i.1 ∧ i.2.2.2 17 0 = nI i.2.1 ∧ RM i.2.2.2 i.2.2.1 ∧ VD i.2.2.1 ∧ FM M i.2.2.2) (μ := fun i => n - i.2.1) (P := fun i o => ∃ U, o = some (fvN (pA lt n i.1 i.2.1 i.2.2.1).1, U) ∧ FM M U ∧ ((pA lt n i.1 i.2.1 i.2.2.1).1 = none → RM U (pA lt n i.1 i.2.1 i.2.2.1).2)) ?_ N (201, 0, D0, stf (sti (sti (sti (sti V 4 1 0) 5 1 6) 6 1 7) 8 1 0) 17 0) ⟨Nat.zero_le _, by show n < 0 + 201; omega, rfl, hR0, VD.d0, hF0⟩ (by show n - 0 < N; omega)
  · exact key
  rintro g ⟨m, s, D, U⟩ ⟨h1, h2, h3, h4, h5, h6⟩ ih
  dsimp only at h1 h2 h3 h4 h5 h6 ih ⊢
  have hXU := h6.tx hX
  unfold fX11_readAll_b10
  rw [hXU.1, h3]
  cases m with
  | zero => omega
  | succ m =>
    rw [pA]
    by_cases c : n ≤ s
    · rw [if_pos c, if_pos (nI_le c (by omega))]
      exact ⟨U, rfl, h6, fun _ => h4⟩
    · rw [if_neg c, if_neg (nI_ge (by omega) (by omega))]
      rcases item_M (N := N) (by omega) hT hXU (by omega) h3 h4 h5 with ⟨q, V, o, e1⟩ | ⟨s1, D', V, q, o, e1, e2, e3⟩
      · rw [q, o]
        simp only [Option.bind_some]
        rw [if_pos trivial]
        exact ⟨V, rfl, h6.trans e1, fun h => by cases h⟩
      · obtain ⟨o1, o2, o3⟩ := pI_ok h5 q
        have hin := hT.in o2
        rw [q, o]
        simp only [Option.bind_some]
        rw [if_neg i10]
        exact ih (m, s1 + 1, D', V) ⟨by show s1 + 1 ≤ n; omega, by show n < s1 + 1 + m; omega, e1, e2, o3, h6.trans e3⟩ (by show n - (s1 + 1) < n - s; omega)
