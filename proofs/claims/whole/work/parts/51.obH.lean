/-! ===== costs, dearest, bargain ===== -/
def setb (k f : Nat) : Nat := if bi k f = 1 then k else k ^^^ 2 ^ f
theorem setb_lt {k f : Nat} (hk : k < 1024) (hf : f < 10) : setb k f < 1024 := by
  unfold setb; split
  · exact hk
  · exact xor_lt hk hf
theorem bi_setb {k f g : Nat} : bi (setb k f) g = if g = f then 1 else bi k g := by
  unfold setb
  have := bi_le k f
  by_cases h : bi k f = 1
  · rw [if_pos h]
    by_cases h2 : g = f
    · rw [if_pos h2, h2, h]
    · rw [if_neg h2]
  · rw [if_neg h, bi_xor, show bi k f = 0 by omega]
theorem setb_X : ∀ k, k < 1024 → ∀ f, f < 10 → nI k ||| ((1 : Int32) <<< (nI f &&& 31)) = nI (setb k f) := by decide +kernel
theorem NW.clr {k f : Nat} {M : St} (h : NW k M) (hf : f < 10) : NW (clr k f) (sti M 9 f 0) := by
  intro x hx
  show upd (M 9) f 0 x = _
  rw [bi_clr]
  by_cases h2 : x = f
  · rw [if_pos h2, h2, upd_s]; rfl
  · rw [if_neg h2, upd_n _ _ h2]; exact h x hx
theorem NW.setb {k f : Nat} {M : St} (h : NW k M) (hf : f < 10) : NW (setb k f) (sti M 9 f 1) := by
  intro x hx
  show upd (M 9) f 1 x = _
  rw [bi_setb]
  by_cases h2 : x = f
  · rw [if_pos h2, h2, upd_s]; rfl
  · rw [if_neg h2, upd_n _ _ h2]; exact h x hx
theorem NW.bi {k k' : Nat} {M : St} (h : NW k M) (he : ∀ x, x < 10 → bi k' x = bi k x) : NW k' M := fun x hx => by rw [he x hx]; exact h x hx
theorem costOf_X {N k f n : Nat} {S : St} (hN : 200000 ≤ N) (hk : k < 1024) (e2 : S 2 0 = nI k) (hf : f < 10) (hn : n ≤ 9999) : fX10_costOf N S (nI f) (nI n) = some (nI (cnt (clr k f) n) - nI (cnt k n)) := by
  unfold fX10_costOf nm
  dsimp only
  rw [e2, clr_X k hk f hf, sayable_X (by omega) (clr_lt hk hf) (by omega), sayable_X (by omega) hk (by omega)]
  rfl
theorem sayableBy_M {N k f n : Nat} {M : St} (hN : 200000 ≤ N) (hk : k < 1024) (hw : NW k M) (hf : f < 10) (hn : n ≤ 9999) : fX11_sayableBy N M (nI f) 0 (nI n) = some (nI (cnt (clr k f) n), M) := by
  unfold fX11_sayableBy
  have hq : ¬ (nI f < 0 ∨ 20 ≤ f) := by
    have := in_nI (n := f) (N := 20) (by omega) (by omega)
    rwa [nI_clamp (by omega)] at this
  simp only [nI_clamp (show f < 2 ^ 31 by omega)]
  rw [if_pos hq, if_pos hq, sayable_M (by omega) (clr_lt hk hf) (hw.clr hf) (by omega)]
  simp only [Option.bind_some]
  rw [if_pos hq, sti_back]
theorem costs_M {N k f n : Nat} {M : St} (hN : 200000 ≤ N) (hk : k < 1024) (hw : NW k M) (hf : f < 10) (hn : n ≤ 9999) : fX11_costs N M (nI f) (nI n) = some (nI (cnt (clr k f) n) - nI (cnt k n), M) := by
  unfold fX11_costs
  rw [isFig_M, if_pos (rng_t (Nat.zero_le f) (by omega) (by omega))]
  simp only [Option.bind_some]
  rw [if_neg i10, in_lit (nI n) 0 9999 (by omega) (by omega), if_pos (rng_t (Nat.zero_le n) (by omega) (by omega))]
  simp only [Option.bind_some]
  rw [if_neg i10, sayableBy_M hN hk hw hf hn]
  simp only [Option.bind_some]
  rw [sayable_M (by omega) hk hw (by omega)]
  rfl
theorem ob_costs {N : Nat} (hN : 200000 ≤ N) : OB_costs N Rel := by
  intro S M p1 p2 hR
  obtain ⟨k, hk, e2, hF, hw⟩ := hR.fig
  rcases rng p1 (a := 0) (b := 9) (by omega) (by omega) with ⟨f, -, hf, rfl⟩ | h
  · have hb1 := rng_t (Nat.zero_le f) hf (by omega)
    rcases rng p2 (a := 0) (b := 9999) (by omega) (by omega) with ⟨n, -, hn, rfl⟩ | h
    · refine ⟨_, M, ?_, costs_M hN hk hw (by omega) hn, hR⟩
      unfold fX10_costs
      rw [isFig_X, if_pos hb1]
      simp only [Option.bind_some]
      rw [if_neg i10, within_eq, if_pos (show (0 : Int32) ≤ nI n ∧ nI n ≤ (9999 : Int32) from rng_t (a := 0) (b := 9999) (Nat.zero_le n) hn (by omega))]
      simp only [Option.bind_some]
      rw [if_neg i10, costOf_X hN hk e2 (by omega) hn]
      rfl
    · refine ⟨-1, M, ?_, ?_, hR⟩
      · unfold fX10_costs
        rw [isFig_X, if_pos hb1]
        simp only [Option.bind_some]
        rw [if_neg i10, within_eq, if_neg (show ¬ ((0 : Int32) ≤ p2 ∧ p2 ≤ (9999 : Int32)) from h)]; rfl
      · unfold fX11_costs
        rw [isFig_M, if_pos hb1]
        simp only [Option.bind_some]
        rw [if_neg i10, in_lit p2 0 9999 (by omega) (by omega), if_neg h]; rfl
  · refine ⟨-1, M, ?_, ?_, hR⟩
    · unfold fX10_costs
      rw [isFig_X, if_neg h]; rfl
    · unfold fX11_costs
      rw [isFig_M, if_neg h]; rfl
def dvN (c : Nat → Int32) : Nat → Nat → Int32 → Int32 → Int32 × Int32
  | 0, _, x, y => (x, y)
  | m + 1, f, x, y => if c f ≤ y then dvN c m (f + 1) x y else dvN c m (f + 1) (nI f) (c f)
theorem ob_dearest {N : Nat} (hN : 200000 ≤ N) : OB_dearest N Rel := by
  intro S M p1 p2 hR
  obtain ⟨k, hk, e2, hF, hw⟩ := hR.fig
  rcases rng p1 (a := 0) (b := 9999) (by omega) (by omega) with ⟨n, -, hn, rfl⟩ | h
  · have hb1 := rng_t (Nat.zero_le n) hn (by omega)
    rcases rng p2 (a := 0) (b := 1) (by omega) (by omega) with ⟨w, -, hw1, rfl⟩ | h
    · have hb2 := rng_t (Nat.zero_le w) hw1 (by omega)
      let c : Nat → Int32 := fun f => nI (cnt (clr k f) n) - nI (cnt k n)
      have cX : ∀ f, f < 10 → fX10_costOf N S (nI f) (nI n) = some (c f) := fun f hf => costOf_X hN hk e2 hf hn
      have cM : ∀ f, f < 10 → fX11_costs N M (nI f) (nI n) = some (c f, M) := fun f hf => costs_M hN hk hw hf hn
      generalize c = c at cX cM
      refine ⟨if w = 0 then (dvN c 9 1 0 (c 0)).1 else (dvN c 9 1 0 (c 0)).2, M, ?_, ?_, hR⟩
      · unfold fX10_dearest
        rw [within_eq, if_pos (show (0 : Int32) ≤ nI n ∧ nI n ≤ (9999 : Int32) from hb1)]
        simp only [Option.bind_some]
        rw [if_neg i10, within_eq, if_pos (show (0 : Int32) ≤ nI w ∧ nI w ≤ (1 : Int32) from hb2)]
        simp only [Option.bind_some]
        rw [if_neg i10, show (0 : Int32) = nI 0 from rfl, cX 0 (by omega)]
        simp only [Option.bind_some]
        unfold fX10_dearest_l35
        have key := lpN_ix (body := fun g q => fX10_dearest_b35 N S (nI n) (nI w) g q.1 q.2.1 q.2.2) (enc := fun i : Int32 × Int32 × Nat => (i.1, i.2.1, nI (10 - i.2.2))) (I := fun i => i.2.2 ≤ 9) (μ := fun i => i.2.2) (f := fun i => some (if w = 0 then (dvN c i.2.2 (10 - i.2.2) i.1 i.2.1).1 else (dvN c i.2.2 (10 - i.2.2) i.1 i.2.1).2)) ?_ N (nI 0, c 0, 9) (Nat.le_refl _) (by show 9 < N; omega)
        · exact key
        rintro g ⟨x, y, m⟩ hm ih
        dsimp only at hm ih ⊢
        unfold fX10_dearest_b35
        cases m with
        | zero =>
          rw [if_pos (by decide)]
          unfold fX10_dearest_j71
          rcases (show w = 0 ∨ w = 1 by omega) with rfl | rfl
          · rw [if_pos (by rfl), if_pos (by rfl)]; rfl
          · rw [if_neg (by decide), if_neg (by decide)]; rfl
        | succ m =>
          rw [if_neg (show ¬ (10 : Int32) ≤ nI (10 - (m + 1)) from nI_ge (b := 10) (by omega) (by omega)), cX _ (by omega)]
          simp only [Option.bind_some]
          have st : ∀ x y : Int32, fX10_dearest_j65 N S (nI n) (nI w) g x y (nI (10 - (m + 1))) = some (if w = 0 then (dvN c m (10 - m) x y).1 else (dvN c m (10 - m) x y).2) := by
            intro x y
            unfold fX10_dearest_j65
            rw [show nI (10 - (m + 1)) + (1 : Int32) = nI (10 - (m + 1) + 1) from nI_1 _, show 10 - (m + 1) + 1 = 10 - m by omega]
            exact ih (x, y, m) (by show m ≤ 9; omega) (by show m < m + 1; omega)
          unfold dvN
          rw [show 10 - (m + 1) + 1 = 10 - m by omega, st, st]
          by_cases h : c (10 - (m + 1)) ≤ y
          · rw [if_pos h, if_pos h]
          · rw [if_neg h, if_neg h]
      · unfold fX11_dearest
        rw [in_lit (nI n) 0 9999 (by omega) (by omega), if_pos hb1]
        simp only [Option.bind_some]
        rw [if_neg i10, in_lit (nI w) 0 1 (by omega) (by omega), if_pos hb2]
        simp only [Option.bind_some]
        rw [if_neg i10, show (0 : Int32) = nI 0 from rfl, cM 0 (by omega)]
        simp only [Option.bind_some]
        unfold fX11_dearest_l37
        have key := lpN_ix (body := fun g q => fX11_dearest_b37 N (nI n) (nI w) g q.1 q.2.1 q.2.2.1 q.2.2.2) (enc := fun i : Int32 × Int32 × Nat => (i.1, i.2.1, nI (10 - i.2.2), M)) (I := fun i => i.2.2 ≤ 9) (μ := fun i => i.2.2) (f := fun i => some (if w = 0 then (dvN c i.2.2 (10 - i.2.2) i.1 i.2.1).1 else (dvN c i.2.2 (10 - i.2.2) i.1 i.2.1).2, M)) ?_ N (nI 0, c 0, 9) (Nat.le_refl _) (by show 9 < N; omega)
        · exact key
        rintro g ⟨x, y, m⟩ hm ih
        dsimp only at hm ih ⊢
        unfold fX11_dearest_b37
        cases m with
        | zero =>
          rw [if_pos (by decide)]
          unfold fX11_dearest_j89
          rcases (show w = 0 ∨ w = 1 by omega) with rfl | rfl
          · rw [if_pos (by rfl), if_pos (by rfl)]; rfl
          · rw [if_neg (by decide), if_neg (by decide)]; rfl
        | succ m =>
          rw [if_neg (show ¬ (10 : Int32) ≤ nI (10 - (m + 1)) from nI_ge (b := 10) (by omega) (by omega)), cM _ (by omega)]
          simp only [Option.bind_some]
          have st : ∀ x y : Int32, fX11_dearest_j81 N (nI n) (nI w) g x (nI (10 - (m + 1))) y M = some (if w = 0 then (dvN c m (10 - m) x y).1 else (dvN c m (10 - m) x y).2, M) := by
            intro x y
            unfold fX11_dearest_j81
            rw [show nI (10 - (m + 1)) + (1 : Int32) = nI (10 - (m + 1) + 1) from nI_1 _, show 10 - (m + 1) + 1 = 10 - m by omega]
            exact ih (x, y, m) (by show m ≤ 9; omega) (by show m < m + 1; omega)
          unfold dvN fX11_dearest_j66
          rw [show 10 - (m + 1) + 1 = 10 - m by omega]
          by_cases h : c (10 - (m + 1)) ≤ y
          · rw [if_pos h, if_pos h, if_pos h, st]
          · rw [if_neg h, if_neg h, if_neg h, st]
    · refine ⟨-1, M, ?_, ?_, hR⟩
      · unfold fX10_dearest
        rw [within_eq, if_pos (show (0 : Int32) ≤ nI n ∧ nI n ≤ (9999 : Int32) from hb1)]
        simp only [Option.bind_some]
        rw [if_neg i10, within_eq, if_neg (show ¬ ((0 : Int32) ≤ p2 ∧ p2 ≤ (1 : Int32)) from h)]; rfl
      · unfold fX11_dearest
        rw [in_lit (nI n) 0 9999 (by omega) (by omega), if_pos hb1]
        simp only [Option.bind_some]
        rw [if_neg i10, in_lit p2 0 1 (by omega) (by omega), if_neg h]; rfl
  · refine ⟨-1, M, ?_, ?_, hR⟩
    · unfold fX10_dearest
      rw [within_eq, if_neg (show ¬ ((0 : Int32) ≤ p1 ∧ p1 ≤ (9999 : Int32)) from h)]; rfl
    · unfold fX11_dearest
      rw [in_lit p1 0 9999 (by omega) (by omega), if_neg h]; rfl
theorem sayableIf_M {N k f g n : Nat} {M : St} (hN : 200000 ≤ N) (hk : k < 1024) (hw : NW k M) (hf : f < 10) (hg : g < 10) (hn : n ≤ 9999) : fX11_sayableIf N M (nI f) (nI g) (nI n) = some (nI (cnt (clr (setb k f) g) n), M) := by
  unfold fX11_sayableIf
  have hq : ¬ (nI f < 0 ∨ 20 ≤ f) := by
    have := in_nI (n := f) (N := 20) (by omega) (by omega)
    rwa [nI_clamp (by omega)] at this
  simp only [nI_clamp (show f < 2 ^ 31 by omega)]
  rw [if_pos hq, if_pos hq, sayableBy_M hN (setb_lt hk hf) (hw.setb hf) hg hn]
  simp only [Option.bind_some]
  rw [if_pos hq, sti_back]
theorem bi_ext {a b : Nat} (h : ∀ x, bi a x = bi b x) : a = b := by
  apply Nat.eq_of_testBit_eq
  intro i
  have := h i
  rw [bi_tb, bi_tb] at this
  unfold bN at this
  cases ha : a.testBit i <;> cases hb : b.testBit i <;> simp_all
theorem ob_bargain {N : Nat} (hN : 200000 ≤ N) : OB_bargain N Rel := by
  intro S M p1 p2 p3 hR
  obtain ⟨k, hk, e2, hF, hw⟩ := hR.fig
  rcases rng p1 (a := 0) (b := 9) (by omega) (by omega) with ⟨f, -, hf, rfl⟩ | h
  · have hb1 := rng_t (Nat.zero_le f) hf (by omega)
    rcases rng p2 (a := 0) (b := 9) (by omega) (by omega) with ⟨g, -, hg, rfl⟩ | h
    · have hb2 := rng_t (Nat.zero_le g) hg (by omega)
      by_cases hfg : f = g
      · refine ⟨-1, M, ?_, ?_, hR⟩
        · unfold fX10_bargain
          rw [isFig_X, if_pos hb1]
          simp only [Option.bind_some]
          rw [if_neg i10, isFig_X, if_pos hb2]
          simp only [Option.bind_some]
          rw [if_neg i10, if_pos (by rw [hfg])]
        · unfold fX11_bargain
          rw [isFig_M, if_pos hb1]
          simp only [Option.bind_some]
          rw [if_neg i10, isFig_M, if_pos hb2]
          simp only [Option.bind_some]
          rw [if_neg i10, if_pos (by rw [hfg])]
      · have hne : ¬ nI f = nI g := fun h => hfg ((nI_eq (by omega) (by omega)).mp h)
        rcases rng p3 (a := 0) (b := 9999) (by omega) (by omega) with ⟨n, -, hn, rfl⟩ | h
        · have hb3 := rng_t (Nat.zero_le n) hn (by omega)
          have q1 : setb (clr (clr k f) g) f = clr (setb k f) g := by
            apply bi_ext
            intro x
            simp only [bi_setb, bi_clr]
            by_cases h1 : x = f <;> by_cases h2 : x = g <;> simp [h1, h2]
            all_goals omega
          have q2 : setb (clr (clr k f) g) g = clr (setb k g) f := by
            apply bi_ext
            intro x
            simp only [bi_setb, bi_clr]
            by_cases h1 : x = f <;> by_cases h2 : x = g <;> simp [h1, h2]
            all_goals omega
          refine ⟨nI (cnt (clr (setb k g) f) n) - nI (cnt (clr (setb k f) g) n) + 10000, M, ?_, ?_, hR⟩
          · unfold fX10_bargain
            rw [isFig_X, if_pos hb1]
            simp only [Option.bind_some]
            rw [if_neg i10, isFig_X, if_pos hb2]
            simp only [Option.bind_some]
            rw [if_neg i10, if_neg hne, within_eq, if_pos (show (0 : Int32) ≤ nI n ∧ nI n ≤ (9999 : Int32) from hb3)]
            simp only [Option.bind_some]
            have hc := clr_lt (clr_lt hk (show f < 10 by omega)) (show g < 10 by omega)
            rw [if_neg i10, e2, clr_X k hk f (by omega), clr_X _ (clr_lt hk (by omega)) g (by omega)]
            unfold nm
            dsimp only
            rw [setb_X _ hc f (by omega), setb_X _ hc g (by omega), sayable_X (by omega) (setb_lt hc (by omega)) (by omega), sayable_X (by omega) (setb_lt hc (by omega)) (by omega), q1, q2]
            rfl
          · unfold fX11_bargain
            rw [isFig_M, if_pos hb1]
            simp only [Option.bind_some]
            rw [if_neg i10, isFig_M, if_pos hb2]
            simp only [Option.bind_some]
            rw [if_neg i10, if_neg hne, in_lit (nI n) 0 9999 (by omega) (by omega), if_pos hb3]
            simp only [Option.bind_some]
            rw [if_neg i10, sayableIf_M hN hk hw (by omega) (by omega) hn]
            simp only [Option.bind_some]
            rw [sayableIf_M hN hk hw (by omega) (by omega) hn]
            rfl
        · refine ⟨-1, M, ?_, ?_, hR⟩
          · unfold fX10_bargain
            rw [isFig_X, if_pos hb1]
            simp only [Option.bind_some]
            rw [if_neg i10, isFig_X, if_pos hb2]
            simp only [Option.bind_some]
            rw [if_neg i10, if_neg hne, within_eq, if_neg (show ¬ ((0 : Int32) ≤ p3 ∧ p3 ≤ (9999 : Int32)) from h)]; rfl
          · unfold fX11_bargain
            rw [isFig_M, if_pos hb1]
            simp only [Option.bind_some]
            rw [if_neg i10, isFig_M, if_pos hb2]
            simp only [Option.bind_some]
            rw [if_neg i10, if_neg hne, in_lit p3 0 9999 (by omega) (by omega), if_neg h]; rfl
    · refine ⟨-1, M, ?_, ?_, hR⟩
      · unfold fX10_bargain
        rw [isFig_X, if_pos hb1]
        simp only [Option.bind_some]
        rw [if_neg i10, isFig_X, if_neg h]; rfl
      · unfold fX11_bargain
        rw [isFig_M, if_pos hb1]
        simp only [Option.bind_some]
        rw [if_neg i10, isFig_M, if_neg h]; rfl
  · refine ⟨-1, M, ?_, ?_, hR⟩
    · unfold fX10_bargain
      rw [isFig_X, if_neg h]; rfl
    · unfold fX11_bargain
      rw [isFig_M, if_neg h]; rfl
