/-! ===== strikers, counts, dark, keep and back ===== -/
def pc (k : Nat) : Nat := bi k 0 + bi k 1 + bi k 2 + bi k 3 + bi k 4 + bi k 5 + bi k 6 + bi k 7 + bi k 8 + bi k 9
def ps (k : Nat) : Nat → Nat
  | 0 => 0
  | n + 1 => ps k n + bi k n
theorem ps_10 (k : Nat) : ps k 10 = pc k := by simp only [ps, pc]; omega
theorem ps_le (k : Nat) : ∀ n, ps k n ≤ n
  | 0 => Nat.le_refl _
  | n + 1 => by have := ps_le k n; have := bi_le k n; simp only [ps]; omega
theorem strikers_X {N k : Nat} {F : St} (hk : k < 1024) (e : F 0 0 = nI k) : fX0_strikers N F = some (nI (pc k)) := by
  unfold fX0_strikers
  rw [e, pop_N, pop_ok k hk]
  rfl
theorem strikers_M {N k : Nat} {M : St} (hN : 100 ≤ N) (hw : NW k M) : fX11_strikers N M = some (nI (pc k)) := by
  unfold fX11_strikers fX11_strikers_l4
  rw [← ps_10]
  refine lpN_ix (enc := fun i : Nat => (nI (ps k i), nI i)) (I := fun i => i ≤ 10) (μ := fun i => 10 - i) (f := fun _ => some (nI (ps k 10))) ?_ N 0 (by omega) (by omega)
  intro g i hi ih
  dsimp only at ih ⊢
  unfold fX11_strikers_b4
  by_cases h : 10 ≤ i
  · rw [if_pos (show (10 : Int32) ≤ nI i from nI_le (a := 10) h (by omega)), show i = 10 by omega]
  · rw [if_neg (show ¬ (10 : Int32) ≤ nI i from nI_ge (b := 10) (by omega) (by omega)), if_pos (in_nI (by omega) (by omega)), nI_clamp (by omega), hw i (by omega), nI_add, show nI i + (1 : Int32) = nI (i + 1) from nI_1 i]
    exact ih (i + 1) (by omega) (by omega)
theorem ob_count {N : Nat} (hN : 100 ≤ N) : OB_count N Rel := by
  intro S M p1 hR
  obtain ⟨k, hk, e2, hF, hw⟩ := hR.fig
  obtain ⟨n0, -, t1, t2, -⟩ := hR.1
  obtain ⟨k', u, -, -, -, u1, u2, -⟩ := hR.2.1
  obtain ⟨t, -, k1, k2, -⟩ := hR.2.2.1
  obtain ⟨d, -, d1, d2, -⟩ := hR.2.2.2.1
  obtain ⟨⟨c, -, c1, c2, -⟩, ⟨sd, -, -, s1, s2⟩, ⟨wd, -, -, w1, w2⟩, -⟩ := hR.2.2.2.2.2
  unfold fX10_count fX11_count
  rw [strikers_X hk (show sh S 2 0 0 = nI k from e2), strikers_M hN hw, t1, t2, u1, u2, k1, k2, d1, d2, c1, c2, s1, s2, w1, w2]
  by_cases h0 : p1 = 0
  · rw [if_pos h0]; exact ⟨nI (pc k), rfl, rfl, hR⟩
  rw [if_neg h0]
  by_cases h1 : p1 = 1
  · rw [if_pos h1]; exact ⟨_, rfl, rfl, hR⟩
  rw [if_neg h1]
  by_cases h2 : p1 = 2
  · rw [if_pos h2]; exact ⟨_, rfl, rfl, hR⟩
  rw [if_neg h2]
  by_cases h3 : p1 = 3
  · rw [if_pos h3]; exact ⟨_, rfl, rfl, hR⟩
  rw [if_neg h3]
  by_cases h4 : p1 = 4
  · rw [if_pos h4]; exact ⟨_, rfl, rfl, hR⟩
  rw [if_neg h4]
  by_cases h5 : p1 = 5
  · rw [if_pos h5]; exact ⟨_, rfl, rfl, hR⟩
  rw [if_neg h5]
  by_cases h6 : p1 = 6
  · rw [if_pos h6]; exact ⟨_, rfl, rfl, hR⟩
  rw [if_neg h6]
  by_cases h7 : p1 = 7
  · rw [if_pos h7]; exact ⟨_, rfl, rfl, hR⟩
  rw [if_neg h7]
  exact ⟨_, rfl, rfl, hR⟩
theorem ln_div (m : Nat) (hm : m ≤ 99999) : lnN m = if m < 10 then 1 else lnN (m / 10) + 1 := by
  unfold lnN
  by_cases a1 : m < 10
  · rw [if_pos a1, if_pos (show m < 100 by omega), if_pos a1]
  rw [if_neg a1]
  by_cases a2 : m < 100
  · rw [if_pos a2, if_neg a1, if_pos (show m / 10 < 100 by omega), if_pos (show m / 10 < 10 by omega)]
  rw [if_neg a2]
  by_cases a3 : m < 1000
  · rw [if_pos (show m < 10000 by omega), if_pos a3, if_pos (show m / 10 < 100 by omega), if_neg (show ¬ m / 10 < 10 by omega), if_neg a1]
  by_cases a4 : m < 10000
  · rw [if_pos a4, if_neg a3, if_neg (show ¬ m / 10 < 100 by omega), if_pos (show m / 10 < 10000 by omega), if_pos (show m / 10 < 1000 by omega), if_neg a1]
  rw [if_neg a4, if_neg (show ¬ m / 10 < 100 by omega), if_pos (show m / 10 < 10000 by omega), if_neg (show ¬ m / 10 < 1000 by omega), if_neg a1]
theorem letters_M {N n : Nat} (hN : 100000 ≤ N) (hn : n ≤ 99999) : fX11_lettersOf N (nI n) = some (nI (lnN n)) := by
  have key : ∀ (left c : Nat), left ≤ 9999 → c ≤ 10 → fX11_lettersOf_l7 N (nI n) N (nI c, nI left) = some (nI (if left = 0 then c else c + lnN left)) := by
    intro left c hl hc
    unfold fX11_lettersOf_l7
    refine lpN_ix (enc := fun i : Nat × Nat => (nI i.1, nI i.2)) (I := fun i => i.2 ≤ 9999 ∧ i.1 ≤ 10 + (9999 - i.2)) (μ := fun i => i.2) (f := fun i => some (nI (if i.2 = 0 then i.1 else i.1 + lnN i.2))) ?_ N (c, left) ⟨hl, by show c ≤ 10 + (9999 - left); omega⟩ (by show left < N; omega)
    rintro g ⟨c, a⟩ ⟨h1, h2⟩ ih
    dsimp only at h1 h2 ih ⊢
    unfold fX11_lettersOf_b7
    rcases Nat.eq_zero_or_pos a with rfl | hp
    · rw [if_pos (by decide)]; rfl
    · rw [if_neg (nI_nle hp (by omega)), show (10 : Int32) = nI 10 from rfl, pk_div (by omega) (by omega) (by omega), show nI c + (1 : Int32) = nI (c + 1) from nI_1 c]
      have := ih (c + 1, a / 10) ⟨by show a / 10 ≤ 9999; omega, by show c + 1 ≤ 10 + (9999 - a / 10); omega⟩ (by show a / 10 < a; omega)
      dsimp only at this
      rw [this, if_neg (show ¬ a = 0 by omega)]
      congr 2
      have hln : ∀ m, m ≤ 99999 → lnN m = if m < 10 then 1 else lnN (m / 10) + 1 := ln_div
      rw [hln a (by omega)]
      by_cases h9 : a < 10
      · rw [if_pos (show a / 10 = 0 by omega), if_pos h9]
      · rw [if_neg (show ¬ a / 10 = 0 by omega), if_neg h9]; omega
  unfold fX11_lettersOf
  rw [show (10 : Int32) = nI 10 from rfl, show (1 : Int32) = nI 1 from rfl, pk_div (by omega) (by omega) (by omega), key (n / 10) 1 (by omega) (by omega), ln_div n hn]
  by_cases h9 : n < 10
  · rw [if_pos (show n / 10 = 0 by omega), if_pos h9]
  · rw [if_neg (show ¬ n / 10 = 0 by omega), if_neg h9, Nat.add_comm]
theorem ob_dark {N : Nat} (hN : 100000 ≤ N) : OB_dark N Rel := by
  intro S M p1 p2 hR
  obtain ⟨d, hd, e1, e2, hj⟩ := hR.2.2.2.1
  have bad : ∀ (hX : fX10_dark N S p1 p2 = some (-1, S)) (hM : fX11_dark N M p1 p2 = some (-1, M)), ∃ v : Int32, ∃ S1 : St, ∃ M1 : St, fX10_dark N S p1 p2 = some (v, S1) ∧ fX11_dark N M p1 p2 = some (v, M1) ∧ Rel S1 M1 := fun hX hM => ⟨-1, S, M, hX, hM, hR⟩
  rcases rng p1 (a := 0) (b := 9999) (by omega) (by omega) with ⟨a, -, ha, rfl⟩ | h
  · rcases rng p2 (a := 0) (b := 9999) (by omega) (by omega) with ⟨b, -, hb, rfl⟩ | h
    · have ra := rng_t (Nat.zero_le a) ha (by omega)
      have rb := rng_t (Nat.zero_le b) hb (by omega)
      have hl1 := ln_pow (n := a) (by omega)
      have hl2 := ln_pow (n := b) (by omega)
      have hX0 : fX10_dark N S (nI a) (nI b) = if nI (lnN a) = nI (lnN b) then (Option.bind (fX2_tell N (sh S 12) (nI a) (nI b)) (fun q8 => if q8.1 = 0 then (some ((-3 : Int32), (pt S 12 3 q8.2))) else (some (((pt S 12 3 q8.2) 12 0), (pt S 12 3 q8.2))))) else (some ((-1 : Int32), S)) := by
        unfold fX10_dark
        rw [show (0 : Int32) = nI 0 from rfl, show (9999 : Int32) = nI 9999 from rfl, within_eq, within_eq, if_pos ra, if_pos rb, len_X (by omega), len_X (by omega)]
        simp only [Option.bind_some]
        rw [if_neg (show ¬ (1 : Int32) = nI 0 from i10), if_neg (show ¬ (1 : Int32) = nI 0 from i10)]
      have hM0 : fX11_dark N M (nI a) (nI b) = if nI (lnN a) = nI (lnN b) then (if (M 14 0) = (8 : Int32) then (some ((-3 : Int32), M)) else (if ¬ ((M 14 0) < 0 ∨ 8 ≤ ((M 14 0)).toNatClampNeg) then (if ¬ (((sti M 15 (((M 14 0)).toNatClampNeg) (nI a)) 14 0) < 0 ∨ 8 ≤ (((sti M 15 (((M 14 0)).toNatClampNeg) (nI a)) 14 0)).toNatClampNeg) then (some (((stf (sti (sti M 15 (((M 14 0)).toNatClampNeg) (nI a)) 16 ((((sti M 15 (((M 14 0)).toNatClampNeg) (nI a)) 14 0)).toNatClampNeg) (nI b)) 14 ((((sti (sti M 15 (((M 14 0)).toNatClampNeg) (nI a)) 16 ((((sti M 15 (((M 14 0)).toNatClampNeg) (nI a)) 14 0)).toNatClampNeg) (nI b)) 14 0) + (1 : Int32)))) 14 0), (stf (sti (sti M 15 (((M 14 0)).toNatClampNeg) (nI a)) 16 ((((sti M 15 (((M 14 0)).toNatClampNeg) (nI a)) 14 0)).toNatClampNeg) (nI b)) 14 ((((sti (sti M 15 (((M 14 0)).toNatClampNeg) (nI a)) 16 ((((sti M 15 (((M 14 0)).toNatClampNeg) (nI a)) 14 0)).toNatClampNeg) (nI b)) 14 0) + (1 : Int32)))))) else none) else none)) else (some ((-1 : Int32), M)) := by
        unfold fX11_dark
        rw [in_lit (nI a) 0 9999 (by omega) (by omega), in_lit (nI b) 0 9999 (by omega) (by omega), if_pos ra, if_pos rb, letters_M (by omega) (by omega), letters_M (by omega) (by omega)]
        simp only [Option.bind_some]
        rw [if_neg i10, if_neg i10]
      by_cases hl : lnN a = lnN b
      · rw [if_pos (by rw [hl])] at hX0 hM0
        have e1' : sh S 12 0 0 = nI d := e1
        by_cases hf : d = 8
        · refine ⟨-3, pt S 12 3 (sh S 12), M, ?_, ?_, ?_⟩
          · rw [hX0]
            unfold fX2_tell
            rw [e1', if_neg (show ¬ nI d < (8 : Int32) from nI_nlt (b := 8) (by omega) (by omega))]
            rfl
          · rw [hM0, e2, if_pos (by rw [hf]; rfl)]
          · exact ⟨hR.1.congr rfl rfl rfl rfl, hR.2.1.congr rfl rfl rfl rfl rfl rfl rfl rfl, hR.2.2.1.congr rfl rfl rfl rfl rfl rfl rfl, hR.2.2.2.1.congr rfl rfl rfl rfl rfl rfl, hR.2.2.2.2.1.congr rfl rfl, hR.2.2.2.2.2.congr rfl rfl rfl rfl rfl rfl rfl rfl rfl rfl rfl rfl⟩
        · refine ⟨nI (d + 1), pt S 12 3 (stf (sti (sti (sh S 12) 1 d (nI a)) 2 d (nI b)) 0 (nI (d + 1))), stf (sti (sti M 15 d (nI a)) 16 d (nI b)) 14 (nI (d + 1)), ?_, ?_, ?_⟩
          · rw [hX0]
            unfold fX2_tell
            have f1 : (sti (sh S 12) 1 d (nI a)) 0 0 = nI d := e1
            have f2 : (sti (sti (sh S 12) 1 d (nI a)) 2 d (nI b)) 0 0 = nI d := e1
            rw [e1', if_pos (show nI d < (8 : Int32) from nI_lt (b := 8) (by omega) (by omega)), if_pos (in_nI (by omega) (by omega)), nI_clamp (by omega), f1, if_pos (in_nI (by omega) (by omega)), nI_clamp (by omega), f2, show nI d + (1 : Int32) = nI (d + 1) from nI_1 d]
            rfl
          · have f1 : (sti M 15 d (nI a)) 14 0 = nI d := e2
            have f2 : (sti (sti M 15 d (nI a)) 16 d (nI b)) 14 0 = nI d := e2
            rw [hM0, e2, if_neg (show ¬ nI d = (8 : Int32) from fun h => hf ((nI_eq (b := 8) (by omega) (by omega)).mp h)), if_pos (in_nI (by omega) (by omega)), nI_clamp (by omega), f1, if_pos (in_nI (by omega) (by omega)), nI_clamp (by omega), f2, show nI d + (1 : Int32) = nI (d + 1) from nI_1 d]
            rfl
          · refine ⟨hR.1.congr rfl rfl rfl rfl, hR.2.1.congr rfl rfl rfl rfl rfl rfl rfl rfl, hR.2.2.1.congr rfl rfl rfl rfl rfl rfl rfl, ⟨d + 1, by omega, rfl, rfl, fun j hjn => ?_⟩, hR.2.2.2.2.1.congr rfl rfl, hR.2.2.2.2.2.congr rfl rfl rfl rfl rfl rfl rfl rfl rfl rfl rfl rfl⟩
            by_cases hjn' : j = d
            · subst hjn'
              exact ⟨a, b, ha, hb, hl, upd_s _ _ _, upd_s _ _ _, upd_s _ _ _, upd_s _ _ _⟩
            · obtain ⟨a', b', h1, h2, h3, h4, h5, h6, h7⟩ := hj j (by omega)
              exact ⟨a', b', h1, h2, h3, (upd_n _ _ hjn').trans h4, (upd_n _ _ hjn').trans h5, (upd_n _ _ hjn').trans h6, (upd_n _ _ hjn').trans h7⟩
      · rw [if_neg (fun h => hl ((nI_eq (by omega) (by omega)).mp h))] at hX0 hM0
        exact bad hX0 hM0
    · refine bad ?_ ?_
      · unfold fX10_dark
        rw [show (0 : Int32) = nI 0 from rfl, show (9999 : Int32) = nI 9999 from rfl, within_eq, within_eq, if_pos (rng_t (Nat.zero_le a) ha (by omega)), if_neg h]
        rfl
      · unfold fX11_dark
        rw [in_lit (nI a) 0 9999 (by omega) (by omega), in_lit p2 0 9999 (by omega) (by omega), if_pos (rng_t (Nat.zero_le a) ha (by omega)), if_neg h]
        rfl
  · refine bad ?_ ?_
    · unfold fX10_dark
      rw [show (0 : Int32) = nI 0 from rfl, show (9999 : Int32) = nI 9999 from rfl, within_eq, if_neg h]
      rfl
    · unfold fX11_dark
      rw [in_lit p1 0 9999 (by omega) (by omega), if_neg h]
      rfl
