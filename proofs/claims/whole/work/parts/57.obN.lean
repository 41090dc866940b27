/-! ===== coins, the reference's loops; change, pays, never ===== -/
theorem nw_m2 {k : Nat} {M : St} (hw : NW k M) (a b : Nat → Int32) : NW k (m2 M a b) := fun f hf => hw f hf
theorem go_inner {N k c : Nat} {M : St} {x1 : Int32} {g48 : Int32 × St → Option St} {r r' : Nat → Int32} {F W : Nat → Nat} (hN : 100000 ≤ N) (hk : k < 1024) (hw : NW k M) (hc : 1 ≤ c) (hc9 : c ≤ 99) (hF : FI F) (hs : sy k c = true) : fX11_goCoins_l67 N g48 N (x1, nI c, nI c, m2 M (cwN r (gmN F)) (cwN r' W)) = fX11_goCoins_j149 N g48 x1 (m2 M (cwN r (gmN (ifN c (201 - c) c F))) (cwN r' (iwN c (201 - c) c W))) := by
  unfold fX11_goCoins_l67
  have key := lpN_ix (body := fun g q => fX11_goCoins_b67 N g48 g q.1 q.2.1 q.2.2.1 q.2.2.2) (enc := fun i : Nat × (Nat → Nat) × (Nat → Nat) => (x1, nI c, nI (201 - i.1), m2 M (cwN r (gmN i.2.1)) (cwN r' i.2.2))) (I := fun i => i.1 ≤ 201 - c ∧ FI i.2.1) (μ := fun i => i.1) (f := fun i => fX11_goCoins_j149 N g48 x1 (m2 M (cwN r (gmN (ifN c i.1 (201 - i.1) i.2.1))) (cwN r' (iwN c i.1 (201 - i.1) i.2.2)))) ?_ N (201 - c, F, W) ⟨Nat.le_refl _, hF⟩ (by show 201 - c < N; omega)
  · dsimp only at key
    rw [show 201 - (201 - c) = c by omega] at key
    exact key
  rintro g ⟨m, G, V⟩ ⟨hm, hG⟩ ih
  dsimp only at hm hG ih ⊢
  unfold fX11_goCoins_b67
  cases m with
  | zero => rw [if_pos (by decide)]; rfl
  | succ m =>
    obtain ⟨x, ex⟩ : ∃ x, x = 201 - (m + 1) := ⟨_, rfl⟩
    have hx : x ≤ 200 := by omega
    have hcx : c ≤ x := by omega
    have ex1 : 201 - m = x + 1 := by omega
    have fin := ih (m, sfN c G x, swN c V x) ⟨by show m ≤ 201 - c; omega, hG.sf hc hcx hx⟩ (by show m < m + 1; omega)
    dsimp only at fin
    rw [ex1] at fin
    rw [← ex]
    show _ = fX11_goCoins_j149 N g48 x1 (m2 M (cwN r (gmN (ifN c m (x + 1) (sfN c G x)))) (cwN r' (iwN c m (x + 1) (swN c V x))))
    rw [if_neg (show ¬ (200 : Int32) < nI x from nI_nlt (a := 200) (by omega) (by omega)), canSay_M hN hk (nw_m2 hw _ _) (by omega), hs]
    simp only [Option.bind_some]
    have hq : ¬ (nI x < 0 ∨ 201 ≤ x) := by
      have := in_nI (n := x) (N := 201) (by omega) (by omega)
      rwa [nI_clamp (by omega)] at this
    have hq2 : ¬ (nI (x - c) < 0 ∨ 201 ≤ x - c) := by
      have := in_nI (n := x - c) (N := 201) (by omega) (by omega)
      rwa [nI_clamp (by omega)] at this
    have st : ∀ v, fX11_goCoins_j125 N g48 g x1 (nI c) (nI x) (nI x) v (m2 M (cwN r (gmN G)) (cwN r' V)) = g (x1, nI c, nI (x + 1), m2 M (upd (cwN r (gmN G)) x v) (cwN r' (swN c V x))) := by
      intro v
      unfold fX11_goCoins_j125
      rw [pk_sub hcx]
      simp only [nI_clamp (show x < 2 ^ 31 by omega), nI_clamp (show x - c < 2 ^ 31 by omega), m2_25]
      have e1 : (m2 M (upd (cwN r (gmN G)) x v) (cwN r' V)) 26 x = nI (V x) := cw_at hx
      have e2 : (m2 M (upd (cwN r (gmN G)) x v) (cwN r' V)) 26 (x - c) = nI (V (x - c)) := cw_at (by omega)
      rw [if_pos hq, if_pos hq, if_pos hq2, if_pos hq, e1, e2, nI_add, m2_26, cw_u hx, show nI x + (1 : Int32) = nI (x + 1) from nI_1 x]
      rfl
    rw [if_neg (show ¬ nI (bN true) = (0 : Int32) by decide), pk_sub hcx]
    have e1 : (m2 M (cwN r (gmN G)) (cwN r' V)) 25 x = nI (gmN G x) := cw_at hx
    have e2 : (m2 M (cwN r (gmN G)) (cwN r' V)) 25 (x - c) = nI (gmN G (x - c)) := cw_at (by omega)
    simp only [nI_clamp (show x < 2 ^ 31 by omega), nI_clamp (show x - c < 2 ^ 31 by omega)]
    rw [if_pos hq2, if_pos hq, if_pos hq, if_pos hq2, e1, e2, st, st]
    have gs := gm_step hG hc hcx hx (r := r)
    by_cases h : nI (gmN G x) ≤ nI (gmN G (x - c)) + 1
    · rw [if_pos h] at gs ⊢
      rw [gs]
      exact fin
    · rw [if_neg h] at gs ⊢
      rw [gs]
      exact fin
theorem go_none {N k c : Nat} {M : St} {x1 : Int32} {g48 : Int32 × St → Option St} {a b : Nat → Int32} (hN : 100000 ≤ N) (hk : k < 1024) (hw : NW k M) (hc9 : c ≤ 99) (hs : sy k c = false) : fX11_goCoins_l67 N g48 N (x1, nI c, nI c, m2 M a b) = fX11_goCoins_j149 N g48 x1 (m2 M a b) := by
  unfold fX11_goCoins_l67
  refine lpN_ix (body := fun g q => fX11_goCoins_b67 N g48 g q.1 q.2.1 q.2.2.1 q.2.2.2) (enc := fun _ : Unit => (x1, nI c, nI c, m2 M a b)) (I := fun _ => True) (μ := fun _ => 0) (f := fun _ => fX11_goCoins_j149 N g48 x1 (m2 M a b)) ?_ N () trivial (by omega)
  intro g i _ _
  dsimp only
  unfold fX11_goCoins_b67
  rw [if_neg (show ¬ (200 : Int32) < nI c from nI_nlt (a := 200) (by omega) (by omega)), canSay_M hN hk (nw_m2 hw _ _) (by omega), hs]
  simp only [Option.bind_some]
  rw [if_pos (show nI (bN false) = (0 : Int32) by decide)]
theorem go_M {N k n : Nat} {M : St} {C : Nat → Nat} (hN : 100000 ≤ N) (hk : k < 1024) (hw : NW k M) (hn : n ≤ 6) (e : M 4 0 = nI n) (hC : ∀ j, j < n → 1 ≤ C j ∧ C j ≤ 99 ∧ M 3 j = nI (C j)) : fX11_goCoins N M = some (m2 M (cwN (M 25) (gmN (ofN k C n 0 (s0N 0 201)))) (cwN (M 26) (owN k C n 0 (s0N 1 0)))) := by
  rw [go_start (by omega)]
  unfold fX11_goCoins_j46 fX11_goCoins_l48
  have key := lpN_ix (body := fun g q => fX11_goCoins_b48 N g q.1 q.2) (enc := fun i : Nat × (Nat → Nat) × (Nat → Nat) => (nI (n - i.1), m2 M (cwN (M 25) (gmN i.2.1)) (cwN (M 26) i.2.2))) (I := fun i => i.1 ≤ n ∧ FI i.2.1) (μ := fun i => i.1) (f := fun i => some (m2 M (cwN (M 25) (gmN (ofN k C i.1 (n - i.1) i.2.1))) (cwN (M 26) (owN k C i.1 (n - i.1) i.2.2)))) ?_ N (n, s0N 0 201, s0N 1 0) ⟨Nat.le_refl _, FI.s0⟩ (by show n < N; omega)
  · simp only [Nat.sub_self] at key
    exact key
  rintro g ⟨m, G, V⟩ ⟨hm, hG⟩ ih
  dsimp only at hm hG ih ⊢
  unfold fX11_goCoins_b48
  have e' : (m2 M (cwN (M 25) (gmN G)) (cwN (M 26) V)) 4 0 = nI n := e
  rw [e']
  cases m with
  | zero => rw [if_pos (nI_le (by omega) (by omega))]; rfl
  | succ m =>
    obtain ⟨c1, c2, c3⟩ := hC (n - (m + 1)) (by omega)
    have c3' : (m2 M (cwN (M 25) (gmN G)) (cwN (M 26) V)) 3 (n - (m + 1)) = nI (C (n - (m + 1))) := c3
    rw [if_neg (nI_ge (by omega) (by omega)), if_pos (in_nI (by omega) (by omega)), nI_clamp (by omega), c3']
    have st : ∀ G' V', FI G' → fX11_goCoins_j149 N g (nI (n - (m + 1))) (m2 M (cwN (M 25) (gmN G')) (cwN (M 26) V')) = some (m2 M (cwN (M 25) (gmN (ofN k C m (n - m) G'))) (cwN (M 26) (owN k C m (n - m) V'))) := by
      intro G' V' hG'
      unfold fX11_goCoins_j149
      rw [show nI (n - (m + 1)) + (1 : Int32) = nI (n - (m + 1) + 1) from nI_1 _, show n - (m + 1) + 1 = n - m by omega]
      exact ih (m, G', V') ⟨by show m ≤ n; omega, hG'⟩ (by show m < m + 1; omega)
    show _ = some (m2 M (cwN (M 25) (gmN (ofN k C m (n - (m + 1) + 1) (if sy k (C (n - (m + 1))) then ifN (C (n - (m + 1))) (201 - C (n - (m + 1))) (C (n - (m + 1))) G else G)))) (cwN (M 26) (owN k C m (n - (m + 1) + 1) (if sy k (C (n - (m + 1))) then iwN (C (n - (m + 1))) (201 - C (n - (m + 1))) (C (n - (m + 1))) V else V))))
    rw [show n - (m + 1) + 1 = n - m by omega]
    cases hs : sy k (C (n - (m + 1))) with
    | false => rw [go_none hN hk hw c2 hs, st _ _ hG]; rfl
    | true => rw [go_inner hN hk hw c1 c2 hG hs, st _ _ (FI.if c1 _ _ _ (by omega) (by omega) hG)]; rfl
theorem Rel.coins {S M : St} (h : Rel S M) : ∃ (n : Nat) (C : Nat → Nat), n ≤ 6 ∧ S 23 0 = nI n ∧ M 4 0 = nI n ∧ (∀ j, j < n → 1 ≤ C j ∧ C j ≤ 99 ∧ S 27 j = nI (C j)) ∧ (∀ j, j < n → 1 ≤ C j ∧ C j ≤ 99 ∧ M 3 j = nI (C j)) := by
  obtain ⟨⟨c, hc, e1, e2, hj⟩, -⟩ := h.2.2.2.2.2
  refine ⟨c, fun j => (S 27 j).toNatClampNeg, hc, e1, e2, fun j h => ?_, fun j h => ?_⟩
  · obtain ⟨w, w1, w2, w3, w4⟩ := hj j h
    dsimp only
    rw [w3, nI_clamp (by omega)]
    exact ⟨w1, w2, rfl⟩
  · obtain ⟨w, w1, w2, w3, w4⟩ := hj j h
    dsimp only
    rw [w3, nI_clamp (by omega)]
    exact ⟨w1, w2, w4⟩
/-- the state of the class and of the reference behind a count of coins -/
theorem Rel.till {S M : St} (h : Rel S M) (q : St) (a b : Nat → Int32) : Rel (pt S 22 1 q) (m2 M a b) := ⟨h.1.congr rfl rfl rfl rfl, h.2.1.congr rfl rfl rfl rfl rfl rfl rfl rfl, h.2.2.1.congr rfl rfl rfl rfl rfl rfl rfl, h.2.2.2.1.congr rfl rfl rfl rfl rfl rfl, h.2.2.2.2.1.congr rfl rfl, h.2.2.2.2.2.congr rfl rfl rfl rfl rfl rfl rfl rfl rfl rfl rfl rfl⟩
theorem FI.all {k n : Nat} {C : Nat → Nat} (hC : ∀ j, j < n → 1 ≤ C j ∧ C j ≤ 99) : FI (ofN k C n 0 (s0N 0 201)) := FI.of n 0 _ (fun i _ h => hC i (by omega)) FI.s0
theorem made_X {N v : Nat} {T : St} {F : Nat → Nat} (hF : FI F) (hv : v ≤ 200) (e : T 0 v = nI (F v)) : fX8_isMade N T (nI v) = some (if F v = 201 then 0 else 1) := by
  unfold fX8_isMade
  rw [if_pos (in_nI (by omega) (by omega)), nI_clamp (by omega), e]
  have b := hF v hv
  by_cases h : F v = 201
  · rw [if_pos h, h, if_pos (by decide)]
  · rw [if_neg h, if_neg (show ¬ (201 : Int32) ≤ nI (F v) from nI_ge (a := F v) (b := 201) (by omega) (by omega))]
theorem ob_change {N : Nat} (hN : 100000 ≤ N) : OB_change N Rel := by
  intro S M p1 hR
  obtain ⟨k, hk, e2, hFR, hw⟩ := hR.fig
  obtain ⟨n, C, hn, c1, c2, c3, c4⟩ := hR.coins
  unfold fX10_change fX11_change
  rw [within_eq, in_lit p1 0 200 (by omega) (by omega)]
  rcases rng p1 (a := 0) (b := 200) (by omega) (by omega) with ⟨v, -, hv, rfl⟩ | h
  · have hb1 := rng_t (Nat.zero_le v) hv (by omega)
    rw [if_pos (show (0 : Int32) ≤ nI v ∧ nI v ≤ (200 : Int32) from hb1), if_pos hb1]
    simp only [Option.bind_some]
    have hF : FI (ofN k C n 0 (s0N 0 201)) := FI.all (fun j h => ⟨(c3 j h).1, (c3 j h).2.1⟩)
    rw [if_neg i10, if_neg i10, e2, few_X (by omega) hk hn c1 c3, go_M hN hk hw hn c2 c4]
    generalize ofN k C n 0 (s0N 0 201) = F at hF
    generalize owN k C n 0 (s0N 1 0) = W
    simp only [Option.bind_some]
    have t1 : (pt S 22 1 (va_up (sh S 22) 0 (cwN (sh S 22 0) F))) 22 v = nI (F v) := cw_at hv
    have t2 : (m2 M (cwN (M 25) (gmN F)) (cwN (M 26) W)) 25 v = nI (gmN F v) := cw_at hv
    have b := hF v hv
    rw [made_X hF hv t1, if_pos (in_nI (by omega) (by omega)), nI_clamp (by omega), t2]
    simp only [Option.bind_some]
    have hq : ¬ (nI v < 0 ∨ 201 ≤ v) := by
      have := in_nI (n := v) (N := 201) (by omega) (by omega)
      rwa [nI_clamp (by omega)] at this
    rw [if_pos hq]
    by_cases h : F v = 201
    · rw [if_pos h, if_pos rfl, show gmN F v = 2000000000 from if_pos h, if_pos (by decide)]
      exact ⟨-4, _, _, rfl, rfl, hR.till _ _ _⟩
    · rw [if_neg h, if_neg i10, show gmN F v = F v from if_neg h, if_neg (show ¬ (2000000000 : Int32) ≤ nI (F v) from nI_ge (a := F v) (b := 2000000000) (by omega) (by omega)), if_pos hq, t1]
      exact ⟨nI (F v), _, _, rfl, rfl, hR.till _ _ _⟩
  · rw [if_neg (show ¬ ((0 : Int32) ≤ p1 ∧ p1 ≤ (200 : Int32)) from h), if_neg h]
    exact ⟨-1, S, M, rfl, rfl, hR⟩
theorem ob_pays {N : Nat} (hN : 100000 ≤ N) : OB_pays N Rel := by
  intro S M p1 hR
  obtain ⟨k, hk, e2, hFR, hw⟩ := hR.fig
  obtain ⟨n, C, hn, c1, c2, c3, c4⟩ := hR.coins
  unfold fX10_pays fX11_pays
  rw [within_eq, in_lit p1 0 200 (by omega) (by omega)]
  rcases rng p1 (a := 0) (b := 200) (by omega) (by omega) with ⟨v, -, hv, rfl⟩ | h
  · have hb1 := rng_t (Nat.zero_le v) hv (by omega)
    rw [if_pos (show (0 : Int32) ≤ nI v ∧ nI v ≤ (200 : Int32) from hb1), if_pos hb1]
    simp only [Option.bind_some]
    rw [if_neg i10, if_neg i10, e2, way_X (by omega) hk hn c1 c3, go_M hN hk hw hn c2 c4]
    generalize ofN k C n 0 (s0N 0 201) = F
    generalize owN k C n 0 (s0N 1 0) = W
    simp only [Option.bind_some]
    have t1 : (pt S 22 1 (va_up (sh S 22) 0 (cwN (sh S 22 0) W))) 22 v = nI (W v) := cw_at hv
    have t2 : (m2 M (cwN (M 25) (gmN F)) (cwN (M 26) W)) 26 v = nI (W v) := cw_at hv
    rw [if_pos (in_nI (by omega) (by omega)), nI_clamp (by omega), t1, t2]
    have hq : ¬ (nI v < 0 ∨ 201 ≤ v) := by
      have := in_nI (n := v) (N := 201) (by omega) (by omega)
      rwa [nI_clamp (by omega)] at this
    rw [if_pos hq]
    exact ⟨nI (W v), _, _, rfl, rfl, hR.till _ _ _⟩
  · rw [if_neg (show ¬ ((0 : Int32) ≤ p1 ∧ p1 ≤ (200 : Int32)) from h), if_neg h]
    exact ⟨-1, S, M, rfl, rfl, hR⟩
/-! ===== never: how many ways there can be ===== -/
def pb : Nat → Nat → Nat
  | 0, x => if x = 0 then 1 else 0
  | j + 1, 0 => pb j 0
  | j + 1, x + 1 => pb j (x + 1) + pb (j + 1) x
theorem pb_s (j x : Nat) : pb (j + 1) (x + 1) = pb j (x + 1) + pb (j + 1) x := by rw [pb]
theorem pb_z (j : Nat) : pb (j + 1) 0 = pb j 0 := by rw [pb]
theorem pb_mono (j a : Nat) : ∀ b, a ≤ b → pb (j + 1) a ≤ pb (j + 1) b
  | 0, h => by rw [show a = 0 by omega]; exact Nat.le_refl _
  | b + 1, h => by
    rcases Nat.lt_or_ge a (b + 1) with h1 | h1
    · have := pb_mono j a b (by omega); rw [pb_s]; omega
    · rw [show a = b + 1 by omega]; exact Nat.le_refl _
theorem pb_up (j : Nat) : ∀ x, pb j x ≤ pb (j + 1) x
  | 0 => by rw [pb_z]; exact Nat.le_refl _
  | x + 1 => by rw [pb_s]; omega
def ft : Nat → Nat
  | 0 => 1
  | d + 1 => (d + 1) * ft d
def rf : Nat → Nat → Nat
  | _, 0 => 1
  | a, n + 1 => a * rf (a + 1) n
theorem rf_s : ∀ (n a : Nat), rf a (n + 1) = rf a n * (a + n)
  | 0, a => by simp [rf]
  | n + 1, a => by
    have h := rf_s n (a + 1)
    show a * rf (a + 1) (n + 1) = a * rf (a + 1) n * (a + (n + 1))
    rw [h, Nat.mul_assoc, show a + 1 + n = a + (n + 1) by omega]
theorem pb_0 : ∀ j, pb j 0 = 1
  | 0 => by rw [pb, if_pos rfl]
  | j + 1 => by rw [pb_z, pb_0 j]
theorem rf_1 : ∀ d, rf 1 d = ft d
  | 0 => rfl
  | d + 1 => by
    rw [rf_s, rf_1 d, Nat.mul_comm, show 1 + d = d + 1 by omega]
    rfl
theorem pb_rf : ∀ (d x : Nat), ft d * pb (d + 1) x = rf (x + 1) d
  | d, 0 => by rw [pb_0, Nat.mul_one, rf_1]
  | 0, x + 1 => by
    have h := pb_rf 0 x
    rw [pb_s]
    have h2 : 1 * pb 1 x = 1 := h
    have h3 : pb 0 (x + 1) = 0 := by rw [pb, if_neg (by omega)]
    show 1 * (pb 0 (x + 1) + pb 1 x) = 1
    rw [h3]
    omega
  | d + 1, x + 1 => by
    have h1 := pb_rf d (x + 1)
    have h2 := pb_rf (d + 1) x
    rw [pb_s, Nat.mul_add, h2]
    show (d + 1) * ft d * pb (d + 1) (x + 1) + (x + 1) * rf (x + 1 + 1) d = rf (x + 1 + 1) (d + 1)
    rw [Nat.mul_assoc, h1, rf_s, ← Nat.add_mul, Nat.mul_comm, show d + 1 + (x + 1) = x + 1 + 1 + d by omega]
theorem pb_6 : pb 6 200 < 4294967296 := by
  have h : ft 5 * pb 6 200 = rf 201 5 := pb_rf 5 200
  rw [show ft 5 = 120 by decide, show rf 201 5 = 344689054920 by decide +kernel] at h
  omega
theorem iw_le {j c : Nat} (hc : 1 ≤ c) : ∀ (m x : Nat) (G : Nat → Nat), c ≤ x → x + m = 201 → (∀ y, y < x → G y ≤ pb (j + 1) y) → (∀ y, x ≤ y → y ≤ 200 → G y ≤ pb j y) → ∀ y, y ≤ 200 → iwN c m x G y ≤ pb (j + 1) y
  | 0, x, G, h1, h2, h3, h4, y, hy => h3 y (by omega)
  | m + 1, x, G, h1, h2, h3, h4, y, hy => by
    refine iw_le hc m (x + 1) (swN c G x) (by omega) (by omega) (fun z hz => ?_) (fun z hz hz2 => ?_) y hy
    · show (if z = x then G x + G (x - c) else G z) ≤ _
      by_cases e : z = x
      · subst e
        rw [if_pos rfl]
        have a1 := h4 z (by omega) (by omega)
        have a2 := h3 (z - c) (by omega)
        have a3 := pb_mono j (z - c) (z - 1) (by omega)
        obtain ⟨w, rfl⟩ : ∃ w, z = w + 1 := ⟨z - 1, by omega⟩
        rw [pb_s]
        rw [Nat.add_sub_cancel] at a3
        omega
      · rw [if_neg e]; exact h3 z (by omega)
    · show (if z = x then G x + G (x - c) else G z) ≤ _
      rw [if_neg (by omega)]
      exact h4 z (by omega) hz2
theorem ow_le {k : Nat} {C : Nat → Nat} : ∀ (m i j : Nat) (F : Nat → Nat), (∀ a, i ≤ a → a < i + m → 1 ≤ C a ∧ C a ≤ 99) → (∀ y, y ≤ 200 → F y ≤ pb j y) → ∀ y, y ≤ 200 → owN k C m i F y ≤ pb (j + m) y
  | 0, i, j, F, hC, h, y, hy => h y hy
  | m + 1, i, j, F, hC, h, y, hy => by
    rw [show j + (m + 1) = (j + 1) + m by omega]
    refine ow_le m (i + 1) (j + 1) _ (fun a h1 h2 => hC a (by omega) (by omega)) (fun z hz => ?_) y hy
    have hci := hC i (by omega) (by omega)
    by_cases hs : sy k (C i) = true
    · rw [if_pos hs]
      exact iw_le hci.1 _ _ F (Nat.le_refl _) (by omega) (fun w hw => Nat.le_trans (h w (by omega)) (pb_up j w)) (fun w _ hw => h w hw) z hz
    · rw [if_neg hs]
      exact Nat.le_trans (h z hz) (pb_up j z)
theorem pb_up6 (y : Nat) : ∀ (d n : Nat), n + d = 6 → pb n y ≤ pb 6 y
  | 0, n, h => by rw [show n = 6 by omega]; exact Nat.le_refl _
  | d + 1, n, h => Nat.le_trans (pb_up n y) (pb_up6 y d (n + 1) (by omega))
theorem ow_lt {k n : Nat} {C : Nat → Nat} (hn : n ≤ 6) (hC : ∀ j, j < n → 1 ≤ C j ∧ C j ≤ 99) {y : Nat} (hy : y ≤ 200) : owN k C n 0 (s0N 1 0) y < 4294967296 := by
  have h1 := ow_le (k := k) n 0 0 (s0N 1 0) (fun a _ h => hC a (by omega)) (fun y _ => by rw [pb]; exact Nat.le_refl _) y hy
  rw [Nat.zero_add] at h1
  have h2 := pb_up6 y (6 - n) n (by omega)
  have h3 : pb 6 y ≤ pb 6 200 := pb_mono 5 y 200 hy
  have h4 := pb_6
  omega
def ZW (F W : Nat → Nat) : Prop := ∀ x, x ≤ 200 → (F x = 201 ↔ W x = 0)
theorem ZW.if {c : Nat} (hc : 1 ≤ c) : ∀ (m x : Nat) (F W : Nat → Nat), c ≤ x → x + m ≤ 201 → FI F → ZW F W → ZW (ifN c m x F) (iwN c m x W)
  | 0, _, _, _, _, _, _, h => h
  | m + 1, x, F, W, h1, h2, hF, h => by
    refine ZW.if hc m (x + 1) (sfN c F x) (swN c W x) (by omega) (by omega) (hF.sf hc h1 (by omega)) (fun y hy => ?_)
    show (if y = x then (if F (x - c) + 1 < F x then F (x - c) + 1 else F x) else F y) = 201 ↔ (if y = x then W x + W (x - c) else W y) = 0
    by_cases e : y = x
    · rw [if_pos e, if_pos e]
      have a1 := hF x (by omega)
      have a2 := hF (x - c) (by omega)
      have a3 := h x (by omega)
      have a4 := h (x - c) (by omega)
      split <;> omega
    · rw [if_neg e, if_neg e]; exact h y hy
theorem ZW.of {k : Nat} {C : Nat → Nat} : ∀ (m i : Nat) (F W : Nat → Nat), (∀ a, i ≤ a → a < i + m → 1 ≤ C a ∧ C a ≤ 99) → FI F → ZW F W → ZW (ofN k C m i F) (owN k C m i W)
  | 0, _, _, _, _, _, h => h
  | m + 1, i, F, W, hC, hF, h => by
    have hci := hC i (by omega) (by omega)
    show ZW (ofN k C m (i + 1) (if sy k (C i) then ifN (C i) (201 - C i) (C i) F else F)) (owN k C m (i + 1) (if sy k (C i) then iwN (C i) (201 - C i) (C i) W else W))
    by_cases hs : sy k (C i) = true
    · rw [if_pos hs, if_pos hs]
      exact ZW.of m (i + 1) _ _ (fun a h1 h2 => hC a (by omega) (by omega)) (FI.if hci.1 _ _ _ (by omega) (by omega) hF) (ZW.if hci.1 _ _ _ _ (by omega) (by omega) hF h)
    · rw [if_neg hs, if_neg hs]
      exact ZW.of m (i + 1) _ _ (fun a h1 h2 => hC a (by omega) (by omega)) hF h
theorem ZW.s0 : ZW (s0N 0 201) (s0N 1 0) := by
  intro x _
  unfold s0N
  by_cases h : x = 0
  · rw [if_pos h, if_pos h]; omega
  · rw [if_neg h, if_neg h]; omega
theorem nI_z32 {n : Nat} (h : n < 4294967296) : nI n = 0 ↔ n = 0 := by
  constructor
  · intro e
    have h1 := pk_tn (n := n) h
    rw [e] at h1
    have h2 : (0 : Int32).toBitVec.toNat = 0 := by decide
    omega
  · intro e; rw [e]; rfl
/-- the greatest up to n for which P holds, or NONE -/
def dnN (F : Nat → Nat) : Nat → Int32
  | 0 => -4
  | n + 1 => if F (n + 1) = 201 then nI (n + 1) else dnN F n
theorem nev_X {N : Nat} {S : St} {F : Nat → Nat} (hN : 300 ≤ N) (hF : FI F) (e : ∀ v, v ≤ 200 → S 22 v = nI (F v)) : fX10_never_l22 N N (200, S) = some (dnN F 200, S) := by
  unfold fX10_never_l22
  have key := lpN_ix (body := fun g q => fX10_never_b22 N g q.1 q.2) (enc := fun i : Nat => (nI i, S)) (I := fun i => i ≤ 200) (μ := fun i => i) (f := fun i => some (dnN F i, S)) ?_ N 200 (Nat.le_refl _) (by omega)
  · exact key
  intro g i hi ih
  dsimp only at ih ⊢
  unfold fX10_never_b22
  cases i with
  | zero => rw [if_pos (by decide)]; rfl
  | succ i =>
    rw [if_neg (show ¬ nI (i + 1) < (1 : Int32) from nI_nlt (a := i + 1) (b := 1) (by omega) (by omega)), made_X (T := sh S 22) hF hi (e _ hi)]
    simp only [Option.bind_some]
    show _ = some ((if F (i + 1) = 201 then nI (i + 1) else dnN F i), S)
    by_cases h : F (i + 1) = 201
    · rw [if_pos h, if_pos h, if_pos rfl]
    · rw [if_neg h, if_neg h, if_neg i10, pk_m1]
      exact ih i (by omega) (by omega)
theorem nev_M {N : Nat} {M : St} {F W : Nat → Nat} (hN : 300 ≤ N) (hZ : ZW F W) (hW : ∀ v, v ≤ 200 → W v < 4294967296) (e : ∀ v, v ≤ 200 → M 26 v = nI (W v)) : fX11_never_l9 N N (-4, 1, M) = some (dnN F 200, M) := by
  unfold fX11_never_l9
  have key := lpN_ix (body := fun g q => fX11_never_b9 N g q.1 q.2.1 q.2.2) (enc := fun i : Nat => (dnN F i, nI (i + 1), M)) (I := fun i => i ≤ 200) (μ := fun i => 200 - i) (f := fun _ => some (dnN F 200, M)) ?_ N 0 (by omega) (by omega)
  · exact key
  intro g i hi ih
  dsimp only at ih ⊢
  unfold fX11_never_b9
  by_cases h : 200 < i + 1
  · rw [if_pos (show (200 : Int32) < nI (i + 1) from nI_lt (a := 200) h (by omega)), show i = 200 by omega]
  · rw [if_neg (show ¬ (200 : Int32) < nI (i + 1) from nI_nlt (a := 200) (by omega) (by omega)), if_pos (in_nI (by omega) (by omega)), nI_clamp (by omega), e _ (by omega)]
    unfold fX11_never_j30
    have st := ih (i + 1) (by omega) (by omega)
    rw [show nI (i + 1) + (1 : Int32) = nI (i + 1 + 1) from nI_1 _]
    have z1 := hZ (i + 1) (by omega)
    have z2 := nI_z32 (hW (i + 1) (by omega))
    by_cases h2 : F (i + 1) = 201
    · rw [if_pos (z2.mpr (z1.mp h2))]
      rw [show dnN F (i + 1) = nI (i + 1) from if_pos h2] at st
      exact st
    · rw [if_neg (fun q => h2 (z1.mpr (z2.mp q)))]
      rw [show dnN F (i + 1) = dnN F i from if_neg h2] at st
      exact st
theorem ob_never {N : Nat} (hN : 100000 ≤ N) : OB_never N Rel := by
  intro S M hR
  obtain ⟨k, hk, e2, hFR, hw⟩ := hR.fig
  obtain ⟨n, C, hn, c1, c2, c3, c4⟩ := hR.coins
  unfold fX10_never fX11_never
  have hC : ∀ j, j < n → 1 ≤ C j ∧ C j ≤ 99 := fun j h => ⟨(c3 j h).1, (c3 j h).2.1⟩
  have hF : FI (ofN k C n 0 (s0N 0 201)) := FI.all hC
  have hZ : ZW (ofN k C n 0 (s0N 0 201)) (owN k C n 0 (s0N 1 0)) := ZW.of n 0 _ _ (fun a _ h => hC a (by omega)) FI.s0 ZW.s0
  have hW : ∀ v, v ≤ 200 → owN k C n 0 (s0N 1 0) v < 4294967296 := fun v hv => ow_lt hn hC hv
  rw [e2, few_X (by omega) hk hn c1 c3, go_M hN hk hw hn c2 c4]
  generalize ofN k C n 0 (s0N 0 201) = F at hF hZ
  generalize owN k C n 0 (s0N 1 0) = W at hZ hW
  simp only [Option.bind_some]
  rw [nev_X (by omega) hF (fun v hv => cw_at hv), nev_M (by omega) hZ hW (fun v hv => cw_at hv)]
  exact ⟨_, _, _, rfl, rfl, hR.till _ _ _⟩
