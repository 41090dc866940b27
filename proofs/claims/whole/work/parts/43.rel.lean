/-! ===== how the two states stand to each other ===== -/
/-- figures: mask k and stand-ins si on the class's side, a row of twenty on the reference's -/
def FR (k : Nat) (si row : Nat → Int32) : Prop := k < 1024 ∧ ∀ f, f < 10 → row f = nI (bi k f) ∧ si f = row (10 + f) ∧ ∃ g, g < 10 ∧ row (10 + f) = nI g
/-- one change taken back -/
def US (cf bf : Int32) (k : Nat) (si : Nat → Int32) (k' : Nat) (si' : Nat → Int32) : Prop :=
  (∃ f, f < 10 ∧ cf = nI f ∧ bf = -1 ∧ k' = k ^^^ 2 ^ f ∧ ∀ x, x < 10 → si' x = si x) ∨ (∃ f g, f < 10 ∧ g < 10 ∧ cf = nI f ∧ bf = nI g ∧ k' = k ∧ ∀ x, x < 10 → si' x = if x = f then nI g else si x)
/-- what can be undone: the class keeps changes, the reference keeps rows -/
def UC (c5 c6 m10 : Nat → Int32) : Nat → Nat → (Nat → Int32) → Prop
  | 0, _, _ => True
  | u + 1, k, si => ∃ k' si', FR k' si' (fun x => m10 (20 * u + x)) ∧ US (c5 u) (c6 u) k si k' si' ∧ UC c5 c6 m10 u k' si'
def RT (S M : St) : Prop := ∃ n, n ≤ 200 ∧ S 0 0 = nI n ∧ M 0 0 = nI n ∧ ∀ j, j < n → ∃ c, 32 ≤ c ∧ c ≤ 126 ∧ S 1 j = nI c ∧ M 1 j = nI c
def RF (S M : St) : Prop := ∃ k u, S 2 0 = nI k ∧ FR k (S 3) (M 9) ∧ u ≤ 8 ∧ S 4 0 = nI u ∧ M 11 0 = nI u ∧ UC (S 5) (S 6) (M 10) u k (S 3)
def RK (S M : St) : Prop := ∃ t, t ≤ 2 ∧ S 7 0 = nI t ∧ M 13 0 = nI t ∧ ∀ j, j < t → ∃ k, S (8 + 2 * j) 0 = nI k ∧ FR k (S (9 + 2 * j)) (fun x => M 12 (20 * j + x))
def RN (S M : St) : Prop := ∃ d, d ≤ 8 ∧ S 12 0 = nI d ∧ M 14 0 = nI d ∧ ∀ j, j < d → ∃ a b, a ≤ 9999 ∧ b ≤ 9999 ∧ lnN a = lnN b ∧ S 13 j = nI a ∧ M 15 j = nI a ∧ S 14 j = nI b ∧ M 16 j = nI b
def RS (S : St) : Prop := S 15 0 = -1 ∨ ∃ k, k < 1024 ∧ S 15 0 = nI k ∧ ∀ n, n < 1000 → S 21 n = nI (bN (sy k n))
/-- THE SUM's letters: figures and signs, each sign behind a figure, at most four figures in a row; r: figures since the last sign -/
def sumR : List Nat → Nat → Option Nat
  | [], r => some r
  | c :: l, r => if 48 ≤ c ∧ c ≤ 57 then (if r < 4 then sumR l (r + 1) else none) else if (c = 43 ∨ c = 45 ∨ c = 42) ∧ 0 < r then sumR l 0 else none
def RLs (cc : Int32) (co : Nat → Int32) (cm : Int32) (mc : Nat → Int32) (sd sm wd wm sl : Int32) (lt : Nat → Int32) (ml : Int32) (mt : Nat → Int32) : Prop :=
  (∃ c, c ≤ 6 ∧ cc = nI c ∧ cm = nI c ∧ ∀ j, j < c → ∃ w, 1 ≤ w ∧ w ≤ 99 ∧ co j = nI w ∧ mc j = nI w) ∧ (∃ d, 2 ≤ d ∧ d ≤ 9 ∧ sd = nI d ∧ sm = nI d) ∧ (∃ w, 1 ≤ w ∧ w ≤ 9 ∧ wd = nI w ∧ wm = nI w) ∧
  (∃ L : List Nat, L.length ≤ 20 ∧ (L = [] ∨ ∃ r, 0 < r ∧ sumR L 0 = some r) ∧ sl = nI L.length ∧ ml = nI L.length ∧ ∀ j, j < L.length → lt j = nI (L.getD j 0) ∧ mt j = nI (L.getD j 0))
def RL0 (S M : St) : Prop := RLs (S 23 0) (S 27) (M 4 0) (M 3) (S 24 0) (M 5 0) (S 25 0) (M 6 0) (S 30 0) (S 31) (M 8 0) (M 7)
def Rel (S M : St) : Prop := RT S M ∧ RF S M ∧ RK S M ∧ RN S M ∧ RS S ∧ RL0 S M
theorem FR.nw {k : Nat} {si : Nat → Int32} {M : St} (h : FR k si (M 9)) : NW k M := fun f hf => (h.2 f hf).1
theorem Rel.fig {S M : St} (h : Rel S M) : ∃ k, k < 1024 ∧ S 2 0 = nI k ∧ FR k (S 3) (M 9) ∧ NW k M := by
  obtain ⟨k, u, h1, h2, -⟩ := h.2.1
  exact ⟨k, h2.1, h1, h2, h2.nw⟩
theorem ob_said {N : Nat} (hN : 200000 ≤ N) : OB_said N Rel := by
  intro S M p1 hR
  obtain ⟨k, hk, e2, -, hw⟩ := hR.fig
  unfold fX10_said fX11_said
  rw [show (0 : Int32) = nI 0 from rfl, show (99999 : Int32) = nI 99999 from rfl, within_eq, in_lit p1 0 99999 (by omega) (by omega), e2]
  rcases rng p1 (a := 0) (b := 99999) (by omega) (by omega) with ⟨n, -, hn, rfl⟩ | h
  · rw [if_pos (rng_t (Nat.zero_le n) hn (by omega))]
    simp only [Option.bind_some]
    rw [canSay_X (by omega) hk hn, canSay_M (by omega) hk hw hn]
    cases hs : sy k n with
    | false => exact ⟨nI 0, rfl, rfl, hR⟩
    | true => exact ⟨1, rfl, rfl, hR⟩
  · rw [if_neg h]
    exact ⟨-1, rfl, rfl, hR⟩
theorem ob_rank {N : Nat} (hN : 200000 ≤ N) : OB_rank N Rel := by
  intro S M p1 hR
  obtain ⟨k, hk, e2, -, hw⟩ := hR.fig
  unfold fX10_rank fX11_rank
  rw [show (0 : Int32) = nI 0 from rfl, show (99999 : Int32) = nI 99999 from rfl, within_eq, in_lit p1 0 99999 (by omega) (by omega), e2]
  rcases rng p1 (a := 0) (b := 99999) (by omega) (by omega) with ⟨n, -, hn, rfl⟩ | h
  · rw [if_pos (rng_t (Nat.zero_le n) hn (by omega))]
    simp only [Option.bind_some]
    rw [sayable_X (by omega) hk hn, sayable_M (by omega) hk hw hn]
    exact ⟨nI (cnt k n), rfl, rfl, hR⟩
  · rw [if_neg h]
    exact ⟨-1, rfl, rfl, hR⟩
theorem ob_next {N : Nat} (hN : 200000 ≤ N) : OB_next N Rel := by
  intro S M p1 hR
  obtain ⟨k, hk, e2, -, hw⟩ := hR.fig
  unfold fX10_next fX11_next
  rw [show (0 : Int32) = nI 0 from rfl, show (99999 : Int32) = nI 99999 from rfl, within_eq, in_lit p1 0 99999 (by omega) (by omega), e2]
  rcases rng p1 (a := 0) (b := 99999) (by omega) (by omega) with ⟨n, -, hn, rfl⟩ | h
  · rw [if_pos (rng_t (Nat.zero_le n) hn (by omega))]
    simp only [Option.bind_some]
    rw [sayable_X (by omega) hk hn]
    simp only [Option.bind_some]
    obtain ⟨z, hz, z1, z2, ez⟩ := next_M (N := N) hN hk hw hn
    have hc := cnt_le k n
    obtain ⟨y, hy, y1, y2, ey⟩ := atR_X (N := N) (by omega) hk (show cnt k n ≤ 100000 by omega)
    rw [ey]
    have := rk_one hy hz y1 y2 z1 z2
    subst this
    exact ⟨_, rfl, ez, hR⟩
  · rw [if_neg h]
    exact ⟨-1, rfl, rfl, hR⟩
theorem ob_kth {N : Nat} (hN : 200000 ≤ N) : OB_kth N Rel := by
  intro S M p1 hR
  obtain ⟨k, hk, e2, -, hw⟩ := hR.fig
  unfold fX10_kth fX11_kth
  rw [show (0 : Int32) = nI 0 from rfl, show (99999 : Int32) = nI 99999 from rfl, within_eq, in_lit p1 0 99999 (by omega) (by omega), e2]
  rcases rng p1 (a := 0) (b := 99999) (by omega) (by omega) with ⟨n, -, hn, rfl⟩ | h
  · rw [if_pos (rng_t (Nat.zero_le n) hn (by omega))]
    simp only [Option.bind_some]
    obtain ⟨z, hz, z1, z2, ez⟩ := kth_M (N := N) hN hk hw hn
    obtain ⟨y, hy, y1, y2, ey⟩ := atR_X (N := N) (by omega) hk (show n ≤ 100000 by omega)
    rw [ey]
    have := rk_one hy hz y1 y2 z1 z2
    subst this
    exact ⟨_, rfl, ez, hR⟩
  · rw [if_neg h]
    exact ⟨-1, rfl, rfl, hR⟩
