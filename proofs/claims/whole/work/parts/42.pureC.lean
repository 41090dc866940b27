/-! ===== the reference's numbers ===== -/
/-- the reference's row of figures on strike, by a mask -/
def NW (k : Nat) (M : St) : Prop := ∀ f, f < 10 → M 9 f = nI (bi k f)
theorem canSay_M {N k n : Nat} {M : St} (hN : 100000 ≤ N) (hk : k < 1024) (hM : NW k M) (hn : n ≤ 99999) : fX11_canSay N M (nI n) = some (nI (bN (sy k n))) := by
  have key : ∀ (left c : Nat), left ≤ 9999 → c ≤ 1 → fX11_canSay_l23 N M (nI n) N (nI left, nI c) = some (nI (if c = 1 then (if left = 0 then 1 else bN (sy k left)) else 0)) := by
    intro left c hl hc
    unfold fX11_canSay_l23
    refine lpN_ix (enc := fun i : Nat × Nat => (nI i.1, nI i.2)) (I := fun i => i.1 ≤ 9999 ∧ i.2 ≤ 1) (μ := fun i => i.1) (f := fun i => some (nI (if i.2 = 1 then (if i.1 = 0 then 1 else bN (sy k i.1)) else 0))) ?_ N (left, c) ⟨hl, hc⟩ (by show left < N; omega)
    rintro g ⟨a, b⟩ ⟨ha, hb⟩ ih
    dsimp only at ha hb ih ⊢
    unfold fX11_canSay_b23 fX11_canSay_j48
    have hb01 : nI b = 0 ∨ nI b = 1 := by
      rcases (show b = 0 ∨ b = 1 by omega) with rfl | rfl
      · exact Or.inl rfl
      · exact Or.inr rfl
    rcases Nat.eq_zero_or_pos a with rfl | hp
    · rw [if_pos (by decide), if_pos hb01]
      rcases (show b = 0 ∨ b = 1 by omega) with rfl | rfl <;> rfl
    · rw [if_neg (nI_nle hp (by omega))]
      rcases (show b = 0 ∨ b = 1 by omega) with rfl | rfl
      · rw [if_pos (by rfl), if_pos hb01]; rfl
      · rw [if_neg (by decide), show (10 : Int32) = nI 10 from rfl, pk_rem (by omega) (by omega) (by omega), if_pos (in_nI (by omega) (by omega)), nI_clamp (by omega), hM _ (by omega), pk_div (by omega) (by omega) (by omega)]
        rw [if_neg (show ¬ a = 0 by omega)]
        have h10 : a / 10 ≤ 9999 := by omega
        by_cases hz : bi k (a % 10) = 0
        · rw [if_pos (by rw [hz]; rfl)]
          have := ih (a / 10, 1) ⟨h10, by simp⟩ (by show a / 10 < a; omega)
          dsimp only at this
          rw [show (1 : Int32) = nI 1 from rfl, this]
          by_cases h9 : a < 10
          · rw [if_pos (show a / 10 = 0 by omega), sy_lt h9, show a = a % 10 by omega, hz]; rfl
          · rw [if_neg (show ¬ a / 10 = 0 by omega), sy_ge h9, hz]; rfl
        · have h1 : bi k (a % 10) = 1 := by have := bi_le k (a % 10); omega
          rw [if_neg (by rw [h1]; decide)]
          have := ih (a / 10, 0) ⟨h10, by simp⟩ (by show a / 10 < a; omega)
          dsimp only at this
          rw [show (0 : Int32) = nI 0 from rfl, this]
          by_cases h9 : a < 10
          · rw [sy_lt h9, show a = a % 10 by omega, h1]; rfl
          · rw [sy_ge h9, h1]; rfl
  unfold fX11_canSay fX11_canSay_j22
  rw [show (10 : Int32) = nI 10 from rfl, pk_rem (by omega) (by omega) (by omega), if_pos (in_nI (by omega) (by omega)), nI_clamp (by omega), hM _ (by omega), pk_div (by omega) (by omega) (by omega)]
  by_cases hz : bi k (n % 10) = 0
  · rw [if_pos (by rw [hz]; rfl), show (1 : Int32) = nI 1 from rfl, key _ 1 (by omega) (by omega)]
    by_cases h9 : n < 10
    · rw [if_pos (by rfl), if_pos (show n / 10 = 0 by omega), sy_lt h9, show n = n % 10 by omega, hz]; rfl
    · rw [if_pos (by rfl), if_neg (show ¬ n / 10 = 0 by omega), sy_ge h9, hz]; rfl
  · have h1 : bi k (n % 10) = 1 := by have := bi_le k (n % 10); omega
    rw [if_neg (by rw [h1]; decide), show (0 : Int32) = nI 0 from rfl, key _ 0 (by omega) (by omega)]
    by_cases h9 : n < 10
    · rw [sy_lt h9, show n = n % 10 by omega, h1]; rfl
    · rw [sy_ge h9, h1]; rfl
/-- the count of those below n -/
def cb (k n : Nat) : Nat := if n = 0 then 0 else cnt k (n - 1)
theorem cb_s (k n : Nat) : cb k (n + 1) = cb k n + bN (sy k n) := by
  unfold cb
  rw [if_neg (by omega)]
  rcases Nat.eq_zero_or_pos n with rfl | h
  · simp [cnt]
  · rw [if_neg (by omega)]
    obtain ⟨m, rfl⟩ : ∃ m, n = m + 1 := ⟨n - 1, by omega⟩
    rfl
theorem cb_le (k n : Nat) : cb k n ≤ n := by
  unfold cb
  split
  · omega
  · have := cnt_le k (n - 1); omega
theorem sayable_M {N k n : Nat} {M : St} (hN : 200000 ≤ N) (hk : k < 1024) (hM : NW k M) (hn : n ≤ 99999) : fX11_sayable N M (nI n) = some (nI (cnt k n)) := by
  unfold fX11_sayable fX11_sayable_l4
  refine lpN_ix (enc := fun i : Nat => (nI (cb k i), nI i)) (I := fun i => i ≤ n + 1) (μ := fun i => n + 1 - i) (f := fun _ => some (nI (cnt k n))) ?_ N 0 (Nat.zero_le _) (by omega)
  intro g i hi ih
  dsimp only at ih ⊢
  unfold fX11_sayable_b4 fX11_sayable_j23
  have hcb := cb_le k i
  by_cases h : n < i
  · rw [if_pos (nI_lt h (by omega)), show i = n + 1 by omega]; rfl
  · rw [if_neg (nI_nlt (by omega) (by omega)), canSay_M (by omega) hk hM (by omega)]
    simp only [Option.bind_some]
    have h1 := ih (i + 1) (by omega) (by omega)
    rw [cb_s] at h1
    cases hs : sy k i with
    | false =>
      rw [hs] at h1
      rw [if_pos (by rfl), show (0 : Int32) = nI 0 from rfl, nI_add, show nI i + (1 : Int32) = nI (i + 1) from nI_1 i]
      exact h1
    | true =>
      rw [hs] at h1
      rw [if_neg (by decide), show nI i + (1 : Int32) = nI (i + 1) from nI_1 i, show (1 : Int32) = nI 1 from rfl, nI_add]
      exact h1
theorem next_M {N k n : Nat} {M : St} (hN : 200000 ≤ N) (hk : k < 1024) (hM : NW k M) (hn : n ≤ 99999) : ∃ z, z ≤ 100000 ∧ (∀ j, j < z → cnt k j ≤ cnt k n) ∧ (z ≤ 99999 → cnt k n < cnt k z) ∧ fX11_next_l18 N M (nI n) N (nI n + 1) = some (if z ≤ 99999 then nI z else -4) := by
  have key : ∀ (K i : Nat), n < i → i ≤ 100000 → 100000 - i < K → (∀ j, j < i → cnt k j ≤ cnt k n) → ∃ z, z ≤ 100000 ∧ (∀ j, j < z → cnt k j ≤ cnt k n) ∧ (z ≤ 99999 → cnt k n < cnt k z) ∧ fX11_next_l18 N M (nI n) K (nI i) = some (if z ≤ 99999 then nI z else -4) := by
    intro K
    induction K with
    | zero => intro i _ _ h; omega
    | succ K ih =>
      intro i h0 h1 h2 h3
      show ∃ z, _ ∧ _ ∧ _ ∧ fX11_next_b18 N M (nI n) (fX11_next_l18 N M (nI n) K) (nI i) = _
      unfold fX11_next_b18 fX11_next_j38
      by_cases hz : i ≤ 99999
      · rw [if_neg (show ¬ (99999 : Int32) < nI i from nI_nlt (b := i) (a := 99999) hz (by omega)), canSay_M (by omega) hk hM hz]
        simp only [Option.bind_some]
        obtain ⟨m, rfl⟩ : ∃ m, i = m + 1 := ⟨i - 1, by omega⟩
        have hc : cnt k (m + 1) = cnt k m + bN (sy k (m + 1)) := rfl
        have hm := h3 m (by omega)
        have hm2 := cnt_mono k (show n ≤ m by omega)
        cases hs : sy k (m + 1) with
        | false =>
          rw [if_pos (by rfl), show nI (m + 1) + (1 : Int32) = nI (m + 1 + 1) from nI_1 _]
          rw [hs] at hc
          refine ih (m + 1 + 1) (by omega) (by omega) (by omega) (fun j hj => ?_)
          have := cnt_mono k (show j ≤ m + 1 by omega)
          have e : bN false = 0 := rfl
          omega
        | true =>
          rw [hs] at hc
          have e : bN true = 1 := rfl
          refine ⟨m + 1, h1, h3, fun _ => by omega, ?_⟩
          rw [if_neg (by decide), if_pos hz, if_neg (show ¬ (99999 : Int32) < nI (m + 1) from nI_nlt (b := m + 1) (a := 99999) hz (by omega))]
      · refine ⟨i, h1, h3, fun h => absurd h hz, ?_⟩
        rw [if_pos (show (99999 : Int32) < nI i from nI_lt (a := 99999) (by omega) (by omega)), if_neg hz]
        rw [if_pos (show (99999 : Int32) < nI i from nI_lt (a := 99999) (by omega) (by omega))]
  rw [show nI n + (1 : Int32) = nI (n + 1) from nI_1 n]
  exact key N (n + 1) (by omega) (by omega) (by omega) (fun j hj => cnt_mono k (by omega))
theorem kth_M {N k r : Nat} {M : St} (hN : 200000 ≤ N) (hk : k < 1024) (hM : NW k M) (hr : r ≤ 99999) : ∃ z, z ≤ 100000 ∧ (∀ j, j < z → cnt k j ≤ r) ∧ (z ≤ 99999 → r < cnt k z) ∧ fX11_kth_l18 N M (nI r) N (0, 0) = some (if z ≤ 99999 then nI z else -4) := by
  have key : ∀ (K i : Nat), i ≤ 100000 → 100000 - i < K → (∀ j, j < i → cnt k j ≤ r) → ∃ z, z ≤ 100000 ∧ (∀ j, j < z → cnt k j ≤ r) ∧ (z ≤ 99999 → r < cnt k z) ∧ fX11_kth_l18 N M (nI r) K (nI (cb k i), nI i) = some (if z ≤ 99999 then nI z else -4) := by
    intro K
    induction K with
    | zero => intro i _ h; omega
    | succ K ih =>
      intro i h1 h2 h3
      show ∃ z, _ ∧ _ ∧ _ ∧ fX11_kth_b18 N M (nI r) (fX11_kth_l18 N M (nI r) K) (nI (cb k i)) (nI i) = _
      unfold fX11_kth_b18 fX11_kth_j42
      by_cases hz : i ≤ 99999
      · rw [if_neg (show ¬ (99999 : Int32) < nI i from nI_nlt (b := i) (a := 99999) hz (by omega)), canSay_M (by omega) hk hM hz]
        simp only [Option.bind_some]
        have hcb := cb_le k i
        have hci : cnt k i = cb k i + bN (sy k i) := by rw [← cb_s]; rfl
        have hcr : cb k i ≤ r := by
          unfold cb
          split
          · omega
          · exact h3 (i - 1) (by omega)
        have hs2 := cb_s k i
        cases hs : sy k i with
        | false =>
          rw [hs] at hci hs2
          have e : bN false = 0 := rfl
          rw [if_pos (by rfl), show nI i + (1 : Int32) = nI (i + 1) from nI_1 _, show cb k i = cb k (i + 1) by omega]
          refine ih (i + 1) (by omega) (by omega) (fun j hj => ?_)
          rcases Nat.lt_or_ge j i with q | q
          · exact h3 j q
          · rw [show j = i by omega]; omega
        | true =>
          rw [hs] at hci hs2
          have e : bN true = 1 := rfl
          rw [if_neg (by decide)]
          by_cases he : cb k i = r
          · refine ⟨i, h1, h3, fun _ => by omega, ?_⟩
            rw [if_pos (by rw [he]), if_pos hz]
          · rw [if_neg (fun h => he ((nI_eq (by omega) (by omega)).mp h)), show nI i + (1 : Int32) = nI (i + 1) from nI_1 _, show nI (cb k i) + (1 : Int32) = nI (cb k i + 1) from nI_1 _, show cb k i + 1 = cb k (i + 1) by omega]
            refine ih (i + 1) (by omega) (by omega) (fun j hj => ?_)
            rcases Nat.lt_or_ge j i with q | q
            · exact h3 j q
            · rw [show j = i by omega]; omega
      · refine ⟨i, h1, h3, fun h => absurd h hz, ?_⟩
        rw [if_pos (show (99999 : Int32) < nI i from nI_lt (a := 99999) (by omega) (by omega)), if_neg hz]
  have := key N 0 (by omega) (by omega) (fun j h => by omega)
  exact this
/-- the two characterisations name one number -/
theorem rk_one {k r a b : Nat} (ha : a ≤ 100000) (hb : b ≤ 100000) (a1 : ∀ j, j < a → cnt k j ≤ r) (a2 : a ≤ 99999 → r < cnt k a) (b1 : ∀ j, j < b → cnt k j ≤ r) (b2 : b ≤ 99999 → r < cnt k b) : a = b := by
  rcases Nat.lt_trichotomy a b with h | h | h
  · have := b1 a h; have := a2 (by omega); omega
  · exact h
  · have := a1 b h; have := b2 (by omega); omega
