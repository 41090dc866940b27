/-! ===== coins: change, never, pays ===== -/
/-- a row of 201 numbers laid over what stood there -/
def cwN (r : Nat → Int32) (F : Nat → Nat) : Nat → Int32 := fun x => if x ≤ 200 then nI (F x) else r x
def uN (F : Nat → Nat) (x v : Nat) : Nat → Nat := fun y => if y = x then v else F y
theorem cw_u {r : Nat → Int32} {F : Nat → Nat} {x v : Nat} (hx : x ≤ 200) : upd (cwN r F) x (nI v) = cwN r (uN F x v) := by
  funext y
  by_cases h : y = x
  · subst h
    rw [upd_s]
    show nI v = if y ≤ 200 then nI (if y = y then v else F y) else r y
    rw [if_pos hx, if_pos rfl]
  · rw [upd_n _ _ h]
    show (if y ≤ 200 then nI (F y) else r y) = if y ≤ 200 then nI (if y = x then v else F y) else r y
    rw [if_neg h]
theorem cw_at {r : Nat → Int32} {F : Nat → Nat} {x : Nat} (hx : x ≤ 200) : cwN r F x = nI (F x) := if_pos hx
/-- the start row: a at 0, b from 1 up to below i, else what stood -/
def s0N (a b : Nat) : Nat → Nat := fun x => if x = 0 then a else b
theorem startWith_X {N a b : Nat} {S : St} (hN : 300 ≤ N) : fX8_startWith N S (nI a) (nI b) = some (va_up S 0 (cwN (S 0) (s0N a b))) := by
  unfold fX8_startWith fX8_startWith_l9
  have key := lpN_ix (body := fun g q => fX8_startWith_b9 N (nI a) (nI b) g q.1 q.2) (enc := fun i : Nat => (nI i, va_up S 0 (fun x => if x < i then nI (s0N a b x) else S 0 x))) (I := fun i => 1 ≤ i ∧ i ≤ 201) (μ := fun i => 201 - i) (f := fun _ => some (va_up S 0 (cwN (S 0) (s0N a b)))) ?_ N 1 ⟨by omega, by omega⟩ (by omega)
  · have e : sti S 0 0 (nI a) = va_up S 0 (fun x => if x < 1 then nI (s0N a b x) else S 0 x) := by
      show va_up S 0 (upd (S 0) 0 (nI a)) = _
      congr 1
      funext x
      by_cases h : x = 0
      · subst h; rw [upd_s]; rfl
      · rw [upd_n _ _ h, if_neg (by omega)]
    rw [e]
    exact key
  rintro g i ⟨h1, h2⟩ ih
  dsimp only at ih ⊢
  unfold fX8_startWith_b9
  by_cases h : 200 < i
  · rw [if_pos (show (200 : Int32) < nI i from nI_lt (a := 200) h (by omega))]
    congr 2
    funext x
    show (if x < i then nI (s0N a b x) else S 0 x) = if x ≤ 200 then nI (s0N a b x) else S 0 x
    by_cases hx : x ≤ 200
    · rw [if_pos hx, if_pos (by omega)]
    · rw [if_neg hx, if_neg (by omega)]
  · rw [if_neg (show ¬ (200 : Int32) < nI i from nI_nlt (a := 200) (by omega) (by omega)), if_pos (in_nI (by omega) (by omega)), nI_clamp (by omega), show nI i + (1 : Int32) = nI (i + 1) from nI_1 i, sti_up]
    have e : upd (fun x => if x < i then nI (s0N a b x) else S 0 x) i (nI b) = fun x => if x < i + 1 then nI (s0N a b x) else S 0 x := by
      funext x
      by_cases hx : x = i
      · subst hx
        rw [upd_s, if_pos (by omega)]
        unfold s0N
        rw [if_neg (by omega)]
      · rw [upd_n _ _ hx]
        by_cases hx2 : x < i
        · rw [if_pos hx2, if_pos (by omega)]
        · rw [if_neg hx2, if_neg (by omega)]
    rw [e]
    exact ih (i + 1) ⟨by omega, by omega⟩ (by omega)
/-- the fewest: 201 where it cannot be made -/
def FI (F : Nat → Nat) : Prop := ∀ x, x ≤ 200 → F x ≤ x ∨ F x = 201
def sfN (c : Nat) (F : Nat → Nat) (x : Nat) : Nat → Nat := uN F x (if F (x - c) + 1 < F x then F (x - c) + 1 else F x)
def ifN (c : Nat) : Nat → Nat → (Nat → Nat) → Nat → Nat
  | 0, _, F => F
  | m + 1, x, F => ifN c m (x + 1) (sfN c F x)
def ofN (k : Nat) (C : Nat → Nat) : Nat → Nat → (Nat → Nat) → Nat → Nat
  | 0, _, F => F
  | m + 1, j, F => ofN k C m (j + 1) (if sy k (C j) then ifN (C j) (201 - C j) (C j) F else F)
theorem FI.sf {c x : Nat} {F : Nat → Nat} (h : FI F) (hc : 1 ≤ c) (hcx : c ≤ x) (hx : x ≤ 200) : FI (sfN c F x) := by
  intro y hy
  show (if y = x then _ else F y) ≤ y ∨ (if y = x then _ else F y) = 201
  by_cases e : y = x
  · rw [if_pos e]
    have h1 := h (x - c) (by omega)
    have h2 := h x hx
    split <;> omega
  · rw [if_neg e]; exact h y hy
theorem FI.if {c : Nat} (hc : 1 ≤ c) : ∀ (m x : Nat) (F : Nat → Nat), c ≤ x → x + m ≤ 201 → FI F → FI (ifN c m x F)
  | 0, _, _, _, _, h => h
  | m + 1, x, F, h1, h2, h => FI.if hc m (x + 1) (sfN c F x) (by omega) (by omega) (h.sf hc h1 (by omega))
theorem FI.of {k : Nat} {C : Nat → Nat} : ∀ (m j : Nat) (F : Nat → Nat), (∀ i, j ≤ i → i < j + m → 1 ≤ C i ∧ C i ≤ 99) → FI F → FI (ofN k C m j F)
  | 0, _, _, _, h => h
  | m + 1, j, F, hC, h => by
    refine FI.of m (j + 1) _ (fun i h1 h2 => hC i (by omega) (by omega)) ?_
    have := hC j (by omega) (by omega)
    cases sy k (C j) with
    | true => exact FI.if this.1 _ _ _ (by omega) (by omega) h
    | false => exact h
theorem FI.s0 : FI (s0N 0 201) := by
  intro x hx
  unfold s0N
  split <;> omega
theorem few_inner {N c : Nat} {S T : St} {p2 x3 : Int32} {g10 : Int32 × St → Option St} {r : Nat → Int32} {F : Nat → Nat} (hN : 300 ≤ N) (hc : 1 ≤ c) (hc9 : c ≤ 99) (hF : FI F) : fX8_countFewest_l39 N T p2 g10 N (x3, nI c, nI c, va_up S 0 (cwN r F)) = fX8_countFewest_j82 N T p2 g10 x3 (va_up S 0 (cwN r (ifN c (201 - c) c F))) := by
  unfold fX8_countFewest_l39
  have key := lpN_ix (body := fun g q => fX8_countFewest_b39 N T p2 g10 g q.1 q.2.1 q.2.2.1 q.2.2.2) (enc := fun i : Nat × (Nat → Nat) => (x3, nI c, nI (201 - i.1), va_up S 0 (cwN r i.2))) (I := fun i => i.1 ≤ 201 - c ∧ FI i.2) (μ := fun i => i.1) (f := fun i => fX8_countFewest_j82 N T p2 g10 x3 (va_up S 0 (cwN r (ifN c i.1 (201 - i.1) i.2)))) ?_ N (201 - c, F) ⟨Nat.le_refl _, hF⟩ (by show 201 - c < N; omega)
  · dsimp only at key
    rw [show 201 - (201 - c) = c by omega] at key
    exact key
  rintro g ⟨m, G⟩ ⟨hm, hG⟩ ih
  dsimp only at hm hG ih ⊢
  unfold fX8_countFewest_b39
  cases m with
  | zero => rw [if_pos (by decide)]; rfl
  | succ m =>
    have hx : 201 - (m + 1) ≤ 200 := by omega
    have e1 : (va_up S 0 (cwN r G)) 0 (201 - (m + 1)) = nI (G (201 - (m + 1))) := cw_at hx
    have e2 : (va_up S 0 (cwN r G)) 0 (201 - (m + 1) - c) = nI (G (201 - (m + 1) - c)) := cw_at (by omega)
    have b1 := hG (201 - (m + 1)) (by omega)
    have b2 := hG (201 - (m + 1) - c) (by omega)
    have hq : ¬ (nI (201 - (m + 1)) < 0 ∨ 201 ≤ 201 - (m + 1)) := by
      have := in_nI (n := 201 - (m + 1)) (N := 201) (by omega) (by omega)
      rwa [nI_clamp (by omega)] at this
    rw [if_neg (show ¬ (200 : Int32) < nI (201 - (m + 1)) from nI_nlt (a := 200) (by omega) (by omega)), pk_sub (by omega)]
    simp only [nI_clamp (show 201 - (m + 1) < 2 ^ 31 by omega)]
    rw [if_pos hq, if_pos (in_nI (by omega) (by omega)), if_pos hq, nI_clamp (by omega), e1, e2, show nI (G (201 - (m + 1) - c)) + (1 : Int32) = nI (G (201 - (m + 1) - c) + 1) from nI_1 _, show nI (201 - (m + 1)) + (1 : Int32) = nI (201 - (m + 1) + 1) from nI_1 _, sti_up]
    have e3 : (if nI (G (201 - (m + 1) - c) + 1) < nI (G (201 - (m + 1))) then nI (G (201 - (m + 1) - c) + 1) else nI (G (201 - (m + 1)))) = nI (if G (201 - (m + 1) - c) + 1 < G (201 - (m + 1)) then G (201 - (m + 1) - c) + 1 else G (201 - (m + 1))) := by
      by_cases h : G (201 - (m + 1) - c) + 1 < G (201 - (m + 1))
      · rw [if_pos (nI_lt h (by omega)), if_pos h]
      · rw [if_neg (nI_nlt (by omega) (by omega)), if_neg h]
    rw [e3, cw_u hx, show 201 - (m + 1) + 1 = 201 - m by omega]
    refine (ih (m, sfN c G (201 - (m + 1))) ⟨by show m ≤ 201 - c; omega, hG.sf hc (by omega) hx⟩ (by show m < m + 1; omega)).trans ?_
    show fX8_countFewest_j82 N T p2 g10 x3 (va_up S 0 (cwN r (ifN c m (201 - m) (sfN c G (201 - (m + 1)))))) = fX8_countFewest_j82 N T p2 g10 x3 (va_up S 0 (cwN r (ifN c m (201 - (m + 1) + 1) (sfN c G (201 - (m + 1))))))
    rw [show 201 - (m + 1) + 1 = 201 - m by omega]
theorem few_X {N k n : Nat} {S T : St} {C : Nat → Nat} (hN : 300 ≤ N) (hk : k < 1024) (hn : n ≤ 6) (e : T 0 0 = nI n) (hC : ∀ j, j < n → 1 ≤ C j ∧ C j ≤ 99 ∧ T 4 j = nI (C j)) : fX8_countFewest N S T (nI k) = some (va_up S 0 (cwN (S 0) (ofN k C n 0 (s0N 0 201)))) := by
  unfold fX8_countFewest
  rw [show (0 : Int32) = nI 0 from rfl, show (201 : Int32) = nI 201 from rfl, startWith_X hN]
  simp only [Option.bind_some]
  unfold fX8_countFewest_l10
  have key := lpN_ix (body := fun g q => fX8_countFewest_b10 N T (nI k) g q.1 q.2) (enc := fun i : Nat × (Nat → Nat) => (nI (n - i.1), va_up S 0 (cwN (S 0) i.2))) (I := fun i => i.1 ≤ n ∧ FI i.2) (μ := fun i => i.1) (f := fun i => some (va_up S 0 (cwN (S 0) (ofN k C i.1 (n - i.1) i.2)))) ?_ N (n, s0N 0 201) ⟨Nat.le_refl _, FI.s0⟩ (by show n < N; omega)
  · simp only [Nat.sub_self] at key
    exact key
  rintro g ⟨m, G⟩ ⟨hm, hG⟩ ih
  dsimp only at hm hG ih ⊢
  unfold fX8_countFewest_b10
  rw [e]
  cases m with
  | zero => rw [if_pos (nI_le (by omega) (by omega))]; rfl
  | succ m =>
    obtain ⟨c1, c2, c3⟩ := hC (n - (m + 1)) (by omega)
    rw [if_neg (nI_ge (by omega) (by omega)), if_pos (in_nI (by omega) (by omega)), nI_clamp (by omega), c3, canSay_X (by omega) hk (by omega)]
    simp only [Option.bind_some]
    have st : ∀ G', FI G' → fX8_countFewest_j82 N T (nI k) g (nI (n - (m + 1))) (va_up S 0 (cwN (S 0) G')) = some (va_up S 0 (cwN (S 0) (ofN k C m (n - m) G'))) := by
      intro G' hG'
      unfold fX8_countFewest_j82
      rw [show nI (n - (m + 1)) + (1 : Int32) = nI (n - (m + 1) + 1) from nI_1 _, show n - (m + 1) + 1 = n - m by omega]
      exact ih (m, G') ⟨by show m ≤ n; omega, hG'⟩ (by show m < m + 1; omega)
    show _ = some (va_up S 0 (cwN (S 0) (ofN k C m (n - (m + 1) + 1) (if sy k (C (n - (m + 1))) then ifN (C (n - (m + 1))) (201 - C (n - (m + 1))) (C (n - (m + 1))) G else G))))
    rw [show n - (m + 1) + 1 = n - m by omega]
    cases sy k (C (n - (m + 1))) with
    | false => rw [if_pos (by rfl), st _ hG]; rfl
    | true => rw [if_neg (by decide), few_inner hN c1 c2 hG, st _ (FI.if c1 _ _ _ (by omega) (by omega) hG)]; rfl
def swN (c : Nat) (F : Nat → Nat) (x : Nat) : Nat → Nat := uN F x (F x + F (x - c))
def iwN (c : Nat) : Nat → Nat → (Nat → Nat) → Nat → Nat
  | 0, _, F => F
  | m + 1, x, F => iwN c m (x + 1) (swN c F x)
def owN (k : Nat) (C : Nat → Nat) : Nat → Nat → (Nat → Nat) → Nat → Nat
  | 0, _, F => F
  | m + 1, j, F => owN k C m (j + 1) (if sy k (C j) then iwN (C j) (201 - C j) (C j) F else F)
theorem way_inner {N c : Nat} {S T : St} {p2 x3 : Int32} {g8 : Int32 × St → Option St} {r : Nat → Int32} {F : Nat → Nat} (hN : 300 ≤ N) (hc : 1 ≤ c) (hc9 : c ≤ 99) : fX8_countWays_l37 N T p2 g8 N (x3, nI c, nI c, va_up S 0 (cwN r F)) = fX8_countWays_j71 N T p2 g8 x3 (va_up S 0 (cwN r (iwN c (201 - c) c F))) := by
  unfold fX8_countWays_l37
  have key := lpN_ix (body := fun g q => fX8_countWays_b37 N T p2 g8 g q.1 q.2.1 q.2.2.1 q.2.2.2) (enc := fun i : Nat × (Nat → Nat) => (x3, nI c, nI (201 - i.1), va_up S 0 (cwN r i.2))) (I := fun i => i.1 ≤ 201 - c) (μ := fun i => i.1) (f := fun i => fX8_countWays_j71 N T p2 g8 x3 (va_up S 0 (cwN r (iwN c i.1 (201 - i.1) i.2)))) ?_ N (201 - c, F) (Nat.le_refl _) (by show 201 - c < N; omega)
  · dsimp only at key
    rw [show 201 - (201 - c) = c by omega] at key
    exact key
  rintro g ⟨m, G⟩ hm ih
  dsimp only at hm ih ⊢
  unfold fX8_countWays_b37
  cases m with
  | zero => rw [if_pos (by decide)]; rfl
  | succ m =>
    have hx : 201 - (m + 1) ≤ 200 := by omega
    have e1 : (va_up S 0 (cwN r G)) 0 (201 - (m + 1)) = nI (G (201 - (m + 1))) := cw_at hx
    have e2 : (va_up S 0 (cwN r G)) 0 (201 - (m + 1) - c) = nI (G (201 - (m + 1) - c)) := cw_at (by omega)
    have hq : ¬ (nI (201 - (m + 1)) < 0 ∨ 201 ≤ 201 - (m + 1)) := by
      have := in_nI (n := 201 - (m + 1)) (N := 201) (by omega) (by omega)
      rwa [nI_clamp (by omega)] at this
    rw [if_neg (show ¬ (200 : Int32) < nI (201 - (m + 1)) from nI_nlt (a := 200) (by omega) (by omega)), pk_sub (by omega)]
    simp only [nI_clamp (show 201 - (m + 1) < 2 ^ 31 by omega)]
    rw [if_pos hq, if_pos (in_nI (by omega) (by omega)), if_pos hq, nI_clamp (by omega), e1, e2, nI_add, show nI (201 - (m + 1)) + (1 : Int32) = nI (201 - (m + 1) + 1) from nI_1 _, sti_up, cw_u hx, show 201 - (m + 1) + 1 = 201 - m by omega]
    refine (ih (m, swN c G (201 - (m + 1))) (by show m ≤ 201 - c; omega) (by show m < m + 1; omega)).trans ?_
    show fX8_countWays_j71 N T p2 g8 x3 (va_up S 0 (cwN r (iwN c m (201 - m) (swN c G (201 - (m + 1)))))) = fX8_countWays_j71 N T p2 g8 x3 (va_up S 0 (cwN r (iwN c m (201 - (m + 1) + 1) (swN c G (201 - (m + 1))))))
    rw [show 201 - (m + 1) + 1 = 201 - m by omega]
theorem way_X {N k n : Nat} {S T : St} {C : Nat → Nat} (hN : 300 ≤ N) (hk : k < 1024) (hn : n ≤ 6) (e : T 0 0 = nI n) (hC : ∀ j, j < n → 1 ≤ C j ∧ C j ≤ 99 ∧ T 4 j = nI (C j)) : fX8_countWays N S T (nI k) = some (va_up S 0 (cwN (S 0) (owN k C n 0 (s0N 1 0)))) := by
  unfold fX8_countWays
  rw [show (1 : Int32) = nI 1 from rfl, show (0 : Int32) = nI 0 from rfl, startWith_X hN]
  simp only [Option.bind_some]
  unfold fX8_countWays_l8
  have key := lpN_ix (body := fun g q => fX8_countWays_b8 N T (nI k) g q.1 q.2) (enc := fun i : Nat × (Nat → Nat) => (nI (n - i.1), va_up S 0 (cwN (S 0) i.2))) (I := fun i => i.1 ≤ n) (μ := fun i => i.1) (f := fun i => some (va_up S 0 (cwN (S 0) (owN k C i.1 (n - i.1) i.2)))) ?_ N (n, s0N 1 0) (Nat.le_refl _) (by show n < N; omega)
  · simp only [Nat.sub_self] at key
    exact key
  rintro g ⟨m, G⟩ hm ih
  dsimp only at hm ih ⊢
  unfold fX8_countWays_b8
  rw [e]
  cases m with
  | zero => rw [if_pos (nI_le (by omega) (by omega))]; rfl
  | succ m =>
    obtain ⟨c1, c2, c3⟩ := hC (n - (m + 1)) (by omega)
    rw [if_neg (nI_ge (by omega) (by omega)), if_pos (in_nI (by omega) (by omega)), nI_clamp (by omega), c3, canSay_X (by omega) hk (by omega)]
    simp only [Option.bind_some]
    have st : ∀ G', fX8_countWays_j71 N T (nI k) g (nI (n - (m + 1))) (va_up S 0 (cwN (S 0) G')) = some (va_up S 0 (cwN (S 0) (owN k C m (n - m) G'))) := by
      intro G'
      unfold fX8_countWays_j71
      rw [show nI (n - (m + 1)) + (1 : Int32) = nI (n - (m + 1) + 1) from nI_1 _, show n - (m + 1) + 1 = n - m by omega]
      exact ih (m, G') (by show m ≤ n; omega) (by show m < m + 1; omega)
    show _ = some (va_up S 0 (cwN (S 0) (owN k C m (n - (m + 1) + 1) (if sy k (C (n - (m + 1))) then iwN (C (n - (m + 1))) (201 - C (n - (m + 1))) (C (n - (m + 1))) G else G))))
    rw [show n - (m + 1) + 1 = n - m by omega]
    cases sy k (C (n - (m + 1))) with
    | false => rw [if_pos (by rfl), st]; rfl
    | true => rw [if_neg (by decide), way_inner hN c1 c2, st]; rfl
