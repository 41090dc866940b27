/-! ===== works ===== -/
def hdN (k : Nat) (σ : Nat → Nat) (d : Nat) : Nat := if bi k d = 1 then σ d else d
def hxN (h : Nat → Nat) : Nat → Nat → Nat → Bool
  | 0, _, _ => true
  | m + 1, a, b => decide (h (a % 10) = b % 10) && hxN h m (a / 10) (b / 10)
def haN (h A B : Nat → Nat) : Nat → Nat → Bool
  | 0, _ => true
  | m + 1, j => hxN h (lnN (A j)) (A j) (B j) && haN h A B m (j + 1)
theorem hxN_s (h : Nat → Nat) (m a b : Nat) : hxN h (m + 1) a b = (decide (h (a % 10) = b % 10) && hxN h m (a / 10) (b / 10)) := rfl
theorem haN_s (h A B : Nat → Nat) (m j : Nat) : haN h A B (m + 1) j = (hxN h (lnN (A j)) (A j) (B j) && haN h A B m (j + 1)) := rfl
def clr (k f : Nat) : Nat := if bi k f = 1 then k ^^^ 2 ^ f else k
theorem clr_lt {k f : Nat} (hk : k < 1024) (hf : f < 10) : clr k f < 1024 := by
  unfold clr; split
  · exact xor_lt hk hf
  · exact hk
theorem bi_clr {k f g : Nat} : bi (clr k f) g = if g = f then 0 else bi k g := by
  unfold clr
  have := bi_le k f
  by_cases h : bi k f = 1
  · rw [if_pos h, bi_xor, h]
  · rw [if_neg h]
    by_cases h2 : g = f
    · rw [if_pos h2, h2]; omega
    · rw [if_neg h2]
theorem clr_X : ∀ k, k < 1024 → ∀ f, f < 10 → nI k &&& (((1 : Int32) <<< (nI f &&& 31)) ^^^ (-1 : Int32)) = nI (clr k f) := by decide +kernel
theorem hd_lt {k : Nat} {σ : Nat → Nat} (hσ : ∀ f, f < 10 → σ f < 10) {d : Nat} (hd : d < 10) : hdN k σ d < 10 := by
  unfold hdN; split
  · exact hσ d hd
  · exact hd
theorem FR.sig {k : Nat} {si row : Nat → Int32} (h : FR k si row) : ∃ σ : Nat → Nat, ∀ f, f < 10 → σ f < 10 ∧ si f = nI (σ f) ∧ row (10 + f) = nI (σ f) := by
  refine ⟨fun f => (row (10 + f)).toNatClampNeg, fun f hf => ?_⟩
  obtain ⟨-, h2, g, hg, h3⟩ := h.2 f hf
  dsimp only
  rw [h2, h3, nI_clamp (by omega)]
  exact ⟨hg, rfl, rfl⟩
theorem heardAs_X {N k d : Nat} {T : St} {σ : Nat → Nat} (hk : k < 1024) (hd : d < 10) (hs : ∀ f, f < 10 → T 0 f = nI (σ f)) : fX0_heardAs N T (nI d) (nI k) = some (nI (hdN k σ d)) := by
  unfold fX0_heardAs hdN
  rw [bit_X hk hd]
  have := bi_le k d
  by_cases h : bi k d = 1
  · rw [if_pos (by rw [h]; rfl), if_pos h, if_pos (in_nI (by omega) (by omega)), nI_clamp (by omega), hs d hd]
  · rw [if_neg (show ¬ nI (bi k d) = (1 : Int32) from fun h2 => h ((nI_eq (b := 1) (by omega) (by omega)).mp h2)), if_neg h]
theorem isHeardAs_X {N k a b : Nat} {T : St} {σ : Nat → Nat} (hN : 10 ≤ N) (hk : k < 1024) (ha : a ≤ 9999) (hb : b ≤ 9999) (hσ : ∀ f, f < 10 → σ f < 10) (hs : ∀ f, f < 10 → T 0 f = nI (σ f)) : fX2_isHeardAs N T (nI a) (nI b) (nI k) = some (nI (bN (hxN (hdN k σ) (lnN a) a b))) := by
  unfold fX2_isHeardAs
  have hl := ln_pow (n := a) (by omega)
  rw [len_X (by omega)]
  simp only [Option.bind_some]
  unfold fX2_isHeardAs_l15
  have key := lpN_ix (body := fun g q => fX2_isHeardAs_b15 N T (nI a) (nI b) (nI k) g q.1 q.2.1 q.2.2.1 q.2.2.2) (enc := fun i : Nat × Nat × Nat => (nI (lnN a), nI i.1, nI i.2.1, nI (lnN a - i.2.2))) (I := fun i => i.1 ≤ 9999 ∧ i.2.1 ≤ 9999 ∧ i.2.2 ≤ lnN a) (μ := fun i => i.2.2) (f := fun i => some (nI (bN (hxN (hdN k σ) i.2.2 i.1 i.2.1)))) ?_ N (a, b, lnN a) ⟨ha, hb, Nat.le_refl _⟩ (by show lnN a < N; omega)
  · simp only [Nat.sub_self] at key
    exact key
  rintro g ⟨x, y, m⟩ ⟨hx, hy, hm⟩ ih
  dsimp only at hx hy hm ih ⊢
  unfold fX2_isHeardAs_b15
  cases m with
  | zero =>
    rw [if_pos (nI_le (by omega) (by omega))]; rfl
  | succ m =>
    rw [if_neg (nI_ge (by omega) (by omega)), show (10 : Int32) = nI 10 from rfl, pk_rem (by omega) (by omega) (by omega), pk_rem (by omega) (by omega) (by omega), pk_div (by omega) (by omega) (by omega), pk_div (by omega) (by omega) (by omega), heardAs_X hk (by omega) hs]
    simp only [Option.bind_some]
    have hh := hd_lt (k := k) hσ (show x % 10 < 10 by omega)
    by_cases h : hdN k σ (x % 10) = y % 10
    · rw [if_pos (by rw [h]), show nI (lnN a - (m + 1)) + (1 : Int32) = nI (lnN a - (m + 1) + 1) from nI_1 _, show lnN a - (m + 1) + 1 = lnN a - m by omega]
      have := ih (x / 10, y / 10, m) ⟨by show x / 10 ≤ 9999; omega, by show y / 10 ≤ 9999; omega, by show m ≤ lnN a; omega⟩ (by show m < m + 1; omega)
      refine this.trans ?_
      rw [hxN_s, decide_eq_true h, Bool.true_and]
    · rw [if_neg (fun h2 => h ((nI_eq (by omega) (by omega)).mp h2))]
      rw [hxN_s, decide_eq_false h]; rfl
theorem isSo_X {N k d : Nat} {S T : St} {σ A B : Nat → Nat} (hN : 10 ≤ N) (hk : k < 1024) (hd : d ≤ 8) (e : S 0 0 = nI d) (hA : ∀ j, j < d → A j ≤ 9999 ∧ B j ≤ 9999 ∧ S 1 j = nI (A j) ∧ S 2 j = nI (B j)) (hσ : ∀ f, f < 10 → σ f < 10) (hs : ∀ f, f < 10 → T 0 f = nI (σ f)) : fX2_isSo N S T (nI k) = some (nI (bN (haN (hdN k σ) A B d 0))) := by
  unfold fX2_isSo fX2_isSo_l2
  have key := lpN_ix (body := fun g q => fX2_isSo_b2 N S T (nI k) g q) (enc := fun m : Nat => nI (d - m)) (I := fun m => m ≤ d) (μ := fun m => m) (f := fun m => some (nI (bN (haN (hdN k σ) A B m (d - m))))) ?_ N d (Nat.le_refl _) (by omega)
  · simp only [Nat.sub_self] at key
    exact key
  intro g m hm ih
  unfold fX2_isSo_b2
  rw [e]
  cases m with
  | zero => rw [if_pos (nI_le (by omega) (by omega))]; rfl
  | succ m =>
    obtain ⟨h1, h2, h3, h4⟩ := hA (d - (m + 1)) (by omega)
    rw [if_neg (nI_ge (by omega) (by omega)), if_pos (in_nI (by omega) (by omega)), if_pos (in_nI (by omega) (by omega)), nI_clamp (by omega), h3, h4, isHeardAs_X hN hk h1 h2 hσ hs]
    simp only [Option.bind_some]
    rw [haN_s]
    cases hq : hxN (hdN k σ) (lnN (A (d - (m + 1)))) (A (d - (m + 1))) (B (d - (m + 1))) with
    | false => rw [if_pos (by rfl)]; rfl
    | true =>
      rw [if_neg (by decide), show nI (d - (m + 1)) + (1 : Int32) = nI (d - (m + 1) + 1) from nI_1 _, show d - (m + 1) + 1 = d - m by omega, ih m (by omega) (by omega)]; rfl
theorem isHeard_M {N k d : Nat} {M : St} {σ A B : Nat → Nat} (hN : 100000 ≤ N) (hd : d ≤ 8) (e : M 14 0 = nI d) (hA : ∀ j, j < d → A j ≤ 9999 ∧ B j ≤ 9999 ∧ M 15 j = nI (A j) ∧ M 16 j = nI (B j)) (hσ : ∀ f, f < 10 → σ f < 10) (hw : ∀ f, f < 10 → M 9 f = nI (bi k f)) (hs : ∀ f, f < 10 → M 9 (10 + f) = nI (σ f)) : fX11_isHeard N M = some (nI (bN (haN (hdN k σ) A B d 0))) := by
  unfold fX11_isHeard fX11_isHeard_l4
  have key := lpN_ix (body := fun g q => fX11_isHeard_b4 N M g q.1 q.2) (enc := fun i : Bool × Nat => (nI (bN i.1), nI (d - i.2))) (I := fun i => i.2 ≤ d) (μ := fun i => i.2) (f := fun i => some (nI (bN (i.1 && haN (hdN k σ) A B i.2 (d - i.2))))) ?_ N (true, d) (Nat.le_refl _) (by show d < N; omega)
  · simp only [Nat.sub_self] at key
    exact key
  rintro g4 ⟨q, m⟩ hm ih
  dsimp only at hm ih ⊢
  unfold fX11_isHeard_b4
  rw [e]
  cases m with
  | zero =>
    rw [if_pos (nI_le (by omega) (by omega))]
    cases q with
    | false => rw [if_pos (Or.inl (by rfl))]; rfl
    | true => rw [if_pos (Or.inr (by rfl))]; rfl
  | succ m =>
    obtain ⟨h1, h2, h3, h4⟩ := hA (d - (m + 1)) (by omega)
    rw [if_neg (nI_ge (by omega) (by omega)), if_pos (in_nI (by omega) (by omega)), if_pos (in_nI (by omega) (by omega)), nI_clamp (by omega), h3, h4, letters_M (by omega) (by omega)]
    simp only [Option.bind_some]
    have hl := ln_pow (n := A (d - (m + 1))) (by omega)
    have inn : fX11_isHeard_l36 N M g4 N (nI (bN q), nI (d - (m + 1)), nI (A (d - (m + 1))), nI (B (d - (m + 1))), nI (lnN (A (d - (m + 1)))), 0) = fX11_isHeard_j111 N M g4 (nI (bN (q && hxN (hdN k σ) (lnN (A (d - (m + 1)))) (A (d - (m + 1))) (B (d - (m + 1)))))) (nI (d - (m + 1))) := by
      generalize hLL : lnN (A (d - (m + 1))) = L at hl ⊢
      generalize A (d - (m + 1)) = a at h1 ⊢
      generalize B (d - (m + 1)) = b at h2 ⊢
      unfold fX11_isHeard_l36
      have key := lpN_ix (body := fun g q => fX11_isHeard_b36 N M g4 g q.1 q.2.1 q.2.2.1 q.2.2.2.1 q.2.2.2.2.1 q.2.2.2.2.2) (enc := fun i : Bool × Nat × Nat × Nat => (nI (bN i.1), nI (d - (m + 1)), nI i.2.1, nI i.2.2.1, nI L, nI (L - i.2.2.2))) (I := fun i => i.2.1 ≤ 9999 ∧ i.2.2.1 ≤ 9999 ∧ i.2.2.2 ≤ L) (μ := fun i => i.2.2.2) (f := fun i => fX11_isHeard_j111 N M g4 (nI (bN (i.1 && hxN (hdN k σ) i.2.2.2 i.2.1 i.2.2.1))) (nI (d - (m + 1)))) ?_ N (q, a, b, L) ⟨h1, h2, Nat.le_refl _⟩ (by show L < N; omega)
      · simp only [Nat.sub_self] at key
        exact key
      rintro g ⟨q, x, y, n⟩ ⟨hx, hy, hn⟩ ih
      dsimp only at hx hy hn ih ⊢
      unfold fX11_isHeard_b36
      cases n with
      | zero => rw [if_pos (nI_le (by omega) (by omega))]; unfold hxN; rw [Bool.and_true]
      | succ n =>
        have step : ∀ r : Bool, fX11_isHeard_j92 N M g4 g (nI (d - (m + 1))) (nI x) (nI y) (nI L) (nI (L - (n + 1))) (nI (bN r)) = fX11_isHeard_j111 N M g4 (nI (bN (r && hxN (hdN k σ) n (x / 10) (y / 10)))) (nI (d - (m + 1))) := by
          intro r
          unfold fX11_isHeard_j92
          rw [show (10 : Int32) = nI 10 from rfl, pk_div (by omega) (by omega) (by omega), pk_div (by omega) (by omega) (by omega), show nI (L - (n + 1)) + (1 : Int32) = nI (L - (n + 1) + 1) from nI_1 _, show L - (n + 1) + 1 = L - n by omega]
          exact ih (r, x / 10, y / 10, n) ⟨by show x / 10 ≤ 9999; omega, by show y / 10 ≤ 9999; omega, by show n ≤ L; omega⟩ (by show n < n + 1; omega)
        have st0 : fX11_isHeard_j91 N M g4 g (nI (d - (m + 1))) (nI x) (nI y) (nI L) (nI (L - (n + 1))) = fX11_isHeard_j111 N M g4 (nI (bN (false && hxN (hdN k σ) n (x / 10) (y / 10)))) (nI (d - (m + 1))) := step false
        rw [if_neg (nI_ge (by omega) (by omega)), show (10 : Int32) = nI 10 from rfl, pk_rem (by omega) (by omega) (by omega)]
        unfold nm
        dsimp only
        have hh := hd_lt (k := k) hσ (show x % 10 < 10 by omega)
        have h79 : fX11_isHeard_j79 N M g4 g (nI (d - (m + 1))) (nI x) (nI y) (nI L) (nI (L - (n + 1))) (nI (hdN k σ (x % 10))) = fX11_isHeard_j111 N M g4 (nI (bN (hxN (hdN k σ) (n + 1) x y))) (nI (d - (m + 1))) := by
          unfold fX11_isHeard_j79
          rw [show (10 : Int32) = nI 10 from rfl, pk_rem (by omega) (by omega) (by omega)]
          rw [hxN_s]
          by_cases h : hdN k σ (x % 10) = y % 10
          · rw [if_pos (by rw [h]), decide_eq_true h]; exact step true
          · rw [if_neg (fun h2 => h ((nI_eq (by omega) (by omega)).mp h2)), decide_eq_false h]; exact st0
        cases q with
        | false => rw [if_pos (by rfl), st0]; rfl
        | true =>
          rw [if_neg (by decide), if_pos (in_nI (by omega) (by omega)), nI_clamp (by omega), hw _ (by omega), nI_add, if_pos (in_nI (by omega) (by omega)), nI_clamp (by omega), hs _ (by omega), Bool.true_and, ← h79]
          have := bi_le k (x % 10)
          unfold hdN
          by_cases h : bi k (x % 10) = 1
          · rw [if_pos (by rw [h]; rfl), if_pos h]
          · rw [if_neg (show ¬ nI (bi k (x % 10)) = (1 : Int32) from fun h2 => h ((nI_eq (b := 1) (by omega) (by omega)).mp h2)), if_neg h]
    rw [inn]
    unfold fX11_isHeard_j111
    rw [show nI (d - (m + 1)) + (1 : Int32) = nI (d - (m + 1) + 1) from nI_1 _, show d - (m + 1) + 1 = d - m by omega]
    refine (ih (_, m) (by show m ≤ d; omega) (by show m < m + 1; omega)).trans ?_
    show some (nI (bN ((q && hxN (hdN k σ) (lnN (A (d - (m + 1)))) (A (d - (m + 1))) (B (d - (m + 1)))) && haN (hdN k σ) A B m (d - m)))) = some (nI (bN (q && haN (hdN k σ) A B (m + 1) (d - (m + 1)))))
    rw [haN_s, Bool.and_assoc, show d - (m + 1) + 1 = d - m by omega]
def wvN (q : Nat → Bool) : Nat → Nat → Int32 → Int32
  | 0, _, x => x
  | m + 1, f, x => wvN q m (f + 1) (if q f then x ||| ((1 : Int32) <<< (nI f &&& 31)) else x)
theorem sti_sti (M : St) (k f : Nat) (v w : Int32) : sti (sti M k f v) k f w = sti M k f w := by
  funext a b
  show (if a = k then upd ((if k = k then upd (M k) f v else M k)) f w else (if a = k then upd (M k) f v else M a)) b = (if a = k then upd (M k) f w else M a) b
  rw [if_pos (show k = k from rfl)]
  by_cases h : a = k
  · rw [if_pos h, if_pos h]
    by_cases h2 : b = f
    · subst h2; rw [upd_s, upd_s]
    · rw [upd_n _ _ h2, upd_n _ _ h2, upd_n _ _ h2]
  · rw [if_neg h, if_neg h, if_neg h]
theorem sti_self (M : St) (k f : Nat) : sti M k f (M k f) = M := by
  funext a b
  show (if a = k then upd (M k) f (M k f) else M a) b = M a b
  by_cases h : a = k
  · subst h
    rw [if_pos rfl]
    by_cases h2 : b = f
    · subst h2; rw [upd_s]
    · rw [upd_n _ _ h2]
  · rw [if_neg h]
theorem sti_back (M : St) (k f : Nat) (v : Int32) : sti (sti M k f v) k f (M k f) = M := by rw [sti_sti, sti_self]
theorem RN.tol {S M : St} (h : RN S M) : ∃ (d : Nat) (A B : Nat → Nat), d ≤ 8 ∧ S 12 0 = nI d ∧ M 14 0 = nI d ∧ (∀ j, j < d → A j ≤ 9999 ∧ B j ≤ 9999 ∧ S 13 j = nI (A j) ∧ S 14 j = nI (B j)) ∧ ∀ j, j < d → A j ≤ 9999 ∧ B j ≤ 9999 ∧ M 15 j = nI (A j) ∧ M 16 j = nI (B j) := by
  obtain ⟨d, hd, e1, e2, hj⟩ := h
  refine ⟨d, fun j => (S 13 j).toNatClampNeg, fun j => (S 14 j).toNatClampNeg, hd, e1, e2, fun j hlt => ?_, fun j hlt => ?_⟩ <;>
  · obtain ⟨a, b, h1, h2, -, h4, h5, h6, h7⟩ := hj j hlt
    dsimp only
    rw [h4, h6, nI_clamp (by omega), nI_clamp (by omega)]
    first
      | exact ⟨h1, h2, rfl, rfl⟩
      | exact ⟨h1, h2, h5, h7⟩
theorem ob_works {N : Nat} (hN : 100000 ≤ N) : OB_works N Rel := by
  intro S M hR
  obtain ⟨k, hk, e2, hF, hw⟩ := hR.fig
  obtain ⟨σ, hσ⟩ := hF.sig
  obtain ⟨d, A, B, hd, d1, d2, hS, hM⟩ := hR.2.2.2.1.tol
  have hσ1 : ∀ f, f < 10 → σ f < 10 := fun f hf => (hσ f hf).1
  have sX : ∀ k', k' < 1024 → fX2_isSo N (sh S 12) (sh S 3) (nI k') = some (nI (bN (haN (hdN k' σ) A B d 0))) := fun k' hk' => isSo_X (by omega) hk' hd d1 hS hσ1 (fun f hf => (hσ f hf).2.1)
  have sM : ∀ f, f < 10 → fX11_isHeard N (sti M 9 f 0) = some (nI (bN (haN (hdN (clr k f) σ) A B d 0))) := by
    intro f hf
    refine isHeard_M hN hd d2 hM hσ1 (fun x hx => ?_) (fun x hx => ?_)
    · show upd (M 9) f 0 x = _
      rw [bi_clr]
      by_cases h : x = f
      · rw [if_pos h, h, upd_s]; rfl
      · rw [if_neg h, upd_n _ _ h]; exact hw x hx
    · show upd (M 9) f 0 (10 + x) = _
      rw [upd_n _ _ (by omega)]
      exact (hσ x hx).2.2
  have s0 : fX11_isHeard N M = some (nI (bN (haN (hdN k σ) A B d 0))) := isHeard_M hN hd d2 hM hσ1 hw (fun x hx => (hσ x hx).2.2)
  have lX : ∀ y : Int32, fX10_works_j31 N S y = some (wvN (fun f => haN (hdN (clr k f) σ) A B d 0) 10 0 y) := by
    intro y
    unfold fX10_works_j31 fX10_works_l34
    have key := lpN_ix (body := fun g q => fX10_works_b34 N S g q.1 q.2) (enc := fun i : Int32 × Nat => (i.1, nI (10 - i.2))) (I := fun i => i.2 ≤ 10) (μ := fun i => i.2) (f := fun i => some (wvN (fun f => haN (hdN (clr k f) σ) A B d 0) i.2 (10 - i.2) i.1)) ?_ N (y, 10) (Nat.le_refl _) (by show 10 < N; omega)
    · simp only [Nat.sub_self] at key
      exact key
    rintro g ⟨x, m⟩ hm ih
    dsimp only at hm ih ⊢
    unfold fX10_works_b34
    cases m with
    | zero => rw [if_pos (by decide)]; rfl
    | succ m =>
      rw [if_neg (show ¬ (10 : Int32) ≤ nI (10 - (m + 1)) from nI_ge (b := 10) (by omega) (by omega)), e2, clr_X k hk _ (by omega), sX _ (clr_lt hk (by omega))]
      simp only [Option.bind_some]
      have st : ∀ z : Int32, fX10_works_j76 N S g z (nI (10 - (m + 1))) = some (wvN (fun f => haN (hdN (clr k f) σ) A B d 0) m (10 - m) z) := by
        intro z
        unfold fX10_works_j76
        rw [show nI (10 - (m + 1)) + (1 : Int32) = nI (10 - (m + 1) + 1) from nI_1 _, show 10 - (m + 1) + 1 = 10 - m by omega]
        exact ih (z, m) (by show m ≤ 10; omega) (by show m < m + 1; omega)
      unfold wvN
      rw [show 10 - (m + 1) + 1 = 10 - m by omega]
      cases hq : haN (hdN (clr k (10 - (m + 1))) σ) A B d 0 with
      | false => rw [if_pos (by rfl), st]; rfl
      | true =>
        rw [if_neg (by decide)]
        unfold nm
        dsimp only
        rw [st]; rfl
  have lM : ∀ y : Int32, fX11_works_j14 N y M = some (wvN (fun f => haN (hdN (clr k f) σ) A B d 0) 10 0 y, M) := by
    intro y
    unfold fX11_works_j14 fX11_works_l17
    have key := lpN_ix (body := fun g q => fX11_works_b17 N g q.1 q.2.1 q.2.2) (enc := fun i : Int32 × Nat => (i.1, nI (10 - i.2), M)) (I := fun i => i.2 ≤ 10) (μ := fun i => i.2) (f := fun i => some (wvN (fun f => haN (hdN (clr k f) σ) A B d 0) i.2 (10 - i.2) i.1, M)) ?_ N (y, 10) (Nat.le_refl _) (by show 10 < N; omega)
    · simp only [Nat.sub_self] at key
      exact key
    rintro g ⟨x, m⟩ hm ih
    dsimp only at hm ih ⊢
    unfold fX11_works_b17
    cases m with
    | zero => rw [if_pos (by decide)]; rfl
    | succ m =>
      rw [if_neg (show ¬ (10 : Int32) ≤ nI (10 - (m + 1)) from nI_ge (b := 10) (by omega) (by omega)), if_pos (in_nI (by omega) (by omega)), if_pos (in_nI (by omega) (by omega)), nI_clamp (by omega), sM _ (by omega)]
      simp only [Option.bind_some]
      have st : ∀ z w : Int32, fX11_works_j52 N g (nI (10 - (m + 1))) (M 9 (10 - (m + 1))) z w (sti M 9 (10 - (m + 1)) 0) = some (wvN (fun f => haN (hdN (clr k f) σ) A B d 0) m (10 - m) (z ||| w), M) := by
        intro z w
        unfold fX11_works_j52
        rw [if_pos (in_nI (by omega) (by omega)), nI_clamp (by omega), sti_back, show nI (10 - (m + 1)) + (1 : Int32) = nI (10 - (m + 1) + 1) from nI_1 _, show 10 - (m + 1) + 1 = 10 - m by omega]
        exact ih (z ||| w, m) (by show m ≤ 10; omega) (by show m < m + 1; omega)
      unfold wvN
      rw [show 10 - (m + 1) + 1 = 10 - m by omega]
      cases hq : haN (hdN (clr k (10 - (m + 1))) σ) A B d 0 with
      | false => rw [if_pos (by rfl), st, Int32.or_zero]; rfl
      | true => rw [if_neg (by decide), st]; rfl
  refine ⟨wvN (fun f => haN (hdN (clr k f) σ) A B d 0) 10 0 (if haN (hdN k σ) A B d 0 then 1024 else 0), M, ?_, ?_, hR⟩
  · unfold fX10_works
    rw [e2, sX k hk]
    simp only [Option.bind_some]
    cases haN (hdN k σ) A B d 0 with
    | false => rw [if_pos (by rfl), lX]; rfl
    | true => rw [if_neg (by decide), lX]; rfl
  · unfold fX11_works
    rw [s0]
    simp only [Option.bind_some]
    cases haN (hdN k σ) A B d 0 with
    | false => rw [if_pos (by rfl), lM]; rfl
    | true => rw [if_neg (by decide), lM]; rfl
