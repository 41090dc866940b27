/-! ===== ways, shortest ===== -/
theorem lpN_h {σ ρ ι : Type} {body : (σ → Option ρ) → σ → Option ρ} (enc : ι → σ) (I : ι → Prop) (μ : ι → Nat) (P : ι → Option ρ → Prop) (h : ∀ (g : σ → Option ρ) (i : ι), I i → (∀ i', I i' → μ i' < μ i → P i' (g (enc i'))) → P i (body g (enc i))) : ∀ (k : Nat) (i : ι), I i → μ i < k → P i (lpN body k (enc i))
  | 0, i, _, h2 => absurd h2 (Nat.not_lt_zero _)
  | k + 1, i, h1, h2 => h (lpN body k) i h1 (fun i' h3 h4 => lpN_h enc I μ P h k i' h3 (by omega))
abbrev WT : Type := Int32 × Int32 × Int32 × Int32 × Int32
def bmp (w : WT) (l k a b : Int32) : WT := if w.1 = 0 then (w.1 + 1, l, k, a, b) else if w.2.1 ≤ l then (w.1 + 1, w.2) else (w.1 + 1, l, k, a, b)
def tkN (k : Nat) (w : WT) (d a b : Nat) : WT := if sy k a = true ∧ (d = 0 ∨ sy k b = true) then bmp w (nI (if d = 0 then lnN a else lnN a + 1 + lnN b)) (nI d) (nI a) (nI b) else w
def HC (S T : St) (w : WT) : Prop := T 0 = S 0 ∧ T 6 = S 6 ∧ T 1 0 = w.1 ∧ (w.1 ≠ 0 → T 2 0 = w.2.1 ∧ T 3 0 = w.2.2.1 ∧ T 4 0 = w.2.2.2.1 ∧ T 5 0 = w.2.2.2.2)
def HM (M U : St) (w : WT) : Prop := (∀ i, i < 20 ∨ 24 < i → U i = M i) ∧ U 20 0 = w.1 ∧ (w.1 ≠ 0 → U 21 0 = w.2.1 ∧ U 22 0 = w.2.2.1 ∧ U 23 0 = w.2.2.2.1 ∧ U 24 0 = w.2.2.2.2)
theorem take_j {N : Nat} {S T : St} {w : WT} (h : HC S T w) (p1 p2 p3 l : Int32) : ∃ T', fX5_take_j21 N p1 p2 p3 l T = some T' ∧ HC S T' (bmp w l p1 p2 p3) := by
  obtain ⟨h0, h6, h1, h2⟩ := h
  unfold fX5_take_j21 fX5_take_j37 fX5_take_j58 bmp
  rw [h1]
  by_cases c : w.1 = 0
  · rw [if_pos c, if_pos c]
    refine ⟨_, rfl, h0, h6, ?_, fun _ => ⟨rfl, rfl, rfl, rfl⟩⟩
    show T 1 0 + 1 = w.1 + 1
    rw [h1]
  · rw [if_neg c, if_neg c]
    obtain ⟨a2, a3, a4, a5⟩ := h2 c
    rw [a2]
    by_cases c2 : w.2.1 ≤ l
    · rw [if_pos c2, if_pos c2]
      exact ⟨_, rfl, h0, h6, rfl, fun _ => ⟨a2, a3, a4, a5⟩⟩
    · rw [if_neg c2, if_neg c2]
      refine ⟨_, rfl, h0, h6, ?_, fun _ => ⟨rfl, rfl, rfl, rfl⟩⟩
      show T 1 0 + 1 = w.1 + 1
      rw [h1]
theorem ln_add (a b : Nat) : nI a + ((1 : Int32) + nI b) = nI (a + 1 + b) := by
  rw [show (1 : Int32) = nI 1 from rfl, nI_add, nI_add, Nat.add_assoc]
theorem take_X {N a b d : Nat} {S T : St} {w : WT} {p : Int32} (hp : p = nI d) (h : HC S T w) (ha : a ≤ 99999) (hb : b ≤ 99999) (hd : d ≤ 3) : ∃ T', fX5_take N T p (nI a) (nI b) = some T' ∧ HC S T' (bmp w (nI (if d = 0 then lnN a else lnN a + 1 + lnN b)) (nI d) (nI a) (nI b)) := by
  subst hp
  unfold fX5_take
  rw [len_X ha]
  simp only [Option.bind_some]
  by_cases c : d = 0
  · rw [if_pos (show nI d = (0 : Int32) by rw [c]; rfl), if_pos c]
    exact take_j h _ _ _ _
  · rw [if_neg (nI_ne0 (by omega) (by omega)), if_neg c, len_X hb]
    simp only [Option.bind_some]
    rw [ln_add]
    exact take_j h _ _ _ _
theorem bN_0 (b : Bool) : nI (bN b) = (0 : Int32) ↔ b = false := by cases b <;> simp [bN] <;> decide
theorem takeIf_X {N k a b d : Nat} {S T : St} {w : WT} {p : Int32} (hp : p = nI d) (hr : ∀ j, j < 1000 → S 6 j = nI (bN (sy k j))) (h : HC S T w) (ha : a < 1000) (hb : b < 1000) (hd : d ≤ 3) (hd0 : 0 < d) : ∃ T', fX5_takeIfSaid N T p (nI a) (nI b) = some T' ∧ HC S T' (tkN k w d a b) := by
  unfold fX5_takeIfSaid tkN
  rw [if_pos (in_nI (by omega) (by omega)), if_pos (in_nI (by omega) (by omega)), nI_clamp (by omega), nI_clamp (by omega), h.2.1, hr a ha, hr b hb]
  cases e1 : sy k a with
  | false =>
    rw [if_pos (by rfl), if_neg (fun q => absurd q.1 (by decide))]
    exact ⟨T, rfl, h⟩
  | true =>
    rw [if_neg (show ¬ nI (bN true) = (0 : Int32) by decide)]
    cases e2 : sy k b with
    | false =>
      rw [if_pos (by rfl), if_neg (fun q => q.2.elim (fun q2 => absurd q2 (by omega)) (fun q2 => absurd q2 (by decide)))]
      exact ⟨T, rfl, h⟩
    | true =>
      rw [if_neg (show ¬ nI (bN true) = (0 : Int32) by decide), if_pos ⟨by trivial, Or.inr (by trivial)⟩]
      obtain ⟨T', e, hT⟩ := take_X (N := N) hp h (show a ≤ 99999 by omega) (show b ≤ 99999 by omega) hd
      rw [e]
      exact ⟨T', rfl, hT⟩
theorem note_j {N : Nat} {M U : St} {w : WT} (h : HM M U w) (p1 p2 p3 p4 l : Int32) : ∃ U', fX11_noteWay_j45 N p1 p2 p3 p4 l U = some U' ∧ HM M U' (bmp w l p2 p3 p4) := by
  obtain ⟨h0, h1, h2⟩ := h
  have fr : ∀ (a b c d e : Nat → Int32) (i : Nat), i < 20 ∨ 24 < i → va_up (va_up (va_up (va_up (va_up U 21 a) 22 b) 23 c) 24 d) 20 e i = M i := by
    intro a b c d e i hi
    show (if i = 20 then e else if i = 24 then d else if i = 23 then c else if i = 22 then b else if i = 21 then a else U i) = M i
    rw [if_neg (by omega), if_neg (by omega), if_neg (by omega), if_neg (by omega), if_neg (by omega)]
    exact h0 i hi
  unfold fX11_noteWay_j45 fX11_noteWay_j63 fX11_noteWay_j85 bmp
  rw [h1]
  by_cases c : w.1 = 0
  · rw [if_pos c, if_pos c]
    refine ⟨_, rfl, fr _ _ _ _ _, ?_, fun _ => ⟨rfl, rfl, rfl, rfl⟩⟩
    show U 20 0 + 1 = w.1 + 1
    rw [h1]
  · rw [if_neg c, if_neg c]
    obtain ⟨a2, a3, a4, a5⟩ := h2 c
    rw [a2]
    by_cases c2 : w.2.1 ≤ l
    · rw [if_pos c2, if_pos c2]
      refine ⟨_, rfl, fun i hi => ?_, rfl, fun _ => ⟨a2, a3, a4, a5⟩⟩
      show (if i = 20 then _ else U i) = M i
      rw [if_neg (by omega)]
      exact h0 i hi
    · rw [if_neg c2, if_neg c2]
      refine ⟨_, rfl, fr _ _ _ _ _, ?_, fun _ => ⟨rfl, rfl, rfl, rfl⟩⟩
      show U 20 0 + 1 = w.1 + 1
      rw [h1]
theorem HM.nw {k : Nat} {M U : St} {w : WT} (h : HM M U w) (hw : NW k M) : NW k U := by
  intro f hf
  rw [h.1 9 (by omega)]
  exact hw f hf
theorem note_M {N k n a b d : Nat} {M U : St} {w : WT} {p : Int32} (hp : p = nI d) (hN : 100000 ≤ N) (hk : k < 1024) (hw : NW k M) (h : HM M U w) (hn : n ≤ 99999) (ha : a ≤ 99999) (hb : b ≤ 99999) (hd : d ≤ 3) (hd0 : d = 0 → n = a) : ∃ U', fX11_noteWay N U (nI n) p (nI a) (nI b) = some U' ∧ HM M U' (tkN k w d a b) := by
  subst hp
  unfold fX11_noteWay tkN
  rw [canSay_M hN hk (h.nw hw) ha]
  simp only [Option.bind_some]
  have j : sy k a = true → (d = 0 ∨ sy k b = true) → ∃ U', fX11_noteWay_j22 N (nI n) (nI d) (nI a) (nI b) U = some U' ∧ HM M U' (bmp w (nI (if d = 0 then lnN a else lnN a + 1 + lnN b)) (nI d) (nI a) (nI b)) := by
    intro _ _
    unfold fX11_noteWay_j22
    by_cases c : d = 0
    · rw [if_pos (show nI d = (0 : Int32) by rw [c]; rfl), if_pos c, letters_M hN hn, hd0 c]
      simp only [Option.bind_some]
      exact note_j h _ _ _ _ _
    · rw [if_neg (nI_ne0 (by omega) (by omega)), if_neg c, letters_M hN ha, letters_M hN hb]
      simp only [Option.bind_some]
      rw [show nI (lnN a) + (1 : Int32) + nI (lnN b) = nI (lnN a + 1 + lnN b) by rw [show (1 : Int32) = nI 1 from rfl, nI_add, nI_add]]
      exact note_j h _ _ _ _ _
  cases e1 : sy k a with
  | false =>
    rw [if_pos (by rfl), if_neg (fun q => absurd q.1 (by decide))]
    exact ⟨U, rfl, h⟩
  | true =>
    rw [if_neg (show ¬ nI (bN true) = (0 : Int32) by decide)]
    by_cases c : d = 0
    · rw [if_pos (show nI d ≤ (0 : Int32) by rw [c]; decide), if_pos ⟨by trivial, Or.inl c⟩]
      exact j e1 (Or.inl c)
    · rw [if_neg (nI_nle (by omega) (by omega)), canSay_M hN hk (h.nw hw) hb]
      simp only [Option.bind_some]
      cases e2 : sy k b with
      | false =>
        rw [if_pos (by rfl), if_neg (fun q => q.2.elim c (fun q2 => absurd q2 (by decide)))]
        exact ⟨U, rfl, h⟩
      | true =>
        rw [if_neg (show ¬ nI (bN true) = (0 : Int32) by decide), if_pos ⟨by trivial, Or.inr (by trivial)⟩]
        exact j e1 (Or.inr e2)
/-- a + b, a - b, 0 * b, a * b, in their order; m: how many are left -/
def plN (k n : Nat) : Nat → Nat → WT → WT
  | 0, _, w => w
  | m + 1, a, w => plN k n m (a + 1) (tkN k w 1 a (n - a))
def miN (k n : Nat) : Nat → Nat → WT → WT
  | 0, _, w => w
  | m + 1, b, w => miN k n m (b + 1) (tkN k w 2 (n + b) b)
def zeN (k : Nat) : Nat → Nat → WT → WT
  | 0, _, w => w
  | m + 1, b, w => zeN k m (b + 1) (tkN k w 3 0 b)
def muN (k n : Nat) : Nat → Nat → WT → WT
  | 0, _, w => w
  | m + 1, a, w => if n < a * a then w else muN k n m (a + 1) (if n % a = 0 then tkN k w 3 a (n / a) else w)
theorem pl_X {N k n : Nat} {S T : St} {w : WT} {p2 : Int32} (hN : 2000 ≤ N) (hn : n ≤ 999) (hr : ∀ j, j < 1000 → S 6 j = nI (bN (sy k j))) (h : HC S T w) : ∃ T', fX5_find_l28 N (nI n) p2 N (0, T) = fX5_find_j50 N (nI n) p2 T' ∧ HC S T' (plN k n (n / 2 + 1) 0 w) := by
  unfold fX5_find_l28
  have key := lpN_h (body := fun g q => fX5_find_b28 N (nI n) p2 g q.1 q.2) (enc := fun i : Nat × Nat × St × WT => (nI i.2.1, i.2.2.1)) (I := fun i => i.2.1 + i.1 = n / 2 + 1 ∧ HC S i.2.2.1 i.2.2.2) (μ := fun i => i.1) (P := fun i o => ∃ T', o = fX5_find_j50 N (nI n) p2 T' ∧ HC S T' (plN k n i.1 i.2.1 i.2.2.2)) ?_ N (n / 2 + 1, 0, T, w) ⟨by show 0 + (n / 2 + 1) = n / 2 + 1; omega, h⟩ (by show n / 2 + 1 < N; omega)
  · exact key
  rintro g ⟨m, a, T, w⟩ ⟨hm, hT⟩ ih
  dsimp only at hm hT ih ⊢
  unfold fX5_find_b28
  cases m with
  | zero =>
    have hlt : nI n - nI a < nI a := by
      rcases Nat.lt_or_ge n a with q | q
      · exact Int32.lt_trans (pk_sneg (by omega) q) (nI_lt (a := 0) (by omega) (by omega))
      · rw [pk_sub q]; exact nI_lt (by omega) (by omega)
    rw [if_pos hlt]
    exact ⟨T, rfl, hT⟩
  | succ m =>
    rw [pk_sub (show a ≤ n by omega), if_neg (nI_nlt (by omega) (by omega))]
    obtain ⟨T', e, hT'⟩ := takeIf_X (N := N) (p := 1) (d := 1) rfl hr hT (show a < 1000 by omega) (show n - a < 1000 by omega) (by omega) (by omega)
    rw [e]
    simp only [Option.bind_some]
    rw [show nI a + (1 : Int32) = nI (a + 1) from nI_1 a]
    exact ih (m, a + 1, T', _) ⟨by show a + 1 + m = n / 2 + 1; omega, hT'⟩ (by show m < m + 1; omega)
theorem mi_X {N k n : Nat} {S T : St} {w : WT} {p2 : Int32} (hN : 2000 ≤ N) (hn : n ≤ 999) (hr : ∀ j, j < 1000 → S 6 j = nI (bN (sy k j))) (h : HC S T w) : ∃ T', fX5_find_l52 N (nI n) p2 N (1, T) = fX5_find_j76 N (nI n) p2 T' ∧ HC S T' (miN k n (999 - n) 1 w) := by
  unfold fX5_find_l52
  have key := lpN_h (body := fun g q => fX5_find_b52 N (nI n) p2 g q.1 q.2) (enc := fun i : Nat × Nat × St × WT => (nI i.2.1, i.2.2.1)) (I := fun i => n + i.2.1 + i.1 = 1000 ∧ HC S i.2.2.1 i.2.2.2) (μ := fun i => i.1) (P := fun i o => ∃ T', o = fX5_find_j76 N (nI n) p2 T' ∧ HC S T' (miN k n i.1 i.2.1 i.2.2.2)) ?_ N (999 - n, 1, T, w) ⟨by show n + 1 + (999 - n) = 1000; omega, h⟩ (by show 999 - n < N; omega)
  · exact key
  rintro g ⟨m, b, T, w⟩ ⟨hm, hT⟩ ih
  dsimp only at hm hT ih ⊢
  unfold fX5_find_b52
  rw [nI_add]
  cases m with
  | zero =>
    rw [if_pos (show (999 : Int32) < nI (n + b) from nI_lt (a := 999) (by omega) (by omega))]
    exact ⟨T, rfl, hT⟩
  | succ m =>
    rw [if_neg (show ¬ (999 : Int32) < nI (n + b) from nI_nlt (a := 999) (by omega) (by omega))]
    obtain ⟨T', e, hT'⟩ := takeIf_X (N := N) (p := 2) (d := 2) rfl hr hT (show n + b < 1000 by omega) (show b < 1000 by omega) (by omega) (by omega)
    rw [e]
    simp only [Option.bind_some]
    rw [show nI b + (1 : Int32) = nI (b + 1) from nI_1 b]
    exact ih (m, b + 1, T', _) ⟨by show n + (b + 1) + m = 1000; omega, hT'⟩ (by show m < m + 1; omega)
theorem ze_X {N k n : Nat} {S T : St} {w : WT} {p2 : Int32} (hN : 2000 ≤ N) (hr : ∀ j, j < 1000 → S 6 j = nI (bN (sy k j))) (h : HC S T w) : ∃ T', fX5_find_l82 N (nI n) p2 N (0, T) = fX5_find_j102 N (nI n) p2 T' ∧ HC S T' (zeN k 1000 0 w) := by
  unfold fX5_find_l82
  have key := lpN_h (body := fun g q => fX5_find_b82 N (nI n) p2 g q.1 q.2) (enc := fun i : Nat × Nat × St × WT => (nI i.2.1, i.2.2.1)) (I := fun i => i.2.1 + i.1 = 1000 ∧ HC S i.2.2.1 i.2.2.2) (μ := fun i => i.1) (P := fun i o => ∃ T', o = fX5_find_j102 N (nI n) p2 T' ∧ HC S T' (zeN k i.1 i.2.1 i.2.2.2)) ?_ N (1000, 0, T, w) ⟨by show 0 + 1000 = 1000; omega, h⟩ (by show 1000 < N; omega)
  · exact key
  rintro g ⟨m, b, T, w⟩ ⟨hm, hT⟩ ih
  dsimp only at hm hT ih ⊢
  unfold fX5_find_b82
  cases m with
  | zero =>
    rw [if_pos (show (999 : Int32) < nI b from nI_lt (a := 999) (by omega) (by omega))]
    exact ⟨T, rfl, hT⟩
  | succ m =>
    rw [if_neg (show ¬ (999 : Int32) < nI b from nI_nlt (a := 999) (by omega) (by omega))]
    obtain ⟨T', e, hT'⟩ := takeIf_X (N := N) (p := 3) (d := 3) rfl hr hT (show 0 < 1000 by omega) (show b < 1000 by omega) (by omega) (by omega)
    rw [show fX5_takeIfSaid N T 3 0 (nI b) = some T' from e]
    simp only [Option.bind_some]
    rw [show nI b + (1 : Int32) = nI (b + 1) from nI_1 b]
    exact ih (m, b + 1, T', _) ⟨by show b + 1 + m = 1000; omega, hT'⟩ (by show m < m + 1; omega)
theorem sq_le {a : Nat} (h : a ≤ 32) : a * a ≤ 1024 := Nat.mul_le_mul h h
theorem mu_X {N k n : Nat} {S T : St} {w : WT} {p2 : Int32} (hN : 2000 ≤ N) (hn : n ≤ 999) (hr : ∀ j, j < 1000 → S 6 j = nI (bN (sy k j))) (h : HC S T w) : ∃ T', fX5_find_l104 N (nI n) p2 N (1, T) = some T' ∧ HC S T' (muN k n 31 1 w) := by
  unfold fX5_find_l104
  have key := lpN_h (body := fun g q => fX5_find_b104 N (nI n) p2 g q.1 q.2) (enc := fun i : Nat × Nat × St × WT => (nI i.2.1, i.2.2.1)) (I := fun i => (1 ≤ i.2.1 ∧ i.2.1 + i.1 = 32) ∧ HC S i.2.2.1 i.2.2.2) (μ := fun i => i.1) (P := fun i o => ∃ T', o = some T' ∧ HC S T' (muN k n i.1 i.2.1 i.2.2.2)) ?_ N (31, 1, T, w) ⟨⟨by show 1 ≤ 1; omega, by show 1 + 31 = 32; omega⟩, h⟩ (by show 31 < N; omega)
  · exact key
  rintro g ⟨m, a, T, w⟩ ⟨⟨ha, hm⟩, hT⟩ ih
  dsimp only at ha hm hT ih ⊢
  have hsq := sq_le (a := a) (by omega)
  unfold fX5_find_b104
  rw [pk_rem (by omega) (by omega) (by omega), pk_mul, pk_div (by omega) (by omega) (by omega)]
  cases m with
  | zero =>
    rw [if_pos (nI_lt (by rw [show a = 32 by omega]; omega) (by omega))]
    exact ⟨T, rfl, hT⟩
  | succ m =>
    show ∃ T', _ ∧ HC S T' (if n < a * a then w else muN k n m (a + 1) (if n % a = 0 then tkN k w 3 a (n / a) else w))
    by_cases c : n < a * a
    · rw [if_pos (nI_lt c (by omega)), if_pos c]
      exact ⟨T, rfl, hT⟩
    · rw [if_neg (nI_nlt (by omega) (by omega)), if_neg c, if_pos (nI_ne0 (by omega) (by omega)), if_pos (nI_ne0 (by omega) (by omega))]
      have hdv : n / a ≤ n := Nat.div_le_self n a
      have hmd : n % a < a := Nat.mod_lt _ (by omega)
      unfold fX5_find_j126
      rw [show nI a + (1 : Int32) = nI (a + 1) from nI_1 a]
      by_cases c2 : n % a = 0
      · rw [if_pos (show nI (n % a) = (0 : Int32) by rw [c2]; rfl), if_pos c2]
        obtain ⟨T', e, hT'⟩ := takeIf_X (N := N) (p := 3) (d := 3) rfl hr hT (show a < 1000 by omega) (show n / a < 1000 by omega) (by omega) (by omega)
        rw [e]
        simp only [Option.bind_some]
        exact ih (m, a + 1, T', _) ⟨⟨by show 1 ≤ a + 1; omega, by show a + 1 + m = 32; omega⟩, hT'⟩ (by show m < m + 1; omega)
      · rw [if_neg (nI_ne0 (by omega) (by omega)), if_neg c2]
        exact ih (m, a + 1, T, w) ⟨⟨by show 1 ≤ a + 1; omega, by show a + 1 + m = 32; omega⟩, hT⟩ (by show m < m + 1; omega)
def fwN (k n : Nat) : WT := muN k n 31 1 (if n = 0 then zeN k 1000 0 (miN k n (999 - n) 1 (plN k n (n / 2 + 1) 0 (tkN k (0, 0, 0, 0, 0) 0 n 0))) else miN k n (999 - n) 1 (plN k n (n / 2 + 1) 0 (tkN k (0, 0, 0, 0, 0) 0 n 0)))
theorem bool_ok : ∀ b : Bool, vp_nar .boolean (nI (bN b)) = nI (bN b) := by decide +kernel
theorem fill_X {N k : Nat} {T : St} (hN : 2000 ≤ N) (hk : k < 1024) (h : T 0 0 = -1 ∨ ∃ k, k < 1024 ∧ T 0 0 = nI k ∧ ∀ n, n < 1000 → T 6 n = nI (bN (sy k n))) : ∃ T', fX5_fillRow N T (nI k) = some T' ∧ T' 0 0 = nI k ∧ ∀ n, n < 1000 → T' 6 n = nI (bN (sy k n)) := by
  unfold fX5_fillRow
  by_cases c : T 0 0 = nI k
  · rw [if_pos c]
    rcases h with h | ⟨k', hk', e, hr⟩
    · exact absurd (c.symm.trans h) (nI_ne_m1 (by omega))
    · have : k = k' := (nI_eq (by omega) (by omega)).mp (c.symm.trans e)
      subst this
      exact ⟨T, rfl, e, hr⟩
  · rw [if_neg c]
    unfold fX5_fillRow_l16
    have key := lpN_h (body := fun g q => fX5_fillRow_b16 N (nI k) g q.1 q.2) (enc := fun i : Nat × Nat × St => (nI i.2.1, i.2.2)) (I := fun i => i.2.1 + i.1 = 1000 ∧ i.2.2 0 0 = nI k ∧ ∀ n, n < i.2.1 → i.2.2 6 n = nI (bN (sy k n))) (μ := fun i => i.1) (P := fun _ o => ∃ T', o = some T' ∧ T' 0 0 = nI k ∧ ∀ n, n < 1000 → T' 6 n = nI (bN (sy k n))) ?_ N (1000, 0, stf T 0 (nI k)) ⟨by show 0 + 1000 = 1000; omega, rfl, fun n hn => absurd hn (Nat.not_lt_zero n)⟩ (by show 1000 < N; omega)
    · exact key
    rintro g ⟨m, b, T⟩ ⟨hm, e0, hr⟩ ih
    dsimp only at hm e0 hr ih ⊢
    unfold fX5_fillRow_b16
    cases m with
    | zero =>
      rw [if_pos (show (999 : Int32) < nI b from nI_lt (a := 999) (by omega) (by omega))]
      exact ⟨T, rfl, e0, fun n hn => hr n (by omega)⟩
    | succ m =>
      rw [if_neg (show ¬ (999 : Int32) < nI b from nI_nlt (a := 999) (by omega) (by omega)), canSay_X (by omega) hk (by omega)]
      simp only [Option.bind_some]
      rw [if_pos (in_nI (by omega) (by omega)), nI_clamp (by omega), bool_ok, show nI b + (1 : Int32) = nI (b + 1) from nI_1 b]
      refine ih (m, b + 1, sti T 6 b (nI (bN (sy k b)))) ⟨by show b + 1 + m = 1000; omega, e0, fun n hn => ?_⟩ (by show m < m + 1; omega)
      show upd (T 6) b (nI (bN (sy k b))) n = _
      by_cases q : n = b
      · rw [q, upd_s]
      · rw [upd_n _ _ q]
        have hn' : n < b + 1 := hn
        exact hr n (by omega)
theorem find_X {N k n : Nat} {T : St} (hN : 2000 ≤ N) (hk : k < 1024) (hn : n ≤ 999) (h : T 0 0 = -1 ∨ ∃ k, k < 1024 ∧ T 0 0 = nI k ∧ ∀ n, n < 1000 → T 6 n = nI (bN (sy k n))) : ∃ S0 T', fX5_find N T (nI n) (nI k) = some T' ∧ (S0 0 0 = nI k ∧ ∀ n, n < 1000 → S0 6 n = nI (bN (sy k n))) ∧ HC S0 T' (fwN k n) := by
  obtain ⟨T1, e, r0, r6⟩ := fill_X (N := N) hN hk h
  unfold fX5_find
  rw [e]
  simp only [Option.bind_some]
  rw [if_pos (in_nI (by omega) (by omega)), nI_clamp (by omega)]
  have hr : ∀ j, j < 1000 → (stf T1 1 0) 6 j = nI (bN (sy k j)) := r6
  have h0 : HC (stf T1 1 0) (stf T1 1 0) (0, 0, 0, 0, 0) := ⟨rfl, rfl, rfl, fun q => absurd rfl q⟩
  refine ⟨stf T1 1 0, ?_⟩
  have go : ∀ T2, HC (stf T1 1 0) T2 (tkN k (0, 0, 0, 0, 0) 0 n 0) → ∃ T', fX5_find_j26 N (nI n) (nI k) T2 = some T' ∧ ((stf T1 1 0) 0 0 = nI k ∧ ∀ n, n < 1000 → (stf T1 1 0) 6 n = nI (bN (sy k n))) ∧ HC (stf T1 1 0) T' (fwN k n) := by
    intro T2 h2
    unfold fX5_find_j26
    obtain ⟨T3, e3, h3⟩ := pl_X (N := N) (p2 := nI k) hN hn hr h2
    rw [e3]
    unfold fX5_find_j50
    obtain ⟨T4, e4, h4⟩ := mi_X (N := N) (p2 := nI k) hN hn hr h3
    rw [e4]
    unfold fX5_find_j76
    have las : ∀ T5 w, HC (stf T1 1 0) T5 w → ∃ T', fX5_find_j102 N (nI n) (nI k) T5 = some T' ∧ ((stf T1 1 0) 0 0 = nI k ∧ ∀ n, n < 1000 → (stf T1 1 0) 6 n = nI (bN (sy k n))) ∧ HC (stf T1 1 0) T' (muN k n 31 1 w) := by
      intro T5 w h5
      unfold fX5_find_j102
      obtain ⟨T6, e6, h6⟩ := mu_X (N := N) (p2 := nI k) hN hn hr h5
      exact ⟨T6, e6, ⟨r0, r6⟩, h6⟩
    by_cases c : n = 0
    · rw [if_pos (show nI n = (0 : Int32) by rw [c]; rfl)]
      obtain ⟨T5, e5, h5⟩ := ze_X (N := N) (n := n) (p2 := nI k) hN hr h4
      rw [e5]
      unfold fwN
      rw [if_pos c]
      exact las _ _ h5
    · rw [if_neg (nI_ne0 (by omega) (by omega))]
      unfold fwN
      rw [if_neg c]
      exact las _ _ h4
  rw [hr n (by omega)]
  cases e1 : sy k n with
  | false =>
    rw [if_pos (by rfl)]
    refine go _ ?_
    unfold tkN
    rw [e1, if_neg (fun q => absurd q.1 (by decide))]
    exact h0
  | true =>
    rw [if_neg (show ¬ nI (bN true) = (0 : Int32) by decide)]
    obtain ⟨T2, e2, h2⟩ := take_X (N := N) (p := 0) (a := n) (b := 0) (d := 0) rfl h0 (by omega) (by omega) (by omega)
    rw [show fX5_take N (stf T1 1 0) 0 (nI n) 0 = some T2 from e2]
    simp only [Option.bind_some]
    refine go _ ?_
    unfold tkN
    rw [e1, if_pos ⟨by trivial, Or.inl rfl⟩]
    exact h2
