/-! ===== days ===== -/
def drN (s j : Nat) : Nat := (7919 * s + 6151 * j + 1) * (7919 * s + 6151 * j + 1) % 65521 / 4 % 10
theorem dr_lt (s j : Nat) : drN s j < 10 := Nat.mod_lt _ (by omega)
theorem draw_eq {s j : Nat} (hs : s ≤ 9999) (hj : j ≤ 9999) {v : Int64} (hv : v = (7919 : Int64) * (nI s).toInt64 + (6151 : Int64) * (nI j).toInt64 + (1 : Int64)) : ((((v * v) - (v * v) / (65521 : Int64) * (65521 : Int64)) / (4 : Int64)) - (((v * v) - (v * v) / (65521 : Int64) * (65521 : Int64)) / (4 : Int64)) / (10 : Int64) * (10 : Int64)).toInt32 = nI (drN s j) := by
  have hvv : v = lN (7919 * s + 6151 * j + 1) := by
    rw [hv, nI_l (by omega), nI_l (by omega), show (7919 : Int64) = lN 7919 from rfl, show (6151 : Int64) = lN 6151 from rfl, lN_mul, lN_mul, lN_add, lN_1]
  have hb : 7919 * s + 6151 * j + 1 ≤ 200000000 := by omega
  have hbb : (7919 * s + 6151 * j + 1) * (7919 * s + 6151 * j + 1) ≤ 200000000 * 200000000 := Nat.mul_le_mul hb hb
  rw [hvv, lN_mul, show (65521 : Int64) = lN 65521 from rfl, show (4 : Int64) = lN 4 from rfl, show (10 : Int64) = lN 10 from rfl]
  unfold drN
  generalize (7919 * s + 6151 * j + 1) * (7919 * s + 6151 * j + 1) = q at hbb
  rw [pk_lRem (by omega) (by omega) (by omega), pk_lDiv (by omega) (by omega) (by omega), pk_lRem (by omega) (by omega) (by omega), lN_i]
def rwN (r : Nat → Int32) (k : Nat) : Nat → Int32 := fun x => if x < 10 then nI (bi k x) else r x
theorem rwN_x {r : Nat → Int32} {k g : Nat} (hg : g < 10) : upd (rwN r k) g (1 - rwN r k g) = rwN r (k ^^^ 2 ^ g) := by
  have := bi_le k g
  have e : rwN r k g = nI (bi k g) := if_pos hg
  funext x
  by_cases h : x = g
  · subst h
    rw [upd_s, e, show (1 : Int32) = nI 1 from rfl, pk_sub (by omega)]
    show _ = if x < 10 then nI (bi (k ^^^ 2 ^ x) x) else r x
    rw [if_pos hg, bi_xor, if_pos rfl]
  · rw [upd_n _ _ h]
    show (if x < 10 then nI (bi k x) else r x) = if x < 10 then nI (bi (k ^^^ 2 ^ g) x) else r x
    rw [bi_xor, if_neg h]
def ddN (s : Nat) : Nat → Nat → Nat → Int32 → Nat × Int32
  | 0, _, k, x => (k, x)
  | m + 1, j, k, x => ddN s m (j + 1) (k ^^^ 2 ^ drN s j) (x + nI (bi (k ^^^ 2 ^ drN s j) 7))
theorem dd_lt (s : Nat) : ∀ (m j k : Nat) (x : Int32), k < 1024 → (ddN s m j k x).1 < 1024
  | 0, _, _, _, h => h
  | m + 1, j, k, x, h => dd_lt s m (j + 1) _ _ (xor_lt h (dr_lt s j))
theorem days_X {N k s n w : Nat} {S : St} (hN : 200000 ≤ N) (hk : k < 1024) (e2 : S 2 0 = nI k) (hs : s ≤ 9999) (hn : n ≤ 50) (hw : w ≤ 1) : fX10_days_l47 N S (nI s) (nI n) (nI w) N (S 2 0, 0, 0) = some (if w = 0 then nI (cnt (ddN s n 0 k 0).1 999) else (ddN s n 0 k 0).2) := by
  unfold fX10_days_l47
  have key := lpN_ix (body := fun g q => fX10_days_b47 N S (nI s) (nI n) (nI w) g q.1 q.2.1 q.2.2) (enc := fun i : Nat × Int32 × Nat => (nI i.1, i.2.1, nI (n - i.2.2))) (I := fun i => i.1 < 1024 ∧ i.2.2 ≤ n) (μ := fun i => i.2.2) (f := fun i => some (if w = 0 then nI (cnt (ddN s i.2.2 (n - i.2.2) i.1 i.2.1).1 999) else (ddN s i.2.2 (n - i.2.2) i.1 i.2.1).2)) ?_ N (k, 0, n) ⟨hk, Nat.le_refl _⟩ (by show n < N; omega)
  · simp only [Nat.sub_self] at key
    rw [e2]
    exact key
  rintro g ⟨c, x, m⟩ ⟨hc, hm⟩ ih
  dsimp only at hc hm ih ⊢
  unfold fX10_days_b47
  cases m with
  | zero =>
    rw [if_pos (nI_le (by omega) (by omega))]
    unfold fX10_days_j84
    rcases (show w = 0 ∨ w = 1 by omega) with rfl | rfl
    · rw [if_pos (by rfl), if_pos (by rfl), show (999 : Int32) = nI 999 from rfl, sayable_X (by omega) hc (by omega)]; rfl
    · rw [if_neg (by decide), if_neg (by decide)]; rfl
  | succ m =>
    rw [if_neg (nI_ge (by omega) (by omega))]
    unfold fX10_drawnFigure nm
    dsimp only
    rw [draw_eq hs (by omega) rfl]
    simp only [Option.bind_some]
    have hx := xor_lt hc (dr_lt s (n - (m + 1)))
    rw [xor_X (dr_lt _ _), show (7 : Int32) = nI 7 from rfl, bit_X hx (by omega), show nI (n - (m + 1)) + (1 : Int32) = nI (n - (m + 1) + 1) from nI_1 _, show n - (m + 1) + 1 = n - m by omega]
    unfold ddN
    rw [show n - (m + 1) + 1 = n - m by omega]
    exact ih (_, _, m) ⟨hx, by show m ≤ n; omega⟩ (by show m < m + 1; omega)
