/-! ===== days ===== -/
def drN (s j : Nat) : Nat := (7919 * s + 6151 * j + 1) * (7919 * s + 6151 * j + 1) % 65521 / 4 % 10
theorem dr_lt (s j : Nat) : drN s j < 10 := Nat.mod_lt _ (by omega)
theorem draw_eq {s j : Nat} (hs : s ≤ 9999) (hj : j ≤ 9999) {v : Int64} (hv : v = (7919 : Int64) * (nI s).toInt64 + (6151 : Int64) * (nI j).toInt64 + (1 : Int64)) : ((((v * v) - (v * v) / (65521 : Int64) * (65521 : Int64)) / (4 : Int64)) - (((v * v) - (v * v) / (65521 : Int64) * (65521 : Int64)) / (4 : Int64)) / (10 : Int64) * (10 : Int64)).toInt32 = nI (drN s j) := by
  have hvv : v = lN (7919 * s + 6151 * j + 1) := by
    rw [hv, nI_l (by omega), nI_l (by omega), show (7919 : Int64) = lN 7919 from rfl, show (6151 : Int64) = lN 6151 from rfl, lN_mul, lN_mul, lN_add, lN_1]
  have hb : 7919 * s + 6151 * j + 1 ≤ 200000000 := by omega
  have hbb : (7919 * s + 6151 * j + 1) * (7919 * s + 6151 * j + 1) ≤ 200000000 * 200000000 := Nat.mul_le_mul hb hb
  rw [hvv, lN_mul, show (65521 : Int64) = lN 65521 from rfl, show (4 : Int64) = lN 4 from rfl, show (10 : Int64) = lN 10 from rfl]
  unfold drN
  generalize (7919 * s + 6151 * j + 1) * (7919 * s + 6151 * j + 1) = q at hbb
  rw [pk_lRem (by omega) (by omega) (by omega), pk_lDiv (by omega) (by omega) (by omega), pk_lRem (by omega) (by omega) (by omega), lN_i]
def rwN (r : Nat → Int32) (k : Nat) : Nat → Int32 := fun x => if x < 10 then nI (bi k x) else r x
theorem rwN_x {r : Nat → Int32} {k g : Nat} (hg : g < 10) : upd (rwN r k) g (1 - rwN r k g) = rwN r (k ^^^ 2 ^ g) := by
  have := bi_le k g
  have e : rwN r k g = nI (bi k g) := if_pos hg
  funext x
  by_cases h : x = g
  · subst h
    rw [upd_s, e, show (1 : Int32) = nI 1 from rfl, pk_sub (by omega)]
    show _ = if x < 10 then nI (bi (k ^^^ 2 ^ x) x) else r x
    rw [if_pos hg, bi_xor, if_pos rfl]
  · rw [upd_n _ _ h]
    show (if x < 10 then nI (bi k x) else r x) = if x < 10 then nI (bi (k ^^^ 2 ^ g) x) else r x
    rw [bi_xor, if_neg h]
def ddN (s : Nat) : Nat → Nat → Nat → Int32 → Nat × Int32
  | 0, _, k, x => (k, x)
  | m + 1, j, k, x => ddN s m (j + 1) (k ^^^ 2 ^ drN s j) (x + nI (bi (k ^^^ 2 ^ drN s j) 7))
theorem dd_lt (s : Nat) : ∀ (m j k : Nat) (x : Int32), k < 1024 → (ddN s m j k x).1 < 1024
  | 0, _, _, _, h => h
  | m + 1, j, k, x, h => dd_lt s m (j + 1) _ _ (xor_lt h (dr_lt s j))
theorem days_X {N k s n w : Nat} {S : St} (hN : 200000 ≤ N) (hk : k < 1024) (e2 : S 2 0 = nI k) (hs : s ≤ 9999) (hn : n ≤ 50) (hw : w ≤ 1) : fX10_days_l47 N S (nI s) (nI n) (nI w) N (S 2 0, 0, 0) = some (if w = 0 then nI (cnt (ddN s n 0 k 0).1 999) else (ddN s n 0 k 0).2) := by
  unfold fX10_days_l47
  have key := lpN_ix (body := fun g q => fX10_days_b47 N S (nI s) (nI n) (nI w) g q.1 q.2.1 q.2.2) (enc := fun i : Nat × Int32 × Nat => (nI i.1, i.2.1, nI (n - i.2.2))) (I := fun i => i.1 < 1024 ∧ i.2.2 ≤ n) (μ := fun i => i.2.2) (f := fun i => some (if w = 0 then nI (cnt (ddN s i.2.2 (n - i.2.2) i.1 i.2.1).1 999) else (ddN s i.2.2 (n - i.2.2) i.1 i.2.1).2)) ?_ N (k, 0, n) ⟨hk, Nat.le_refl _⟩ (by show n < N; omega)
  · simp only [Nat.sub_self] at key
    rw [e2]
    exact key
  rintro g ⟨c, x, m⟩ ⟨hc, hm⟩ ih
  dsimp only at hc hm ih ⊢
  unfold fX10_days_b47
  cases m with
  | zero =>
    rw [if_pos (nI_le (by omega) (by omega))]
    unfold fX10_days_j84
    rcases (show w = 0 ∨ w = 1 by omega) with rfl | rfl
    · rw [if_pos (by rfl), if_pos (by rfl), show (999 : Int32) = nI 999 from rfl, sayable_X (by omega) hc (by omega)]; rfl
    · rw [if_neg (by decide), if_neg (by decide)]; rfl
  | succ m =>
    rw [if_neg (nI_ge (by omega) (by omega))]
    unfold fX10_drawnFigure nm
    dsimp only
    rw [draw_eq hs (by omega) rfl]
    simp only [Option.bind_some]
    have hx := xor_lt hc (dr_lt s (n - (m + 1)))
    rw [xor_X (dr_lt _ _), show (7 : Int32) = nI 7 from rfl, bit_X hx (by omega), show nI (n - (m + 1)) + (1 : Int32) = nI (n - (m + 1) + 1) from nI_1 _, show n - (m + 1) + 1 = n - m by omega]
    unfold ddN
    rw [show n - (m + 1) + 1 = n - m by omega]
    exact ih (_, _, m) ⟨hx, by show m ≤ n; omega⟩ (by show m < m + 1; omega)
theorem days_sv {N : Nat} {M : St} {p1 p2 p3 : Int32} (hN : 100 ≤ N) : fX11_days_l39 N p1 p2 p3 N (0, M) = fX11_days_j66 N p1 p2 p3 (va_up M 27 (va_cpy (M 9) (M 27) 0 0 10)) := by
  unfold fX11_days_l39
  have key := lpN_ix (body := fun g q => fX11_days_b39 N p1 p2 p3 g q.1 q.2) (enc := fun i : Nat => (nI i, va_up M 27 (va_cpy (M 9) (M 27) 0 0 i))) (I := fun i => i ≤ 10) (μ := fun i => 10 - i) (f := fun _ => fX11_days_j66 N p1 p2 p3 (va_up M 27 (va_cpy (M 9) (M 27) 0 0 10))) ?_ N 0 (by omega) (by omega)
  · rw [cpy_0, up_self] at key
    exact key
  intro g i hi ih
  dsimp only at ih ⊢
  unfold fX11_days_b39
  by_cases h : 10 ≤ i
  · rw [if_pos (show (10 : Int32) ≤ nI i from nI_le (a := 10) h (by omega)), show i = 10 by omega]
  · have e' : (va_up M 27 (va_cpy (M 9) (M 27) 0 0 i)) 9 i = M 9 (0 + i) := by rw [Nat.zero_add]; rfl
    rw [if_neg (show ¬ (10 : Int32) ≤ nI i from nI_ge (b := 10) (by omega) (by omega)), if_pos (in_nI (by omega) (by omega)), if_pos (in_nI (by omega) (by omega)), nI_clamp (by omega), show nI i + (1 : Int32) = nI (i + 1) from nI_1 i, e', sti_up]
    have := ih (i + 1) (by omega) (by omega)
    rw [← cpy_s] at this
    rw [show upd (va_cpy (M 9) (M 27) 0 0 i) i (M 9 (0 + i)) = upd (va_cpy (M 9) (M 27) 0 0 i) (0 + i) (M 9 (0 + i)) by rw [Nat.zero_add]]
    exact this
theorem days_rs {N : Nat} {M : St} {p1 p2 p3 x4 x5 : Int32} (hN : 100 ≤ N) : fX11_days_l162 N p1 p2 p3 N (x4, x5, 0, M) = fX11_days_j189 N p1 p2 p3 x4 x5 (va_up M 9 (va_cpy (M 27) (M 9) 0 0 10)) := by
  unfold fX11_days_l162
  have key := lpN_ix (body := fun g q => fX11_days_b162 N p1 p2 p3 g q.1 q.2.1 q.2.2.1 q.2.2.2) (enc := fun i : Nat => (x4, x5, nI i, va_up M 9 (va_cpy (M 27) (M 9) 0 0 i))) (I := fun i => i ≤ 10) (μ := fun i => 10 - i) (f := fun _ => fX11_days_j189 N p1 p2 p3 x4 x5 (va_up M 9 (va_cpy (M 27) (M 9) 0 0 10))) ?_ N 0 (by omega) (by omega)
  · rw [cpy_0, up_self] at key
    exact key
  intro g i hi ih
  dsimp only at ih ⊢
  unfold fX11_days_b162
  by_cases h : 10 ≤ i
  · rw [if_pos (show (10 : Int32) ≤ nI i from nI_le (a := 10) h (by omega)), show i = 10 by omega]
  · have e' : (va_up M 9 (va_cpy (M 27) (M 9) 0 0 i)) 27 i = M 27 (0 + i) := by rw [Nat.zero_add]; rfl
    rw [if_neg (show ¬ (10 : Int32) ≤ nI i from nI_ge (b := 10) (by omega) (by omega)), if_pos (in_nI (by omega) (by omega)), if_pos (in_nI (by omega) (by omega)), nI_clamp (by omega), show nI i + (1 : Int32) = nI (i + 1) from nI_1 i, e', sti_up]
    have := ih (i + 1) (by omega) (by omega)
    rw [← cpy_s] at this
    rw [show upd (va_cpy (M 27) (M 9) 0 0 i) i (M 27 (0 + i)) = upd (va_cpy (M 27) (M 9) 0 0 i) (0 + i) (M 27 (0 + i)) by rw [Nat.zero_add]]
    exact this
theorem days_M {N k s n w : Nat} {M : St} (hN : 200000 ≤ N) (hk : k < 1024) (hnw : NW k M) (hs : s ≤ 9999) (hn : n ≤ 50) (hw : w ≤ 1) : ∃ r : Nat → Int32, (∀ x, x < 20 → r x = M 9 x) ∧ fX11_days_l39 N (nI s) (nI n) (nI w) N (0, M) = some (if w = 0 then nI (cnt (ddN s n 0 k 0).1 999) else (ddN s n 0 k 0).2, va_up (va_up M 27 (va_cpy (M 9) (M 27) 0 0 10)) 9 r) := by
  rw [days_sv (by omega)]
  unfold fX11_days_j66 fX11_days_l72
  generalize hM' : va_up M 27 (va_cpy (M 9) (M 27) 0 0 10) = M'
  have h9 : M' 9 = M 9 := by rw [← hM']; rfl
  have h27 : ∀ x, x < 10 → M' 27 x = M 9 x := by
    intro x hx
    rw [← hM']
    show va_cpy (M 9) (M 27) 0 0 10 x = M 9 x
    rw [cpy_in _ _ (by omega)]
    congr 1
    omega
  have h0 : va_up M' 9 (rwN (M 9) k) = M' := by
    have : rwN (M 9) k = M' 9 := by
      rw [h9]
      funext x
      unfold rwN
      by_cases h : x < 10
      · rw [if_pos h]; exact (hnw x h).symm
      · rw [if_neg h]
    rw [this, up_self]
  have key := lpN_ix (body := fun g q => fX11_days_b72 N (nI s) (nI n) (nI w) g q.1 q.2.1 q.2.2) (enc := fun i : Nat × Int32 × Nat => (i.2.1, nI (n - i.2.2), va_up M' 9 (rwN (M 9) i.1))) (I := fun i => i.1 < 1024 ∧ i.2.2 ≤ n) (μ := fun i => i.2.2) (f := fun i => fX11_days_j150 N (nI s) (nI n) (nI w) (ddN s i.2.2 (n - i.2.2) i.1 i.2.1).2 (va_up M' 9 (rwN (M 9) (ddN s i.2.2 (n - i.2.2) i.1 i.2.1).1))) ?_ N (k, 0, n) ⟨hk, Nat.le_refl _⟩ (by show n < N; omega)
  · simp only [Nat.sub_self] at key
    rw [h0] at key
    have hd := dd_lt s n 0 k 0 hk
    generalize ddN s n 0 k 0 = z at key hd ⊢
    refine ⟨va_cpy (M' 27) (rwN (M 9) z.1) 0 0 10, fun x hx => ?_, ?_⟩
    · by_cases h : x < 10
      · rw [cpy_in _ _ (by omega), show 0 + (x - 0) = x by omega, h27 x h]
      · rw [cpy_out _ _ (by omega)]
        exact if_neg h
    · refine Eq.trans key ?_
      unfold fX11_days_j150
      have hz : NW z.1 (va_up M' 9 (rwN (M 9) z.1)) := fun x hx => if_pos hx
      rw [show (999 : Int32) = nI 999 from rfl, sayable_M hN hd hz (by omega)]
      simp only [Option.bind_some]
      rw [days_rs (by omega)]
      have e1 : va_up (va_up M' 9 (rwN (M 9) z.1)) 9 (va_cpy ((va_up M' 9 (rwN (M 9) z.1)) 27) ((va_up M' 9 (rwN (M 9) z.1)) 9) 0 0 10) = va_up M' 9 (va_cpy (M' 27) (rwN (M 9) z.1) 0 0 10) := by
        funext a
        show (if a = 9 then va_cpy (M' 27) (rwN (M 9) z.1) 0 0 10 else (if a = 9 then rwN (M 9) z.1 else M' a)) = if a = 9 then va_cpy (M' 27) (rwN (M 9) z.1) 0 0 10 else M' a
        by_cases h : a = 9
        · rw [if_pos h, if_pos h]
        · rw [if_neg h, if_neg h, if_neg h]
      rw [e1]
      unfold fX11_days_j189
      rcases (show w = 0 ∨ w = 1 by omega) with rfl | rfl
      · rw [if_pos (by rfl), if_pos (by rfl)]
      · rw [if_neg (by decide), if_neg (by decide)]
  rintro g ⟨c, x, m⟩ ⟨hc, hm⟩ ih
  dsimp only at hc hm ih ⊢
  unfold fX11_days_b72
  cases m with
  | zero => rw [if_pos (nI_le (by omega) (by omega))]; rfl
  | succ m =>
    rw [if_neg (nI_ge (by omega) (by omega))]
    unfold nm
    dsimp only
    rw [draw_eq hs (by omega) rfl]
    have hx := xor_lt hc (dr_lt s (n - (m + 1)))
    have hlt := dr_lt s (n - (m + 1))
    have hq : ¬ (nI (drN s (n - (m + 1))) < 0 ∨ 20 ≤ drN s (n - (m + 1))) := by
      have := in_nI (n := drN s (n - (m + 1))) (N := 20) (by omega) (by omega)
      rwa [nI_clamp (by omega)] at this
    simp only [nI_clamp (show drN s (n - (m + 1)) < 2 ^ 31 by omega)]
    have e1 : sti (va_up M' 9 (rwN (M 9) c)) 9 (drN s (n - (m + 1))) ((1 : Int32) - (va_up M' 9 (rwN (M 9) c)) 9 (drN s (n - (m + 1)))) = va_up M' 9 (rwN (M 9) (c ^^^ 2 ^ drN s (n - (m + 1)))) := by
      rw [sti_up]
      have := rwN_x (r := M 9) (k := c) hlt
      exact congrArg (va_up M' 9) this
    have e2 : (va_up M' 9 (rwN (M 9) (c ^^^ 2 ^ drN s (n - (m + 1))))) 9 7 = nI (bi (c ^^^ 2 ^ drN s (n - (m + 1))) 7) := rfl
    rw [if_pos hq, if_pos hq, e1, e2, show nI (n - (m + 1)) + (1 : Int32) = nI (n - (m + 1) + 1) from nI_1 _, show n - (m + 1) + 1 = n - m by omega]
    unfold ddN
    rw [show n - (m + 1) + 1 = n - m by omega]
    exact ih (_, _, m) ⟨hx, by show m ≤ n; omega⟩ (by show m < m + 1; omega)
theorem ob_days {N : Nat} (hN : 200000 ≤ N) : OB_days N Rel := by
  intro S M p1 p2 p3 hR
  obtain ⟨k, u, e2, hF, hu, u1, u2, hU⟩ := hR.2.1
  have hk := hF.1
  rcases rng p1 (a := 0) (b := 9999) (by omega) (by omega) with ⟨s, -, hs, rfl⟩ | h
  · have hb1 := rng_t (Nat.zero_le s) hs (by omega)
    rcases rng p2 (a := 1) (b := 50) (by omega) (by omega) with ⟨n, hn1, hn, rfl⟩ | h
    · have hb2 := rng_t hn1 hn (by omega)
      rcases rng p3 (a := 0) (b := 1) (by omega) (by omega) with ⟨w, -, hw, rfl⟩ | h
      · have hb3 := rng_t (Nat.zero_le w) hw (by omega)
        obtain ⟨r, hr, hM⟩ := days_M (n := n) hN hk hF.nw hs hn hw
        refine ⟨if w = 0 then nI (cnt (ddN s n 0 k 0).1 999) else (ddN s n 0 k 0).2, va_up (va_up M 27 (va_cpy (M 9) (M 27) 0 0 10)) 9 r, ?_, ?_, ?_⟩
        rotate_left
        · unfold fX11_days
          rw [in_lit (nI s) 0 9999 (by omega) (by omega), if_pos hb1]
          simp only [Option.bind_some]
          rw [if_neg i10, in_lit (nI n) 1 50 (by omega) (by omega), if_pos hb2]
          simp only [Option.bind_some]
          rw [if_neg i10, in_lit (nI w) 0 1 (by omega) (by omega), if_pos hb3]
          simp only [Option.bind_some]
          rw [if_neg i10, hM]
        · exact ⟨hR.1.congr rfl rfl rfl rfl, ⟨k, u, e2, hF.congr (fun _ _ => rfl) hr, hu, u1, u2, hU⟩, hR.2.2.1.congr rfl rfl rfl rfl rfl rfl rfl, hR.2.2.2.1.congr rfl rfl rfl rfl rfl rfl, hR.2.2.2.2.1.congr rfl rfl, hR.2.2.2.2.2.congr rfl rfl rfl rfl rfl rfl rfl rfl rfl rfl rfl rfl⟩
        · unfold fX10_days
          rw [within_eq, if_pos (show (0 : Int32) ≤ nI s ∧ nI s ≤ (9999 : Int32) from hb1)]
          simp only [Option.bind_some]
          rw [if_neg i10, within_eq, if_pos (show (1 : Int32) ≤ nI n ∧ nI n ≤ (50 : Int32) from hb2)]
          simp only [Option.bind_some]
          rw [if_neg i10, within_eq, if_pos (show (0 : Int32) ≤ nI w ∧ nI w ≤ (1 : Int32) from hb3)]
          simp only [Option.bind_some]
          rw [if_neg i10, days_X hN hk e2 hs hn hw]
      · refine ⟨-1, M, ?_, ?_, hR⟩
        · unfold fX10_days
          rw [within_eq, if_pos (show (0 : Int32) ≤ nI s ∧ nI s ≤ (9999 : Int32) from hb1)]
          simp only [Option.bind_some]
          rw [if_neg i10, within_eq, if_pos (show (1 : Int32) ≤ nI n ∧ nI n ≤ (50 : Int32) from hb2)]
          simp only [Option.bind_some]
          rw [if_neg i10, within_eq, if_neg (show ¬ ((0 : Int32) ≤ p3 ∧ p3 ≤ (1 : Int32)) from h)]; rfl
        · unfold fX11_days
          rw [in_lit (nI s) 0 9999 (by omega) (by omega), if_pos hb1]
          simp only [Option.bind_some]
          rw [if_neg i10, in_lit (nI n) 1 50 (by omega) (by omega), if_pos hb2]
          simp only [Option.bind_some]
          rw [if_neg i10, in_lit p3 0 1 (by omega) (by omega), if_neg h]; rfl
    · refine ⟨-1, M, ?_, ?_, hR⟩
      · unfold fX10_days
        rw [within_eq, if_pos (show (0 : Int32) ≤ nI s ∧ nI s ≤ (9999 : Int32) from hb1)]
        simp only [Option.bind_some]
        rw [if_neg i10, within_eq, if_neg (show ¬ ((1 : Int32) ≤ p2 ∧ p2 ≤ (50 : Int32)) from h)]; rfl
      · unfold fX11_days
        rw [in_lit (nI s) 0 9999 (by omega) (by omega), if_pos hb1]
        simp only [Option.bind_some]
        rw [if_neg i10, in_lit p2 1 50 (by omega) (by omega), if_neg h]; rfl
  · refine ⟨-1, M, ?_, ?_, hR⟩
    · unfold fX10_days
      rw [within_eq, if_neg (show ¬ ((0 : Int32) ≤ p1 ∧ p1 ≤ (9999 : Int32)) from h)]; rfl
    · unfold fX11_days
      rw [in_lit p1 0 9999 (by omega) (by omega), if_neg h]; rfl
