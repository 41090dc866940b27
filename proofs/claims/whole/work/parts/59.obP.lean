/-! ===== ways, the reference's side; ways, shortest ===== -/
theorem pl_M {N k n : Nat} {M U : St} {w : WT} (hN : 100000 ≤ N) (hk : k < 1024) (hw : NW k M) (hn : n ≤ 999) (h : HM M U w) : ∃ U', fX11_goWays_l15 N (nI n) N (0, U) = fX11_goWays_j38 N (nI n) U' ∧ HM M U' (plN k n (n / 2 + 1) 0 w) := by
  unfold fX11_goWays_l15
  have key := lpN_h (body := fun g q => fX11_goWays_b15 N (nI n) g q.1 q.2) (enc := fun i : Nat × Nat × St × WT => (nI i.2.1, i.2.2.1)) (I := fun i => i.2.1 + i.1 = n / 2 + 1 ∧ HM M i.2.2.1 i.2.2.2) (μ := fun i => i.1) (P := fun i o => ∃ U', o = fX11_goWays_j38 N (nI n) U' ∧ HM M U' (plN k n i.1 i.2.1 i.2.2.2)) ?_ N (n / 2 + 1, 0, U, w) ⟨by show 0 + (n / 2 + 1) = n / 2 + 1; omega, h⟩ (by show n / 2 + 1 < N; omega)
  · exact key
  rintro g ⟨m, a, U, w⟩ ⟨hm, hU⟩ ih
  dsimp only at hm hU ih ⊢
  unfold fX11_goWays_b15
  rw [show (2 : Int32) * nI a = nI (2 * a) from pk_mul 2 a]
  cases m with
  | zero =>
    rw [if_pos (nI_lt (by omega) (by omega))]
    exact ⟨U, rfl, hU⟩
  | succ m =>
    rw [pk_sub (show a ≤ n by omega), if_neg (nI_nlt (by omega) (by omega))]
    obtain ⟨U', e, hU'⟩ := note_M (N := N) (p := 1) (d := 1) rfl hN hk hw hU (show n ≤ 99999 by omega) (show a ≤ 99999 by omega) (show n - a ≤ 99999 by omega) (by omega) (fun q => absurd q (by omega))
    rw [e]
    simp only [Option.bind_some]
    rw [show nI a + (1 : Int32) = nI (a + 1) from nI_1 a]
    exact ih (m, a + 1, U', _) ⟨by show a + 1 + m = n / 2 + 1; omega, hU'⟩ (by show m < m + 1; omega)
theorem mi_M {N k n : Nat} {M U : St} {w : WT} (hN : 100000 ≤ N) (hk : k < 1024) (hw : NW k M) (hn : n ≤ 999) (h : HM M U w) : ∃ U', fX11_goWays_l42 N (nI n) N (nI (n + 1), U) = fX11_goWays_j65 N (nI n) U' ∧ HM M U' (miN k n (999 - n) 1 w) := by
  unfold fX11_goWays_l42
  have key := lpN_h (body := fun g q => fX11_goWays_b42 N (nI n) g q.1 q.2) (enc := fun i : Nat × Nat × St × WT => (nI (n + i.2.1), i.2.2.1)) (I := fun i => n + i.2.1 + i.1 = 1000 ∧ HM M i.2.2.1 i.2.2.2) (μ := fun i => i.1) (P := fun i o => ∃ U', o = fX11_goWays_j65 N (nI n) U' ∧ HM M U' (miN k n i.1 i.2.1 i.2.2.2)) ?_ N (999 - n, 1, U, w) ⟨by show n + 1 + (999 - n) = 1000; omega, h⟩ (by show 999 - n < N; omega)
  · exact key
  rintro g ⟨m, b, U, w⟩ ⟨hm, hU⟩ ih
  dsimp only at hm hU ih ⊢
  unfold fX11_goWays_b42
  cases m with
  | zero =>
    rw [if_pos (show (999 : Int32) < nI (n + b) from nI_lt (a := 999) (by omega) (by omega))]
    exact ⟨U, rfl, hU⟩
  | succ m =>
    rw [if_neg (show ¬ (999 : Int32) < nI (n + b) from nI_nlt (a := 999) (by omega) (by omega)), pk_sub (show n ≤ n + b by omega), Nat.add_sub_cancel_left]
    obtain ⟨U', e, hU'⟩ := note_M (N := N) (p := 2) (d := 2) rfl hN hk hw hU (show n ≤ 99999 by omega) (show n + b ≤ 99999 by omega) (show b ≤ 99999 by omega) (by omega) (fun q => absurd q (by omega))
    rw [e]
    simp only [Option.bind_some]
    rw [show nI (n + b) + (1 : Int32) = nI (n + (b + 1)) from nI_1 (n + b)]
    exact ih (m, b + 1, U', _) ⟨by show n + (b + 1) + m = 1000; omega, hU'⟩ (by show m < m + 1; omega)
theorem in0_M {N k n : Nat} {M U : St} {w : WT} {g67 : Int32 × St → Option St} (hN : 100000 ≤ N) (hk : k < 1024) (hw : NW k M) (hn : n ≤ 999) (h : HM M U w) : ∃ U', fX11_goWays_l76 N (nI n) g67 N (nI 0, nI 0, U) = fX11_goWays_j111 N (nI n) g67 (nI 0) U' ∧ HM M U' (if n = 0 then zeN k 1000 0 w else w) := by
  unfold fX11_goWays_l76
  have key := lpN_h (body := fun g q => fX11_goWays_b76 N (nI n) g67 g q.1 q.2.1 q.2.2) (enc := fun i : Nat × Nat × St × WT => (nI 0, nI i.2.1, i.2.2.1)) (I := fun i => i.2.1 + i.1 = 1000 ∧ HM M i.2.2.1 i.2.2.2) (μ := fun i => i.1) (P := fun i o => ∃ U', o = fX11_goWays_j111 N (nI n) g67 (nI 0) U' ∧ HM M U' (if n = 0 then zeN k i.1 i.2.1 i.2.2.2 else i.2.2.2)) ?_ N (1000, 0, U, w) ⟨by show 0 + 1000 = 1000; omega, h⟩ (by show 1000 < N; omega)
  · exact key
  rintro g ⟨m, b, U, w⟩ ⟨hm, hU⟩ ih
  dsimp only at hm hU ih ⊢
  unfold fX11_goWays_b76
  cases m with
  | zero =>
    rw [if_pos (show (999 : Int32) < nI b from nI_lt (a := 999) (by omega) (by omega))]
    refine ⟨U, rfl, ?_⟩
    by_cases c : n = 0
    · rw [if_pos c]; exact hU
    · rw [if_neg c]; exact hU
  | succ m =>
    rw [if_neg (show ¬ (999 : Int32) < nI b from nI_nlt (a := 999) (by omega) (by omega)), pk_mul, Nat.zero_mul, if_neg (nI_nlt (by omega) (by omega))]
    unfold fX11_goWays_j105
    rw [show nI b + (1 : Int32) = nI (b + 1) from nI_1 b]
    by_cases c : n = 0
    · rw [if_pos (show nI 0 = nI n by rw [c]), if_pos c]
      obtain ⟨U', e, hU'⟩ := note_M (N := N) (n := n) (p := 3) (d := 3) (a := 0) rfl hN hk hw hU (by omega) (by omega) (show b ≤ 99999 by omega) (by omega) (fun q => absurd q (by omega))
      rw [e]
      simp only [Option.bind_some]
      have := ih (m, b + 1, U', _) ⟨by show b + 1 + m = 1000; omega, hU'⟩ (by show m < m + 1; omega)
      rw [if_pos c] at this
      exact this
    · rw [if_neg (fun q => c ((nI_eq (by omega) (by omega)).mp q).symm), if_neg c]
      have := ih (m, b + 1, U, w) ⟨by show b + 1 + m = 1000; omega, hU⟩ (by show m < m + 1; omega)
      rw [if_neg c] at this
      exact this
theorem in_M {N k n a : Nat} {M U : St} {w : WT} {g67 : Int32 × St → Option St} (hN : 100000 ≤ N) (hk : k < 1024) (hw : NW k M) (hn : n ≤ 999) (ha : 1 ≤ a) (haa : a * a ≤ n) (h : HM M U w) : ∃ U', fX11_goWays_l76 N (nI n) g67 N (nI a, nI a, U) = fX11_goWays_j111 N (nI n) g67 (nI a) U' ∧ HM M U' (if n % a = 0 then tkN k w 3 a (n / a) else w) := by
  have ha31 : a ≤ 31 := by
    rcases Nat.lt_or_ge a 32 with q | q
    · omega
    · have := Nat.mul_le_mul q q; omega
  have had : a ≤ n / a := (Nat.le_div_iff_mul_le (by omega)).mpr haa
  have hdn : n / a ≤ n := Nat.div_le_self n a
  unfold fX11_goWays_l76
  have key := lpN_h (body := fun g q => fX11_goWays_b76 N (nI n) g67 g q.1 q.2.1 q.2.2) (enc := fun i : Nat × St × WT => (nI a, nI i.1, i.2.1)) (I := fun i => i.1 ≤ 1000 ∧ HM M i.2.1 i.2.2) (μ := fun i => 1000 - i.1) (P := fun i o => ∃ U', o = fX11_goWays_j111 N (nI n) g67 (nI a) U' ∧ HM M U' (if i.1 ≤ n / a then (if n % a = 0 then tkN k i.2.2 3 a (n / a) else i.2.2) else i.2.2)) ?_ N (a, U, w) ⟨by show a ≤ 1000; omega, h⟩ (by show 1000 - a < N; omega)
  · dsimp only at key
    rw [if_pos had] at key
    exact key
  rintro g ⟨b, U, w⟩ ⟨hb, hU⟩ ih
  dsimp only at hb hU ih ⊢
  unfold fX11_goWays_b76
  by_cases c0 : 999 < b
  · rw [if_pos (show (999 : Int32) < nI b from nI_lt (a := 999) c0 (by omega)), if_neg (by omega)]
    exact ⟨U, rfl, hU⟩
  · have hab : a * b ≤ 31 * 999 := Nat.mul_le_mul ha31 (by omega)
    have hiff : b ≤ n / a ↔ b * a ≤ n := Nat.le_div_iff_mul_le (by omega)
    rw [Nat.mul_comm b a] at hiff
    rw [if_neg (show ¬ (999 : Int32) < nI b from nI_nlt (a := 999) (by omega) (by omega)), pk_mul]
    by_cases c1 : n < a * b
    · rw [if_pos (nI_lt c1 (by omega)), if_neg (fun q => by have := hiff.mp q; omega)]
      exact ⟨U, rfl, hU⟩
    · rw [if_neg (nI_nlt (by omega) (by omega)), if_pos (hiff.mpr (by omega))]
      unfold fX11_goWays_j105
      rw [show nI b + (1 : Int32) = nI (b + 1) from nI_1 b]
      by_cases c2 : a * b = n
      · have r1 : n % a = 0 := by rw [← c2]; exact Nat.mul_mod_right a b
        have r2 : n / a = b := by rw [← c2]; exact Nat.mul_div_cancel_left b (by omega)
        rw [if_pos (show nI (a * b) = nI n by rw [c2]), if_pos r1, r2]
        obtain ⟨U', e, hU'⟩ := note_M (N := N) (n := n) (p := 3) (d := 3) (a := a) (b := b) rfl hN hk hw hU (by omega) (by omega) (by omega) (by omega) (fun q => absurd q (by omega))
        rw [e]
        simp only [Option.bind_some]
        have := ih (b + 1, U', _) ⟨by show b + 1 ≤ 1000; omega, hU'⟩ (by show 1000 - (b + 1) < 1000 - b; omega)
        dsimp only at this
        rw [if_neg (show ¬ b + 1 ≤ n / a by omega)] at this
        exact this
      · rw [if_neg (fun q => c2 ((nI_eq (by omega) (by omega)).mp q))]
        have := ih (b + 1, U, w) ⟨by show b + 1 ≤ 1000; omega, hU⟩ (by show 1000 - (b + 1) < 1000 - b; omega)
        dsimp only at this
        by_cases c3 : b + 1 ≤ n / a
        · rw [if_pos c3] at this
          exact this
        · have hb2 : n / a = b := by have := hiff.mpr (by omega); omega
          have hdm := Nat.div_add_mod n a
          rw [hb2] at hdm
          rw [if_neg c3] at this
          rw [if_neg (show ¬ n % a = 0 by omega)]
          exact this
theorem mu_M {N k n : Nat} {M U : St} {w : WT} (hN : 100000 ≤ N) (hk : k < 1024) (hw : NW k M) (hn : n ≤ 999) (h : HM M U w) : ∃ U', fX11_goWays_l67 N (nI n) N (0, U) = some U' ∧ HM M U' (muN k n 31 1 (if n = 0 then zeN k 1000 0 w else w)) := by
  unfold fX11_goWays_l67
  have key := lpN_h (body := fun g q => fX11_goWays_b67 N (nI n) g q.1 q.2) (enc := fun i : Nat × Nat × St × WT => (nI i.2.1, i.2.2.1)) (I := fun i => i.2.1 + i.1 = 32 ∧ HM M i.2.2.1 i.2.2.2) (μ := fun i => i.1) (P := fun i o => ∃ U', o = some U' ∧ HM M U' (if i.2.1 = 0 then muN k n 31 1 (if n = 0 then zeN k 1000 0 i.2.2.2 else i.2.2.2) else muN k n i.1 i.2.1 i.2.2.2)) ?_ N (32, 0, U, w) ⟨by show 0 + 32 = 32; omega, h⟩ (by show 32 < N; omega)
  · dsimp only at key
    rw [if_pos rfl] at key
    exact key
  rintro g ⟨m, a, U, w⟩ ⟨hm, hU⟩ ih
  dsimp only at hm hU ih ⊢
  have hsq := sq_le (a := a) (by omega)
  unfold fX11_goWays_b67
  rw [pk_mul]
  by_cases a0 : a = 0
  · subst a0
    rw [if_neg (nI_nlt (by omega) (by omega)), if_pos rfl]
    obtain ⟨U', e, hU'⟩ := in0_M (N := N) (g67 := g) hN hk hw hn hU
    rw [e]
    unfold fX11_goWays_j111
    have := ih (31, 1, U', _) ⟨by show 1 + 31 = 32; omega, hU'⟩ (by show 31 < m; omega)
    dsimp only at this
    rw [if_neg (by omega)] at this
    exact this
  · rw [if_neg a0]
    cases m with
    | zero =>
      rw [if_pos (nI_lt (by rw [show a = 32 by omega]; omega) (by omega))]
      exact ⟨U, rfl, hU⟩
    | succ m =>
      show ∃ U', _ ∧ HM M U' (if n < a * a then w else muN k n m (a + 1) (if n % a = 0 then tkN k w 3 a (n / a) else w))
      by_cases c : n < a * a
      · rw [if_pos (nI_lt c (by omega)), if_pos c]
        exact ⟨U, rfl, hU⟩
      · rw [if_neg (nI_nlt (by omega) (by omega)), if_neg c]
        obtain ⟨U', e, hU'⟩ := in_M (N := N) (g67 := g) hN hk hw hn (show 1 ≤ a by omega) (by omega) hU
        rw [e]
        unfold fX11_goWays_j111
        rw [show nI a + (1 : Int32) = nI (a + 1) from nI_1 a]
        have := ih (m, a + 1, U', _) ⟨by show a + 1 + m = 32; omega, hU'⟩ (by show m < m + 1; omega)
        dsimp only at this
        rw [if_neg (show ¬ a + 1 = 0 by omega)] at this
        exact this
theorem goWays_M {N k n : Nat} {M : St} (hN : 100000 ≤ N) (hk : k < 1024) (hw : NW k M) (hn : n ≤ 999) : ∃ U, fX11_goWays N M (nI n) = some U ∧ HM M U (fwN k n) := by
  have h0 : HM M (stf M 20 0) (0, 0, 0, 0, 0) := by
    refine ⟨fun i hi => ?_, rfl, fun q => absurd rfl q⟩
    show (if i = 20 then _ else M i) = M i
    rw [if_neg (by omega)]
  unfold fX11_goWays
  obtain ⟨U1, e1, h1⟩ := note_M (N := N) (n := n) (p := 0) (d := 0) (a := n) (b := 0) rfl hN hk hw h0 (by omega) (by omega) (by omega) (by omega) (fun _ => rfl)
  rw [show fX11_noteWay N (stf M 20 0) (nI n) 0 (nI n) 0 = some U1 from e1]
  simp only [Option.bind_some]
  obtain ⟨U2, e2, h2⟩ := pl_M (N := N) hN hk hw hn h1
  rw [e2]
  unfold fX11_goWays_j38
  obtain ⟨U3, e3, h3⟩ := mi_M (N := N) hN hk hw hn h2
  rw [show nI n + (1 : Int32) = nI (n + 1) from nI_1 n, e3]
  unfold fX11_goWays_j65
  obtain ⟨U4, e4, h4⟩ := mu_M (N := N) hN hk hw hn h3
  refine ⟨U4, e4, ?_⟩
  unfold fwN
  exact h4
theorem Rel.ways {S M T U : St} {S0 : St} {k : Nat} {w : WT} (h : Rel S M) (hk : k < 1024) (h0 : S0 0 0 = nI k ∧ ∀ n, n < 1000 → S0 6 n = nI (bN (sy k n))) (hT : HC S0 T w) (hU : HM M U w) : Rel (pt S 15 7 T) U := by
  refine ⟨h.1.congr rfl rfl (hU.1 0 (by omega)) (hU.1 1 (by omega)), h.2.1.congr rfl rfl rfl rfl rfl (hU.1 9 (by omega)) (hU.1 10 (by omega)) (hU.1 11 (by omega)), h.2.2.1.congr rfl rfl rfl rfl rfl (hU.1 12 (by omega)) (hU.1 13 (by omega)), h.2.2.2.1.congr rfl rfl rfl (hU.1 14 (by omega)) (hU.1 15 (by omega)) (hU.1 16 (by omega)), Or.inr ⟨k, hk, ?_, fun n hn => ?_⟩, h.2.2.2.2.2.congr rfl rfl rfl rfl rfl rfl (hU.1 3 (by omega)) (hU.1 4 (by omega)) (hU.1 5 (by omega)) (hU.1 6 (by omega)) (hU.1 7 (by omega)) (hU.1 8 (by omega))⟩
  · show T 0 0 = nI k
    rw [hT.1]; exact h0.1
  · show T 6 n = _
    rw [hT.2.1]; exact h0.2 n hn
theorem ob_ways {N : Nat} (hN : 100000 ≤ N) : OB_ways N Rel := by
  intro S M p1 hR
  obtain ⟨k, hk, e2, hFR, hw⟩ := hR.fig
  unfold fX10_ways fX11_ways
  rw [within_eq, in_lit p1 0 999 (by omega) (by omega)]
  rcases rng p1 (a := 0) (b := 999) (by omega) (by omega) with ⟨n, -, hn, rfl⟩ | h
  · have hb1 := rng_t (Nat.zero_le n) hn (by omega)
    rw [if_pos (show (0 : Int32) ≤ nI n ∧ nI n ≤ (999 : Int32) from hb1), if_pos hb1]
    simp only [Option.bind_some]
    obtain ⟨S0, T, eT, h0, hT⟩ := find_X (N := N) (n := n) (T := sh S 15) (by omega) hk hn hR.2.2.2.2.1
    obtain ⟨U, eU, hU⟩ := goWays_M (N := N) hN hk hw hn
    rw [if_neg i10, if_neg i10, e2, eT, eU]
    simp only [Option.bind_some]
    rw [hU.2.1]
    refine ⟨(fwN k n).1, pt S 15 7 T, U, ?_, rfl, hR.ways hk h0 hT hU⟩
    show some (T 1 0, pt S 15 7 T) = _
    rw [hT.2.2.1]
  · rw [if_neg (show ¬ ((0 : Int32) ≤ p1 ∧ p1 ≤ (999 : Int32)) from h), if_neg h]
    exact ⟨-1, S, M, rfl, rfl, hR⟩
theorem ob_shortest {N : Nat} (hN : 100000 ≤ N) : OB_shortest N Rel := by
  intro S M p1 p2 hR
  obtain ⟨k, hk, e2, hFR, hw⟩ := hR.fig
  unfold fX10_shortest fX11_shortest
  rw [within_eq, in_lit p1 0 999 (by omega) (by omega)]
  rcases rng p1 (a := 0) (b := 999) (by omega) (by omega) with ⟨n, -, hn, rfl⟩ | h
  · have hb1 := rng_t (Nat.zero_le n) hn (by omega)
    rw [if_pos (show (0 : Int32) ≤ nI n ∧ nI n ≤ (999 : Int32) from hb1), if_pos hb1]
    simp only [Option.bind_some]
    rw [if_neg i10, if_neg i10, within_eq, in_lit p2 0 3 (by omega) (by omega)]
    rcases rng p2 (a := 0) (b := 3) (by omega) (by omega) with ⟨v, -, hv, rfl⟩ | h
    · have hb2 := rng_t (Nat.zero_le v) hv (by omega)
      rw [if_pos (show (0 : Int32) ≤ nI v ∧ nI v ≤ (3 : Int32) from hb2), if_pos hb2]
      simp only [Option.bind_some]
      obtain ⟨S0, T, eT, h0, hT⟩ := find_X (N := N) (n := n) (T := sh S 15) (by omega) hk hn hR.2.2.2.2.1
      obtain ⟨U, eU, hU⟩ := goWays_M (N := N) hN hk hw hn
      rw [if_neg i10, if_neg i10, e2, eT, eU]
      simp only [Option.bind_some]
      have q1 : (pt S 15 7 T) 16 0 = (fwN k n).1 := hT.2.2.1
      rw [q1, hU.2.1]
      by_cases c : (fwN k n).1 = 0
      · rw [if_pos c, if_pos c]
        exact ⟨-4, _, U, rfl, rfl, hR.ways hk h0 hT hU⟩
      · rw [if_neg c, if_neg c]
        obtain ⟨a2, a3, a4, a5⟩ := hT.2.2.2 c
        obtain ⟨b2, b3, b4, b5⟩ := hU.2.2 c
        have s2 : (pt S 15 7 T) 17 0 = (fwN k n).2.1 := a2
        have s3 : (pt S 15 7 T) 18 0 = (fwN k n).2.2.1 := a3
        have s4 : (pt S 15 7 T) 19 0 = (fwN k n).2.2.2.1 := a4
        have s5 : (pt S 15 7 T) 20 0 = (fwN k n).2.2.2.2 := a5
        rw [s2, s3, s4, s5, b2, b3, b4, b5]
        have hRR := hR.ways hk h0 hT hU
        by_cases c0 : nI v = (0 : Int32)
        · rw [if_pos c0, if_pos c0]; exact ⟨_, _, U, rfl, rfl, hRR⟩
        · rw [if_neg c0, if_neg c0]
          by_cases c1 : nI v = (1 : Int32)
          · rw [if_pos c1, if_pos c1]; exact ⟨_, _, U, rfl, rfl, hRR⟩
          · rw [if_neg c1, if_neg c1]
            by_cases c2 : nI v = (2 : Int32)
            · rw [if_pos c2, if_pos c2]; exact ⟨_, _, U, rfl, rfl, hRR⟩
            · rw [if_neg c2, if_neg c2]; exact ⟨_, _, U, rfl, rfl, hRR⟩
    · rw [if_neg (show ¬ ((0 : Int32) ≤ p2 ∧ p2 ≤ (3 : Int32)) from h), if_neg h]
      exact ⟨-1, S, M, rfl, rfl, hR⟩
  · rw [if_neg (show ¬ ((0 : Int32) ≤ p1 ∧ p1 ≤ (999 : Int32)) from h), if_neg h]
    exact ⟨-1, S, M, rfl, rfl, hR⟩
