/-! ===== the sum ===== -/
def sg (c : Nat) : Bool := c == 43 || c == 45 || c == 42
theorem sgX_ok : ∀ c, c < 128 → fX6_isSign 0 (nI c) = some (nI (bN (sg c))) := by decide +kernel
theorem sgM_ok : ∀ c, c < 128 → fX11_isSign 0 (nI c) = some (nI (bN (sg c))) := by decide +kernel
theorem sign_X {N c : Nat} (h : c < 128) : fX6_isSign N (nI c) = some (nI (bN (sg c))) := sgX_ok c h
theorem sign_M {N c : Nat} (h : c < 128) : fX11_isSign N (nI c) = some (nI (bN (sg c))) := sgM_ok c h
theorem sg_t {c : Nat} (h : c = 43 ∨ c = 45 ∨ c = 42) : sg c = true := by rcases h with rfl | rfl | rfl <;> rfl
theorem sg_f {c : Nat} (h : 48 ≤ c) : sg c = false := by
  unfold sg
  rw [show (c == 43) = false from beq_eq_false_iff_ne.mpr (by omega), show (c == 45) = false from beq_eq_false_iff_ne.mpr (by omega), show (c == 42) = false from beq_eq_false_iff_ne.mpr (by omega)]
  rfl
theorem sR_cons {c : Nat} {l : List Nat} {r r' : Nat} (h : sumR (c :: l) r = some r') : (48 ≤ c ∧ c ≤ 57 ∧ r < 4 ∧ sumR l (r + 1) = some r') ∨ ((c = 43 ∨ c = 45 ∨ c = 42) ∧ 0 < r ∧ sumR l 0 = some r') := by
  rw [sumR] at h
  by_cases c1 : 48 ≤ c ∧ c ≤ 57
  · rw [if_pos c1] at h
    by_cases c2 : r < 4
    · rw [if_pos c2] at h; exact Or.inl ⟨c1.1, c1.2, c2, h⟩
    · rw [if_neg c2] at h; cases h
  · rw [if_neg c1] at h
    by_cases c2 : (c = 43 ∨ c = 45 ∨ c = 42) ∧ 0 < r
    · rw [if_pos c2] at h; exact Or.inr ⟨c2.1, c2.2, h⟩
    · rw [if_neg c2] at h; cases h
theorem sR_all : ∀ (L : List Nat) (r r' : Nat), sumR L r = some r' → ∀ j, j < L.length → 42 ≤ L.getD j 0 ∧ L.getD j 0 ≤ 57
  | [], _, _, _, j, hj => absurd hj (Nat.not_lt_zero j)
  | c :: l, r, r', h, 0, _ => by
    show 42 ≤ c ∧ c ≤ 57
    rcases sR_cons h with q | q <;> omega
  | c :: l, r, r', h, j + 1, hj => by
    show 42 ≤ l.getD j 0 ∧ l.getD j 0 ≤ 57
    have hj' : j < l.length := Nat.lt_of_succ_lt_succ hj
    rcases sR_cons h with ⟨-, -, -, q⟩ | ⟨-, -, q⟩
    · exact sR_all l _ _ q j hj'
    · exact sR_all l _ _ q j hj'
theorem drop_c {L l : List Nat} {s c : Nat} (h : L.drop s = c :: l) : s < L.length ∧ L.getD s 0 = c ∧ L.drop (s + 1) = l := by
  have hs : s < L.length := by
    rcases Nat.lt_or_ge s L.length with q | q
    · exact q
    · rw [List.drop_eq_nil_of_le q] at h; cases h
  rw [List.drop_eq_getElem_cons hs] at h
  injection h with h1 h2
  refine ⟨hs, ?_, h2⟩
  rw [List.getD_eq_getElem?_getD, List.getElem?_eq_getElem hs]
  exact h1
theorem drop_n {L : List Nat} {s : Nat} (h : L.drop s = []) : L.length ≤ s := List.drop_eq_nil_iff.mp h
def kw (x : Int64) : Int64 := if (if x < (2000000000 : Int64) then x else (2000000000 : Int64)) < (-2000000000 : Int64) then (-2000000000 : Int64) else (if x < (2000000000 : Int64) then x else (2000000000 : Int64))
theorem kept_X {N : Nat} (x : Int64) : fX6_keptWithin N x = some (kw x) := rfl
theorem within_M {N : Nat} (x : Int64) : fX11_within N x = some (kw x) := by
  unfold fX11_within kw
  by_cases h1 : x < (2000000000 : Int64)
  · rw [if_pos ((lg_cmp_le _ _).mpr (Int64.le_of_lt h1)), if_pos h1]
    by_cases h2 : x < (-2000000000 : Int64)
    · rw [if_neg (fun q => absurd h2 (Int64.not_lt.mpr ((lg_cmp_ge _ _).mp q))), if_pos h2]
    · rw [if_pos ((lg_cmp_ge _ _).mpr (Int64.not_lt.mp h2)), if_neg h2]
  · rw [if_neg h1]
    by_cases h3 : x ≤ (2000000000 : Int64)
    · have : x = (2000000000 : Int64) := Int64.le_antisymm h3 (Int64.not_lt.mp h1)
      rw [this]; decide
    · rw [if_neg (fun q => h3 ((lg_cmp_le _ _).mp q)), if_neg (by decide)]
theorem kw_kw (x : Int64) : kw (kw x) = kw x := by
  have : kw x = (-2000000000 : Int64) ∨ kw x = (2000000000 : Int64) ∨ kw x = x := by
    unfold kw
    by_cases h1 : x < (2000000000 : Int64)
    · rw [if_pos h1]
      by_cases h2 : x < (-2000000000 : Int64)
      · rw [if_pos h2]; exact Or.inl rfl
      · rw [if_neg h2]; exact Or.inr (Or.inr rfl)
    · rw [if_neg h1, if_neg (by decide)]; exact Or.inr (Or.inl rfl)
  rcases this with e | e | e
  · rw [e]; decide
  · rw [e]; decide
  · rw [e]; exact e
theorem kw_n {a : Nat} (h : a ≤ 9999) : kw (lN a) = lN a := by
  have h1 : lN a < (2000000000 : Int64) := (lN_lt (b := 2000000000) (by omega) (by omega)).mpr (by omega)
  have h2 : ¬ lN a < (-2000000000 : Int64) := by
    intro q
    have q2 := Int64.lt_iff_toInt_lt.mp q
    rw [lN_toInt (by omega)] at q2
    have e : (-2000000000 : Int64).toInt = -2000000000 := by decide
    omega
  unfold kw
  rw [if_pos h1, if_neg h2]
/-- what the letters that are left come to: v the total, tm the product that is open, n the number, mi whether it is taken away -/
def clN (tm : Option Int64) (n : Int64) : Int64 := match tm with
  | none => n
  | some t => kw (t * n)
def adN (mi : Bool) (v p : Int64) : Int64 := kw (if mi = true then v - p else v + p)
def cF (h : Nat → Nat) : List Nat → Int64 → Option Int64 → Int64 → Bool → Int64
  | [], v, tm, n, mi => adN mi v (clN tm n)
  | c :: l, v, tm, n, mi => if sg c = true then (if c = 42 then cF h l v (some (clN tm n)) 0 mi else cF h l (adN mi v (clN tm n)) none 0 (c == 45)) else cF h l v tm (n * 10 + lN (h (c - 48))) mi
def cW (h : Nat → Nat) : List Nat → Int64 → Int64
  | [], v => v
  | c :: l, v => cF h l v none 0 (c == 45)
def cP (h : Nat → Nat) : List Nat → Int64 → Int64 → Bool → Int64
  | [], v, x, mi => adN mi v x
  | c :: l, v, x, mi => if c = 42 then cF h l v (some x) 0 mi else cF h l (adN mi v x) none 0 (c == 45)
theorem cF_cP {h : Nat → Nat} {l : List Nat} (hl : l = [] ∨ ∃ c l2, l = c :: l2 ∧ (c = 43 ∨ c = 45 ∨ c = 42)) (v : Int64) (tm : Option Int64) (n : Int64) (mi : Bool) : cF h l v tm n mi = cP h l v (clN tm n) mi := by
  rcases hl with rfl | ⟨c, l2, rfl, hc⟩
  · rfl
  · rw [cF, if_pos (sg_t hc), cP]
theorem cF_d {h : Nat → Nat} {c : Nat} {l : List Nat} (hc : 48 ≤ c) (v : Int64) (tm : Option Int64) (n : Int64) (mi : Bool) : cF h (c :: l) v tm n mi = cF h l v tm (n * 10 + lN (h (c - 48))) mi := by
  rw [cF, if_neg (by rw [sg_f hc]; decide)]
/-! the class's -/
theorem sgn_X {N : Nat} {S T : St} {p1 : Int32} {g : Int64 × Int64 × Int64 × Int32 × Int32 × Int32 → Option Int32} {v t n : Int64} {ti mi : Bool} {x11 : Int32} {c : Nat} (hc : c = 43 ∨ c = 45 ∨ c = 42) : fX6_comesTo_j47 N S T p1 g v t n (nI (bN ti)) (nI (bN mi)) x11 (nI c) = g (if c = 42 then (v, clN (if ti = true then some t else none) n, 0, 1, nI (bN mi), x11 + 1) else (adN mi v (clN (if ti = true then some t else none) n), clN (if ti = true then some t else none) n, 0, 0, nI (bN (c == 45)), x11 + 1)) := by
  have s1 : fX6_comesTo_j47 N S T p1 g v t n (nI (bN ti)) (nI (bN mi)) x11 (nI c) = fX6_comesTo_j98 N S T p1 g v (nI (bN mi)) x11 (nI c) (clN (if ti = true then some t else none) n) := by
    unfold fX6_comesTo_j47
    rw [sign_X (by omega), sg_t hc]
    simp only [Option.bind_some]
    rw [if_neg (show ¬ nI (bN true) = (0 : Int32) by decide)]
    cases ti with
    | false => rw [if_pos (by rfl), if_neg (by decide)]; rfl
    | true => rw [if_neg (by decide), if_pos rfl, kept_X]; rfl
  rw [s1]
  generalize clN (if ti = true then some t else none) n = p
  unfold fX6_comesTo_j98 fX6_comesTo_j115 fX6_comesTo_j138 fX6_comesTo_j154 fX6_comesTo_j156
  rcases hc with rfl | rfl | rfl
  · rw [if_neg (show ¬ nI 43 = (42 : Int32) by decide), if_pos rfl, if_neg (show ¬ (43 : Nat) = 42 by decide), kept_X, kept_X]
    simp only [Option.bind_some]
    rw [if_neg (show ¬ nI 43 = (45 : Int32) by decide), if_neg (show ¬ nI 43 = (45 : Int32) by decide)]
    cases mi with
    | false => rw [if_pos (by rfl)]; rfl
    | true => rw [if_neg (by decide)]; rfl
  · rw [if_neg (show ¬ nI 45 = (42 : Int32) by decide), if_pos rfl, if_neg (show ¬ (45 : Nat) = 42 by decide), kept_X, kept_X]
    simp only [Option.bind_some]
    rw [if_pos (show nI 45 = (45 : Int32) by rfl), if_pos (show nI 45 = (45 : Int32) by rfl)]
    cases mi with
    | false => rw [if_pos (by rfl)]; rfl
    | true => rw [if_neg (by decide)]; rfl
  · rw [if_pos (show nI 42 = (42 : Int32) by rfl), if_neg i10, if_pos rfl]
theorem dig_X {N : Nat} {S T : St} {p1 : Int32} {g : Int64 × Int64 × Int64 × Int32 × Int32 × Int32 → Option Int32} {v t n : Int64} {x9 x10 x11 : Int32} {c : Nat} {h : Nat → Nat} (hh : ∀ f, f < 10 → h f < 10 ∧ fX0_heardAs N T (nI f) p1 = some (nI (h f))) (h1 : 48 ≤ c) (h2 : c ≤ 57) : fX6_comesTo_j47 N S T p1 g v t n x9 x10 x11 (nI c) = g (v, t, n * 10 + lN (h (c - 48)), x9, x10, x11 + 1) := by
  obtain ⟨a1, a2⟩ := hh (c - 48) (by omega)
  unfold fX6_comesTo_j47 fX6_comesTo_j156 nm
  rw [sign_X (by omega), sg_f h1, show nI c - (48 : Int32) = nI (c - 48) from pk_sub (a := c) (b := 48) h1, a2]
  simp only [Option.bind_some]
  rw [if_pos (by rfl), nI_l (by omega)]
theorem comes_X {N : Nat} {S T : St} {p1 : Int32} {L : List Nat} {h : Nat → Nat} {r' : Nat} (hN : 100 ≤ N) (hL : L.length ≤ 20) (hR : sumR L 0 = some r') (e0 : S 0 0 = nI L.length) (e1 : ∀ j, j < L.length → S 1 j = nI (L.getD j 0)) (hh : ∀ f, f < 10 → h f < 10 ∧ fX0_heardAs N T (nI f) p1 = some (nI (h f))) : fX6_comesTo N S T p1 = some (cF h L 0 none 0 false).toInt32 := by
  unfold fX6_comesTo fX6_comesTo_l17
  have key := lpN_ix (body := fun g q => fX6_comesTo_b17 N S T p1 g q.1 q.2.1 q.2.2.1 q.2.2.2.1 q.2.2.2.2.1 q.2.2.2.2.2) (enc := fun i : List Nat × Nat × Int64 × Int64 × Int64 × Bool × Bool => (i.2.2.1, i.2.2.2.1, i.2.2.2.2.1, nI (bN i.2.2.2.2.2.1), nI (bN i.2.2.2.2.2.2), nI i.2.1)) (I := fun i => i.2.1 ≤ L.length + 1 ∧ (i.2.1 ≤ L.length → L.drop i.2.1 = i.1 ∧ ∃ r, sumR i.1 r = some r')) (μ := fun i => L.length + 1 - i.2.1) (f := fun i => some (if i.2.1 ≤ L.length then cF h i.1 i.2.2.1 (if i.2.2.2.2.2.1 = true then some i.2.2.2.1 else none) i.2.2.2.2.1 i.2.2.2.2.2.2 else i.2.2.1).toInt32) ?_ N (L, 0, 0, 0, 0, false, false) ⟨by show 0 ≤ L.length + 1; omega, fun _ => ⟨rfl, 0, hR⟩⟩ (by show L.length + 1 - 0 < N; omega)
  · dsimp only at key
    rw [if_pos (Nat.zero_le _), if_neg (by decide)] at key
    exact key
  rintro g ⟨l, s, v, t, n, ti, mi⟩ ⟨hs, hl⟩ ih
  dsimp only at hs hl ih ⊢
  unfold fX6_comesTo_b17
  rw [e0]
  by_cases c0 : s ≤ L.length
  · obtain ⟨hd, r, hr⟩ := hl c0
    rw [if_neg (nI_nlt (by omega) (by omega)), if_pos c0]
    cases l with
    | nil =>
      have := drop_n hd
      rw [if_pos (nI_le (by omega) (by omega)), show (43 : Int32) = nI 43 from rfl, sgn_X (Or.inl rfl), if_neg (by decide), show nI s + (1 : Int32) = nI (s + 1) from nI_1 s]
      refine (ih ([], s + 1, adN mi v (clN (if ti = true then some t else none) n), clN (if ti = true then some t else none) n, 0, false, false) ⟨by show s + 1 ≤ L.length + 1; omega, fun q => absurd q (by show ¬ s + 1 ≤ L.length; omega)⟩ (by show L.length + 1 - (s + 1) < L.length + 1 - s; omega)).trans ?_
      dsimp only
      rw [if_neg (by omega)]
      rfl
    | cons c l =>
      obtain ⟨d1, d2, d3⟩ := drop_c hd
      rw [if_neg (nI_ge (by omega) (by omega)), if_pos (in_nI (by omega) (by omega)), nI_clamp (by omega), e1 s d1, d2]
      rcases sR_cons hr with ⟨q1, q2, q3, q4⟩ | ⟨q1, q2, q3⟩
      · rw [dig_X hh q1 q2, show nI s + (1 : Int32) = nI (s + 1) from nI_1 s]
        refine (ih (l, s + 1, v, t, _, ti, mi) ⟨by show s + 1 ≤ L.length + 1; omega, fun _ => ⟨d3, _, q4⟩⟩ (by show L.length + 1 - (s + 1) < L.length + 1 - s; omega)).trans ?_
        dsimp only
        rw [if_pos (by omega), cF_d q1]
      · rw [sgn_X q1, show nI s + (1 : Int32) = nI (s + 1) from nI_1 s, cF, if_pos (sg_t q1)]
        by_cases c42 : c = 42
        · rw [if_pos c42, if_pos c42]
          refine (ih (l, s + 1, v, clN (if ti = true then some t else none) n, 0, true, mi) ⟨by show s + 1 ≤ L.length + 1; omega, fun _ => ⟨d3, _, q3⟩⟩ (by show L.length + 1 - (s + 1) < L.length + 1 - s; omega)).trans ?_
          dsimp only
          rw [if_pos (show s + 1 ≤ L.length by omega), if_pos (show true = true from rfl)]
        · rw [if_neg c42, if_neg c42]
          refine (ih (l, s + 1, adN mi v (clN (if ti = true then some t else none) n), clN (if ti = true then some t else none) n, 0, false, c == 45) ⟨by show s + 1 ≤ L.length + 1; omega, fun _ => ⟨d3, _, q3⟩⟩ (by show L.length + 1 - (s + 1) < L.length + 1 - s; omega)).trans ?_
          dsimp only
          rw [if_pos (show s + 1 ≤ L.length by omega), if_neg (show ¬ false = true by decide)]
  · rw [if_pos (nI_lt (by omega) (by omega)), if_neg c0]
/-! the reference's -/
def uS (M : St) (s : Nat) : St := stf M 19 (nI s)
theorem uS_s (M : St) (s : Nat) : stf (uS M s) 19 (nI (s + 1)) = uS M (s + 1) := by
  funext i
  show (if i = 19 then (fun _ => nI (s + 1)) else if i = 19 then (fun _ => nI s) else M i) = if i = 19 then (fun _ => nI (s + 1)) else M i
  by_cases h : i = 19
  · rw [if_pos h, if_pos h]
  · rw [if_neg h, if_neg h, if_neg h]
/-- what the reference's state must bear -/
def SM (M : St) (L : List Nat) (fl : Bool) (h : Nat → Nat) : Prop := L.length ≤ 20 ∧ M 8 0 = nI L.length ∧ (∀ j, j < L.length → M 7 j = nI (L.getD j 0)) ∧ ∀ f, f < 10 → h f < 10 ∧ (fl = false → h f = f) ∧ (fl = true → (M 9 f = 1 ∧ M 9 (10 + f) = nI (h f)) ∨ (¬ M 9 f = 1 ∧ h f = f))
theorem num_M {N : Nat} {M : St} {L : List Nat} {fl : Bool} {h : Nat → Nat} {l : List Nat} {s r0 r' : Nat} (hN : 100 ≤ N) (hS : SM M L fl h) (hd : L.drop s = l) (hs : s ≤ L.length) (hR : sumR l 0 = some r') : ∃ a' s' l' r1, fX11_numberOf N (uS M s) (nI (bN fl)) = some (lN a', uS M s') ∧ L.drop s' = l' ∧ s ≤ s' ∧ s' ≤ L.length ∧ (l' = [] ∨ ∃ c l2, l' = c :: l2 ∧ (c = 43 ∨ c = 45 ∨ c = 42)) ∧ a' ≤ 9999 ∧ sumR l' r1 = some r' ∧ ∀ v tm mi, cF h l v tm 0 mi = cF h l' v tm (lN a') mi := by
  obtain ⟨hL, e8, e7, hh⟩ := hS
  unfold fX11_numberOf fX11_numberOf_l2
  have key := lpN_h (body := fun g q => fX11_numberOf_b2 N (nI (bN fl)) g q.1 q.2) (enc := fun i : List Nat × Nat × Nat × Nat => (lN i.2.2.1, uS M i.2.1)) (I := fun i => L.drop i.2.1 = i.1 ∧ i.2.1 ≤ L.length ∧ i.2.2.2 ≤ 4 ∧ i.2.2.1 < 10 ^ i.2.2.2 ∧ sumR i.1 i.2.2.2 = some r') (μ := fun i => L.length - i.2.1) (P := fun i o => ∃ a' s' l' r1, o = some (lN a', uS M s') ∧ L.drop s' = l' ∧ i.2.1 ≤ s' ∧ s' ≤ L.length ∧ (l' = [] ∨ ∃ c l2, l' = c :: l2 ∧ (c = 43 ∨ c = 45 ∨ c = 42)) ∧ a' ≤ 9999 ∧ sumR l' r1 = some r' ∧ ∀ v tm mi, cF h i.1 v tm (lN i.2.2.1) mi = cF h l' v tm (lN a') mi) ?_ N (l, s, 0, 0) ⟨hd, hs, Nat.zero_le _, by show 0 < 10 ^ 0; omega, hR⟩ (by show L.length - s < N; omega)
  · exact key
  rintro g ⟨l, s, a, r⟩ ⟨hd, hs, hr4, ha, hr⟩ ih
  dsimp only at hd hs hr4 ha hr ih ⊢
  have ha' : a ≤ 9999 := by
    have : 10 ^ r ≤ 10 ^ 4 := Nat.pow_le_pow_right (by omega) hr4
    omega
  unfold fX11_numberOf_b2
  have t8 : (uS M s) 8 0 = nI L.length := e8
  have t19 : (uS M s) 19 0 = nI s := rfl
  rw [t8, t19]
  cases l with
  | nil =>
    have := drop_n hd
    rw [if_pos (nI_le (by omega) (by omega))]
    exact ⟨a, s, [], r, rfl, hd, Nat.le_refl _, hs, Or.inl rfl, ha', hr, fun _ _ _ => rfl⟩
  | cons c l =>
    obtain ⟨d1, d2, d3⟩ := drop_c hd
    have t7 : (uS M s) 7 s = nI c := by rw [← d2]; exact e7 s d1
    have hq : ¬ (nI s < 0 ∨ 40 ≤ s) := by
      have := in_nI (n := s) (N := 40) (by omega) (by omega)
      rwa [nI_clamp (by omega)] at this
    rw [if_neg (nI_ge (by omega) (by omega))]
    simp only [nI_clamp (show s < 2 ^ 31 by omega)]
    rw [if_pos hq, if_pos hq, t7]
    rcases sR_cons hr with ⟨q1, q2, q3, q4⟩ | ⟨q1, q2, q3⟩
    · rw [sign_M (by omega), sg_f q1]
      simp only [Option.bind_some]
      rw [if_pos (by rfl)]
      obtain ⟨b1, b2, b3⟩ := hh (c - 48) (by omega)
      have go : g (lN (a * 10 + h (c - 48)), uS M (s + 1)) = g (lN (a * 10 + h (c - 48)), uS M (s + 1)) := rfl
      have fin := ih (l, s + 1, a * 10 + h (c - 48), r + 1) ⟨d3, by show s + 1 ≤ L.length; omega, by show r + 1 ≤ 4; omega, by show a * 10 + h (c - 48) < 10 ^ (r + 1); rw [Nat.pow_succ]; omega, q4⟩ (by show L.length - (s + 1) < L.length - s; omega)
      dsimp only at fin
      have res : ∃ a' s' l' r1, g (lN (a * 10 + h (c - 48)), uS M (s + 1)) = some (lN a', uS M s') ∧ L.drop s' = l' ∧ s ≤ s' ∧ s' ≤ L.length ∧ (l' = [] ∨ ∃ c l2, l' = c :: l2 ∧ (c = 43 ∨ c = 45 ∨ c = 42)) ∧ a' ≤ 9999 ∧ sumR l' r1 = some r' ∧ ∀ v tm mi, cF h (c :: l) v tm (lN a) mi = cF h l' v tm (lN a') mi := by
        obtain ⟨a', s', l', r1, f1, f2, f3, f4, f5, f6, f7, f8⟩ := fin
        refine ⟨a', s', l', r1, f1, f2, by omega, f4, f5, f6, f7, fun v tm mi => ?_⟩
        rw [← f8 v tm mi, cF_d q1, show (10 : Int64) = lN 10 from rfl, lN_mul, lN_add]
      have st : ∀ y : Nat, y < 10 → y = h (c - 48) → fX11_numberOf_j79 N (nI (bN fl)) g ((10 : Int64) * lN a) (nI y) (uS M s) = g (lN (a * 10 + h (c - 48)), uS M (s + 1)) := by
        intro y hy ey
        unfold fX11_numberOf_j79
        rw [t19, show nI s + (1 : Int32) = nI (s + 1) from nI_1 s, uS_s, nI_l (by omega), show (10 : Int64) = lN 10 from rfl, lN_mul, lN_add, ey, Nat.mul_comm 10 a]
      unfold fX11_numberOf_j77 nm
      dsimp only
      rw [show nI c - (48 : Int32) = nI (c - 48) from pk_sub (a := c) (b := 48) q1]
      cases fl with
      | false =>
        rw [if_pos (by rfl), st (c - 48) (by omega) (b2 rfl).symm]
        exact res
      | true =>
        rw [if_neg (by decide), if_pos (in_nI (by omega) (by omega)), nI_clamp (by omega)]
        rcases b3 rfl with ⟨z1, z2⟩ | ⟨z1, z2⟩
        · have z1' : (uS M s) 9 (c - 48) = 1 := z1
          have z2' : (uS M s) 9 (10 + (c - 48)) = nI (h (c - 48)) := z2
          rw [if_pos z1', show (10 : Int32) + nI (c - 48) = nI (10 + (c - 48)) from nI_add 10 (c - 48), if_pos (in_nI (by omega) (by omega)), nI_clamp (by omega), z2', st (h (c - 48)) b1 rfl]
          exact res
        · have z1' : ¬ (uS M s) 9 (c - 48) = 1 := z1
          rw [if_neg z1', st (c - 48) (by omega) z2.symm]
          exact res
    · rw [sign_M (by omega), sg_t q1]
      simp only [Option.bind_some]
      rw [if_neg (show ¬ nI (bN true) = (0 : Int32) by decide)]
      exact ⟨a, s, c :: l, r, rfl, hd, Nat.le_refl _, hs, Or.inr ⟨c, l, rfl, q1⟩, ha', hr, fun _ _ _ => rfl⟩
theorem prod_M {N : Nat} {M : St} {L : List Nat} {fl : Bool} {h : Nat → Nat} {l : List Nat} {s r' : Nat} (hN : 100 ≤ N) (hS : SM M L fl h) (hd : L.drop s = l) (hs : s ≤ L.length) (hR : sumR l 0 = some r') : ∃ p s' l' r1, fX11_productOf N (uS M s) (nI (bN fl)) = some (p, uS M s') ∧ L.drop s' = l' ∧ s ≤ s' ∧ s' ≤ L.length ∧ (l' = [] ∨ ∃ c l2, l' = c :: l2 ∧ (c = 43 ∨ c = 45)) ∧ kw p = p ∧ sumR l' r1 = some r' ∧ ∀ v mi, cF h l v none 0 mi = cW h l' (adN mi v p) := by
  obtain ⟨a1, s1, l1, r1, f1, f2, f3, f4, f5, f6, f7, f8⟩ := num_M (N := N) (r0 := 0) hN hS hd hs hR
  obtain ⟨hL, e8, e7, hh⟩ := id hS
  unfold fX11_productOf
  rw [f1]
  simp only [Option.bind_some]
  unfold fX11_productOf_l6
  have key := lpN_h (body := fun g q => fX11_productOf_b6 N (nI (bN fl)) g q.1 q.2) (enc := fun i : List Nat × Nat × Int64 => (i.2.2, uS M i.2.1)) (I := fun i => L.drop i.2.1 = i.1 ∧ i.2.1 ≤ L.length ∧ (i.1 = [] ∨ ∃ c l2, i.1 = c :: l2 ∧ (c = 43 ∨ c = 45 ∨ c = 42)) ∧ kw i.2.2 = i.2.2 ∧ ∃ r, sumR i.1 r = some r') (μ := fun i => L.length - i.2.1) (P := fun i o => ∃ p s' l' r1, o = some (p, uS M s') ∧ L.drop s' = l' ∧ i.2.1 ≤ s' ∧ s' ≤ L.length ∧ (l' = [] ∨ ∃ c l2, l' = c :: l2 ∧ (c = 43 ∨ c = 45)) ∧ kw p = p ∧ sumR l' r1 = some r' ∧ ∀ v mi, cP h i.1 v i.2.2 mi = cW h l' (adN mi v p)) ?_ N (l1, s1, lN a1) ⟨f2, f4, f5, kw_n f6, r1, f7⟩ (by show L.length - s1 < N; omega)
  · obtain ⟨p, s', l', r2, k1, k2, k3, k4, k5, k6, k7, k8⟩ := key
    dsimp only at k3 k8
    refine ⟨p, s', l', r2, k1, k2, by omega, k4, k5, k6, k7, fun v mi => ?_⟩
    rw [f8 v none mi, cF_cP f5]
    exact k8 v mi
  rintro g ⟨l, s, x⟩ ⟨hd, hs, hl, hx, r, hr⟩ ih
  dsimp only at hd hs hl hx hr ih ⊢
  unfold fX11_productOf_b6
  have t8 : (uS M s) 8 0 = nI L.length := e8
  have t19 : (uS M s) 19 0 = nI s := rfl
  rw [t8, t19]
  cases l with
  | nil =>
    have := drop_n hd
    rw [if_pos (nI_le (by omega) (by omega))]
    exact ⟨x, s, [], r, rfl, hd, Nat.le_refl _, hs, Or.inl rfl, hx, hr, fun _ _ => rfl⟩
  | cons c l =>
    obtain ⟨d1, d2, d3⟩ := drop_c hd
    have t7 : (uS M s) 7 s = nI c := by rw [← d2]; exact e7 s d1
    have hc : c = 43 ∨ c = 45 ∨ c = 42 := by
      rcases hl with q | ⟨c', l', q, q2⟩
      · cases q
      · injection q with q3 q4
        rw [q3]; exact q2
    have hr0 : sumR l 0 = some r' := by
      rcases sR_cons hr with ⟨q1, q2, q3, q4⟩ | ⟨q1, q2, q3⟩
      · omega
      · exact q3
    rw [if_neg (nI_ge (by omega) (by omega)), if_pos (in_nI (by omega) (by omega)), nI_clamp (by omega), t7, show nI s + (1 : Int32) = nI (s + 1) from nI_1 s, uS_s]
    by_cases c42 : c = 42
    · obtain ⟨a2, s2, l2, r2, g1, g2, g3, g4, g5, g6, g7, g8⟩ := num_M (N := N) (r0 := 0) hN hS d3 (by omega) hr0
      rw [if_pos (show nI c = (42 : Int32) by rw [c42]; rfl), g1]
      simp only [Option.bind_some]
      rw [within_M]
      simp only [Option.bind_some]
      obtain ⟨p, s', l', r3, k1, k2, k3, k4, k5, k6, k7, k8⟩ := ih (l2, s2, kw (x * lN a2)) ⟨g2, g4, g5, kw_kw _, r2, g7⟩ (by show L.length - s2 < L.length - s; omega)
      dsimp only at k3 k8
      refine ⟨p, s', l', r3, k1, k2, by omega, k4, k5, k6, k7, fun v mi => ?_⟩
      rw [cP, if_pos c42, g8 v (some x) mi, cF_cP g5]
      exact k8 v mi
    · rw [if_neg (show ¬ nI c = (42 : Int32) from fun q => c42 ((nI_eq (b := 42) (by omega) (by omega)).mp q))]
      refine ⟨x, s, c :: l, r, rfl, hd, Nat.le_refl _, hs, Or.inr ⟨c, l, rfl, by omega⟩, hx, hr, fun v mi => ?_⟩
      rw [cP, if_neg c42, cW]
theorem worth_M {N : Nat} {M : St} {L : List Nat} {fl : Bool} {h : Nat → Nat} {r' : Nat} (hN : 100 ≤ N) (hS : SM M L fl h) (hR : sumR L 0 = some r') : ∃ s, fX11_worth N M (nI (bN fl)) = some ((cF h L 0 none 0 false).toInt32, uS M s) := by
  obtain ⟨p0, s0, l0, r0, f1, f2, f3, f4, f5, f6, f7, f8⟩ := prod_M (N := N) (s := 0) (l := L) hN hS rfl (Nat.zero_le _) hR
  obtain ⟨hL, e8, e7, hh⟩ := id hS
  unfold fX11_worth
  rw [show stf M 19 (0 : Int32) = uS M 0 from rfl, f1]
  simp only [Option.bind_some]
  rw [f8 0 false, show adN false 0 p0 = p0 from (congrArg kw (Int64.zero_add p0)).trans f6]
  unfold fX11_worth_l11
  have key := lpN_h (body := fun g q => fX11_worth_b11 N (nI (bN fl)) g q.1 q.2) (enc := fun i : List Nat × Nat × Int64 => (i.2.2, uS M i.2.1)) (I := fun i => L.drop i.2.1 = i.1 ∧ i.2.1 ≤ L.length ∧ (i.1 = [] ∨ ∃ c l2, i.1 = c :: l2 ∧ (c = 43 ∨ c = 45)) ∧ ∃ r, sumR i.1 r = some r') (μ := fun i => L.length - i.2.1) (P := fun i o => ∃ s, o = some ((cW h i.1 i.2.2).toInt32, uS M s)) ?_ N (l0, s0, p0) ⟨f2, f4, f5, r0, f7⟩ (by show L.length - s0 < N; omega)
  · exact key
  rintro g ⟨l, s, x⟩ ⟨hd, hs, hl, r, hr⟩ ih
  dsimp only at hd hs hl hr ih ⊢
  unfold fX11_worth_b11
  have t8 : (uS M s) 8 0 = nI L.length := e8
  have t19 : (uS M s) 19 0 = nI s := rfl
  rw [t8, t19]
  cases l with
  | nil =>
    have := drop_n hd
    rw [if_pos (nI_le (by omega) (by omega))]
    exact ⟨s, rfl⟩
  | cons c l =>
    obtain ⟨d1, d2, d3⟩ := drop_c hd
    have t7 : (uS M s) 7 s = nI c := by rw [← d2]; exact e7 s d1
    have hc : c = 43 ∨ c = 45 := by
      rcases hl with q | ⟨c', l', q, q2⟩
      · cases q
      · injection q with q3 q4
        rw [q3]; exact q2
    have hr0 : sumR l 0 = some r' := by
      rcases sR_cons hr with ⟨q1, q2, q3, q4⟩ | ⟨q1, q2, q3⟩
      · omega
      · exact q3
    rw [if_neg (nI_ge (by omega) (by omega)), if_pos (in_nI (by omega) (by omega)), nI_clamp (by omega), t7, show nI s + (1 : Int32) = nI (s + 1) from nI_1 s, uS_s]
    obtain ⟨p, s', l', r1, g1, g2, g3, g4, g5, g6, g7, g8⟩ := prod_M (N := N) hN hS d3 (by omega) hr0
    unfold nm
    dsimp only
    rw [g1]
    simp only [Option.bind_some]
    unfold fX11_worth_j70
    rw [within_M, within_M]
    simp only [Option.bind_some]
    rw [cW, g8 x (c == 45)]
    have fin := ih (l', s', adN (c == 45) x p) ⟨g2, g4, g5, r1, g7⟩ (by show L.length - s' < L.length - s; omega)
    dsimp only at fin
    rcases hc with rfl | rfl
    · rw [if_pos (show nI 43 = (43 : Int32) by rfl)]
      exact fin
    · rw [if_neg (show ¬ nI 45 = (43 : Int32) by decide)]
      exact fin
