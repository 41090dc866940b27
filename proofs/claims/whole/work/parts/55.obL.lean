/-! ===== coins: change, never, pays ===== -/
/-- a row of 201 numbers laid over what stood there -/
def cwN (r : Nat → Int32) (F : Nat → Nat) : Nat → Int32 := fun x => if x ≤ 200 then nI (F x) else r x
def uN (F : Nat → Nat) (x v : Nat) : Nat → Nat := fun y => if y = x then v else F y
theorem cw_u {r : Nat → Int32} {F : Nat → Nat} {x v : Nat} (hx : x ≤ 200) : upd (cwN r F) x (nI v) = cwN r (uN F x v) := by
  funext y
  by_cases h : y = x
  · subst h
    rw [upd_s]
    show nI v = if y ≤ 200 then nI (if y = y then v else F y) else r y
    rw [if_pos hx, if_pos rfl]
  · rw [upd_n _ _ h]
    show (if y ≤ 200 then nI (F y) else r y) = if y ≤ 200 then nI (if y = x then v else F y) else r y
    rw [if_neg h]
theorem cw_at {r : Nat → Int32} {F : Nat → Nat} {x : Nat} (hx : x ≤ 200) : cwN r F x = nI (F x) := if_pos hx
/-- the start row: a at 0, b from 1 up to below i, else what stood -/
def s0N (a b : Nat) : Nat → Nat := fun x => if x = 0 then a else b
theorem startWith_X {N a b : Nat} {S : St} (hN : 300 ≤ N) : fX8_startWith N S (nI a) (nI b) = some (va_up S 0 (cwN (S 0) (s0N a b))) := by
  unfold fX8_startWith fX8_startWith_l9
  have key := lpN_ix (body := fun g q => fX8_startWith_b9 N (nI a) (nI b) g q.1 q.2) (enc := fun i : Nat => (nI i, va_up S 0 (fun x => if x < i then nI (s0N a b x) else S 0 x))) (I := fun i => 1 ≤ i ∧ i ≤ 201) (μ := fun i => 201 - i) (f := fun _ => some (va_up S 0 (cwN (S 0) (s0N a b)))) ?_ N 1 ⟨by omega, by omega⟩ (by omega)
  · have e : sti S 0 0 (nI a) = va_up S 0 (fun x => if x < 1 then nI (s0N a b x) else S 0 x) := by
      show va_up S 0 (upd (S 0) 0 (nI a)) = _
      congr 1
      funext x
      by_cases h : x = 0
      · subst h; rw [upd_s]; rfl
      · rw [upd_n _ _ h, if_neg (by omega)]
    rw [e]
    exact key
  rintro g i ⟨h1, h2⟩ ih
  dsimp only at ih ⊢
  unfold fX8_startWith_b9
  by_cases h : 200 < i
  · rw [if_pos (show (200 : Int32) < nI i from nI_lt (a := 200) h (by omega))]
    congr 2
    funext x
    show (if x < i then nI (s0N a b x) else S 0 x) = if x ≤ 200 then nI (s0N a b x) else S 0 x
    by_cases hx : x ≤ 200
    · rw [if_pos hx, if_pos (by omega)]
    · rw [if_neg hx, if_neg (by omega)]
  · rw [if_neg (show ¬ (200 : Int32) < nI i from nI_nlt (a := 200) (by omega) (by omega)), if_pos (in_nI (by omega) (by omega)), nI_clamp (by omega), show nI i + (1 : Int32) = nI (i + 1) from nI_1 i, sti_up]
    have e : upd (fun x => if x < i then nI (s0N a b x) else S 0 x) i (nI b) = fun x => if x < i + 1 then nI (s0N a b x) else S 0 x := by
      funext x
      by_cases hx : x = i
      · subst hx
        rw [upd_s, if_pos (by omega)]
        unfold s0N
        rw [if_neg (by omega)]
      · rw [upd_n _ _ hx]
        by_cases hx2 : x < i
        · rw [if_pos hx2, if_pos (by omega)]
        · rw [if_neg hx2, if_neg (by omega)]
    rw [e]
    exact ih (i + 1) ⟨by omega, by omega⟩ (by omega)
