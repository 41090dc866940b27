/-! ===== from the law's entry to its loop ===== -/
theorem lk_RL_9 : Lk RL 9 yX10_init cX10_init 1 none 0 ∧ Cond.instanceMethod yX10_init ∈ wsL_law := ⟨⟨by decide +kernel, by decide +kernel, by decide +kernel, by decide +kernel, by decide +kernel, by decide +kernel⟩, by decide +kernel⟩
theorem lk_RL_12 : Lk RL 12 yX11_init cX11_init 1 none 0 ∧ Cond.instanceMethod yX11_init ∈ wsL_law := ⟨⟨by decide +kernel, by decide +kernel, by decide +kernel, by decide +kernel, by decide +kernel, by decide +kernel⟩, by decide +kernel⟩
theorem cl_RL_7 : Cond.classLink RL 7 RX10 ∈ wsL_law ∧ Cond.instantiable RX10 9 ∈ wsL_law ∧ Cond.initialized RX10 ∈ wsL_law := ⟨by decide +kernel, by decide +kernel, by decide +kernel⟩
theorem cl_RL_10 : Cond.classLink RL 10 RX11 ∈ wsL_law ∧ Cond.instantiable RX11 28 ∈ wsL_law ∧ Cond.initialized RX11 ∈ wsL_law := ⟨by decide +kernel, by decide +kernel, by decide +kernel⟩
theorem tb_nest : ∀ w ∈ nwL, w ∈ lw_tbl := by decide +kernel
theorem tb_over : Cond.arrayOver (.object RX0) ∈ lw_tbl := by decide +kernel
theorem tb_str : Cond.stringRef RX10 68 txS ∈ lw_tbl := by decide +kernel
theorem tb_cs : Cond.laysStatic "java/lang/String" "COMPACT_STRINGS" "Z" ∈ lw_tbl ∧ Cond.initialized "java/lang/String" ∈ lw_tbl := ⟨by decide +kernel, by decide +kernel⟩
theorem tb_si : Cond.laysStatic "jdk/internal/util/Preconditions" "SIOOBE_FORMATTER" SioN ∈ lw_tbl ∧ Cond.initialized "jdk/internal/util/Preconditions" ∈ lw_tbl := ⟨by decide +kernel, by decide +kernel⟩
theorem tb_ty : Cond.arrayClass .int ∈ lw_tbl ∧ Cond.arrayClass .byte ∈ lw_tbl ∧ Cond.arrayClass .boolean ∈ lw_tbl := ⟨by decide +kernel, by decide +kernel, by decide +kernel⟩
theorem tb_iX0 : Cond.instantiable RX0 2 ∈ lw_tbl := by decide +kernel
theorem tb_iX1 : Cond.instantiable RX1 2 ∈ lw_tbl := by decide +kernel
theorem tb_iX2 : Cond.instantiable RX2 3 ∈ lw_tbl := by decide +kernel
theorem tb_iX4 : Cond.instantiable RX4 3 ∈ lw_tbl := by decide +kernel
theorem tb_iX5 : Cond.instantiable RX5 7 ∈ lw_tbl := by decide +kernel
theorem tb_iX6 : Cond.instantiable RX6 2 ∈ lw_tbl := by decide +kernel
theorem tb_iX7 : Cond.instantiable RX7 2 ∈ lw_tbl := by decide +kernel
theorem tb_iX8 : Cond.instantiable RX8 1 ∈ lw_tbl := by decide +kernel
theorem tb_iX9 : Cond.instantiable RX9 7 ∈ lw_tbl := by decide +kernel
theorem tb_iX10 : Cond.instantiable RX10 9 ∈ lw_tbl := by decide +kernel
theorem tb_iX11 : Cond.instantiable RX11 28 ∈ lw_tbl := by decide +kernel
abbrev gvC : Cond := Jvm.Cond.and given_1 narrow_1
theorem gv_1 : Cond.eq (.static "java/lang/String" "COMPACT_STRINGS" "Z") (.int 1) ∈ flatC gvC := by decide +kernel
theorem gv_2 : Cond.isRef (.static "jdk/internal/util/Preconditions" "SIOOBE_FORMATTER" SioN) ∈ flatC gvC := by decide +kernel
theorem gv_3 : Cond.exactly (Term.string RX10 68) "java/lang/String" ∈ flatC gvC := by decide +kernel
theorem gv_4 : Cond.eq (.field (Term.string RX10 68) "java/lang/String" "coder" "B") (.int 0) ∈ flatC gvC := by decide +kernel
theorem gv_5 : Cond.arrayOf (.field (Term.string RX10 68) "java/lang/String" "value" "[B") .byte ∈ flatC gvC := by decide +kernel
theorem gv_6 : Cond.eq (.length (.field (Term.string RX10 68) "java/lang/String" "value" "[B")) (.int (Int32.ofNat 34)) ∈ flatC gvC := by decide +kernel
theorem gv_7 : ∀ j, j < 34 → Cond.eq (.elem (.field (Term.string RX10 68) "java/lang/String" "value" "[B") (.int (Int32.ofNat j))) (.int ((strB.getD 0 []).getD j 0)) ∈ flatC gvC := by decide +kernel
set_option maxRecDepth 100000 in
set_option maxHeartbeats 4000000 in
theorem start_of {N : Nat} {Rel : St → St → Prop} {Zx Zm : St} (ob : OBS N Rel) (hiX : ∀ a : Nat → Nat, ∃ a9 : Nat → Nat, fX10_init N a (stf (stf (stf (stf (stf zS 15 (-1)) 24 6) 25 7) 33 6) 34 7) = some (a9, Zx)) (hiM : fX11_init N zS = some Zm) (hRel : Rel Zx Zm) {p : Program} {e : Env} {s : State} {m : MethodId} {below : List Frame} {meth : Method} {c : Code} (l : Launch) {b L : Nat} {xs : Nat → Int32} (hL : L ≤ 256) (C0 : lw_At p s m meth c b L xs) : W p l e room_1 s m #[Value.ref b] below meth c s.heap [] 0 0 (lw_Z below #[Value.ref b] s) (entryFrame m ([Value.ref b] : List Value).toArray 4) := by
  obtain ⟨hx, hb, hr, hml, hown, ht0, hX, hbl, hlocks, hgv⟩ := id C0
  have hgf := flat_of_before _ hgv
  have hts : ∀ w ∈ wsL_law, w.before #[Value.ref b] s = true := fun w h => ht0 w (wsL_law_in w h)
  have hA : ∀ q : Nat, s.heap.size ≤ q → (fun q : Nat => s.heap.size ≤ q) q := fun _ h => h
  have hbA : ¬ (fun q : Nat => s.heap.size ≤ q) b := Nat.not_le.mpr hbl
  have hold : ∀ a : Nat, a < s.heap.size → ¬ (fun q : Nat => s.heap.size ≤ q) a := fun a h => Nat.not_le.mpr h
  obtain ⟨c0, iS0, hKn0⟩ := u_known (C := RX0) (T := TX0) (N := 2) (n := 2) hts inlX0 (ht0 _ tb_iX0)
  obtain ⟨c1, iS1, hKn1⟩ := u_known (C := RX1) (T := TX1) (N := 2) (n := 2) hts inlX1 (ht0 _ tb_iX1)
  obtain ⟨c2, iS2, hKn2⟩ := u_known (C := RX2) (T := TX2) (N := 3) (n := 3) hts inlX2 (ht0 _ tb_iX2)
  obtain ⟨c3, iS3, hKn3⟩ := u_known (C := RX4) (T := TX4) (N := 3) (n := 3) hts inlX4 (ht0 _ tb_iX4)
  obtain ⟨c4, iS4, hKn4⟩ := u_known (C := RX5) (T := TX5) (N := 7) (n := 7) hts inlX5 (ht0 _ tb_iX5)
  obtain ⟨c5, iS5, hKn5⟩ := u_known (C := RX6) (T := TX6) (N := 2) (n := 2) hts inlX6 (ht0 _ tb_iX6)
  obtain ⟨c6, iS6, hKn6⟩ := u_known (C := RX7) (T := TX7) (N := 2) (n := 2) hts inlX7 (ht0 _ tb_iX7)
  obtain ⟨c7, iS7, hKn7⟩ := u_known (C := RX8) (T := TX8) (N := 1) (n := 1) hts inlX8 (ht0 _ tb_iX8)
  obtain ⟨c8, iS8, hKn8⟩ := u_known (C := RX9) (T := TX9) (N := 7) (n := 7) hts inlX9 (ht0 _ tb_iX9)
  obtain ⟨c9, iS9, hKn9⟩ := u_known (C := RX10) (T := TX10) (N := 9) (n := 9) hts inlX10 (ht0 _ tb_iX10)
  obtain ⟨c10, iS10, hKn10⟩ := u_known (C := RX11) (T := TX11) (N := 28) (n := 28) hts inlX11 (ht0 _ tb_iX11)
  obtain ⟨dC, dI, hKc⟩ : ∃ (dC : Nat → ClassId) (dI : Nat → Nat → Nat), ∀ (k : Nat) (q : vw_C), vwCl[k]? = some q → u_Kn s q.1 q.2.1 q.2.2 (dC k) (dI k) := by
    refine ⟨fun k => if k = 0 then c0 else if k = 1 then c1 else if k = 2 then c2 else if k = 3 then c3 else if k = 4 then c4 else if k = 5 then c5 else if k = 6 then c6 else if k = 7 then c7 else if k = 8 then c8 else if k = 9 then c9 else c10, fun k => if k = 0 then iS0 else if k = 1 then iS1 else if k = 2 then iS2 else if k = 3 then iS3 else if k = 4 then iS4 else if k = 5 then iS5 else if k = 6 then iS6 else if k = 7 then iS7 else if k = 8 then iS8 else if k = 9 then iS9 else iS10, ?_⟩
    intro k q hq
    match k, hq with
    | 0, hq => cases hq; exact hKn0
    | 1, hq => cases hq; exact hKn1
    | 2, hq => cases hq; exact hKn2
    | 3, hq => cases hq; exact hKn3
    | 4, hq => cases hq; exact hKn4
    | 5, hq => cases hq; exact hKn5
    | 6, hq => cases hq; exact hKn6
    | 7, hq => cases hq; exact hKn7
    | 8, hq => cases hq; exact hKn8
    | 9, hq => cases hq; exact hKn9
    | 10, hq => cases hq; exact hKn10
    | k + 11, hq => simp [vwCl] at hq
  obtain ⟨e0, k0, p0, f0, g0, j0⟩ := Cond.arrayClass_spec (ht0 _ tb_ty.1)
  obtain ⟨e1, k1, p1, f1, g1, j1⟩ := Cond.arrayClass_spec (ht0 _ tb_ty.2.1)
  obtain ⟨e2, k2, p2, f2, g2, j2⟩ := Cond.arrayClass_spec (ht0 _ tb_ty.2.2)
  obtain ⟨p3, e3, k3, f3, -, g3, j3, i3⟩ := Cond.arrayOver_spec (ht0 _ tb_over)
  obtain ⟨cA, hcA0, hcA1, hcA2, hcA3⟩ : ∃ cA : Nat → ClassId, cA 0 = e0 ∧ cA 1 = e1 ∧ cA 2 = e2 ∧ cA 3 = e3 := ⟨fun k => if k = 0 then e0 else if k = 1 then e1 else if k = 2 then e2 else e3, rfl, rfl, rfl, rfl⟩
  subst hcA0 hcA1 hcA2 hcA3
  have hK : va_K (dC, dI) vwCl (tyL cA) s := by
    refine ⟨hKc, fun k q hq => ?_⟩
    match k, hq with
    | 0, hq => cases hq; exact ⟨fun n z => ⟨fun k h => (by cases h), k0, g0, p0, j0⟩, f0⟩
    | 1, hq => cases hq; exact ⟨fun n z => ⟨fun k h => (by cases h), k1, g1, p1, j1⟩, f1⟩
    | 2, hq => cases hq; exact ⟨fun n z => ⟨fun k h => (by cases h), k2, g2, p2, j2⟩, f2⟩
    | 3, hq => cases hq; exact ⟨fun n z => ⟨fun k h => (by cases h), k3, g3, p3, j3⟩, k3, p3, g3, j3, f3, i3⟩
    | k + 4, hq => simp [tyL] at hq
  have hNN : NN s := fun w hw => by
    have h9 := ht0 w (tb_nest w hw)
    obtain ⟨a9, i9, x9, h9', rfl⟩ := nwL_nest w hw
    exact va_Nw.of rfl h9
  have C : Cx p s m #[Value.ref b] meth c (dC, dI) cA code 4 RL (some .boolean) := ⟨hx, hb, hml, hown, hts, hK, hNN, hr, hlocks⟩
  obtain ⟨adK, adV, hVS, hEv⟩ := vk_Sof (args := #[Value.ref b]) (s := s) (N := 1) (tm := fun _ => (Term.string RX10 68)) (len := strL) (byt := strB) (A := fun q : Nat => s.heap.size ≤ q) (by decide) (fun _ _ => hgf _ gv_3) (fun _ _ => hgf _ gv_4) (fun _ _ => hgf _ gv_5) (fun i hi => by rcases (show i = 0 by omega) with rfl; exact hgf _ gv_6) (fun i hi j hj => by rcases (show i = 0 by omega) with rfl; exact hgf _ (gv_7 j hj)) (fun i j hi hj hij => absurd (show i = j by omega) hij) hold
  obtain ⟨q, hq0⟩ : ∃ q, q = adK 0 := ⟨_, rfl⟩
  obtain ⟨v, hv0⟩ : ∃ v, v = adV 0 := ⟨_, rfl⟩
  have hVS1 : vk_S 1 strL strB (fun _ => q) (fun _ => v) (fun q : Nat => s.heap.size ≤ q) s s.heap := by
    refine ⟨fun i hi => ?_, fun i j hi hj _ => by omega⟩
    rcases (show i = 0 by omega) with rfl
    rw [hq0, hv0]
    exact hVS.1 0 (by decide)
  have hStr : StrA q v (fun q : Nat => s.heap.size ≤ q) s s.heap := ⟨hVS1, va_Zof (ht0 _ tb_cs.1) (ht0 _ tb_cs.2) (va_eqi (hgf _ gv_1)) hold, va_Zqof (ht0 _ tb_si.1) (ht0 _ tb_si.2) (hgf _ gv_2) hold⟩
  have hR0 : vk_R RX10 68 txS q s := by
    rw [hq0]
    exact vk_R.same (u := s) rfl (vk_R.of (A := #[]) (by have h9 := ht0 _ tb_str; first | exact h9 | exact va_tabs rfl rfl h9) (by have h9 := hEv 0 (by decide); first | exact h9 | (rw [Term.string_eval_of_vm (args := #[Value.ref b]) (s := s) rfl] at h9; exact h9)))
  have hO : va_AO RX0 s := va_AO.of (ht0 _ tb_over)
  have hS : va_S (fun q : Nat => s.heap.size ≤ q) s.heap s.heap [] := va_S.rf
  have hl := lv_entry ([.ref b]) (n := 4) (Nat.le_of_ble_eq_true rfl)
  rw [lg_entry_eq]
  generalize (lg_sl ([.ref b]) ++ List.replicate (4 - (lg_sl ([.ref b])).length) Slot.unset).toArray = ls at hl ⊢
  have hl : lv_has ls 4 [(0, .ref b)] := hl
  refine va_new (pc := 0) (ci := 9) (fs := [.null, .null, .null, .null, .null, .null, .null, .null, .null]) (C := RX10) (T := TX10) (N := 9) hx hb hts inlX10 tyX10 tyX10_ok hown (hts _ cl_RL_7.1) (hts _ cl_RL_7.2.1) (hts _ cl_RL_7.2.2) hK (em_P (D := (dC, dI))) em_D hS hA rfl (by decide) (Nat.le_of_ble_eq_true rfl) (Nat.le_of_ble_eq_true rfl) dL_law_0 (fun q1 H hP hD hS => ?_)
  have hP : va_P (dC, dI) vwCl ([] ++ [(q1, .inr (9, [.null, .null, .null, .null, .null, .null, .null, .null, .null]))]) H := hP
  have hD : va_D (fun q : Nat => s.heap.size ≤ q) ([] ++ [(q1, .inr (9, [.null, .null, .null, .null, .null, .null, .null, .null, .null]))]) := hD
  refine W.widen (k := 1) (n := 9) (Nat.le_of_ble_eq_true rfl) (Nat.le_of_ble_eq_true rfl) ?_
  refine lv_dup (pc := 3) hx hb dL_law_3 rfl ?_
  refine new_v (D := (dC, dI)) (W1 := fun u => w_X cA u Zx) (mc := 32) (ms := 1583) (va_runI (n := 0) (As := []) (rest := [.ref q1]) (b := q1) (index := 9) (fixU C) (nX10_init l (dC, dI) cA q1 q v hiX H.size) ⟨cb_of C lk_RL_9.1 ⟨Nat.le_of_ble_eq_true rfl, Nat.le_of_ble_eq_true rfl⟩, rfl, hts _ lk_RL_9.2⟩ ⟨PreX.blind, fun U hU hW => ⟨(preS_of C hP hD).2 U hU hW, va_AO.moved hW.alike hO, vk_R.warm hW hR0, strU hStr hS (free0 hD hS hA) U hU hW⟩⟩ rfl rfl hl.1 rfl (lv_room (Nat.le_of_ble_eq_true rfl)) dL_law_4 ⟨Nat.le_of_ble_eq_true rfl, Nat.le_of_ble_eq_true rfl⟩) hP hD hS hA (fun a H locs hu hP8 hD8 hS8 => ?_)
  subst hu
  have hP : va_P (dC, dI) vwCl (w_X cA a Zx) H := hP8
  have hD : va_D (fun q : Nat => s.heap.size ≤ q) (w_X cA a Zx) := hD8
  have hS := hS8
  refine W.widen (k := 33) (n := 1592) (Nat.le_of_ble_eq_true rfl) (Nat.le_of_ble_eq_true rfl) ?_
  refine lv_astore_n (lv' := [(1, .ref (a 0)), (0, .ref b)]) (pc := 7) hx hb dL_law_7 rfl hl (by decide) rfl (fun ls hl => ?_)
  refine va_new (pc := 8) (ci := 10) (fs := [.int 0, .null, .null, .null, .null, .null, .null, .null, .null, .null, .null, .int 0, .null, .int 0, .int 0, .null, .null, .int 0, .null, .int 0, .int 0, .int 0, .int 0, .int 0, .int 0, .null, .null, .null]) (C := RX11) (T := TX11) (N := 28) hx hb hts inlX11 tyX11 tyX11_ok hown (hts _ cl_RL_10.1) (hts _ cl_RL_10.2.1) (hts _ cl_RL_10.2.2) hK hP hD hS hA rfl (by decide) (Nat.le_of_ble_eq_true rfl) (Nat.le_of_ble_eq_true rfl) dL_law_8 (fun q2 H hP hD hS => ?_)
  refine W.widen (k := 34) (n := 1620) (Nat.le_of_ble_eq_true rfl) (Nat.le_of_ble_eq_true rfl) ?_
  refine lv_dup (pc := 11) hx hb dL_law_11 rfl ?_
  have hk : (w_X cA a Zx ++ [(q2, .inr (10, [.int 0, .null, .null, .null, .null, .null, .null, .null, .null, .null, .null, .int 0, .null, .int 0, .int 0, .null, .null, .int 0, .null, .int 0, .int 0, .int 0, .int 0, .int 0, .int 0, .null, .null, .null]))])[33]? = some (q2, .inr (10, [.int 0, .null, .null, .null, .null, .null, .null, .null, .null, .null, .null, .int 0, .null, .int 0, .int 0, .null, .null, .int 0, .null, .int 0, .int 0, .int 0, .int 0, .int 0, .int 0, .null, .null, .null])) := rfl
  have hPc : va_P (dC, dI) vwCl [(q2, .inr (10, [.int 0, .null, .null, .null, .null, .null, .null, .null, .null, .null, .null, .int 0, .null, .int 0, .int 0, .null, .null, .int 0, .null, .int 0, .int 0, .int 0, .int 0, .int 0, .int 0, .null, .null, .null]))] H := hP.sub [33] rfl
  have hDc : va_D (fun q : Nat => s.heap.size ≤ q) [(q2, .inr (10, [.int 0, .null, .null, .null, .null, .null, .null, .null, .null, .null, .null, .int 0, .null, .int 0, .int 0, .null, .null, .int 0, .null, .int 0, .int 0, .int 0, .int 0, .int 0, .int 0, .null, .null, .null]))] := hD.sub [33] (by decide) rfl
  refine new_v (D := (dC, dI)) (W1 := fun u => w_M cA u Zm) (mc := 17) (ms := 950) (va_runI (n := 0) (As := []) (rest := [.ref q2]) (b := q2) (index := 12) (fixU C) (nX11_init l (dC, dI) cA q2 hiM H.size) ⟨cb_of C lk_RL_12.1 ⟨Nat.le_of_ble_eq_true rfl, Nat.le_of_ble_eq_true rfl⟩, rfl, hts _ lk_RL_12.2⟩ ⟨fun a U g mk h => ⟨PreC.blind a U g mk h.1, trivial⟩, fun U hU hW => ⟨(preS_of C hPc hDc).2 U hU hW, trivial⟩⟩ rfl rfl hl.1 rfl (lv_room (Nat.le_of_ble_eq_true rfl)) dL_law_12 ⟨Nat.le_of_ble_eq_true rfl, Nat.le_of_ble_eq_true rfl⟩) hP hD hS hA (fun d H locs hu hP8 hD8 hS8 => ?_)
  subst hu
  refine W.widen (k := 51) (n := 2570) (Nat.le_of_ble_eq_true rfl) (Nat.le_of_ble_eq_true rfl) ?_
  refine lv_astore_n (lv' := [(2, .ref (d 0)), (1, .ref (a 0)), (0, .ref b)]) (pc := 15) hx hb dL_law_15 rfl hl (by decide) rfl (fun ls hl => ?_)
  refine lv_iconst (v := nI 0) (pc := 16) hx hb dL_law_16 (by decide) ?_
  refine lv_istore_n (lv' := [(3, .int (nI 0)), (2, .ref (d 0)), (1, .ref (a 0)), (0, .ref b)]) (pc := 17) hx hb dL_law_17 rfl hl (by decide) rfl (fun ls hl => ?_)
  have hlen : (w_X cA a Zx).length = 33 := rfl
  have hLS : LwS (dC, dI) cA s (fun q : Nat => s.heap.size ≤ q) a Zx d Zm H locs := by
    have up : ∀ (i : Nat) (x : Nat × va_E), (w_X cA a Zx)[i]? = some x → (w_X cA a Zx ++ w_M cA d Zm)[i]? = some x := fun i x hx => by
      rw [List.getElem?_append_left (List.getElem?_eq_some_iff.mp hx).1]
      exact hx
    have up2 : ∀ (i : Nat) (x : Nat × va_E), (w_M cA d Zm)[i]? = some x → (w_X cA a Zx ++ w_M cA d Zm)[33 + i]? = some x := fun i x hx => by
      rw [List.getElem?_append_right (by omega), hlen]
      simpa using hx
    refine ⟨fun k x hx => hP8 k x (up k x hx), fun k x hx => hP8 (33 + k) x (up2 k x hx), ⟨fun i j x y hx hy e9 => hD8.1 i j x y (up i x hx) (up j y hy) e9, fun k x hx => hD8.2 k x (up k x hx)⟩, ⟨fun i j x y hx hy e9 => by have := hD8.1 (33 + i) (33 + j) x y (up2 i x hx) (up2 j y hy) e9; omega, fun k x hx => hD8.2 (33 + k) x (up2 k x hx)⟩, fun i j x y hx hy e9 => ?_, hS8⟩
    have h1 := hD8.1 i (33 + j) x y (up i x hx) (up2 j y hy) e9
    have h2 : i < (w_X cA a Zx).length := (List.getElem?_eq_some_iff.mp hx).1
    omega
  exact lw_loop C hr hlocks hX hbl hL ob (L + 1) 0 (by omega) a Zx Zm hRel _ _ _ hLS (by omega) (lv_sub hl [3, 2, 1, 0] rfl)
