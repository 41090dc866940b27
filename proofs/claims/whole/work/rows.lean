section
-- ===== PART A: goes FIRST, ahead of the names: the tables' words, and 'selects' of the private methods out of them =====
/-- a private method of a class that the tables say can be made, by its rows of tables_1 -/
def lw_okq (q : MethodName × Nat) : Prop := (q.1.cls ≠ "java/lang/invoke/MethodHandle" ∧ q.1.cls ≠ "java/lang/invoke/VarHandle") ∧ Cond.instantiable q.1.cls q.2 ∈ tables_1 ∧ Cond.privateMethod q.1 ∈ tables_1 ∧ Cond.instanceMethod q.1 ∈ tables_1
theorem lw_p0 : lw_okq (⟨"SevenOnStrike", "layText", "()Z"⟩, 9) := ⟨⟨by decide +kernel, by decide +kernel⟩, List.mem_of_getElem? (i := 21) (by decide +kernel), List.mem_of_getElem? (i := 274) (by decide +kernel), List.mem_of_getElem? (i := 275) (by decide +kernel)⟩
theorem lw_p1 : lw_okq (⟨"SevenOnStrike$Told", "readItem", "(LSevenOnStrike$Text;)Z"⟩, 7) := ⟨⟨by decide +kernel, by decide +kernel⟩, List.mem_of_getElem? (i := 161) (by decide +kernel), List.mem_of_getElem? (i := 286) (by decide +kernel), List.mem_of_getElem? (i := 287) (by decide +kernel)⟩
theorem lw_p2 : lw_okq (⟨"SevenOnStrike$Told", "readStrike", "(LSevenOnStrike$Text;)Z"⟩, 7) := ⟨⟨by decide +kernel, by decide +kernel⟩, List.mem_of_getElem? (i := 161) (by decide +kernel), List.mem_of_getElem? (i := 297) (by decide +kernel), List.mem_of_getElem? (i := 298) (by decide +kernel)⟩
theorem lw_p3 : lw_okq (⟨"SevenOnStrike$Told", "readNumber", "(LSevenOnStrike$Text;)I"⟩, 7) := ⟨⟨by decide +kernel, by decide +kernel⟩, List.mem_of_getElem? (i := 161) (by decide +kernel), List.mem_of_getElem? (i := 301) (by decide +kernel), List.mem_of_getElem? (i := 302) (by decide +kernel)⟩
theorem lw_p4 : lw_okq (⟨"SevenOnStrike$Told", "readStandIn", "(LSevenOnStrike$Text;)Z"⟩, 7) := ⟨⟨by decide +kernel, by decide +kernel⟩, List.mem_of_getElem? (i := 161) (by decide +kernel), List.mem_of_getElem? (i := 315) (by decide +kernel), List.mem_of_getElem? (i := 316) (by decide +kernel)⟩
theorem lw_p5 : lw_okq (⟨"SevenOnStrike$Told", "readCoin", "(LSevenOnStrike$Text;)Z"⟩, 7) := ⟨⟨by decide +kernel, by decide +kernel⟩, List.mem_of_getElem? (i := 161) (by decide +kernel), List.mem_of_getElem? (i := 319) (by decide +kernel), List.mem_of_getElem? (i := 320) (by decide +kernel)⟩
theorem lw_p6 : lw_okq (⟨"SevenOnStrike$Told", "hasCoin", "(I)Z"⟩, 7) := ⟨⟨by decide +kernel, by decide +kernel⟩, List.mem_of_getElem? (i := 161) (by decide +kernel), List.mem_of_getElem? (i := 323) (by decide +kernel), List.mem_of_getElem? (i := 324) (by decide +kernel)⟩
theorem lw_p7 : lw_okq (⟨"SevenOnStrike$Told", "readSides", "(LSevenOnStrike$Text;)Z"⟩, 7) := ⟨⟨by decide +kernel, by decide +kernel⟩, List.mem_of_getElem? (i := 161) (by decide +kernel), List.mem_of_getElem? (i := 327) (by decide +kernel), List.mem_of_getElem? (i := 328) (by decide +kernel)⟩
theorem lw_p8 : lw_okq (⟨"SevenOnStrike$Told", "readWeek", "(LSevenOnStrike$Text;)Z"⟩, 7) := ⟨⟨by decide +kernel, by decide +kernel⟩, List.mem_of_getElem? (i := 161) (by decide +kernel), List.mem_of_getElem? (i := 332) (by decide +kernel), List.mem_of_getElem? (i := 333) (by decide +kernel)⟩
theorem lw_p9 : lw_okq (⟨"SevenOnStrike$Told", "readSum", "(LSevenOnStrike$Text;)Z"⟩, 7) := ⟨⟨by decide +kernel, by decide +kernel⟩, List.mem_of_getElem? (i := 161) (by decide +kernel), List.mem_of_getElem? (i := 336) (by decide +kernel), List.mem_of_getElem? (i := 337) (by decide +kernel)⟩
theorem lw_p10 : lw_okq (⟨"SevenOnStrike$Speech", "fillRow", "(I)V"⟩, 7) := ⟨⟨by decide +kernel, by decide +kernel⟩, List.mem_of_getElem? (i := 116) (by decide +kernel), List.mem_of_getElem? (i := 517) (by decide +kernel), List.mem_of_getElem? (i := 518) (by decide +kernel)⟩
theorem lw_p11 : lw_okq (⟨"SevenOnStrike$Speech", "take", "(III)V"⟩, 7) := ⟨⟨by decide +kernel, by decide +kernel⟩, List.mem_of_getElem? (i := 116) (by decide +kernel), List.mem_of_getElem? (i := 522) (by decide +kernel), List.mem_of_getElem? (i := 523) (by decide +kernel)⟩
theorem lw_p12 : lw_okq (⟨"SevenOnStrike$Speech", "takeIfSaid", "(III)V"⟩, 7) := ⟨⟨by decide +kernel, by decide +kernel⟩, List.mem_of_getElem? (i := 116) (by decide +kernel), List.mem_of_getElem? (i := 527) (by decide +kernel), List.mem_of_getElem? (i := 528) (by decide +kernel)⟩
theorem lw_p13 : lw_okq (⟨"SevenOnStrike$Till", "startWith", "(II)V"⟩, 1) := ⟨⟨by decide +kernel, by decide +kernel⟩, List.mem_of_getElem? (i := 150) (by decide +kernel), List.mem_of_getElem? (i := 543) (by decide +kernel), List.mem_of_getElem? (i := 544) (by decide +kernel)⟩
theorem lw_p14 : lw_okq (⟨"SevenOnStrike", "workingDays", "()I"⟩, 9) := ⟨⟨by decide +kernel, by decide +kernel⟩, List.mem_of_getElem? (i := 21) (by decide +kernel), List.mem_of_getElem? (i := 571) (by decide +kernel), List.mem_of_getElem? (i := 572) (by decide +kernel)⟩
theorem lw_p15 : lw_okq (⟨"SevenOnStrike", "shownBy", "(I)I"⟩, 9) := ⟨⟨by decide +kernel, by decide +kernel⟩, List.mem_of_getElem? (i := 21) (by decide +kernel), List.mem_of_getElem? (i := 586) (by decide +kernel), List.mem_of_getElem? (i := 587) (by decide +kernel)⟩
def lw_privs_1 : List (MethodName × Nat) := [(⟨"SevenOnStrike", "layText", "()Z"⟩, 9), (⟨"SevenOnStrike$Told", "readItem", "(LSevenOnStrike$Text;)Z"⟩, 7), (⟨"SevenOnStrike$Told", "readStrike", "(LSevenOnStrike$Text;)Z"⟩, 7), (⟨"SevenOnStrike$Told", "readNumber", "(LSevenOnStrike$Text;)I"⟩, 7), (⟨"SevenOnStrike$Told", "readStandIn", "(LSevenOnStrike$Text;)Z"⟩, 7), (⟨"SevenOnStrike$Told", "readCoin", "(LSevenOnStrike$Text;)Z"⟩, 7), (⟨"SevenOnStrike$Told", "hasCoin", "(I)Z"⟩, 7), (⟨"SevenOnStrike$Told", "readSides", "(LSevenOnStrike$Text;)Z"⟩, 7), (⟨"SevenOnStrike$Told", "readWeek", "(LSevenOnStrike$Text;)Z"⟩, 7), (⟨"SevenOnStrike$Told", "readSum", "(LSevenOnStrike$Text;)Z"⟩, 7), (⟨"SevenOnStrike$Speech", "fillRow", "(I)V"⟩, 7), (⟨"SevenOnStrike$Speech", "take", "(III)V"⟩, 7), (⟨"SevenOnStrike$Speech", "takeIfSaid", "(III)V"⟩, 7), (⟨"SevenOnStrike$Till", "startWith", "(II)V"⟩, 1), (⟨"SevenOnStrike", "workingDays", "()I"⟩, 9), (⟨"SevenOnStrike", "shownBy", "(I)I"⟩, 9)]
theorem lw_r1 : ∀ q ∈ lw_privs_1, lw_okq q := List.forall_mem_cons.mpr ⟨lw_p0, List.forall_mem_cons.mpr ⟨lw_p1, List.forall_mem_cons.mpr ⟨lw_p2, List.forall_mem_cons.mpr ⟨lw_p3, List.forall_mem_cons.mpr ⟨lw_p4, List.forall_mem_cons.mpr ⟨lw_p5, List.forall_mem_cons.mpr ⟨lw_p6, List.forall_mem_cons.mpr ⟨lw_p7, List.forall_mem_cons.mpr ⟨lw_p8, List.forall_mem_cons.mpr ⟨lw_p9, List.forall_mem_cons.mpr ⟨lw_p10, List.forall_mem_cons.mpr ⟨lw_p11, List.forall_mem_cons.mpr ⟨lw_p12, List.forall_mem_cons.mpr ⟨lw_p13, List.forall_mem_cons.mpr ⟨lw_p14, List.forall_mem_cons.mpr ⟨lw_p15, fun _ h => absurd h List.not_mem_nil⟩⟩⟩⟩⟩⟩⟩⟩⟩⟩⟩⟩⟩⟩⟩⟩
theorem lw_p16 : lw_okq (⟨"SevenOnStrike", "costOf", "(II)I"⟩, 9) := ⟨⟨by decide +kernel, by decide +kernel⟩, List.mem_of_getElem? (i := 21) (by decide +kernel), List.mem_of_getElem? (i := 628) (by decide +kernel), List.mem_of_getElem? (i := 629) (by decide +kernel)⟩
theorem lw_p17 : lw_okq (⟨"SevenOnStrikeModel", "nothing", "(I)V"⟩, 28) := ⟨⟨by decide +kernel, by decide +kernel⟩, List.mem_of_getElem? (i := 673) (by decide +kernel), List.mem_of_getElem? (i := 679) (by decide +kernel), List.mem_of_getElem? (i := 680) (by decide +kernel)⟩
theorem lw_p18 : lw_okq (⟨"SevenOnStrikeModel", "begin", "()V"⟩, 28) := ⟨⟨by decide +kernel, by decide +kernel⟩, List.mem_of_getElem? (i := 673) (by decide +kernel), List.mem_of_getElem? (i := 683) (by decide +kernel), List.mem_of_getElem? (i := 684) (by decide +kernel)⟩
theorem lw_p19 : lw_okq (⟨"SevenOnStrikeModel", "readAll", "()I"⟩, 28) := ⟨⟨by decide +kernel, by decide +kernel⟩, List.mem_of_getElem? (i := 673) (by decide +kernel), List.mem_of_getElem? (i := 789) (by decide +kernel), List.mem_of_getElem? (i := 790) (by decide +kernel)⟩
theorem lw_p20 : lw_okq (⟨"SevenOnStrikeModel", "item", "()Z"⟩, 28) := ⟨⟨by decide +kernel, by decide +kernel⟩, List.mem_of_getElem? (i := 673) (by decide +kernel), List.mem_of_getElem? (i := 793) (by decide +kernel), List.mem_of_getElem? (i := 794) (by decide +kernel)⟩
theorem lw_p21 : lw_okq (⟨"SevenOnStrikeModel", "letterAt", "(I)I"⟩, 28) := ⟨⟨by decide +kernel, by decide +kernel⟩, List.mem_of_getElem? (i := 673) (by decide +kernel), List.mem_of_getElem? (i := 797) (by decide +kernel), List.mem_of_getElem? (i := 798) (by decide +kernel)⟩
theorem lw_p22 : lw_okq (⟨"SevenOnStrikeModel", "figures", "(I)Z"⟩, 28) := ⟨⟨by decide +kernel, by decide +kernel⟩, List.mem_of_getElem? (i := 673) (by decide +kernel), List.mem_of_getElem? (i := 801) (by decide +kernel), List.mem_of_getElem? (i := 802) (by decide +kernel)⟩
theorem lw_p23 : lw_okq (⟨"SevenOnStrikeModel", "coinItem", "()Z"⟩, 28) := ⟨⟨by decide +kernel, by decide +kernel⟩, List.mem_of_getElem? (i := 673) (by decide +kernel), List.mem_of_getElem? (i := 808) (by decide +kernel), List.mem_of_getElem? (i := 809) (by decide +kernel)⟩
theorem lw_p24 : lw_okq (⟨"SevenOnStrikeModel", "sumItem", "()Z"⟩, 28) := ⟨⟨by decide +kernel, by decide +kernel⟩, List.mem_of_getElem? (i := 673) (by decide +kernel), List.mem_of_getElem? (i := 813) (by decide +kernel), List.mem_of_getElem? (i := 814) (by decide +kernel)⟩
theorem lw_p25 : lw_okq (⟨"SevenOnStrikeModel", "strikers", "()I"⟩, 28) := ⟨⟨by decide +kernel, by decide +kernel⟩, List.mem_of_getElem? (i := 673) (by decide +kernel), List.mem_of_getElem? (i := 824) (by decide +kernel), List.mem_of_getElem? (i := 825) (by decide +kernel)⟩
theorem lw_p26 : lw_okq (⟨"SevenOnStrikeModel", "note", "()V"⟩, 28) := ⟨⟨by decide +kernel, by decide +kernel⟩, List.mem_of_getElem? (i := 673) (by decide +kernel), List.mem_of_getElem? (i := 843) (by decide +kernel), List.mem_of_getElem? (i := 844) (by decide +kernel)⟩
theorem lw_p27 : lw_okq (⟨"SevenOnStrikeModel", "canSay", "(I)Z"⟩, 28) := ⟨⟨by decide +kernel, by decide +kernel⟩, List.mem_of_getElem? (i := 673) (by decide +kernel), List.mem_of_getElem? (i := 860) (by decide +kernel), List.mem_of_getElem? (i := 861) (by decide +kernel)⟩
theorem lw_p28 : lw_okq (⟨"SevenOnStrikeModel", "sayable", "(I)I"⟩, 28) := ⟨⟨by decide +kernel, by decide +kernel⟩, List.mem_of_getElem? (i := 673) (by decide +kernel), List.mem_of_getElem? (i := 873) (by decide +kernel), List.mem_of_getElem? (i := 874) (by decide +kernel)⟩
theorem lw_p29 : lw_okq (⟨"SevenOnStrikeModel", "worth", "(Z)I"⟩, 28) := ⟨⟨by decide +kernel, by decide +kernel⟩, List.mem_of_getElem? (i := 673) (by decide +kernel), List.mem_of_getElem? (i := 885) (by decide +kernel), List.mem_of_getElem? (i := 886) (by decide +kernel)⟩
theorem lw_p30 : lw_okq (⟨"SevenOnStrikeModel", "productOf", "(Z)J"⟩, 28) := ⟨⟨by decide +kernel, by decide +kernel⟩, List.mem_of_getElem? (i := 673) (by decide +kernel), List.mem_of_getElem? (i := 889) (by decide +kernel), List.mem_of_getElem? (i := 890) (by decide +kernel)⟩
theorem lw_p31 : lw_okq (⟨"SevenOnStrikeModel", "numberOf", "(Z)J"⟩, 28) := ⟨⟨by decide +kernel, by decide +kernel⟩, List.mem_of_getElem? (i := 673) (by decide +kernel), List.mem_of_getElem? (i := 893) (by decide +kernel), List.mem_of_getElem? (i := 894) (by decide +kernel)⟩
def lw_privs_2 : List (MethodName × Nat) := [(⟨"SevenOnStrike", "costOf", "(II)I"⟩, 9), (⟨"SevenOnStrikeModel", "nothing", "(I)V"⟩, 28), (⟨"SevenOnStrikeModel", "begin", "()V"⟩, 28), (⟨"SevenOnStrikeModel", "readAll", "()I"⟩, 28), (⟨"SevenOnStrikeModel", "item", "()Z"⟩, 28), (⟨"SevenOnStrikeModel", "letterAt", "(I)I"⟩, 28), (⟨"SevenOnStrikeModel", "figures", "(I)Z"⟩, 28), (⟨"SevenOnStrikeModel", "coinItem", "()Z"⟩, 28), (⟨"SevenOnStrikeModel", "sumItem", "()Z"⟩, 28), (⟨"SevenOnStrikeModel", "strikers", "()I"⟩, 28), (⟨"SevenOnStrikeModel", "note", "()V"⟩, 28), (⟨"SevenOnStrikeModel", "canSay", "(I)Z"⟩, 28), (⟨"SevenOnStrikeModel", "sayable", "(I)I"⟩, 28), (⟨"SevenOnStrikeModel", "worth", "(Z)I"⟩, 28), (⟨"SevenOnStrikeModel", "productOf", "(Z)J"⟩, 28), (⟨"SevenOnStrikeModel", "numberOf", "(Z)J"⟩, 28)]
theorem lw_r2 : ∀ q ∈ lw_privs_2, lw_okq q := List.forall_mem_cons.mpr ⟨lw_p16, List.forall_mem_cons.mpr ⟨lw_p17, List.forall_mem_cons.mpr ⟨lw_p18, List.forall_mem_cons.mpr ⟨lw_p19, List.forall_mem_cons.mpr ⟨lw_p20, List.forall_mem_cons.mpr ⟨lw_p21, List.forall_mem_cons.mpr ⟨lw_p22, List.forall_mem_cons.mpr ⟨lw_p23, List.forall_mem_cons.mpr ⟨lw_p24, List.forall_mem_cons.mpr ⟨lw_p25, List.forall_mem_cons.mpr ⟨lw_p26, List.forall_mem_cons.mpr ⟨lw_p27, List.forall_mem_cons.mpr ⟨lw_p28, List.forall_mem_cons.mpr ⟨lw_p29, List.forall_mem_cons.mpr ⟨lw_p30, List.forall_mem_cons.mpr ⟨lw_p31, fun _ h => absurd h List.not_mem_nil⟩⟩⟩⟩⟩⟩⟩⟩⟩⟩⟩⟩⟩⟩⟩⟩
theorem lw_p32 : lw_okq (⟨"SevenOnStrikeModel", "goWays", "(I)V"⟩, 28) := ⟨⟨by decide +kernel, by decide +kernel⟩, List.mem_of_getElem? (i := 673) (by decide +kernel), List.mem_of_getElem? (i := 908) (by decide +kernel), List.mem_of_getElem? (i := 909) (by decide +kernel)⟩
theorem lw_p33 : lw_okq (⟨"SevenOnStrikeModel", "noteWay", "(IIII)V"⟩, 28) := ⟨⟨by decide +kernel, by decide +kernel⟩, List.mem_of_getElem? (i := 673) (by decide +kernel), List.mem_of_getElem? (i := 912) (by decide +kernel), List.mem_of_getElem? (i := 913) (by decide +kernel)⟩
theorem lw_p34 : lw_okq (⟨"SevenOnStrikeModel", "goCoins", "()V"⟩, 28) := ⟨⟨by decide +kernel, by decide +kernel⟩, List.mem_of_getElem? (i := 673) (by decide +kernel), List.mem_of_getElem? (i := 929) (by decide +kernel), List.mem_of_getElem? (i := 930) (by decide +kernel)⟩
theorem lw_p35 : lw_okq (⟨"SevenOnStrikeModel", "daysLeft", "()I"⟩, 28) := ⟨⟨by decide +kernel, by decide +kernel⟩, List.mem_of_getElem? (i := 673) (by decide +kernel), List.mem_of_getElem? (i := 947) (by decide +kernel), List.mem_of_getElem? (i := 948) (by decide +kernel)⟩
theorem lw_p36 : lw_okq (⟨"SevenOnStrikeModel", "faceOf", "(I)I"⟩, 28) := ⟨⟨by decide +kernel, by decide +kernel⟩, List.mem_of_getElem? (i := 673) (by decide +kernel), List.mem_of_getElem? (i := 963) (by decide +kernel), List.mem_of_getElem? (i := 964) (by decide +kernel)⟩
theorem lw_p37 : lw_okq (⟨"SevenOnStrikeModel", "isHeard", "()Z"⟩, 28) := ⟨⟨by decide +kernel, by decide +kernel⟩, List.mem_of_getElem? (i := 673) (by decide +kernel), List.mem_of_getElem? (i := 983) (by decide +kernel), List.mem_of_getElem? (i := 984) (by decide +kernel)⟩
theorem lw_p38 : lw_okq (⟨"SevenOnStrikeModel", "sayableBy", "(III)I"⟩, 28) := ⟨⟨by decide +kernel, by decide +kernel⟩, List.mem_of_getElem? (i := 673) (by decide +kernel), List.mem_of_getElem? (i := 991) (by decide +kernel), List.mem_of_getElem? (i := 992) (by decide +kernel)⟩
theorem lw_p39 : lw_okq (⟨"SevenOnStrikeModel", "sayableIf", "(III)I"⟩, 28) := ⟨⟨by decide +kernel, by decide +kernel⟩, List.mem_of_getElem? (i := 673) (by decide +kernel), List.mem_of_getElem? (i := 1004) (by decide +kernel), List.mem_of_getElem? (i := 1005) (by decide +kernel)⟩
def lw_privs_3 : List (MethodName × Nat) := [(⟨"SevenOnStrikeModel", "goWays", "(I)V"⟩, 28), (⟨"SevenOnStrikeModel", "noteWay", "(IIII)V"⟩, 28), (⟨"SevenOnStrikeModel", "goCoins", "()V"⟩, 28), (⟨"SevenOnStrikeModel", "daysLeft", "()I"⟩, 28), (⟨"SevenOnStrikeModel", "faceOf", "(I)I"⟩, 28), (⟨"SevenOnStrikeModel", "isHeard", "()Z"⟩, 28), (⟨"SevenOnStrikeModel", "sayableBy", "(III)I"⟩, 28), (⟨"SevenOnStrikeModel", "sayableIf", "(III)I"⟩, 28)]
theorem lw_r3 : ∀ q ∈ lw_privs_3, lw_okq q := List.forall_mem_cons.mpr ⟨lw_p32, List.forall_mem_cons.mpr ⟨lw_p33, List.forall_mem_cons.mpr ⟨lw_p34, List.forall_mem_cons.mpr ⟨lw_p35, List.forall_mem_cons.mpr ⟨lw_p36, List.forall_mem_cons.mpr ⟨lw_p37, List.forall_mem_cons.mpr ⟨lw_p38, List.forall_mem_cons.mpr ⟨lw_p39, fun _ h => absurd h List.not_mem_nil⟩⟩⟩⟩⟩⟩⟩⟩
def lw_privs : List (MethodName × Nat) := lw_privs_1 ++ (lw_privs_2 ++ (lw_privs_3))
def lw_tbl : List Cond := k2_sels lw_privs ++ tables_1
theorem lw_privs_ok : ∀ q ∈ lw_privs, lw_okq q := by
  show ∀ q ∈ lw_privs_1 ++ (lw_privs_2 ++ (lw_privs_3)), lw_okq q
  exact List.forall_mem_append.mpr ⟨lw_r1, List.forall_mem_append.mpr ⟨lw_r2, lw_r3⟩⟩
end
section
/-! ===== BEGIN words of one list among another's, by their places ===== -/
theorem goodIn_r {big : List Cond} (ws : List Cond) (ps : List Nat) (hp : ws = ps.filterMap (fun i => big[i]?)) (h : ws.all goodWord = true) : GoodIn big ws := by
  intro w hw
  have h1 := List.all_eq_true.mp h w hw
  rw [hp] at hw
  obtain ⟨i, -, hi⟩ := List.mem_filterMap.mp hw
  have hm : w ∈ big := by first | exact List.mem_of_getElem? hi | exact List.getElem?_mem hi
  exact ⟨hm, good_of_word h1⟩
theorem goodIn_app {big a b : List Cond} (ha : GoodIn big a) (hb : GoodIn big b) : GoodIn big (a ++ b) := fun w h => (List.mem_append.mp h).elim (ha w) (hb w)
theorem goodIn_ca {big a b : List Cond} {c : Cond} (ha : GoodIn big (c :: a)) (hb : GoodIn big b) : GoodIn big (c :: (a ++ b)) := fun w h => (List.mem_cons.mp h).elim (fun e => ha w (List.mem_cons.mpr (Or.inl e))) (fun h => (List.mem_append.mp h).elim (fun h => ha w (List.mem_cons.mpr (Or.inr h))) (hb w))
theorem goodIn_sub {big ws : List Cond} (hm : ∀ w ∈ ws, w ∈ big) (h : ws.all goodWord = true) : GoodIn big ws := fun w hw => ⟨hm w hw, good_of_word (List.all_eq_true.mp h w hw)⟩
/-! ===== END ===== -/

/-! ===== BEGIN printed: names, fields, word lists, decode rows ===== -/
def RX0 : String := "SevenOnStrike$Figures"
def TX0 : u_T := fun k => match k with
  | 0 => ("SevenOnStrike$Figures", "mask", "I", false)
  | _ => ("SevenOnStrike$Figures", "standIns", "[I", true)
def tyX0 : Nat → FieldType := fun k => match k with
  | 0 => .int
  | _ => .array .int
abbrev wsX00 : List Cond := u_ws RX0 TX0 2
theorem nmX0 : ∀ a, a < 2 → ∀ b, b < 2 → a ≠ b → (TX0 a).2.1 ≠ (TX0 b).2.1 := by decide +kernel
theorem tyX0_ok : ∀ k, k < 2 → parseFieldDescriptor (TX0 k).2.2.1 = some (tyX0 k) := by decide +kernel
abbrev cX0_init : ByteArray := prog_2_method_1_code
def yX0_init : MethodName := ⟨RX0, "<init>", "()V"⟩
abbrev cX0_isOnStrike : ByteArray := prog_2_method_2_code
def yX0_isOnStrike : MethodName := ⟨RX0, "isOnStrike", "(I)Z"⟩
abbrev cX0_strikers : ByteArray := prog_2_method_3_code
def yX0_strikers : MethodName := ⟨RX0, "strikers", "()I"⟩
abbrev cX0_copyFrom : ByteArray := prog_2_method_4_code
def yX0_copyFrom : MethodName := ⟨RX0, "copyFrom", "(LSevenOnStrike$Figures;)V"⟩
abbrev cX0_clear : ByteArray := prog_2_method_5_code
def yX0_clear : MethodName := ⟨RX0, "clear", "()V"⟩
abbrev cX0_heardAs : ByteArray := prog_2_method_6_code
def yX0_heardAs : MethodName := ⟨RX0, "heardAs", "(II[I)I"⟩
def RX1 : String := "SevenOnStrike$Kept"
def TX1 : u_T := fun k => match k with
  | 0 => ("SevenOnStrike$Kept", "rows", "[LSevenOnStrike$Figures;", true)
  | _ => ("SevenOnStrike$Kept", "size", "I", false)
def tyX1 : Nat → FieldType := fun k => match k with
  | 0 => .array (.object "SevenOnStrike$Figures")
  | _ => .int
abbrev wsX10 : List Cond := u_ws RX1 TX1 2
theorem nmX1 : ∀ a, a < 2 → ∀ b, b < 2 → a ≠ b → (TX1 a).2.1 ≠ (TX1 b).2.1 := by decide +kernel
theorem tyX1_ok : ∀ k, k < 2 → parseFieldDescriptor (TX1 k).2.2.1 = some (tyX1 k) := by decide +kernel
abbrev cX1_init : ByteArray := prog_3_method_1_code
def yX1_init : MethodName := ⟨RX1, "<init>", "()V"⟩
abbrev cX1_put : ByteArray := prog_3_method_2_code
def yX1_put : MethodName := ⟨RX1, "put", "(LSevenOnStrike$Figures;)Z"⟩
abbrev cX1_restore : ByteArray := prog_3_method_3_code
def yX1_restore : MethodName := ⟨RX1, "restore", "(LSevenOnStrike$Figures;)Z"⟩
def RX2 : String := "SevenOnStrike$Night"
def TX2 : u_T := fun k => match k with
  | 0 => ("SevenOnStrike$Night", "told", "[I", true)
  | 1 => ("SevenOnStrike$Night", "heard", "[I", true)
  | _ => ("SevenOnStrike$Night", "size", "I", false)
def tyX2 : Nat → FieldType := fun k => match k with
  | 0 => .array .int
  | 1 => .array .int
  | _ => .int
abbrev wsX20 : List Cond := u_ws RX2 TX2 3
theorem nmX2 : ∀ a, a < 3 → ∀ b, b < 3 → a ≠ b → (TX2 a).2.1 ≠ (TX2 b).2.1 := by decide +kernel
theorem tyX2_ok : ∀ k, k < 3 → parseFieldDescriptor (TX2 k).2.2.1 = some (tyX2 k) := by decide +kernel
abbrev cX2_init : ByteArray := prog_4_method_1_code
def yX2_init : MethodName := ⟨RX2, "<init>", "()V"⟩
abbrev cX2_tell : ByteArray := prog_4_method_2_code
def yX2_tell : MethodName := ⟨RX2, "tell", "(II)Z"⟩
abbrev cX2_isSo : ByteArray := prog_4_method_3_code
def yX2_isSo : MethodName := ⟨RX2, "isSo", "(I[I)Z"⟩
abbrev cX2_isHeardAs : ByteArray := prog_4_method_4_code
def yX2_isHeardAs : MethodName := ⟨RX2, "isHeardAs", "(III[I)Z"⟩
def RX3 : String := "SevenOnStrike$Numbers"
def TX3 : u_T := fun k => match k with
  | _ => ("", "", "", false)
def tyX3 : Nat → FieldType := fun k => match k with
  | _ => .int
abbrev wsX30 : List Cond := u_ws RX3 TX3 0
theorem nmX3 : ∀ a, a < 0 → ∀ b, b < 0 → a ≠ b → (TX3 a).2.1 ≠ (TX3 b).2.1 := by decide +kernel
theorem tyX3_ok : ∀ k, k < 0 → parseFieldDescriptor (TX3 k).2.2.1 = some (tyX3 k) := by decide +kernel
abbrev cX3_lengthOf : ByteArray := prog_5_method_2_code
def yX3_lengthOf : MethodName := ⟨RX3, "lengthOf", "(I)I"⟩
abbrev cX3_canSay : ByteArray := prog_5_method_3_code
def yX3_canSay : MethodName := ⟨RX3, "canSay", "(II)Z"⟩
abbrev cX3_sayable : ByteArray := prog_5_method_4_code
def yX3_sayable : MethodName := ⟨RX3, "sayable", "(II)I"⟩
abbrev cX3_workingUpTo : ByteArray := prog_5_method_5_code
def yX3_workingUpTo : MethodName := ⟨RX3, "workingUpTo", "(II)I"⟩
abbrev cX3_atRank : ByteArray := prog_5_method_6_code
def yX3_atRank : MethodName := ⟨RX3, "atRank", "(II)I"⟩
abbrev cX3_commonDivisor : ByteArray := prog_5_method_7_code
def yX3_commonDivisor : MethodName := ⟨RX3, "commonDivisor", "(II)I"⟩
abbrev cX3_lowestTerms : ByteArray := prog_5_method_8_code
def yX3_lowestTerms : MethodName := ⟨RX3, "lowestTerms", "(III)I"⟩
def RX4 : String := "SevenOnStrike$Past"
def TX4 : u_T := fun k => match k with
  | 0 => ("SevenOnStrike$Past", "changed", "[I", true)
  | 1 => ("SevenOnStrike$Past", "before", "[I", true)
  | _ => ("SevenOnStrike$Past", "size", "I", false)
def tyX4 : Nat → FieldType := fun k => match k with
  | 0 => .array .int
  | 1 => .array .int
  | _ => .int
abbrev wsX40 : List Cond := u_ws RX4 TX4 3
theorem nmX4 : ∀ a, a < 3 → ∀ b, b < 3 → a ≠ b → (TX4 a).2.1 ≠ (TX4 b).2.1 := by decide +kernel
theorem tyX4_ok : ∀ k, k < 3 → parseFieldDescriptor (TX4 k).2.2.1 = some (tyX4 k) := by decide +kernel
abbrev cX4_init : ByteArray := prog_6_method_1_code
def yX4_init : MethodName := ⟨RX4, "<init>", "()V"⟩
abbrev cX4_remember : ByteArray := prog_6_method_2_code
def yX4_remember : MethodName := ⟨RX4, "remember", "(II)V"⟩
abbrev cX4_takeBack : ByteArray := prog_6_method_3_code
def yX4_takeBack : MethodName := ⟨RX4, "takeBack", "(LSevenOnStrike$Figures;)Z"⟩
def RX5 : String := "SevenOnStrike$Speech"
def TX5 : u_T := fun k => match k with
  | 0 => ("SevenOnStrike$Speech", "canSay", "[Z", true)
  | 1 => ("SevenOnStrike$Speech", "rowMask", "I", false)
  | 2 => ("SevenOnStrike$Speech", "found", "I", false)
  | 3 => ("SevenOnStrike$Speech", "letters", "I", false)
  | 4 => ("SevenOnStrike$Speech", "kind", "I", false)
  | 5 => ("SevenOnStrike$Speech", "first", "I", false)
  | _ => ("SevenOnStrike$Speech", "second", "I", false)
def tyX5 : Nat → FieldType := fun k => match k with
  | 0 => .array .boolean
  | 1 => .int
  | 2 => .int
  | 3 => .int
  | 4 => .int
  | 5 => .int
  | _ => .int
abbrev wsX50 : List Cond := u_ws RX5 TX5 7
theorem nmX5 : ∀ a, a < 7 → ∀ b, b < 7 → a ≠ b → (TX5 a).2.1 ≠ (TX5 b).2.1 := by decide +kernel
theorem tyX5_ok : ∀ k, k < 7 → parseFieldDescriptor (TX5 k).2.2.1 = some (tyX5 k) := by decide +kernel
abbrev cX5_init : ByteArray := prog_7_method_1_code
def yX5_init : MethodName := ⟨RX5, "<init>", "()V"⟩
abbrev cX5_find : ByteArray := prog_7_method_2_code
def yX5_find : MethodName := ⟨RX5, "find", "(II)V"⟩
abbrev cX5_fillRow : ByteArray := prog_7_method_3_code
def yX5_fillRow : MethodName := ⟨RX5, "fillRow", "(I)V"⟩
abbrev cX5_takeIfSaid : ByteArray := prog_7_method_4_code
def yX5_takeIfSaid : MethodName := ⟨RX5, "takeIfSaid", "(III)V"⟩
abbrev cX5_take : ByteArray := prog_7_method_5_code
def yX5_take : MethodName := ⟨RX5, "take", "(III)V"⟩
def RX6 : String := "SevenOnStrike$Sum"
def TX6 : u_T := fun k => match k with
  | 0 => ("SevenOnStrike$Sum", "letters", "[B", true)
  | _ => ("SevenOnStrike$Sum", "length", "I", false)
def tyX6 : Nat → FieldType := fun k => match k with
  | 0 => .array .byte
  | _ => .int
abbrev wsX60 : List Cond := u_ws RX6 TX6 2
theorem nmX6 : ∀ a, a < 2 → ∀ b, b < 2 → a ≠ b → (TX6 a).2.1 ≠ (TX6 b).2.1 := by decide +kernel
theorem tyX6_ok : ∀ k, k < 2 → parseFieldDescriptor (TX6 k).2.2.1 = some (tyX6 k) := by decide +kernel
abbrev cX6_init : ByteArray := prog_8_method_1_code
def yX6_init : MethodName := ⟨RX6, "<init>", "()V"⟩
abbrev cX6_append : ByteArray := prog_8_method_2_code
def yX6_append : MethodName := ⟨RX6, "append", "(I)V"⟩
abbrev cX6_isSign : ByteArray := prog_8_method_3_code
def yX6_isSign : MethodName := ⟨RX6, "isSign", "(I)Z"⟩
abbrev cX6_numbers : ByteArray := prog_8_method_4_code
def yX6_numbers : MethodName := ⟨RX6, "numbers", "()I"⟩
abbrev cX6_comesTo : ByteArray := prog_8_method_5_code
def yX6_comesTo : MethodName := ⟨RX6, "comesTo", "(I[I)I"⟩
abbrev cX6_keptWithin : ByteArray := prog_8_method_6_code
def yX6_keptWithin : MethodName := ⟨RX6, "keptWithin", "(J)J"⟩
def RX7 : String := "SevenOnStrike$Text"
def TX7 : u_T := fun k => match k with
  | 0 => ("SevenOnStrike$Text", "letters", "[B", true)
  | _ => ("SevenOnStrike$Text", "length", "I", false)
def tyX7 : Nat → FieldType := fun k => match k with
  | 0 => .array .byte
  | _ => .int
abbrev wsX70 : List Cond := u_ws RX7 TX7 2
theorem nmX7 : ∀ a, a < 2 → ∀ b, b < 2 → a ≠ b → (TX7 a).2.1 ≠ (TX7 b).2.1 := by decide +kernel
theorem tyX7_ok : ∀ k, k < 2 → parseFieldDescriptor (TX7 k).2.2.1 = some (tyX7 k) := by decide +kernel
abbrev cX7_init : ByteArray := prog_9_method_1_code
def yX7_init : MethodName := ⟨RX7, "<init>", "()V"⟩
abbrev cX7_append : ByteArray := prog_9_method_2_code
def yX7_append : MethodName := ⟨RX7, "append", "(I)Z"⟩
abbrev cX7_copyFrom : ByteArray := prog_9_method_3_code
def yX7_copyFrom : MethodName := ⟨RX7, "copyFrom", "(Ljava/lang/String;)V"⟩
abbrev cX7_clear : ByteArray := prog_9_method_4_code
def yX7_clear : MethodName := ⟨RX7, "clear", "()V"⟩
abbrev cX7_letterAt : ByteArray := prog_9_method_5_code
def yX7_letterAt : MethodName := ⟨RX7, "letterAt", "(I)I"⟩
def RX8 : String := "SevenOnStrike$Till"
def TX8 : u_T := fun k => match k with
  | _ => ("SevenOnStrike$Till", "row", "[I", true)
def tyX8 : Nat → FieldType := fun k => match k with
  | _ => .array .int
abbrev wsX80 : List Cond := u_ws RX8 TX8 1
theorem nmX8 : ∀ a, a < 1 → ∀ b, b < 1 → a ≠ b → (TX8 a).2.1 ≠ (TX8 b).2.1 := by decide +kernel
theorem tyX8_ok : ∀ k, k < 1 → parseFieldDescriptor (TX8 k).2.2.1 = some (tyX8 k) := by decide +kernel
abbrev cX8_init : ByteArray := prog_10_method_1_code
def yX8_init : MethodName := ⟨RX8, "<init>", "()V"⟩
abbrev cX8_countFewest : ByteArray := prog_10_method_2_code
def yX8_countFewest : MethodName := ⟨RX8, "countFewest", "(LSevenOnStrike$Told;I)V"⟩
abbrev cX8_isMade : ByteArray := prog_10_method_3_code
def yX8_isMade : MethodName := ⟨RX8, "isMade", "(I)Z"⟩
abbrev cX8_countWays : ByteArray := prog_10_method_4_code
def yX8_countWays : MethodName := ⟨RX8, "countWays", "(LSevenOnStrike$Told;I)V"⟩
abbrev cX8_startWith : ByteArray := prog_10_method_5_code
def yX8_startWith : MethodName := ⟨RX8, "startWith", "(II)V"⟩
def RX9 : String := "SevenOnStrike$Told"
def TX9 : u_T := fun k => match k with
  | 0 => ("SevenOnStrike$Told", "figures", "LSevenOnStrike$Figures;", true)
  | 1 => ("SevenOnStrike$Told", "coins", "[I", true)
  | 2 => ("SevenOnStrike$Told", "coinCount", "I", false)
  | 3 => ("SevenOnStrike$Told", "sides", "I", false)
  | 4 => ("SevenOnStrike$Told", "week", "I", false)
  | 5 => ("SevenOnStrike$Told", "sum", "LSevenOnStrike$Sum;", true)
  | _ => ("SevenOnStrike$Told", "at", "I", false)
def tyX9 : Nat → FieldType := fun k => match k with
  | 0 => .object "SevenOnStrike$Figures"
  | 1 => .array .int
  | 2 => .int
  | 3 => .int
  | 4 => .int
  | 5 => .object "SevenOnStrike$Sum"
  | _ => .int
abbrev wsX90 : List Cond := u_ws RX9 TX9 7
theorem nmX9 : ∀ a, a < 7 → ∀ b, b < 7 → a ≠ b → (TX9 a).2.1 ≠ (TX9 b).2.1 := by decide +kernel
theorem tyX9_ok : ∀ k, k < 7 → parseFieldDescriptor (TX9 k).2.2.1 = some (tyX9 k) := by decide +kernel
abbrev cX9_init : ByteArray := prog_11_method_1_code
def yX9_init : MethodName := ⟨RX9, "<init>", "()V"⟩
abbrev cX9_readFrom : ByteArray := prog_11_method_2_code
def yX9_readFrom : MethodName := ⟨RX9, "readFrom", "(LSevenOnStrike$Text;)I"⟩
abbrev cX9_readItem : ByteArray := prog_11_method_3_code
def yX9_readItem : MethodName := ⟨RX9, "readItem", "(LSevenOnStrike$Text;)Z"⟩
abbrev cX9_readStrike : ByteArray := prog_11_method_4_code
def yX9_readStrike : MethodName := ⟨RX9, "readStrike", "(LSevenOnStrike$Text;)Z"⟩
abbrev cX9_readStandIn : ByteArray := prog_11_method_5_code
def yX9_readStandIn : MethodName := ⟨RX9, "readStandIn", "(LSevenOnStrike$Text;)Z"⟩
abbrev cX9_readCoin : ByteArray := prog_11_method_6_code
def yX9_readCoin : MethodName := ⟨RX9, "readCoin", "(LSevenOnStrike$Text;)Z"⟩
abbrev cX9_hasCoin : ByteArray := prog_11_method_7_code
def yX9_hasCoin : MethodName := ⟨RX9, "hasCoin", "(I)Z"⟩
abbrev cX9_readSides : ByteArray := prog_11_method_8_code
def yX9_readSides : MethodName := ⟨RX9, "readSides", "(LSevenOnStrike$Text;)Z"⟩
abbrev cX9_readWeek : ByteArray := prog_11_method_9_code
def yX9_readWeek : MethodName := ⟨RX9, "readWeek", "(LSevenOnStrike$Text;)Z"⟩
abbrev cX9_readSum : ByteArray := prog_11_method_10_code
def yX9_readSum : MethodName := ⟨RX9, "readSum", "(LSevenOnStrike$Text;)Z"⟩
abbrev cX9_readNumber : ByteArray := prog_11_method_11_code
def yX9_readNumber : MethodName := ⟨RX9, "readNumber", "(LSevenOnStrike$Text;)I"⟩
abbrev cX9_isDigit : ByteArray := prog_11_method_12_code
def yX9_isDigit : MethodName := ⟨RX9, "isDigit", "(I)Z"⟩
def RX10 : String := "SevenOnStrike"
def TX10 : u_T := fun k => match k with
  | 0 => ("SevenOnStrike", "text", "LSevenOnStrike$Text;", true)
  | 1 => ("SevenOnStrike", "figures", "LSevenOnStrike$Figures;", true)
  | 2 => ("SevenOnStrike", "past", "LSevenOnStrike$Past;", true)
  | 3 => ("SevenOnStrike", "kept", "LSevenOnStrike$Kept;", true)
  | 4 => ("SevenOnStrike", "night", "LSevenOnStrike$Night;", true)
  | 5 => ("SevenOnStrike", "speech", "LSevenOnStrike$Speech;", true)
  | 6 => ("SevenOnStrike", "till", "LSevenOnStrike$Till;", true)
  | 7 => ("SevenOnStrike", "laid", "LSevenOnStrike$Told;", false)
  | _ => ("SevenOnStrike", "draft", "LSevenOnStrike$Told;", false)
def tyX10 : Nat → FieldType := fun k => match k with
  | 0 => .object "SevenOnStrike$Text"
  | 1 => .object "SevenOnStrike$Figures"
  | 2 => .object "SevenOnStrike$Past"
  | 3 => .object "SevenOnStrike$Kept"
  | 4 => .object "SevenOnStrike$Night"
  | 5 => .object "SevenOnStrike$Speech"
  | 6 => .object "SevenOnStrike$Till"
  | 7 => .object "SevenOnStrike$Told"
  | _ => .object "SevenOnStrike$Told"
abbrev wsX100 : List Cond := u_ws RX10 TX10 9
theorem nmX10 : ∀ a, a < 9 → ∀ b, b < 9 → a ≠ b → (TX10 a).2.1 ≠ (TX10 b).2.1 := by decide +kernel
theorem tyX10_ok : ∀ k, k < 9 → parseFieldDescriptor (TX10 k).2.2.1 = some (tyX10 k) := by decide +kernel
abbrev cX10_init : ByteArray := prog_1_method_1_code
def yX10_init : MethodName := ⟨RX10, "<init>", "()V"⟩
abbrev cX10_write : ByteArray := prog_1_method_2_code
def yX10_write : MethodName := ⟨RX10, "write", "(I)I"⟩
abbrev cX10_wipe : ByteArray := prog_1_method_3_code
def yX10_wipe : MethodName := ⟨RX10, "wipe", "()I"⟩
abbrev cX10_fault : ByteArray := prog_1_method_4_code
def yX10_fault : MethodName := ⟨RX10, "fault", "()I"⟩
abbrev cX10_lay : ByteArray := prog_1_method_5_code
def yX10_lay : MethodName := ⟨RX10, "lay", "()I"⟩
abbrev cX10_figure : ByteArray := prog_1_method_6_code
def yX10_figure : MethodName := ⟨RX10, "figure", "(II)I"⟩
abbrev cX10_coin : ByteArray := prog_1_method_7_code
def yX10_coin : MethodName := ⟨RX10, "coin", "(I)I"⟩
abbrev cX10_strike : ByteArray := prog_1_method_8_code
def yX10_strike : MethodName := ⟨RX10, "strike", "(II)I"⟩
abbrev cX10_standIn : ByteArray := prog_1_method_9_code
def yX10_standIn : MethodName := ⟨RX10, "standIn", "(II)I"⟩
abbrev cX10_undo : ByteArray := prog_1_method_10_code
def yX10_undo : MethodName := ⟨RX10, "undo", "()I"⟩
abbrev cX10_said : ByteArray := prog_1_method_11_code
def yX10_said : MethodName := ⟨RX10, "said", "(I)I"⟩
abbrev cX10_next : ByteArray := prog_1_method_12_code
def yX10_next : MethodName := ⟨RX10, "next", "(I)I"⟩
abbrev cX10_rank : ByteArray := prog_1_method_13_code
def yX10_rank : MethodName := ⟨RX10, "rank", "(I)I"⟩
abbrev cX10_kth : ByteArray := prog_1_method_14_code
def yX10_kth : MethodName := ⟨RX10, "kth", "(I)I"⟩
abbrev cX10_sum : ByteArray := prog_1_method_15_code
def yX10_sum : MethodName := ⟨RX10, "sum", "(I)I"⟩
abbrev cX10_ways : ByteArray := prog_1_method_16_code
def yX10_ways : MethodName := ⟨RX10, "ways", "(I)I"⟩
abbrev cX10_shortest : ByteArray := prog_1_method_17_code
def yX10_shortest : MethodName := ⟨RX10, "shortest", "(II)I"⟩
abbrev cX10_change : ByteArray := prog_1_method_18_code
def yX10_change : MethodName := ⟨RX10, "change", "(I)I"⟩
abbrev cX10_never : ByteArray := prog_1_method_19_code
def yX10_never : MethodName := ⟨RX10, "never", "()I"⟩
abbrev cX10_pays : ByteArray := prog_1_method_20_code
def yX10_pays : MethodName := ⟨RX10, "pays", "(I)I"⟩
abbrev cX10_day : ByteArray := prog_1_method_21_code
def yX10_day : MethodName := ⟨RX10, "day", "(I)I"⟩
abbrev cX10_agree : ByteArray := prog_1_method_22_code
def yX10_agree : MethodName := ⟨RX10, "agree", "()I"⟩
abbrev cX10_odds : ByteArray := prog_1_method_23_code
def yX10_odds : MethodName := ⟨RX10, "odds", "(II)I"⟩
abbrev cX10_mean : ByteArray := prog_1_method_24_code
def yX10_mean : MethodName := ⟨RX10, "mean", "(I)I"⟩
abbrev cX10_dark : ByteArray := prog_1_method_25_code
def yX10_dark : MethodName := ⟨RX10, "dark", "(II)I"⟩
abbrev cX10_forget : ByteArray := prog_1_method_26_code
def yX10_forget : MethodName := ⟨RX10, "forget", "()I"⟩
abbrev cX10_works : ByteArray := prog_1_method_27_code
def yX10_works : MethodName := ⟨RX10, "works", "()I"⟩
abbrev cX10_costs : ByteArray := prog_1_method_28_code
def yX10_costs : MethodName := ⟨RX10, "costs", "(II)I"⟩
abbrev cX10_dearest : ByteArray := prog_1_method_29_code
def yX10_dearest : MethodName := ⟨RX10, "dearest", "(II)I"⟩
abbrev cX10_bargain : ByteArray := prog_1_method_30_code
def yX10_bargain : MethodName := ⟨RX10, "bargain", "(III)I"⟩
abbrev cX10_days : ByteArray := prog_1_method_31_code
def yX10_days : MethodName := ⟨RX10, "days", "(III)I"⟩
abbrev cX10_keep : ByteArray := prog_1_method_32_code
def yX10_keep : MethodName := ⟨RX10, "keep", "()I"⟩
abbrev cX10_back : ByteArray := prog_1_method_33_code
def yX10_back : MethodName := ⟨RX10, "back", "()I"⟩
abbrev cX10_count : ByteArray := prog_1_method_34_code
def yX10_count : MethodName := ⟨RX10, "count", "(I)I"⟩
abbrev cX10_isWithin : ByteArray := prog_1_method_35_code
def yX10_isWithin : MethodName := ⟨RX10, "isWithin", "(III)Z"⟩
abbrev cX10_isFigure : ByteArray := prog_1_method_36_code
def yX10_isFigure : MethodName := ⟨RX10, "isFigure", "(I)Z"⟩
abbrev cX10_layText : ByteArray := prog_1_method_37_code
def yX10_layText : MethodName := ⟨RX10, "layText", "()Z"⟩
abbrev cX10_workingDays : ByteArray := prog_1_method_38_code
def yX10_workingDays : MethodName := ⟨RX10, "workingDays", "()I"⟩
abbrev cX10_shownBy : ByteArray := prog_1_method_39_code
def yX10_shownBy : MethodName := ⟨RX10, "shownBy", "(I)I"⟩
abbrev cX10_costOf : ByteArray := prog_1_method_40_code
def yX10_costOf : MethodName := ⟨RX10, "costOf", "(II)I"⟩
abbrev cX10_drawnFigure : ByteArray := prog_1_method_41_code
def yX10_drawnFigure : MethodName := ⟨RX10, "drawnFigure", "(II)I"⟩
def RX11 : String := "SevenOnStrikeModel"
def TX11 : u_T := fun k => match k with
  | 0 => ("SevenOnStrikeModel", "length", "I", false)
  | 1 => ("SevenOnStrikeModel", "text", "[I", true)
  | 2 => ("SevenOnStrikeModel", "rows", "[I", true)
  | 3 => ("SevenOnStrikeModel", "coins", "[I", true)
  | 4 => ("SevenOnStrikeModel", "coinMany", "[I", true)
  | 5 => ("SevenOnStrikeModel", "faces", "[I", true)
  | 6 => ("SevenOnStrikeModel", "weeks", "[I", true)
  | 7 => ("SevenOnStrikeModel", "sums", "[I", true)
  | 8 => ("SevenOnStrikeModel", "sumMany", "[I", true)
  | 9 => ("SevenOnStrikeModel", "now", "[I", true)
  | 10 => ("SevenOnStrikeModel", "before", "[I", true)
  | 11 => ("SevenOnStrikeModel", "undoMany", "I", false)
  | 12 => ("SevenOnStrikeModel", "kept", "[I", true)
  | 13 => ("SevenOnStrikeModel", "keptMany", "I", false)
  | 14 => ("SevenOnStrikeModel", "darkMany", "I", false)
  | 15 => ("SevenOnStrikeModel", "darkOne", "[I", true)
  | 16 => ("SevenOnStrikeModel", "darkOther", "[I", true)
  | 17 => ("SevenOnStrikeModel", "spot", "I", false)
  | 18 => ("SevenOnStrikeModel", "told", "[I", true)
  | 19 => ("SevenOnStrikeModel", "sumSpot", "I", false)
  | 20 => ("SevenOnStrikeModel", "ways", "I", false)
  | 21 => ("SevenOnStrikeModel", "shortLetters", "I", false)
  | 22 => ("SevenOnStrikeModel", "shortKind", "I", false)
  | 23 => ("SevenOnStrikeModel", "shortA", "I", false)
  | 24 => ("SevenOnStrikeModel", "shortB", "I", false)
  | 25 => ("SevenOnStrikeModel", "fewest", "[I", true)
  | 26 => ("SevenOnStrikeModel", "many", "[I", true)
  | _ => ("SevenOnStrikeModel", "was", "[I", true)
def tyX11 : Nat → FieldType := fun k => match k with
  | 0 => .int
  | 1 => .array .int
  | 2 => .array .int
  | 3 => .array .int
  | 4 => .array .int
  | 5 => .array .int
  | 6 => .array .int
  | 7 => .array .int
  | 8 => .array .int
  | 9 => .array .int
  | 10 => .array .int
  | 11 => .int
  | 12 => .array .int
  | 13 => .int
  | 14 => .int
  | 15 => .array .int
  | 16 => .array .int
  | 17 => .int
  | 18 => .array .int
  | 19 => .int
  | 20 => .int
  | 21 => .int
  | 22 => .int
  | 23 => .int
  | 24 => .int
  | 25 => .array .int
  | 26 => .array .int
  | _ => .array .int
abbrev wsX110 : List Cond := u_ws RX11 TX11 28
theorem nmX11 : ∀ a, a < 28 → ∀ b, b < 28 → a ≠ b → (TX11 a).2.1 ≠ (TX11 b).2.1 := by decide +kernel
theorem tyX11_ok : ∀ k, k < 28 → parseFieldDescriptor (TX11 k).2.2.1 = some (tyX11 k) := by decide +kernel
abbrev cX11_init : ByteArray := prog_13_method_1_code
def yX11_init : MethodName := ⟨RX11, "<init>", "()V"⟩
abbrev cX11_in : ByteArray := prog_13_method_2_code
def yX11_in : MethodName := ⟨RX11, "in", "(JJJ)Z"⟩
abbrev cX11_nothing : ByteArray := prog_13_method_3_code
def yX11_nothing : MethodName := ⟨RX11, "nothing", "(I)V"⟩
abbrev cX11_write : ByteArray := prog_13_method_4_code
def yX11_write : MethodName := ⟨RX11, "write", "(I)I"⟩
abbrev cX11_wipe : ByteArray := prog_13_method_5_code
def yX11_wipe : MethodName := ⟨RX11, "wipe", "()I"⟩
abbrev cX11_letterAt : ByteArray := prog_13_method_6_code
def yX11_letterAt : MethodName := ⟨RX11, "letterAt", "(I)I"⟩
abbrev cX11_figures : ByteArray := prog_13_method_7_code
def yX11_figures : MethodName := ⟨RX11, "figures", "(I)Z"⟩
abbrev cX11_coinItem : ByteArray := prog_13_method_8_code
def yX11_coinItem : MethodName := ⟨RX11, "coinItem", "()Z"⟩
abbrev cX11_isSign : ByteArray := prog_13_method_9_code
def yX11_isSign : MethodName := ⟨RX11, "isSign", "(I)Z"⟩
abbrev cX11_sumItem : ByteArray := prog_13_method_10_code
def yX11_sumItem : MethodName := ⟨RX11, "sumItem", "()Z"⟩
abbrev cX11_item : ByteArray := prog_13_method_11_code
def yX11_item : MethodName := ⟨RX11, "item", "()Z"⟩
abbrev cX11_readAll : ByteArray := prog_13_method_12_code
def yX11_readAll : MethodName := ⟨RX11, "readAll", "()I"⟩
abbrev cX11_fault : ByteArray := prog_13_method_13_code
def yX11_fault : MethodName := ⟨RX11, "fault", "()I"⟩
abbrev cX11_lay : ByteArray := prog_13_method_14_code
def yX11_lay : MethodName := ⟨RX11, "lay", "()I"⟩
abbrev cX11_begin : ByteArray := prog_13_method_15_code
def yX11_begin : MethodName := ⟨RX11, "begin", "()V"⟩
abbrev cX11_isFigure : ByteArray := prog_13_method_16_code
def yX11_isFigure : MethodName := ⟨RX11, "isFigure", "(I)Z"⟩
abbrev cX11_strikers : ByteArray := prog_13_method_17_code
def yX11_strikers : MethodName := ⟨RX11, "strikers", "()I"⟩
abbrev cX11_figure : ByteArray := prog_13_method_18_code
def yX11_figure : MethodName := ⟨RX11, "figure", "(II)I"⟩
abbrev cX11_coin : ByteArray := prog_13_method_19_code
def yX11_coin : MethodName := ⟨RX11, "coin", "(I)I"⟩
abbrev cX11_note : ByteArray := prog_13_method_20_code
def yX11_note : MethodName := ⟨RX11, "note", "()V"⟩
abbrev cX11_strike : ByteArray := prog_13_method_21_code
def yX11_strike : MethodName := ⟨RX11, "strike", "(II)I"⟩
abbrev cX11_standIn : ByteArray := prog_13_method_22_code
def yX11_standIn : MethodName := ⟨RX11, "standIn", "(II)I"⟩
abbrev cX11_undo : ByteArray := prog_13_method_23_code
def yX11_undo : MethodName := ⟨RX11, "undo", "()I"⟩
abbrev cX11_canSay : ByteArray := prog_13_method_24_code
def yX11_canSay : MethodName := ⟨RX11, "canSay", "(I)Z"⟩
abbrev cX11_sayable : ByteArray := prog_13_method_25_code
def yX11_sayable : MethodName := ⟨RX11, "sayable", "(I)I"⟩
abbrev cX11_said : ByteArray := prog_13_method_26_code
def yX11_said : MethodName := ⟨RX11, "said", "(I)I"⟩
abbrev cX11_next : ByteArray := prog_13_method_27_code
def yX11_next : MethodName := ⟨RX11, "next", "(I)I"⟩
abbrev cX11_rank : ByteArray := prog_13_method_28_code
def yX11_rank : MethodName := ⟨RX11, "rank", "(I)I"⟩
abbrev cX11_kth : ByteArray := prog_13_method_29_code
def yX11_kth : MethodName := ⟨RX11, "kth", "(I)I"⟩
abbrev cX11_within : ByteArray := prog_13_method_30_code
def yX11_within : MethodName := ⟨RX11, "within", "(J)J"⟩
abbrev cX11_numberOf : ByteArray := prog_13_method_31_code
def yX11_numberOf : MethodName := ⟨RX11, "numberOf", "(Z)J"⟩
abbrev cX11_productOf : ByteArray := prog_13_method_32_code
def yX11_productOf : MethodName := ⟨RX11, "productOf", "(Z)J"⟩
abbrev cX11_worth : ByteArray := prog_13_method_33_code
def yX11_worth : MethodName := ⟨RX11, "worth", "(Z)I"⟩
abbrev cX11_sum : ByteArray := prog_13_method_34_code
def yX11_sum : MethodName := ⟨RX11, "sum", "(I)I"⟩
abbrev cX11_lettersOf : ByteArray := prog_13_method_35_code
def yX11_lettersOf : MethodName := ⟨RX11, "lettersOf", "(I)I"⟩
abbrev cX11_noteWay : ByteArray := prog_13_method_36_code
def yX11_noteWay : MethodName := ⟨RX11, "noteWay", "(IIII)V"⟩
abbrev cX11_goWays : ByteArray := prog_13_method_37_code
def yX11_goWays : MethodName := ⟨RX11, "goWays", "(I)V"⟩
abbrev cX11_ways : ByteArray := prog_13_method_38_code
def yX11_ways : MethodName := ⟨RX11, "ways", "(I)I"⟩
abbrev cX11_shortest : ByteArray := prog_13_method_39_code
def yX11_shortest : MethodName := ⟨RX11, "shortest", "(II)I"⟩
abbrev cX11_goCoins : ByteArray := prog_13_method_40_code
def yX11_goCoins : MethodName := ⟨RX11, "goCoins", "()V"⟩
abbrev cX11_change : ByteArray := prog_13_method_41_code
def yX11_change : MethodName := ⟨RX11, "change", "(I)I"⟩
abbrev cX11_never : ByteArray := prog_13_method_42_code
def yX11_never : MethodName := ⟨RX11, "never", "()I"⟩
abbrev cX11_pays : ByteArray := prog_13_method_43_code
def yX11_pays : MethodName := ⟨RX11, "pays", "(I)I"⟩
abbrev cX11_daysLeft : ByteArray := prog_13_method_44_code
def yX11_daysLeft : MethodName := ⟨RX11, "daysLeft", "()I"⟩
abbrev cX11_day : ByteArray := prog_13_method_45_code
def yX11_day : MethodName := ⟨RX11, "day", "(I)I"⟩
abbrev cX11_common : ByteArray := prog_13_method_46_code
def yX11_common : MethodName := ⟨RX11, "common", "(II)I"⟩
abbrev cX11_agree : ByteArray := prog_13_method_47_code
def yX11_agree : MethodName := ⟨RX11, "agree", "()I"⟩
abbrev cX11_faceOf : ByteArray := prog_13_method_48_code
def yX11_faceOf : MethodName := ⟨RX11, "faceOf", "(I)I"⟩
abbrev cX11_odds : ByteArray := prog_13_method_49_code
def yX11_odds : MethodName := ⟨RX11, "odds", "(II)I"⟩
abbrev cX11_mean : ByteArray := prog_13_method_50_code
def yX11_mean : MethodName := ⟨RX11, "mean", "(I)I"⟩
abbrev cX11_dark : ByteArray := prog_13_method_51_code
def yX11_dark : MethodName := ⟨RX11, "dark", "(II)I"⟩
abbrev cX11_forget : ByteArray := prog_13_method_52_code
def yX11_forget : MethodName := ⟨RX11, "forget", "()I"⟩
abbrev cX11_isHeard : ByteArray := prog_13_method_53_code
def yX11_isHeard : MethodName := ⟨RX11, "isHeard", "()Z"⟩
abbrev cX11_works : ByteArray := prog_13_method_54_code
def yX11_works : MethodName := ⟨RX11, "works", "()I"⟩
abbrev cX11_sayableBy : ByteArray := prog_13_method_55_code
def yX11_sayableBy : MethodName := ⟨RX11, "sayableBy", "(III)I"⟩
abbrev cX11_costs : ByteArray := prog_13_method_56_code
def yX11_costs : MethodName := ⟨RX11, "costs", "(II)I"⟩
abbrev cX11_dearest : ByteArray := prog_13_method_57_code
def yX11_dearest : MethodName := ⟨RX11, "dearest", "(II)I"⟩
abbrev cX11_sayableIf : ByteArray := prog_13_method_58_code
def yX11_sayableIf : MethodName := ⟨RX11, "sayableIf", "(III)I"⟩
abbrev cX11_bargain : ByteArray := prog_13_method_59_code
def yX11_bargain : MethodName := ⟨RX11, "bargain", "(III)I"⟩
abbrev cX11_days : ByteArray := prog_13_method_60_code
def yX11_days : MethodName := ⟨RX11, "days", "(III)I"⟩
abbrev cX11_keep : ByteArray := prog_13_method_61_code
def yX11_keep : MethodName := ⟨RX11, "keep", "()I"⟩
abbrev cX11_back : ByteArray := prog_13_method_62_code
def yX11_back : MethodName := ⟨RX11, "back", "()I"⟩
abbrev cX11_count : ByteArray := prog_13_method_63_code
def yX11_count : MethodName := ⟨RX11, "count", "(I)I"⟩
def RJ6 : String := "java/lang/Integer"
def TJ6 : u_T := fun k => match k with
  | _ => ("", "", "", false)
def tyJ6 : Nat → FieldType := fun k => match k with
  | _ => .int
abbrev wsJ60 : List Cond := u_ws RJ6 TJ6 0
theorem nmJ6 : ∀ a, a < 0 → ∀ b, b < 0 → a ≠ b → (TJ6 a).2.1 ≠ (TJ6 b).2.1 := by decide +kernel
theorem tyJ6_ok : ∀ k, k < 0 → parseFieldDescriptor (TJ6 k).2.2.1 = some (tyJ6 k) := by decide +kernel
abbrev cJ6_bitCount_0f7a4 : ByteArray := prog_14_method_49_code
def yJ6_bitCount_0f7a4 : MethodName := ⟨RJ6, "bitCount", "(I)I"⟩
def RJ9 : String := "java/lang/Math"
def TJ9 : u_T := fun k => match k with
  | _ => ("", "", "", false)
def tyJ9 : Nat → FieldType := fun k => match k with
  | _ => .int
abbrev wsJ90 : List Cond := u_ws RJ9 TJ9 0
theorem nmJ9 : ∀ a, a < 0 → ∀ b, b < 0 → a ≠ b → (TJ9 a).2.1 ≠ (TJ9 b).2.1 := by decide +kernel
theorem tyJ9_ok : ∀ k, k < 0 → parseFieldDescriptor (TJ9 k).2.2.1 = some (tyJ9 k) := by decide +kernel
abbrev cJ9_max_7cf53 : ByteArray := prog_15_method_65_code
def yJ9_max_7cf53 : MethodName := ⟨RJ9, "max", "(II)I"⟩
abbrev cJ9_max_f86c9 : ByteArray := prog_15_method_66_code
def yJ9_max_f86c9 : MethodName := ⟨RJ9, "max", "(JJ)J"⟩
abbrev cJ9_min_7cf53 : ByteArray := prog_15_method_69_code
def yJ9_min_7cf53 : MethodName := ⟨RJ9, "min", "(II)I"⟩
abbrev cJ9_min_f86c9 : ByteArray := prog_15_method_70_code
def yJ9_min_f86c9 : MethodName := ⟨RJ9, "min", "(JJ)J"⟩
def RJ0 : String := "java/lang/String"
def TJ0 : u_T := fun k => match k with
  | _ => ("", "", "", false)
def tyJ0 : Nat → FieldType := fun k => match k with
  | _ => .int
abbrev wsJ00 : List Cond := u_ws RJ0 TJ0 0
theorem nmJ0 : ∀ a, a < 0 → ∀ b, b < 0 → a ≠ b → (TJ0 a).2.1 ≠ (TJ0 b).2.1 := by decide +kernel
theorem tyJ0_ok : ∀ k, k < 0 → parseFieldDescriptor (TJ0 k).2.2.1 = some (tyJ0 k) := by decide +kernel
abbrev cJ0_length_8abf5 : ByteArray := prog_16_method_54_code
def yJ0_length_8abf5 : MethodName := ⟨RJ0, "length", "()I"⟩
abbrev cJ0_charAt_5068e : ByteArray := prog_16_method_56_code
def yJ0_charAt_5068e : MethodName := ⟨RJ0, "charAt", "(I)C"⟩
abbrev cJ0_coder_7d493 : ByteArray := prog_16_method_152_code
def yJ0_coder_7d493 : MethodName := ⟨RJ0, "coder", "()B"⟩
abbrev cJ0_isLatin1_aae02 : ByteArray := prog_16_method_154_code
def yJ0_isLatin1_aae02 : MethodName := ⟨RJ0, "isLatin1", "()Z"⟩
abbrev cJ0_checkIndex_df160 : ByteArray := prog_16_method_155_code
def yJ0_checkIndex_df160 : MethodName := ⟨RJ0, "checkIndex", "(II)V"⟩
def RJ1 : String := "java/lang/StringLatin1"
def TJ1 : u_T := fun k => match k with
  | _ => ("", "", "", false)
def tyJ1 : Nat → FieldType := fun k => match k with
  | _ => .int
abbrev wsJ10 : List Cond := u_ws RJ1 TJ1 0
theorem nmJ1 : ∀ a, a < 0 → ∀ b, b < 0 → a ≠ b → (TJ1 a).2.1 ≠ (TJ1 b).2.1 := by decide +kernel
theorem tyJ1_ok : ∀ k, k < 0 → parseFieldDescriptor (TJ1 k).2.2.1 = some (tyJ1 k) := by decide +kernel
abbrev cJ1_charAt_3b067 : ByteArray := prog_17_method_2_code
def yJ1_charAt_3b067 : MethodName := ⟨RJ1, "charAt", "([BI)C"⟩
def RJ2 : String := "java/lang/StringUTF16"
def TJ2 : u_T := fun k => match k with
  | _ => ("", "", "", false)
def tyJ2 : Nat → FieldType := fun k => match k with
  | _ => .int
abbrev wsJ20 : List Cond := u_ws RJ2 TJ2 0
theorem nmJ2 : ∀ a, a < 0 → ∀ b, b < 0 → a ≠ b → (TJ2 a).2.1 ≠ (TJ2 b).2.1 := by decide +kernel
theorem tyJ2_ok : ∀ k, k < 0 → parseFieldDescriptor (TJ2 k).2.2.1 = some (tyJ2 k) := by decide +kernel
abbrev cJ2_getChar_3b067 : ByteArray := prog_18_method_5_code
def yJ2_getChar_3b067 : MethodName := ⟨RJ2, "getChar", "([BI)C"⟩
abbrev cJ2_length_9d52b : ByteArray := prog_18_method_6_code
def yJ2_length_9d52b : MethodName := ⟨RJ2, "length", "([B)I"⟩
abbrev cJ2_charAt_3b067 : ByteArray := prog_18_method_83_code
def yJ2_charAt_3b067 : MethodName := ⟨RJ2, "charAt", "([BI)C"⟩
abbrev cJ2_checkIndex_2214a : ByteArray := prog_18_method_91_code
def yJ2_checkIndex_2214a : MethodName := ⟨RJ2, "checkIndex", "(I[B)V"⟩
def RJ10 : String := "java/lang/System"
def TJ10 : u_T := fun k => match k with
  | _ => ("", "", "", false)
def tyJ10 : Nat → FieldType := fun k => match k with
  | _ => .int
abbrev wsJ100 : List Cond := u_ws RJ10 TJ10 0
theorem nmJ10 : ∀ a, a < 0 → ∀ b, b < 0 → a ≠ b → (TJ10 a).2.1 ≠ (TJ10 b).2.1 := by decide +kernel
theorem tyJ10_ok : ∀ k, k < 0 → parseFieldDescriptor (TJ10 k).2.2.1 = some (tyJ10 k) := by decide +kernel
def RJ3 : String := "jdk/internal/util/Preconditions"
def TJ3 : u_T := fun k => match k with
  | _ => ("", "", "", false)
def tyJ3 : Nat → FieldType := fun k => match k with
  | _ => .int
abbrev wsJ30 : List Cond := u_ws RJ3 TJ3 0
theorem nmJ3 : ∀ a, a < 0 → ∀ b, b < 0 → a ≠ b → (TJ3 a).2.1 ≠ (TJ3 b).2.1 := by decide +kernel
theorem tyJ3_ok : ∀ k, k < 0 → parseFieldDescriptor (TJ3 k).2.2.1 = some (tyJ3 k) := by decide +kernel
abbrev cJ3_checkIndex_8e157 : ByteArray := prog_20_method_11_code
def yJ3_checkIndex_8e157 : MethodName := ⟨RJ3, "checkIndex", "(IILjava/util/function/BiFunction;)I"⟩
def RL : String := "SevenOnStrikeLaw"
abbrev cL_law : ByteArray := code
def yL_law : MethodName := ⟨RL, "law", "([I)Z"⟩
def wsX0_init : List Cond := .code yX0_init cX0_init 1 none :: ([.methodLink RX0 3 objectInit, .instanceMethod objectInit, .code objectInit ⟨#[0xb1]⟩ 1 none, .fieldLink RX0 9 "SevenOnStrike$Figures" "mask" "I", .arrayClass .int, .fieldLink RX0 15 "SevenOnStrike$Figures" "standIns" "[I"] ++ wsX00)
def wsX0_isOnStrike : List Cond := .code yX0_isOnStrike cX0_isOnStrike 2 (some .boolean) :: ([.fieldLink RX0 9 "SevenOnStrike$Figures" "mask" "I"] ++ wsX00)
def wsJ6_bitCount_0f7a4 : List Cond := .code yJ6_bitCount_0f7a4 cJ6_bitCount_0f7a4 1 (some .int) :: ([.constant RJ6 265 (1431655765), .constant RJ6 266 (858993459), .constant RJ6 267 (252645135)])
def wsX0_strikers : List Cond := .code yX0_strikers cX0_strikers 1 (some .int) :: ([.fieldLink RX0 9 "SevenOnStrike$Figures" "mask" "I", .methodLink RX0 19 yJ6_bitCount_0f7a4, .static yJ6_bitCount_0f7a4, .initialized RJ6, .code yJ6_bitCount_0f7a4 cJ6_bitCount_0f7a4 1 (some .int), .constant RJ6 265 (1431655765), .constant RJ6 266 (858993459), .constant RJ6 267 (252645135)] ++ wsX00)
def wsX0_copyFrom : List Cond := .code yX0_copyFrom cX0_copyFrom 2 none :: ([.fieldLink RX0 9 "SevenOnStrike$Figures" "mask" "I", .fieldLink RX0 15 "SevenOnStrike$Figures" "standIns" "[I", .methodLink RX0 25 arraycopyName, .native arraycopyName, .static arraycopyName, .initialized "java/lang/System"] ++ wsX00)
def wsX0_clear : List Cond := .code yX0_clear cX0_clear 2 none :: ([.fieldLink RX0 9 "SevenOnStrike$Figures" "mask" "I", .fieldLink RX0 15 "SevenOnStrike$Figures" "standIns" "[I"] ++ wsX00)
def wsX0_heardAs : List Cond := .code yX0_heardAs cX0_heardAs 3 (some .int) :: ([])
def wsX1_init : List Cond := .code yX1_init cX1_init 1 none :: ([.methodLink RX1 1 objectInit, .instanceMethod objectInit, .code objectInit ⟨#[0xb1]⟩ 1 none, .classLink RX1 7 RX0, .instantiable RX0 2, .initialized RX0, .fieldLink RX1 10 "SevenOnStrike$Kept" "rows" "[LSevenOnStrike$Figures;", .fieldLink RX1 16 "SevenOnStrike$Kept" "size" "I", .instanceMethod yX0_init, .code yX0_init cX0_init 1 none, .methodLink RX0 3 objectInit, .fieldLink RX0 9 "SevenOnStrike$Figures" "mask" "I", .arrayClass .int, .fieldLink RX0 15 "SevenOnStrike$Figures" "standIns" "[I"] ++ wsX00 ++ wsX10)
def wsX1_put : List Cond := .code yX1_put cX1_put 2 (some .boolean) :: ([.fieldLink RX1 16 "SevenOnStrike$Kept" "size" "I", .fieldLink RX1 10 "SevenOnStrike$Kept" "rows" "[LSevenOnStrike$Figures;", .methodLink RX1 20 yX0_copyFrom, .instanceMethod yX0_copyFrom, .selects RX0 yX0_copyFrom yX0_copyFrom, .initialized RX0, .code yX0_copyFrom cX0_copyFrom 2 none, .fieldLink RX0 9 "SevenOnStrike$Figures" "mask" "I", .fieldLink RX0 15 "SevenOnStrike$Figures" "standIns" "[I", .methodLink RX0 25 arraycopyName, .native arraycopyName, .static arraycopyName, .initialized "java/lang/System"] ++ wsX10 ++ wsX00)
def wsX1_restore : List Cond := .code yX1_restore cX1_restore 2 (some .boolean) :: ([.fieldLink RX1 16 "SevenOnStrike$Kept" "size" "I", .fieldLink RX1 10 "SevenOnStrike$Kept" "rows" "[LSevenOnStrike$Figures;", .methodLink RX1 20 yX0_copyFrom, .instanceMethod yX0_copyFrom, .selects RX0 yX0_copyFrom yX0_copyFrom, .initialized RX0, .code yX0_copyFrom cX0_copyFrom 2 none, .fieldLink RX0 9 "SevenOnStrike$Figures" "mask" "I", .fieldLink RX0 15 "SevenOnStrike$Figures" "standIns" "[I", .methodLink RX0 25 arraycopyName, .native arraycopyName, .static arraycopyName, .initialized "java/lang/System"] ++ wsX10 ++ wsX00)
def wsX2_init : List Cond := .code yX2_init cX2_init 1 none :: ([.methodLink RX2 1 objectInit, .instanceMethod objectInit, .code objectInit ⟨#[0xb1]⟩ 1 none, .arrayClass .int, .fieldLink RX2 9 "SevenOnStrike$Night" "told" "[I", .fieldLink RX2 13 "SevenOnStrike$Night" "heard" "[I", .fieldLink RX2 16 "SevenOnStrike$Night" "size" "I"] ++ wsX20)
def wsX2_tell : List Cond := .code yX2_tell cX2_tell 3 (some .boolean) :: ([.fieldLink RX2 16 "SevenOnStrike$Night" "size" "I", .fieldLink RX2 9 "SevenOnStrike$Night" "told" "[I", .fieldLink RX2 13 "SevenOnStrike$Night" "heard" "[I"] ++ wsX20)
def wsX3_lengthOf : List Cond := .code yX3_lengthOf cX3_lengthOf 1 (some .int) :: ([])
def wsX2_isHeardAs : List Cond := .code yX2_isHeardAs cX2_isHeardAs 8 (some .boolean) :: ([.methodLink RX2 24 yX3_lengthOf, .static yX3_lengthOf, .initialized RX3, .code yX3_lengthOf cX3_lengthOf 1 (some .int), .methodLink RX2 30 yX0_heardAs, .static yX0_heardAs, .initialized RX0, .code yX0_heardAs cX0_heardAs 3 (some .int)])
def wsX2_isSo : List Cond := .code yX2_isSo cX2_isSo 4 (some .boolean) :: ([.fieldLink RX2 16 "SevenOnStrike$Night" "size" "I", .fieldLink RX2 9 "SevenOnStrike$Night" "told" "[I", .fieldLink RX2 13 "SevenOnStrike$Night" "heard" "[I", .methodLink RX2 20 yX2_isHeardAs, .static yX2_isHeardAs, .initialized RX2, .code yX2_isHeardAs cX2_isHeardAs 8 (some .boolean), .methodLink RX2 24 yX3_lengthOf, .static yX3_lengthOf, .initialized RX3, .code yX3_lengthOf cX3_lengthOf 1 (some .int), .methodLink RX2 30 yX0_heardAs, .static yX0_heardAs, .initialized RX0, .code yX0_heardAs cX0_heardAs 3 (some .int)] ++ wsX20)
def wsX3_canSay : List Cond := .code yX3_canSay cX3_canSay 4 (some .boolean) :: ([])
def wsX3_workingUpTo : List Cond := .code yX3_workingUpTo cX3_workingUpTo 2 (some .int) :: ([.methodLink RX3 23 yJ6_bitCount_0f7a4, .static yJ6_bitCount_0f7a4, .initialized RJ6, .code yJ6_bitCount_0f7a4 cJ6_bitCount_0f7a4 1 (some .int), .constant RJ6 265 (1431655765), .constant RJ6 266 (858993459), .constant RJ6 267 (252645135)])
def wsX3_sayable : List Cond := .code yX3_sayable cX3_sayable 9 (some .int) :: ([.methodLink RX3 11 yX3_workingUpTo, .static yX3_workingUpTo, .initialized RX3, .code yX3_workingUpTo cX3_workingUpTo 2 (some .int), .methodLink RX3 23 yJ6_bitCount_0f7a4, .static yJ6_bitCount_0f7a4, .initialized RJ6, .code yJ6_bitCount_0f7a4 cJ6_bitCount_0f7a4 1 (some .int), .constant RJ6 265 (1431655765), .constant RJ6 266 (858993459), .constant RJ6 267 (252645135), .methodLink RX3 15 yX3_lengthOf, .static yX3_lengthOf, .code yX3_lengthOf cX3_lengthOf 1 (some .int), .methodLink RX3 19 yX3_canSay, .static yX3_canSay, .code yX3_canSay cX3_canSay 4 (some .boolean)])
def wsX3_atRank : List Cond := .code yX3_atRank cX3_atRank 5 (some .int) :: ([.constant RX3 28 (65536), .constant RX3 29 (99999), .methodLink RX3 30 yX3_sayable, .static yX3_sayable, .initialized RX3, .code yX3_sayable cX3_sayable 9 (some .int), .methodLink RX3 11 yX3_workingUpTo, .static yX3_workingUpTo, .code yX3_workingUpTo cX3_workingUpTo 2 (some .int), .methodLink RX3 23 yJ6_bitCount_0f7a4, .static yJ6_bitCount_0f7a4, .initialized RJ6, .code yJ6_bitCount_0f7a4 cJ6_bitCount_0f7a4 1 (some .int), .constant RJ6 265 (1431655765), .constant RJ6 266 (858993459), .constant RJ6 267 (252645135), .methodLink RX3 15 yX3_lengthOf, .static yX3_lengthOf, .code yX3_lengthOf cX3_lengthOf 1 (some .int), .methodLink RX3 19 yX3_canSay, .static yX3_canSay, .code yX3_canSay cX3_canSay 4 (some .boolean)])
def wsX3_commonDivisor : List Cond := .code yX3_commonDivisor cX3_commonDivisor 3 (some .int) :: ([])
def wsX3_lowestTerms : List Cond := .code yX3_lowestTerms cX3_lowestTerms 4 (some .int) :: ([.methodLink RX3 33 yX3_commonDivisor, .static yX3_commonDivisor, .initialized RX3, .code yX3_commonDivisor cX3_commonDivisor 3 (some .int)])
def wsX4_init : List Cond := .code yX4_init cX4_init 1 none :: ([.methodLink RX4 1 objectInit, .instanceMethod objectInit, .code objectInit ⟨#[0xb1]⟩ 1 none, .arrayClass .int, .fieldLink RX4 9 "SevenOnStrike$Past" "changed" "[I", .fieldLink RX4 13 "SevenOnStrike$Past" "before" "[I", .fieldLink RX4 16 "SevenOnStrike$Past" "size" "I"] ++ wsX40)
def wsX4_remember : List Cond := .code yX4_remember cX4_remember 3 none :: ([.fieldLink RX4 16 "SevenOnStrike$Past" "size" "I", .fieldLink RX4 9 "SevenOnStrike$Past" "changed" "[I", .methodLink RX4 20 arraycopyName, .native arraycopyName, .static arraycopyName, .initialized "java/lang/System", .fieldLink RX4 13 "SevenOnStrike$Past" "before" "[I"] ++ wsX40)
def wsX4_takeBack : List Cond := .code yX4_takeBack cX4_takeBack 3 (some .boolean) :: ([.fieldLink RX4 16 "SevenOnStrike$Past" "size" "I", .fieldLink RX4 9 "SevenOnStrike$Past" "changed" "[I", .fieldLink RX4 13 "SevenOnStrike$Past" "before" "[I", .fieldLink RX4 26 "SevenOnStrike$Figures" "mask" "I", .fieldLink RX4 31 "SevenOnStrike$Figures" "standIns" "[I"] ++ wsX40 ++ wsX00)
def wsX5_init : List Cond := .code yX5_init cX5_init 1 none :: ([.methodLink RX5 3 objectInit, .instanceMethod objectInit, .code objectInit ⟨#[0xb1]⟩ 1 none, .arrayClass .boolean, .fieldLink RX5 9 "SevenOnStrike$Speech" "canSay" "[Z", .fieldLink RX5 15 "SevenOnStrike$Speech" "rowMask" "I", .fieldLink RX5 19 "SevenOnStrike$Speech" "found" "I", .fieldLink RX5 22 "SevenOnStrike$Speech" "letters" "I", .fieldLink RX5 25 "SevenOnStrike$Speech" "kind" "I", .fieldLink RX5 28 "SevenOnStrike$Speech" "first" "I", .fieldLink RX5 31 "SevenOnStrike$Speech" "second" "I"] ++ wsX50)
def wsX5_fillRow : List Cond := .code yX5_fillRow cX5_fillRow 3 none :: ([.fieldLink RX5 15 "SevenOnStrike$Speech" "rowMask" "I", .fieldLink RX5 9 "SevenOnStrike$Speech" "canSay" "[Z", .methodLink RX5 45 yX3_canSay, .static yX3_canSay, .initialized RX3, .code yX3_canSay cX3_canSay 4 (some .boolean)] ++ wsX50)
def wsX5_take : List Cond := .code yX5_take cX5_take 5 none :: ([.fieldLink RX5 19 "SevenOnStrike$Speech" "found" "I", .fieldLink RX5 22 "SevenOnStrike$Speech" "letters" "I", .fieldLink RX5 25 "SevenOnStrike$Speech" "kind" "I", .fieldLink RX5 28 "SevenOnStrike$Speech" "first" "I", .fieldLink RX5 31 "SevenOnStrike$Speech" "second" "I", .methodLink RX5 50 yX3_lengthOf, .static yX3_lengthOf, .initialized RX3, .code yX3_lengthOf cX3_lengthOf 1 (some .int)] ++ wsX50)
def wsX5_takeIfSaid : List Cond := .code yX5_takeIfSaid cX5_takeIfSaid 4 none :: ([.fieldLink RX5 9 "SevenOnStrike$Speech" "canSay" "[Z", .methodLink RX5 38 yX5_take, .instanceMethod yX5_take, .selects RX5 yX5_take yX5_take, .initialized RX5, .code yX5_take cX5_take 5 none, .fieldLink RX5 19 "SevenOnStrike$Speech" "found" "I", .fieldLink RX5 22 "SevenOnStrike$Speech" "letters" "I", .fieldLink RX5 25 "SevenOnStrike$Speech" "kind" "I", .fieldLink RX5 28 "SevenOnStrike$Speech" "first" "I", .fieldLink RX5 31 "SevenOnStrike$Speech" "second" "I", .methodLink RX5 50 yX3_lengthOf, .static yX3_lengthOf, .initialized RX3, .code yX3_lengthOf cX3_lengthOf 1 (some .int)] ++ wsX50)
def wsX5_find_r1 : List Cond := [Cond.fieldLink RX5 19 "SevenOnStrike$Speech" "found" "I", Cond.fieldLink RX5 9 "SevenOnStrike$Speech" "canSay" "[Z", Cond.methodLink RX5 34 yX5_fillRow, Cond.instanceMethod yX5_fillRow, Cond.selects RX5 yX5_fillRow yX5_fillRow, Cond.initialized RX5, Cond.code yX5_fillRow cX5_fillRow 3 none, Cond.fieldLink RX5 15 "SevenOnStrike$Speech" "rowMask" "I", Cond.methodLink RX5 45 yX3_canSay, Cond.static yX3_canSay, Cond.initialized RX3, Cond.code yX3_canSay cX3_canSay 4 (some .boolean), Cond.methodLink RX5 38 yX5_take, Cond.instanceMethod yX5_take, Cond.selects RX5 yX5_take yX5_take, Cond.code yX5_take cX5_take 5 none, Cond.fieldLink RX5 22 "SevenOnStrike$Speech" "letters" "I", Cond.fieldLink RX5 25 "SevenOnStrike$Speech" "kind" "I", Cond.fieldLink RX5 28 "SevenOnStrike$Speech" "first" "I", Cond.fieldLink RX5 31 "SevenOnStrike$Speech" "second" "I", Cond.methodLink RX5 50 yX3_lengthOf, Cond.static yX3_lengthOf, Cond.code yX3_lengthOf cX3_lengthOf 1 (some .int), Cond.methodLink RX5 42 yX5_takeIfSaid]
def wsX5_find_r2 : List Cond := [Cond.instanceMethod yX5_takeIfSaid, Cond.selects RX5 yX5_takeIfSaid yX5_takeIfSaid, Cond.code yX5_takeIfSaid cX5_takeIfSaid 4 none]
def wsX5_find : List Cond := .code yX5_find cX5_find 4 none :: ((wsX5_find_r1 ++ wsX5_find_r2) ++ wsX50)
def wsX6_init : List Cond := .code yX6_init cX6_init 1 none :: ([.methodLink RX6 1 objectInit, .instanceMethod objectInit, .code objectInit ⟨#[0xb1]⟩ 1 none, .arrayClass .byte, .fieldLink RX6 9 "SevenOnStrike$Sum" "letters" "[B", .fieldLink RX6 13 "SevenOnStrike$Sum" "length" "I"] ++ wsX60)
def wsX6_append : List Cond := .code yX6_append cX6_append 2 none :: ([.fieldLink RX6 13 "SevenOnStrike$Sum" "length" "I", .fieldLink RX6 9 "SevenOnStrike$Sum" "letters" "[B"] ++ wsX60)
def wsX6_isSign : List Cond := .code yX6_isSign cX6_isSign 1 (some .boolean) :: ([])
def wsX6_numbers : List Cond := .code yX6_numbers cX6_numbers 3 (some .int) :: ([.fieldLink RX6 13 "SevenOnStrike$Sum" "length" "I", .fieldLink RX6 9 "SevenOnStrike$Sum" "letters" "[B", .methodLink RX6 17 yX6_isSign, .static yX6_isSign, .initialized RX6, .code yX6_isSign cX6_isSign 1 (some .boolean)] ++ wsX60)
def wsX6_keptWithin : List Cond := .code yX6_keptWithin cX6_keptWithin 2 (some .long) :: ([.constantLong RX6 33 (-2000000000), .constantLong RX6 35 (2000000000), .methodLink RX6 37 Lib.MathLoose.min_long.x, .static Lib.MathLoose.min_long.x, .initialized "java/lang/Math", .code Lib.MathLoose.min_long.x Lib.MathLoose.min_long.code 4 (some .long), .methodLink RX6 43 Lib.MathLoose.max_long.x, .static Lib.MathLoose.max_long.x, .code Lib.MathLoose.max_long.x Lib.MathLoose.max_long.code 4 (some .long)])
def wsX6_comesTo : List Cond := .code yX6_comesTo cX6_comesTo 13 (some .int) :: ([.fieldLink RX6 13 "SevenOnStrike$Sum" "length" "I", .fieldLink RX6 9 "SevenOnStrike$Sum" "letters" "[B", .constantLong RX6 21 (10), .methodLink RX6 17 yX6_isSign, .static yX6_isSign, .initialized RX6, .code yX6_isSign cX6_isSign 1 (some .boolean), .methodLink RX6 23 yX0_heardAs, .static yX0_heardAs, .initialized RX0, .code yX0_heardAs cX0_heardAs 3 (some .int), .methodLink RX6 29 yX6_keptWithin, .static yX6_keptWithin, .code yX6_keptWithin cX6_keptWithin 2 (some .long), .constantLong RX6 33 (-2000000000), .constantLong RX6 35 (2000000000), .methodLink RX6 37 Lib.MathLoose.min_long.x, .static Lib.MathLoose.min_long.x, .initialized "java/lang/Math", .code Lib.MathLoose.min_long.x Lib.MathLoose.min_long.code 4 (some .long), .methodLink RX6 43 Lib.MathLoose.max_long.x, .static Lib.MathLoose.max_long.x, .code Lib.MathLoose.max_long.x Lib.MathLoose.max_long.code 4 (some .long)] ++ wsX60)
def wsX7_init : List Cond := .code yX7_init cX7_init 1 none :: ([.methodLink RX7 1 objectInit, .instanceMethod objectInit, .code objectInit ⟨#[0xb1]⟩ 1 none, .arrayClass .byte, .fieldLink RX7 9 "SevenOnStrike$Text" "letters" "[B", .fieldLink RX7 13 "SevenOnStrike$Text" "length" "I"] ++ wsX70)
def wsX7_append : List Cond := .code yX7_append cX7_append 2 (some .boolean) :: ([.fieldLink RX7 13 "SevenOnStrike$Text" "length" "I", .fieldLink RX7 9 "SevenOnStrike$Text" "letters" "[B"] ++ wsX70)
def wsX7_clear : List Cond := .code yX7_clear cX7_clear 1 none :: ([.fieldLink RX7 13 "SevenOnStrike$Text" "length" "I"] ++ wsX70)
def wsJ0_coder_7d493 : List Cond := .code yJ0_coder_7d493 cJ0_coder_7d493 1 (some .byte) :: ([.fieldLink RJ0 38 "java/lang/String" "COMPACT_STRINGS" "Z", .fieldLink RJ0 15 "java/lang/String" "coder" "B"])
def wsJ0_length_8abf5 : List Cond := .code yJ0_length_8abf5 cJ0_length_8abf5 1 (some .int) :: ([.fieldLink RJ0 9 "java/lang/String" "value" "[B", .methodLink RJ0 335 yJ0_coder_7d493, .instanceMethod yJ0_coder_7d493, .selects RJ0 yJ0_coder_7d493 yJ0_coder_7d493, .initialized RJ0, .code yJ0_coder_7d493 cJ0_coder_7d493 1 (some .byte), .fieldLink RJ0 38 "java/lang/String" "COMPACT_STRINGS" "Z", .fieldLink RJ0 15 "java/lang/String" "coder" "B"])
def wsJ0_isLatin1_aae02 : List Cond := .code yJ0_isLatin1_aae02 cJ0_isLatin1_aae02 1 (some .boolean) :: ([.fieldLink RJ0 38 "java/lang/String" "COMPACT_STRINGS" "Z", .fieldLink RJ0 15 "java/lang/String" "coder" "B"])
def wsJ3_checkIndex_8e157 : List Cond := .code yJ3_checkIndex_8e157 cJ3_checkIndex_8e157 3 (some .int) :: ([])
def wsJ0_checkIndex_df160 : List Cond := .code yJ0_checkIndex_df160 cJ0_checkIndex_df160 2 none :: ([.fieldLink RJ0 1053 "jdk/internal/util/Preconditions" "SIOOBE_FORMATTER" "Ljava/util/function/BiFunction;", .methodLink RJ0 1059 yJ3_checkIndex_8e157, .static yJ3_checkIndex_8e157, .initialized RJ3, .code yJ3_checkIndex_8e157 cJ3_checkIndex_8e157 3 (some .int)])
def wsJ1_charAt_3b067 : List Cond := .code yJ1_charAt_3b067 cJ1_charAt_3b067 2 (some .char) :: ([.methodLink RJ1 9 yJ0_checkIndex_df160, .static yJ0_checkIndex_df160, .initialized RJ0, .code yJ0_checkIndex_df160 cJ0_checkIndex_df160 2 none, .fieldLink RJ0 1053 "jdk/internal/util/Preconditions" "SIOOBE_FORMATTER" "Ljava/util/function/BiFunction;", .methodLink RJ0 1059 yJ3_checkIndex_8e157, .static yJ3_checkIndex_8e157, .initialized RJ3, .code yJ3_checkIndex_8e157 cJ3_checkIndex_8e157 3 (some .int)])
def wsJ2_length_9d52b : List Cond := .code yJ2_length_9d52b cJ2_length_9d52b 1 (some .int) :: ([])
def wsJ2_checkIndex_2214a : List Cond := .code yJ2_checkIndex_2214a cJ2_checkIndex_2214a 2 none :: ([.methodLink RJ2 48 yJ2_length_9d52b, .static yJ2_length_9d52b, .initialized RJ2, .code yJ2_length_9d52b cJ2_length_9d52b 1 (some .int), .methodLink RJ2 414 yJ0_checkIndex_df160, .static yJ0_checkIndex_df160, .initialized RJ0, .code yJ0_checkIndex_df160 cJ0_checkIndex_df160 2 none, .fieldLink RJ0 1053 "jdk/internal/util/Preconditions" "SIOOBE_FORMATTER" "Ljava/util/function/BiFunction;", .methodLink RJ0 1059 yJ3_checkIndex_8e157, .static yJ3_checkIndex_8e157, .initialized RJ3, .code yJ3_checkIndex_8e157 cJ3_checkIndex_8e157 3 (some .int)])
def wsJ2_getChar_3b067 : List Cond := .code yJ2_getChar_3b067 cJ2_getChar_3b067 2 (some .char) :: ([.fieldLink RJ2 44 "java/lang/StringUTF16" "$assertionsDisabled" "Z", .fieldLink RJ2 59 "java/lang/StringUTF16" "HI_BYTE_SHIFT" "I", .fieldLink RJ2 63 "java/lang/StringUTF16" "LO_BYTE_SHIFT" "I", .methodLink RJ2 48 yJ2_length_9d52b, .static yJ2_length_9d52b, .initialized RJ2, .code yJ2_length_9d52b cJ2_length_9d52b 1 (some .int)])
def wsJ2_charAt_3b067 : List Cond := .code yJ2_charAt_3b067 cJ2_charAt_3b067 2 (some .char) :: ([.methodLink RJ2 67 yJ2_checkIndex_2214a, .static yJ2_checkIndex_2214a, .initialized RJ2, .code yJ2_checkIndex_2214a cJ2_checkIndex_2214a 2 none, .methodLink RJ2 48 yJ2_length_9d52b, .static yJ2_length_9d52b, .code yJ2_length_9d52b cJ2_length_9d52b 1 (some .int), .methodLink RJ2 414 yJ0_checkIndex_df160, .static yJ0_checkIndex_df160, .initialized RJ0, .code yJ0_checkIndex_df160 cJ0_checkIndex_df160 2 none, .fieldLink RJ0 1053 "jdk/internal/util/Preconditions" "SIOOBE_FORMATTER" "Ljava/util/function/BiFunction;", .methodLink RJ0 1059 yJ3_checkIndex_8e157, .static yJ3_checkIndex_8e157, .initialized RJ3, .code yJ3_checkIndex_8e157 cJ3_checkIndex_8e157 3 (some .int), .methodLink RJ2 71 yJ2_getChar_3b067, .static yJ2_getChar_3b067, .code yJ2_getChar_3b067 cJ2_getChar_3b067 2 (some .char), .fieldLink RJ2 44 "java/lang/StringUTF16" "$assertionsDisabled" "Z", .fieldLink RJ2 59 "java/lang/StringUTF16" "HI_BYTE_SHIFT" "I", .fieldLink RJ2 63 "java/lang/StringUTF16" "LO_BYTE_SHIFT" "I"])
def wsJ0_charAt_5068e_r1 : List Cond := [Cond.fieldLink RJ0 9 "java/lang/String" "value" "[B", Cond.methodLink RJ0 492 yJ0_isLatin1_aae02, Cond.instanceMethod yJ0_isLatin1_aae02, Cond.selects RJ0 yJ0_isLatin1_aae02 yJ0_isLatin1_aae02, Cond.initialized RJ0, Cond.code yJ0_isLatin1_aae02 cJ0_isLatin1_aae02 1 (some .boolean), Cond.fieldLink RJ0 38 "java/lang/String" "COMPACT_STRINGS" "Z", Cond.fieldLink RJ0 15 "java/lang/String" "coder" "B", Cond.methodLink RJ0 495 yJ1_charAt_3b067, Cond.static yJ1_charAt_3b067, Cond.initialized RJ1, Cond.code yJ1_charAt_3b067 cJ1_charAt_3b067 2 (some .char), Cond.methodLink RJ1 9 yJ0_checkIndex_df160, Cond.static yJ0_checkIndex_df160, Cond.code yJ0_checkIndex_df160 cJ0_checkIndex_df160 2 none, Cond.fieldLink RJ0 1053 "jdk/internal/util/Preconditions" "SIOOBE_FORMATTER" "Ljava/util/function/BiFunction;", Cond.methodLink RJ0 1059 yJ3_checkIndex_8e157, Cond.static yJ3_checkIndex_8e157, Cond.initialized RJ3, Cond.code yJ3_checkIndex_8e157 cJ3_checkIndex_8e157 3 (some .int), Cond.methodLink RJ0 498 yJ2_charAt_3b067, Cond.static yJ2_charAt_3b067, Cond.initialized RJ2, Cond.code yJ2_charAt_3b067 cJ2_charAt_3b067 2 (some .char)]
def wsJ0_charAt_5068e_r2 : List Cond := [Cond.methodLink RJ2 67 yJ2_checkIndex_2214a, Cond.static yJ2_checkIndex_2214a, Cond.code yJ2_checkIndex_2214a cJ2_checkIndex_2214a 2 none, Cond.methodLink RJ2 48 yJ2_length_9d52b, Cond.static yJ2_length_9d52b, Cond.code yJ2_length_9d52b cJ2_length_9d52b 1 (some .int), Cond.methodLink RJ2 414 yJ0_checkIndex_df160, Cond.methodLink RJ2 71 yJ2_getChar_3b067, Cond.static yJ2_getChar_3b067, Cond.code yJ2_getChar_3b067 cJ2_getChar_3b067 2 (some .char), Cond.fieldLink RJ2 44 "java/lang/StringUTF16" "$assertionsDisabled" "Z", Cond.fieldLink RJ2 59 "java/lang/StringUTF16" "HI_BYTE_SHIFT" "I", Cond.fieldLink RJ2 63 "java/lang/StringUTF16" "LO_BYTE_SHIFT" "I"]
def wsJ0_charAt_5068e : List Cond := .code yJ0_charAt_5068e cJ0_charAt_5068e 2 (some .char) :: ((wsJ0_charAt_5068e_r1 ++ wsJ0_charAt_5068e_r2))
def wsX7_copyFrom_r1 : List Cond := [Cond.methodLink RX7 17 yX7_clear, Cond.instanceMethod yX7_clear, Cond.selects RX7 yX7_clear yX7_clear, Cond.initialized RX7, Cond.code yX7_clear cX7_clear 1 none, Cond.fieldLink RX7 13 "SevenOnStrike$Text" "length" "I", Cond.methodLink RX7 20 yJ0_length_8abf5, Cond.instanceMethod yJ0_length_8abf5, Cond.selects RJ0 yJ0_length_8abf5 yJ0_length_8abf5, Cond.initialized RJ0, Cond.code yJ0_length_8abf5 cJ0_length_8abf5 1 (some .int), Cond.fieldLink RJ0 9 "java/lang/String" "value" "[B", Cond.methodLink RJ0 335 yJ0_coder_7d493, Cond.instanceMethod yJ0_coder_7d493, Cond.selects RJ0 yJ0_coder_7d493 yJ0_coder_7d493, Cond.code yJ0_coder_7d493 cJ0_coder_7d493 1 (some .byte), Cond.fieldLink RJ0 38 "java/lang/String" "COMPACT_STRINGS" "Z", Cond.fieldLink RJ0 15 "java/lang/String" "coder" "B", Cond.methodLink RX7 25 yJ0_charAt_5068e, Cond.instanceMethod yJ0_charAt_5068e, Cond.selects RJ0 yJ0_charAt_5068e yJ0_charAt_5068e, Cond.code yJ0_charAt_5068e cJ0_charAt_5068e 2 (some .char), Cond.methodLink RJ0 492 yJ0_isLatin1_aae02, Cond.instanceMethod yJ0_isLatin1_aae02]
def wsX7_copyFrom_r2 : List Cond := [Cond.selects RJ0 yJ0_isLatin1_aae02 yJ0_isLatin1_aae02, Cond.code yJ0_isLatin1_aae02 cJ0_isLatin1_aae02 1 (some .boolean), Cond.methodLink RJ0 495 yJ1_charAt_3b067, Cond.static yJ1_charAt_3b067, Cond.initialized RJ1, Cond.code yJ1_charAt_3b067 cJ1_charAt_3b067 2 (some .char), Cond.methodLink RJ1 9 yJ0_checkIndex_df160, Cond.static yJ0_checkIndex_df160, Cond.code yJ0_checkIndex_df160 cJ0_checkIndex_df160 2 none, Cond.fieldLink RJ0 1053 "jdk/internal/util/Preconditions" "SIOOBE_FORMATTER" "Ljava/util/function/BiFunction;", Cond.methodLink RJ0 1059 yJ3_checkIndex_8e157, Cond.static yJ3_checkIndex_8e157, Cond.initialized RJ3, Cond.code yJ3_checkIndex_8e157 cJ3_checkIndex_8e157 3 (some .int), Cond.methodLink RJ0 498 yJ2_charAt_3b067, Cond.static yJ2_charAt_3b067, Cond.initialized RJ2, Cond.code yJ2_charAt_3b067 cJ2_charAt_3b067 2 (some .char), Cond.methodLink RJ2 67 yJ2_checkIndex_2214a, Cond.static yJ2_checkIndex_2214a, Cond.code yJ2_checkIndex_2214a cJ2_checkIndex_2214a 2 none, Cond.methodLink RJ2 48 yJ2_length_9d52b, Cond.static yJ2_length_9d52b, Cond.code yJ2_length_9d52b cJ2_length_9d52b 1 (some .int)]
def wsX7_copyFrom_r3 : List Cond := [Cond.methodLink RJ2 414 yJ0_checkIndex_df160, Cond.methodLink RJ2 71 yJ2_getChar_3b067, Cond.static yJ2_getChar_3b067, Cond.code yJ2_getChar_3b067 cJ2_getChar_3b067 2 (some .char), Cond.fieldLink RJ2 44 "java/lang/StringUTF16" "$assertionsDisabled" "Z", Cond.fieldLink RJ2 59 "java/lang/StringUTF16" "HI_BYTE_SHIFT" "I", Cond.fieldLink RJ2 63 "java/lang/StringUTF16" "LO_BYTE_SHIFT" "I", Cond.methodLink RX7 29 yX7_append, Cond.instanceMethod yX7_append, Cond.selects RX7 yX7_append yX7_append, Cond.code yX7_append cX7_append 2 (some .boolean), Cond.fieldLink RX7 9 "SevenOnStrike$Text" "letters" "[B"]
def wsX7_copyFrom : List Cond := .code yX7_copyFrom cX7_copyFrom 3 none :: ((wsX7_copyFrom_r1 ++ (wsX7_copyFrom_r2 ++ wsX7_copyFrom_r3)) ++ wsX70)
def wsX10_isWithin : List Cond := .code yX10_isWithin cX10_isWithin 3 (some .boolean) :: ([])
def wsX7_letterAt : List Cond := .code yX7_letterAt cX7_letterAt 2 (some .int) :: ([.fieldLink RX7 13 "SevenOnStrike$Text" "length" "I", .fieldLink RX7 9 "SevenOnStrike$Text" "letters" "[B", .static yX10_isWithin, .initialized RX10, .code yX10_isWithin cX10_isWithin 3 (some .boolean)] ++ wsX70)
def wsX8_init : List Cond := .code yX8_init cX8_init 1 none :: ([.methodLink RX8 3 objectInit, .instanceMethod objectInit, .code objectInit ⟨#[0xb1]⟩ 1 none, .arrayClass .int, .fieldLink RX8 9 "SevenOnStrike$Till" "row" "[I"] ++ wsX80)
def wsX8_startWith : List Cond := .code yX8_startWith cX8_startWith 4 none :: ([.fieldLink RX8 9 "SevenOnStrike$Till" "row" "[I"] ++ wsX80)
def wsX8_countFewest : List Cond := .code yX8_countFewest cX8_countFewest 6 none :: ([.fieldLink RX8 19 "SevenOnStrike$Told" "coinCount" "I", .fieldLink RX8 25 "SevenOnStrike$Told" "coins" "[I", .fieldLink RX8 9 "SevenOnStrike$Till" "row" "[I", .methodLink RX8 34 Lib.Math.min.name, .static Lib.Math.min.name, .initialized "java/lang/Math", .code Lib.Math.min.name Lib.Math.min.code 2 (some .int), .methodLink RX8 15 yX8_startWith, .instanceMethod yX8_startWith, .selects RX8 yX8_startWith yX8_startWith, .initialized RX8, .code yX8_startWith cX8_startWith 4 none, .methodLink RX8 28 yX3_canSay, .static yX3_canSay, .initialized RX3, .code yX3_canSay cX3_canSay 4 (some .boolean)] ++ wsX90 ++ wsX80)
def wsX8_isMade : List Cond := .code yX8_isMade cX8_isMade 2 (some .boolean) :: ([.fieldLink RX8 9 "SevenOnStrike$Till" "row" "[I"] ++ wsX80)
def wsX8_countWays : List Cond := .code yX8_countWays cX8_countWays 6 none :: ([.fieldLink RX8 19 "SevenOnStrike$Told" "coinCount" "I", .fieldLink RX8 25 "SevenOnStrike$Told" "coins" "[I", .fieldLink RX8 9 "SevenOnStrike$Till" "row" "[I", .methodLink RX8 15 yX8_startWith, .instanceMethod yX8_startWith, .selects RX8 yX8_startWith yX8_startWith, .initialized RX8, .code yX8_startWith cX8_startWith 4 none, .methodLink RX8 28 yX3_canSay, .static yX3_canSay, .initialized RX3, .code yX3_canSay cX3_canSay 4 (some .boolean)] ++ wsX90 ++ wsX80)
def wsX9_init_r1 : List Cond := [Cond.methodLink RX9 3 objectInit, Cond.instanceMethod objectInit, Cond.code objectInit ⟨#[0xb1]⟩ 1 none, Cond.classLink RX9 9 RX0, Cond.instantiable RX0 2, Cond.initialized RX0, Cond.fieldLink RX9 12 "SevenOnStrike$Told" "figures" "LSevenOnStrike$Figures;", Cond.arrayClass .int, Cond.fieldLink RX9 18 "SevenOnStrike$Told" "coins" "[I", Cond.fieldLink RX9 22 "SevenOnStrike$Told" "coinCount" "I", Cond.fieldLink RX9 26 "SevenOnStrike$Told" "sides" "I", Cond.fieldLink RX9 29 "SevenOnStrike$Told" "week" "I", Cond.classLink RX9 32 RX6, Cond.instantiable RX6 2, Cond.initialized RX6, Cond.fieldLink RX9 35 "SevenOnStrike$Told" "sum" "LSevenOnStrike$Sum;", Cond.fieldLink RX9 39 "SevenOnStrike$Told" "at" "I", Cond.instanceMethod yX0_init, Cond.code yX0_init cX0_init 1 none, Cond.methodLink RX0 3 objectInit, Cond.fieldLink RX0 9 "SevenOnStrike$Figures" "mask" "I", Cond.fieldLink RX0 15 "SevenOnStrike$Figures" "standIns" "[I", Cond.instanceMethod yX6_init, Cond.code yX6_init cX6_init 1 none]
def wsX9_init_r2 : List Cond := [Cond.methodLink RX6 1 objectInit, Cond.arrayClass .byte, Cond.fieldLink RX6 9 "SevenOnStrike$Sum" "letters" "[B", Cond.fieldLink RX6 13 "SevenOnStrike$Sum" "length" "I"]
def wsX9_init : List Cond := .code yX9_init cX9_init 1 none :: ((wsX9_init_r1 ++ wsX9_init_r2) ++ wsX00 ++ wsX90 ++ wsX60)
def wsX9_isDigit : List Cond := .code yX9_isDigit cX9_isDigit 1 (some .boolean) :: ([])
def wsX9_readNumber : List Cond := .code yX9_readNumber cX9_readNumber 4 (some .int) :: ([.fieldLink RX9 39 "SevenOnStrike$Told" "at" "I", .methodLink RX9 108 Lib.Math.max.name, .static Lib.Math.max.name, .initialized "java/lang/Math", .code Lib.Math.max.name Lib.Math.max.code 2 (some .int), .methodLink RX9 55 yX7_letterAt, .instanceMethod yX7_letterAt, .selects RX7 yX7_letterAt yX7_letterAt, .initialized RX7, .code yX7_letterAt cX7_letterAt 2 (some .int), .fieldLink RX7 13 "SevenOnStrike$Text" "length" "I", .fieldLink RX7 9 "SevenOnStrike$Text" "letters" "[B", .static yX10_isWithin, .initialized RX10, .code yX10_isWithin cX10_isWithin 3 (some .boolean), .methodLink RX9 98 yX9_isDigit, .static yX9_isDigit, .initialized RX9, .code yX9_isDigit cX9_isDigit 1 (some .boolean)] ++ wsX90 ++ wsX70)
def wsX10_isFigure : List Cond := .code yX10_isFigure cX10_isFigure 1 (some .boolean) :: ([.methodLink RX10 100 yX10_isWithin, .static yX10_isWithin, .initialized RX10, .code yX10_isWithin cX10_isWithin 3 (some .boolean)])
def wsX9_readStrike_r1 : List Cond := [Cond.fieldLink RX9 12 "SevenOnStrike$Told" "figures" "LSevenOnStrike$Figures;", Cond.fieldLink RX9 85 "SevenOnStrike$Figures" "mask" "I", Cond.methodLink RX9 77 yX9_readNumber, Cond.instanceMethod yX9_readNumber, Cond.selects RX9 yX9_readNumber yX9_readNumber, Cond.initialized RX9, Cond.code yX9_readNumber cX9_readNumber 4 (some .int), Cond.fieldLink RX9 39 "SevenOnStrike$Told" "at" "I", Cond.methodLink RX9 108 Lib.Math.max.name, Cond.static Lib.Math.max.name, Cond.initialized "java/lang/Math", Cond.code Lib.Math.max.name Lib.Math.max.code 2 (some .int), Cond.methodLink RX9 55 yX7_letterAt, Cond.instanceMethod yX7_letterAt, Cond.selects RX7 yX7_letterAt yX7_letterAt, Cond.initialized RX7, Cond.code yX7_letterAt cX7_letterAt 2 (some .int), Cond.fieldLink RX7 13 "SevenOnStrike$Text" "length" "I", Cond.fieldLink RX7 9 "SevenOnStrike$Text" "letters" "[B", Cond.static yX10_isWithin, Cond.initialized RX10, Cond.code yX10_isWithin cX10_isWithin 3 (some .boolean), Cond.methodLink RX9 98 yX9_isDigit, Cond.static yX9_isDigit]
def wsX9_readStrike_r2 : List Cond := [Cond.code yX9_isDigit cX9_isDigit 1 (some .boolean), Cond.static yX10_isFigure, Cond.code yX10_isFigure cX10_isFigure 1 (some .boolean), Cond.methodLink RX10 100 yX10_isWithin]
def wsX9_readStrike : List Cond := .code yX9_readStrike cX9_readStrike 3 (some .boolean) :: ((wsX9_readStrike_r1 ++ wsX9_readStrike_r2) ++ wsX90 ++ wsX00 ++ wsX70)
def wsX9_readStandIn_r1 : List Cond := [Cond.fieldLink RX9 39 "SevenOnStrike$Told" "at" "I", Cond.fieldLink RX9 12 "SevenOnStrike$Told" "figures" "LSevenOnStrike$Figures;", Cond.fieldLink RX9 88 "SevenOnStrike$Figures" "standIns" "[I", Cond.methodLink RX9 77 yX9_readNumber, Cond.instanceMethod yX9_readNumber, Cond.selects RX9 yX9_readNumber yX9_readNumber, Cond.initialized RX9, Cond.code yX9_readNumber cX9_readNumber 4 (some .int), Cond.methodLink RX9 108 Lib.Math.max.name, Cond.static Lib.Math.max.name, Cond.initialized "java/lang/Math", Cond.code Lib.Math.max.name Lib.Math.max.code 2 (some .int), Cond.methodLink RX9 55 yX7_letterAt, Cond.instanceMethod yX7_letterAt, Cond.selects RX7 yX7_letterAt yX7_letterAt, Cond.initialized RX7, Cond.code yX7_letterAt cX7_letterAt 2 (some .int), Cond.fieldLink RX7 13 "SevenOnStrike$Text" "length" "I", Cond.fieldLink RX7 9 "SevenOnStrike$Text" "letters" "[B", Cond.static yX10_isWithin, Cond.initialized RX10, Cond.code yX10_isWithin cX10_isWithin 3 (some .boolean), Cond.methodLink RX9 98 yX9_isDigit, Cond.static yX9_isDigit]
def wsX9_readStandIn_r2 : List Cond := [Cond.code yX9_isDigit cX9_isDigit 1 (some .boolean), Cond.static yX10_isFigure, Cond.code yX10_isFigure cX10_isFigure 1 (some .boolean), Cond.methodLink RX10 100 yX10_isWithin]
def wsX9_readStandIn : List Cond := .code yX9_readStandIn cX9_readStandIn 4 (some .boolean) :: ((wsX9_readStandIn_r1 ++ wsX9_readStandIn_r2) ++ wsX90 ++ wsX00 ++ wsX70)
def wsX9_hasCoin : List Cond := .code yX9_hasCoin cX9_hasCoin 3 (some .boolean) :: ([.fieldLink RX9 22 "SevenOnStrike$Told" "coinCount" "I", .fieldLink RX9 18 "SevenOnStrike$Told" "coins" "[I"] ++ wsX90)
def wsX9_readCoin_r1 : List Cond := [Cond.fieldLink RX9 22 "SevenOnStrike$Told" "coinCount" "I", Cond.fieldLink RX9 18 "SevenOnStrike$Told" "coins" "[I", Cond.methodLink RX9 77 yX9_readNumber, Cond.instanceMethod yX9_readNumber, Cond.selects RX9 yX9_readNumber yX9_readNumber, Cond.initialized RX9, Cond.code yX9_readNumber cX9_readNumber 4 (some .int), Cond.fieldLink RX9 39 "SevenOnStrike$Told" "at" "I", Cond.methodLink RX9 108 Lib.Math.max.name, Cond.static Lib.Math.max.name, Cond.initialized "java/lang/Math", Cond.code Lib.Math.max.name Lib.Math.max.code 2 (some .int), Cond.methodLink RX9 55 yX7_letterAt, Cond.instanceMethod yX7_letterAt, Cond.selects RX7 yX7_letterAt yX7_letterAt, Cond.initialized RX7, Cond.code yX7_letterAt cX7_letterAt 2 (some .int), Cond.fieldLink RX7 13 "SevenOnStrike$Text" "length" "I", Cond.fieldLink RX7 9 "SevenOnStrike$Text" "letters" "[B", Cond.static yX10_isWithin, Cond.initialized RX10, Cond.code yX10_isWithin cX10_isWithin 3 (some .boolean), Cond.methodLink RX9 98 yX9_isDigit, Cond.static yX9_isDigit]
def wsX9_readCoin_r2 : List Cond := [Cond.code yX9_isDigit cX9_isDigit 1 (some .boolean), Cond.methodLink RX9 91 yX9_hasCoin, Cond.instanceMethod yX9_hasCoin, Cond.selects RX9 yX9_hasCoin yX9_hasCoin, Cond.code yX9_hasCoin cX9_hasCoin 3 (some .boolean)]
def wsX9_readCoin : List Cond := .code yX9_readCoin cX9_readCoin 3 (some .boolean) :: ((wsX9_readCoin_r1 ++ wsX9_readCoin_r2) ++ wsX90 ++ wsX70)
def wsX9_readSides : List Cond := .code yX9_readSides cX9_readSides 2 (some .boolean) :: ([.fieldLink RX9 26 "SevenOnStrike$Told" "sides" "I", .methodLink RX9 77 yX9_readNumber, .instanceMethod yX9_readNumber, .selects RX9 yX9_readNumber yX9_readNumber, .initialized RX9, .code yX9_readNumber cX9_readNumber 4 (some .int), .fieldLink RX9 39 "SevenOnStrike$Told" "at" "I", .methodLink RX9 108 Lib.Math.max.name, .static Lib.Math.max.name, .initialized "java/lang/Math", .code Lib.Math.max.name Lib.Math.max.code 2 (some .int), .methodLink RX9 55 yX7_letterAt, .instanceMethod yX7_letterAt, .selects RX7 yX7_letterAt yX7_letterAt, .initialized RX7, .code yX7_letterAt cX7_letterAt 2 (some .int), .fieldLink RX7 13 "SevenOnStrike$Text" "length" "I", .fieldLink RX7 9 "SevenOnStrike$Text" "letters" "[B", .static yX10_isWithin, .initialized RX10, .code yX10_isWithin cX10_isWithin 3 (some .boolean), .methodLink RX9 98 yX9_isDigit, .static yX9_isDigit, .code yX9_isDigit cX9_isDigit 1 (some .boolean)] ++ wsX90 ++ wsX70)
def wsX9_readWeek : List Cond := .code yX9_readWeek cX9_readWeek 2 (some .boolean) :: ([.fieldLink RX9 29 "SevenOnStrike$Told" "week" "I", .methodLink RX9 77 yX9_readNumber, .instanceMethod yX9_readNumber, .selects RX9 yX9_readNumber yX9_readNumber, .initialized RX9, .code yX9_readNumber cX9_readNumber 4 (some .int), .fieldLink RX9 39 "SevenOnStrike$Told" "at" "I", .methodLink RX9 108 Lib.Math.max.name, .static Lib.Math.max.name, .initialized "java/lang/Math", .code Lib.Math.max.name Lib.Math.max.code 2 (some .int), .methodLink RX9 55 yX7_letterAt, .instanceMethod yX7_letterAt, .selects RX7 yX7_letterAt yX7_letterAt, .initialized RX7, .code yX7_letterAt cX7_letterAt 2 (some .int), .fieldLink RX7 13 "SevenOnStrike$Text" "length" "I", .fieldLink RX7 9 "SevenOnStrike$Text" "letters" "[B", .static yX10_isWithin, .initialized RX10, .code yX10_isWithin cX10_isWithin 3 (some .boolean), .methodLink RX9 98 yX9_isDigit, .static yX9_isDigit, .code yX9_isDigit cX9_isDigit 1 (some .boolean)] ++ wsX90 ++ wsX70)
def wsX9_readSum_r1 : List Cond := [Cond.fieldLink RX9 35 "SevenOnStrike$Told" "sum" "LSevenOnStrike$Sum;", Cond.fieldLink RX9 45 "SevenOnStrike$Sum" "length" "I", Cond.fieldLink RX9 39 "SevenOnStrike$Told" "at" "I", Cond.methodLink RX9 55 yX7_letterAt, Cond.instanceMethod yX7_letterAt, Cond.selects RX7 yX7_letterAt yX7_letterAt, Cond.initialized RX7, Cond.code yX7_letterAt cX7_letterAt 2 (some .int), Cond.fieldLink RX7 13 "SevenOnStrike$Text" "length" "I", Cond.fieldLink RX7 9 "SevenOnStrike$Text" "letters" "[B", Cond.static yX10_isWithin, Cond.initialized RX10, Cond.code yX10_isWithin cX10_isWithin 3 (some .boolean), Cond.methodLink RX9 98 yX9_isDigit, Cond.static yX9_isDigit, Cond.initialized RX9, Cond.code yX9_isDigit cX9_isDigit 1 (some .boolean), Cond.methodLink RX9 101 yX6_isSign, Cond.static yX6_isSign, Cond.initialized RX6, Cond.code yX6_isSign cX6_isSign 1 (some .boolean), Cond.methodLink RX9 104 yX6_append, Cond.instanceMethod yX6_append, Cond.selects RX6 yX6_append yX6_append]
def wsX9_readSum_r2 : List Cond := [Cond.code yX6_append cX6_append 2 none, Cond.fieldLink RX6 13 "SevenOnStrike$Sum" "length" "I", Cond.fieldLink RX6 9 "SevenOnStrike$Sum" "letters" "[B"]
def wsX9_readSum : List Cond := .code yX9_readSum cX9_readSum 5 (some .boolean) :: ((wsX9_readSum_r1 ++ wsX9_readSum_r2) ++ wsX90 ++ wsX60 ++ wsX70)
def wsX9_readItem_r1 : List Cond := [Cond.fieldLink RX9 39 "SevenOnStrike$Told" "at" "I", Cond.methodLink RX9 55 yX7_letterAt, Cond.instanceMethod yX7_letterAt, Cond.selects RX7 yX7_letterAt yX7_letterAt, Cond.initialized RX7, Cond.code yX7_letterAt cX7_letterAt 2 (some .int), Cond.fieldLink RX7 13 "SevenOnStrike$Text" "length" "I", Cond.fieldLink RX7 9 "SevenOnStrike$Text" "letters" "[B", Cond.static yX10_isWithin, Cond.initialized RX10, Cond.code yX10_isWithin cX10_isWithin 3 (some .boolean), Cond.methodLink RX9 59 yX9_readStrike, Cond.instanceMethod yX9_readStrike, Cond.selects RX9 yX9_readStrike yX9_readStrike, Cond.initialized RX9, Cond.code yX9_readStrike cX9_readStrike 3 (some .boolean), Cond.fieldLink RX9 12 "SevenOnStrike$Told" "figures" "LSevenOnStrike$Figures;", Cond.fieldLink RX9 85 "SevenOnStrike$Figures" "mask" "I", Cond.methodLink RX9 77 yX9_readNumber, Cond.instanceMethod yX9_readNumber, Cond.selects RX9 yX9_readNumber yX9_readNumber, Cond.code yX9_readNumber cX9_readNumber 4 (some .int), Cond.methodLink RX9 108 Lib.Math.max.name, Cond.static Lib.Math.max.name]
def wsX9_readItem_r2 : List Cond := [Cond.initialized "java/lang/Math", Cond.code Lib.Math.max.name Lib.Math.max.code 2 (some .int), Cond.methodLink RX9 98 yX9_isDigit, Cond.static yX9_isDigit, Cond.code yX9_isDigit cX9_isDigit 1 (some .boolean), Cond.static yX10_isFigure, Cond.code yX10_isFigure cX10_isFigure 1 (some .boolean), Cond.methodLink RX10 100 yX10_isWithin, Cond.methodLink RX9 62 yX9_readStandIn, Cond.instanceMethod yX9_readStandIn, Cond.selects RX9 yX9_readStandIn yX9_readStandIn, Cond.code yX9_readStandIn cX9_readStandIn 4 (some .boolean), Cond.fieldLink RX9 88 "SevenOnStrike$Figures" "standIns" "[I", Cond.methodLink RX9 65 yX9_readCoin, Cond.instanceMethod yX9_readCoin, Cond.selects RX9 yX9_readCoin yX9_readCoin, Cond.code yX9_readCoin cX9_readCoin 3 (some .boolean), Cond.fieldLink RX9 22 "SevenOnStrike$Told" "coinCount" "I", Cond.fieldLink RX9 18 "SevenOnStrike$Told" "coins" "[I", Cond.methodLink RX9 91 yX9_hasCoin, Cond.instanceMethod yX9_hasCoin, Cond.selects RX9 yX9_hasCoin yX9_hasCoin, Cond.code yX9_hasCoin cX9_hasCoin 3 (some .boolean), Cond.methodLink RX9 68 yX9_readSides]
def wsX9_readItem_r3 : List Cond := [Cond.instanceMethod yX9_readSides, Cond.selects RX9 yX9_readSides yX9_readSides, Cond.code yX9_readSides cX9_readSides 2 (some .boolean), Cond.fieldLink RX9 26 "SevenOnStrike$Told" "sides" "I", Cond.methodLink RX9 71 yX9_readWeek, Cond.instanceMethod yX9_readWeek, Cond.selects RX9 yX9_readWeek yX9_readWeek, Cond.code yX9_readWeek cX9_readWeek 2 (some .boolean), Cond.fieldLink RX9 29 "SevenOnStrike$Told" "week" "I", Cond.methodLink RX9 74 yX9_readSum, Cond.instanceMethod yX9_readSum, Cond.selects RX9 yX9_readSum yX9_readSum, Cond.code yX9_readSum cX9_readSum 5 (some .boolean), Cond.fieldLink RX9 35 "SevenOnStrike$Told" "sum" "LSevenOnStrike$Sum;", Cond.fieldLink RX9 45 "SevenOnStrike$Sum" "length" "I", Cond.methodLink RX9 101 yX6_isSign, Cond.static yX6_isSign, Cond.initialized RX6, Cond.code yX6_isSign cX6_isSign 1 (some .boolean), Cond.methodLink RX9 104 yX6_append, Cond.instanceMethod yX6_append, Cond.selects RX6 yX6_append yX6_append, Cond.code yX6_append cX6_append 2 none, Cond.fieldLink RX6 13 "SevenOnStrike$Sum" "length" "I"]
def wsX9_readItem_r4 : List Cond := [Cond.fieldLink RX6 9 "SevenOnStrike$Sum" "letters" "[B"]
def wsX9_readItem : List Cond := .code yX9_readItem cX9_readItem 3 (some .boolean) :: ((wsX9_readItem_r1 ++ (wsX9_readItem_r2 ++ (wsX9_readItem_r3 ++ wsX9_readItem_r4))) ++ wsX90 ++ wsX70 ++ wsX00 ++ wsX60)
def wsX9_readFrom_r1 : List Cond := [Cond.fieldLink RX9 12 "SevenOnStrike$Told" "figures" "LSevenOnStrike$Figures;", Cond.fieldLink RX9 22 "SevenOnStrike$Told" "coinCount" "I", Cond.fieldLink RX9 26 "SevenOnStrike$Told" "sides" "I", Cond.fieldLink RX9 29 "SevenOnStrike$Told" "week" "I", Cond.fieldLink RX9 35 "SevenOnStrike$Told" "sum" "LSevenOnStrike$Sum;", Cond.fieldLink RX9 45 "SevenOnStrike$Sum" "length" "I", Cond.fieldLink RX9 39 "SevenOnStrike$Told" "at" "I", Cond.fieldLink RX9 50 "SevenOnStrike$Text" "length" "I", Cond.methodLink RX9 42 yX0_clear, Cond.instanceMethod yX0_clear, Cond.selects RX0 yX0_clear yX0_clear, Cond.initialized RX0, Cond.code yX0_clear cX0_clear 2 none, Cond.fieldLink RX0 9 "SevenOnStrike$Figures" "mask" "I", Cond.fieldLink RX0 15 "SevenOnStrike$Figures" "standIns" "[I", Cond.methodLink RX9 51 yX9_readItem, Cond.instanceMethod yX9_readItem, Cond.selects RX9 yX9_readItem yX9_readItem, Cond.initialized RX9, Cond.code yX9_readItem cX9_readItem 3 (some .boolean), Cond.methodLink RX9 55 yX7_letterAt, Cond.instanceMethod yX7_letterAt, Cond.selects RX7 yX7_letterAt yX7_letterAt, Cond.initialized RX7]
def wsX9_readFrom_r2 : List Cond := [Cond.code yX7_letterAt cX7_letterAt 2 (some .int), Cond.fieldLink RX7 13 "SevenOnStrike$Text" "length" "I", Cond.fieldLink RX7 9 "SevenOnStrike$Text" "letters" "[B", Cond.static yX10_isWithin, Cond.initialized RX10, Cond.code yX10_isWithin cX10_isWithin 3 (some .boolean), Cond.methodLink RX9 59 yX9_readStrike, Cond.instanceMethod yX9_readStrike, Cond.selects RX9 yX9_readStrike yX9_readStrike, Cond.code yX9_readStrike cX9_readStrike 3 (some .boolean), Cond.fieldLink RX9 85 "SevenOnStrike$Figures" "mask" "I", Cond.methodLink RX9 77 yX9_readNumber, Cond.instanceMethod yX9_readNumber, Cond.selects RX9 yX9_readNumber yX9_readNumber, Cond.code yX9_readNumber cX9_readNumber 4 (some .int), Cond.methodLink RX9 108 Lib.Math.max.name, Cond.static Lib.Math.max.name, Cond.initialized "java/lang/Math", Cond.code Lib.Math.max.name Lib.Math.max.code 2 (some .int), Cond.methodLink RX9 98 yX9_isDigit, Cond.static yX9_isDigit, Cond.code yX9_isDigit cX9_isDigit 1 (some .boolean), Cond.static yX10_isFigure, Cond.code yX10_isFigure cX10_isFigure 1 (some .boolean)]
def wsX9_readFrom_r3 : List Cond := [Cond.methodLink RX10 100 yX10_isWithin, Cond.methodLink RX9 62 yX9_readStandIn, Cond.instanceMethod yX9_readStandIn, Cond.selects RX9 yX9_readStandIn yX9_readStandIn, Cond.code yX9_readStandIn cX9_readStandIn 4 (some .boolean), Cond.fieldLink RX9 88 "SevenOnStrike$Figures" "standIns" "[I", Cond.methodLink RX9 65 yX9_readCoin, Cond.instanceMethod yX9_readCoin, Cond.selects RX9 yX9_readCoin yX9_readCoin, Cond.code yX9_readCoin cX9_readCoin 3 (some .boolean), Cond.fieldLink RX9 18 "SevenOnStrike$Told" "coins" "[I", Cond.methodLink RX9 91 yX9_hasCoin, Cond.instanceMethod yX9_hasCoin, Cond.selects RX9 yX9_hasCoin yX9_hasCoin, Cond.code yX9_hasCoin cX9_hasCoin 3 (some .boolean), Cond.methodLink RX9 68 yX9_readSides, Cond.instanceMethod yX9_readSides, Cond.selects RX9 yX9_readSides yX9_readSides, Cond.code yX9_readSides cX9_readSides 2 (some .boolean), Cond.methodLink RX9 71 yX9_readWeek, Cond.instanceMethod yX9_readWeek, Cond.selects RX9 yX9_readWeek yX9_readWeek, Cond.code yX9_readWeek cX9_readWeek 2 (some .boolean), Cond.methodLink RX9 74 yX9_readSum]
def wsX9_readFrom_r4 : List Cond := [Cond.instanceMethod yX9_readSum, Cond.selects RX9 yX9_readSum yX9_readSum, Cond.code yX9_readSum cX9_readSum 5 (some .boolean), Cond.methodLink RX9 101 yX6_isSign, Cond.static yX6_isSign, Cond.initialized RX6, Cond.code yX6_isSign cX6_isSign 1 (some .boolean), Cond.methodLink RX9 104 yX6_append, Cond.instanceMethod yX6_append, Cond.selects RX6 yX6_append yX6_append, Cond.code yX6_append cX6_append 2 none, Cond.fieldLink RX6 13 "SevenOnStrike$Sum" "length" "I", Cond.fieldLink RX6 9 "SevenOnStrike$Sum" "letters" "[B"]
def wsX9_readFrom : List Cond := .code yX9_readFrom cX9_readFrom 4 (some .int) :: ((wsX9_readFrom_r1 ++ (wsX9_readFrom_r2 ++ (wsX9_readFrom_r3 ++ wsX9_readFrom_r4))) ++ wsX90 ++ wsX60 ++ wsX70 ++ wsX00)
def wsX10_layText_r1 : List Cond := [Cond.fieldLink RX10 65 "SevenOnStrike" "draft" "LSevenOnStrike$Told;", Cond.fieldLink RX10 10 "SevenOnStrike" "text" "LSevenOnStrike$Text;", Cond.fieldLink RX10 61 "SevenOnStrike" "laid" "LSevenOnStrike$Told;", Cond.fieldLink RX10 19 "SevenOnStrike" "figures" "LSevenOnStrike$Figures;", Cond.fieldLink RX10 233 "SevenOnStrike$Told" "figures" "LSevenOnStrike$Figures;", Cond.fieldLink RX10 40 "SevenOnStrike" "night" "LSevenOnStrike$Night;", Cond.fieldLink RX10 215 "SevenOnStrike$Night" "size" "I", Cond.fieldLink RX10 26 "SevenOnStrike" "past" "LSevenOnStrike$Past;", Cond.fieldLink RX10 128 "SevenOnStrike$Past" "size" "I", Cond.fieldLink RX10 33 "SevenOnStrike" "kept" "LSevenOnStrike$Kept;", Cond.fieldLink RX10 229 "SevenOnStrike$Kept" "size" "I", Cond.methodLink RX10 89 yX9_readFrom, Cond.instanceMethod yX9_readFrom, Cond.selects RX9 yX9_readFrom yX9_readFrom, Cond.initialized RX9, Cond.code yX9_readFrom cX9_readFrom 4 (some .int), Cond.fieldLink RX9 12 "SevenOnStrike$Told" "figures" "LSevenOnStrike$Figures;", Cond.fieldLink RX9 22 "SevenOnStrike$Told" "coinCount" "I", Cond.fieldLink RX9 26 "SevenOnStrike$Told" "sides" "I", Cond.fieldLink RX9 29 "SevenOnStrike$Told" "week" "I", Cond.fieldLink RX9 35 "SevenOnStrike$Told" "sum" "LSevenOnStrike$Sum;", Cond.fieldLink RX9 45 "SevenOnStrike$Sum" "length" "I", Cond.fieldLink RX9 39 "SevenOnStrike$Told" "at" "I", Cond.fieldLink RX9 50 "SevenOnStrike$Text" "length" "I"]
def wsX10_layText_r2 : List Cond := [Cond.methodLink RX9 42 yX0_clear, Cond.instanceMethod yX0_clear, Cond.selects RX0 yX0_clear yX0_clear, Cond.initialized RX0, Cond.code yX0_clear cX0_clear 2 none, Cond.fieldLink RX0 9 "SevenOnStrike$Figures" "mask" "I", Cond.fieldLink RX0 15 "SevenOnStrike$Figures" "standIns" "[I", Cond.methodLink RX9 51 yX9_readItem, Cond.instanceMethod yX9_readItem, Cond.selects RX9 yX9_readItem yX9_readItem, Cond.code yX9_readItem cX9_readItem 3 (some .boolean), Cond.methodLink RX9 55 yX7_letterAt, Cond.instanceMethod yX7_letterAt, Cond.selects RX7 yX7_letterAt yX7_letterAt, Cond.initialized RX7, Cond.code yX7_letterAt cX7_letterAt 2 (some .int), Cond.fieldLink RX7 13 "SevenOnStrike$Text" "length" "I", Cond.fieldLink RX7 9 "SevenOnStrike$Text" "letters" "[B", Cond.static yX10_isWithin, Cond.initialized RX10, Cond.code yX10_isWithin cX10_isWithin 3 (some .boolean), Cond.methodLink RX9 59 yX9_readStrike, Cond.instanceMethod yX9_readStrike, Cond.selects RX9 yX9_readStrike yX9_readStrike]
def wsX10_layText_r3 : List Cond := [Cond.code yX9_readStrike cX9_readStrike 3 (some .boolean), Cond.fieldLink RX9 85 "SevenOnStrike$Figures" "mask" "I", Cond.methodLink RX9 77 yX9_readNumber, Cond.instanceMethod yX9_readNumber, Cond.selects RX9 yX9_readNumber yX9_readNumber, Cond.code yX9_readNumber cX9_readNumber 4 (some .int), Cond.methodLink RX9 108 Lib.Math.max.name, Cond.static Lib.Math.max.name, Cond.initialized "java/lang/Math", Cond.code Lib.Math.max.name Lib.Math.max.code 2 (some .int), Cond.methodLink RX9 98 yX9_isDigit, Cond.static yX9_isDigit, Cond.code yX9_isDigit cX9_isDigit 1 (some .boolean), Cond.static yX10_isFigure, Cond.code yX10_isFigure cX10_isFigure 1 (some .boolean), Cond.methodLink RX10 100 yX10_isWithin, Cond.methodLink RX9 62 yX9_readStandIn, Cond.instanceMethod yX9_readStandIn, Cond.selects RX9 yX9_readStandIn yX9_readStandIn, Cond.code yX9_readStandIn cX9_readStandIn 4 (some .boolean), Cond.fieldLink RX9 88 "SevenOnStrike$Figures" "standIns" "[I", Cond.methodLink RX9 65 yX9_readCoin, Cond.instanceMethod yX9_readCoin, Cond.selects RX9 yX9_readCoin yX9_readCoin]
def wsX10_layText_r4 : List Cond := [Cond.code yX9_readCoin cX9_readCoin 3 (some .boolean), Cond.fieldLink RX9 18 "SevenOnStrike$Told" "coins" "[I", Cond.methodLink RX9 91 yX9_hasCoin, Cond.instanceMethod yX9_hasCoin, Cond.selects RX9 yX9_hasCoin yX9_hasCoin, Cond.code yX9_hasCoin cX9_hasCoin 3 (some .boolean), Cond.methodLink RX9 68 yX9_readSides, Cond.instanceMethod yX9_readSides, Cond.selects RX9 yX9_readSides yX9_readSides, Cond.code yX9_readSides cX9_readSides 2 (some .boolean), Cond.methodLink RX9 71 yX9_readWeek, Cond.instanceMethod yX9_readWeek, Cond.selects RX9 yX9_readWeek yX9_readWeek, Cond.code yX9_readWeek cX9_readWeek 2 (some .boolean), Cond.methodLink RX9 74 yX9_readSum, Cond.instanceMethod yX9_readSum, Cond.selects RX9 yX9_readSum yX9_readSum, Cond.code yX9_readSum cX9_readSum 5 (some .boolean), Cond.methodLink RX9 101 yX6_isSign, Cond.static yX6_isSign, Cond.initialized RX6, Cond.code yX6_isSign cX6_isSign 1 (some .boolean), Cond.methodLink RX9 104 yX6_append, Cond.instanceMethod yX6_append]
def wsX10_layText_r5 : List Cond := [Cond.selects RX6 yX6_append yX6_append, Cond.code yX6_append cX6_append 2 none, Cond.fieldLink RX6 13 "SevenOnStrike$Sum" "length" "I", Cond.fieldLink RX6 9 "SevenOnStrike$Sum" "letters" "[B", Cond.methodLink RX10 234 yX0_copyFrom, Cond.instanceMethod yX0_copyFrom, Cond.selects RX0 yX0_copyFrom yX0_copyFrom, Cond.code yX0_copyFrom cX0_copyFrom 2 none, Cond.methodLink RX0 25 arraycopyName, Cond.native arraycopyName, Cond.static arraycopyName, Cond.initialized "java/lang/System"]
def wsX10_layText : List Cond := .code yX10_layText cX10_layText 2 (some .boolean) :: ((wsX10_layText_r1 ++ (wsX10_layText_r2 ++ (wsX10_layText_r3 ++ (wsX10_layText_r4 ++ wsX10_layText_r5)))) ++ wsX100 ++ wsX90 ++ wsX20 ++ wsX40 ++ wsX10 ++ wsX60 ++ wsX70 ++ wsX00)
def wsX10_init_r1 : List Cond := [Cond.methodLink RX10 1 objectInit, Cond.instanceMethod objectInit, Cond.code objectInit ⟨#[0xb1]⟩ 1 none, Cond.classLink RX10 7 RX7, Cond.instantiable RX7 2, Cond.initialized RX7, Cond.fieldLink RX10 10 "SevenOnStrike" "text" "LSevenOnStrike$Text;", Cond.classLink RX10 16 RX0, Cond.instantiable RX0 2, Cond.initialized RX0, Cond.fieldLink RX10 19 "SevenOnStrike" "figures" "LSevenOnStrike$Figures;", Cond.classLink RX10 23 RX4, Cond.instantiable RX4 3, Cond.initialized RX4, Cond.fieldLink RX10 26 "SevenOnStrike" "past" "LSevenOnStrike$Past;", Cond.classLink RX10 30 RX1, Cond.instantiable RX1 2, Cond.initialized RX1, Cond.fieldLink RX10 33 "SevenOnStrike" "kept" "LSevenOnStrike$Kept;", Cond.classLink RX10 37 RX2, Cond.instantiable RX2 3, Cond.initialized RX2, Cond.fieldLink RX10 40 "SevenOnStrike" "night" "LSevenOnStrike$Night;", Cond.classLink RX10 44 RX5]
def wsX10_init_r2 : List Cond := [Cond.instantiable RX5 7, Cond.initialized RX5, Cond.fieldLink RX10 47 "SevenOnStrike" "speech" "LSevenOnStrike$Speech;", Cond.classLink RX10 51 RX8, Cond.instantiable RX8 1, Cond.initialized RX8, Cond.fieldLink RX10 54 "SevenOnStrike" "till" "LSevenOnStrike$Till;", Cond.classLink RX10 58 RX9, Cond.instantiable RX9 7, Cond.initialized RX9, Cond.fieldLink RX10 61 "SevenOnStrike" "laid" "LSevenOnStrike$Told;", Cond.fieldLink RX10 65 "SevenOnStrike" "draft" "LSevenOnStrike$Told;", Cond.instanceMethod yX7_init, Cond.code yX7_init cX7_init 1 none, Cond.methodLink RX7 1 objectInit, Cond.arrayClass .byte, Cond.fieldLink RX7 9 "SevenOnStrike$Text" "letters" "[B", Cond.fieldLink RX7 13 "SevenOnStrike$Text" "length" "I", Cond.instanceMethod yX0_init, Cond.code yX0_init cX0_init 1 none, Cond.methodLink RX0 3 objectInit, Cond.fieldLink RX0 9 "SevenOnStrike$Figures" "mask" "I", Cond.arrayClass .int, Cond.fieldLink RX0 15 "SevenOnStrike$Figures" "standIns" "[I"]
def wsX10_init_r3 : List Cond := [Cond.instanceMethod yX4_init, Cond.code yX4_init cX4_init 1 none, Cond.methodLink RX4 1 objectInit, Cond.fieldLink RX4 9 "SevenOnStrike$Past" "changed" "[I", Cond.fieldLink RX4 13 "SevenOnStrike$Past" "before" "[I", Cond.fieldLink RX4 16 "SevenOnStrike$Past" "size" "I", Cond.instanceMethod yX1_init, Cond.code yX1_init cX1_init 1 none, Cond.methodLink RX1 1 objectInit, Cond.classLink RX1 7 RX0, Cond.fieldLink RX1 10 "SevenOnStrike$Kept" "rows" "[LSevenOnStrike$Figures;", Cond.fieldLink RX1 16 "SevenOnStrike$Kept" "size" "I", Cond.instanceMethod yX2_init, Cond.code yX2_init cX2_init 1 none, Cond.methodLink RX2 1 objectInit, Cond.fieldLink RX2 9 "SevenOnStrike$Night" "told" "[I", Cond.fieldLink RX2 13 "SevenOnStrike$Night" "heard" "[I", Cond.fieldLink RX2 16 "SevenOnStrike$Night" "size" "I", Cond.instanceMethod yX5_init, Cond.code yX5_init cX5_init 1 none, Cond.methodLink RX5 3 objectInit, Cond.arrayClass .boolean, Cond.fieldLink RX5 9 "SevenOnStrike$Speech" "canSay" "[Z", Cond.fieldLink RX5 15 "SevenOnStrike$Speech" "rowMask" "I"]
def wsX10_init_r4 : List Cond := [Cond.fieldLink RX5 19 "SevenOnStrike$Speech" "found" "I", Cond.fieldLink RX5 22 "SevenOnStrike$Speech" "letters" "I", Cond.fieldLink RX5 25 "SevenOnStrike$Speech" "kind" "I", Cond.fieldLink RX5 28 "SevenOnStrike$Speech" "first" "I", Cond.fieldLink RX5 31 "SevenOnStrike$Speech" "second" "I", Cond.instanceMethod yX8_init, Cond.code yX8_init cX8_init 1 none, Cond.methodLink RX8 3 objectInit, Cond.fieldLink RX8 9 "SevenOnStrike$Till" "row" "[I", Cond.instanceMethod yX9_init, Cond.code yX9_init cX9_init 1 none, Cond.methodLink RX9 3 objectInit, Cond.classLink RX9 9 RX0, Cond.fieldLink RX9 12 "SevenOnStrike$Told" "figures" "LSevenOnStrike$Figures;", Cond.fieldLink RX9 18 "SevenOnStrike$Told" "coins" "[I", Cond.fieldLink RX9 22 "SevenOnStrike$Told" "coinCount" "I", Cond.fieldLink RX9 26 "SevenOnStrike$Told" "sides" "I", Cond.fieldLink RX9 29 "SevenOnStrike$Told" "week" "I", Cond.classLink RX9 32 RX6, Cond.instantiable RX6 2, Cond.initialized RX6, Cond.fieldLink RX9 35 "SevenOnStrike$Told" "sum" "LSevenOnStrike$Sum;", Cond.fieldLink RX9 39 "SevenOnStrike$Told" "at" "I", Cond.instanceMethod yX6_init]
def wsX10_init_r5 : List Cond := [Cond.code yX6_init cX6_init 1 none, Cond.methodLink RX6 1 objectInit, Cond.fieldLink RX6 9 "SevenOnStrike$Sum" "letters" "[B", Cond.fieldLink RX6 13 "SevenOnStrike$Sum" "length" "I", Cond.methodLink RX10 70 yX7_copyFrom, Cond.instanceMethod yX7_copyFrom, Cond.selects RX7 yX7_copyFrom yX7_copyFrom, Cond.code yX7_copyFrom cX7_copyFrom 3 none, Cond.methodLink RX7 17 yX7_clear, Cond.instanceMethod yX7_clear, Cond.selects RX7 yX7_clear yX7_clear, Cond.code yX7_clear cX7_clear 1 none, Cond.methodLink RX7 20 yJ0_length_8abf5, Cond.instanceMethod yJ0_length_8abf5, Cond.selects RJ0 yJ0_length_8abf5 yJ0_length_8abf5, Cond.initialized RJ0, Cond.code yJ0_length_8abf5 cJ0_length_8abf5 1 (some .int), Cond.fieldLink RJ0 9 "java/lang/String" "value" "[B", Cond.methodLink RJ0 335 yJ0_coder_7d493, Cond.instanceMethod yJ0_coder_7d493, Cond.selects RJ0 yJ0_coder_7d493 yJ0_coder_7d493, Cond.code yJ0_coder_7d493 cJ0_coder_7d493 1 (some .byte), Cond.fieldLink RJ0 38 "java/lang/String" "COMPACT_STRINGS" "Z", Cond.fieldLink RJ0 15 "java/lang/String" "coder" "B"]
def wsX10_init_r6 : List Cond := [Cond.methodLink RX7 25 yJ0_charAt_5068e, Cond.instanceMethod yJ0_charAt_5068e, Cond.selects RJ0 yJ0_charAt_5068e yJ0_charAt_5068e, Cond.code yJ0_charAt_5068e cJ0_charAt_5068e 2 (some .char), Cond.methodLink RJ0 492 yJ0_isLatin1_aae02, Cond.instanceMethod yJ0_isLatin1_aae02, Cond.selects RJ0 yJ0_isLatin1_aae02 yJ0_isLatin1_aae02, Cond.code yJ0_isLatin1_aae02 cJ0_isLatin1_aae02 1 (some .boolean), Cond.methodLink RJ0 495 yJ1_charAt_3b067, Cond.static yJ1_charAt_3b067, Cond.initialized RJ1, Cond.code yJ1_charAt_3b067 cJ1_charAt_3b067 2 (some .char), Cond.methodLink RJ1 9 yJ0_checkIndex_df160, Cond.static yJ0_checkIndex_df160, Cond.code yJ0_checkIndex_df160 cJ0_checkIndex_df160 2 none, Cond.fieldLink RJ0 1053 "jdk/internal/util/Preconditions" "SIOOBE_FORMATTER" "Ljava/util/function/BiFunction;", Cond.methodLink RJ0 1059 yJ3_checkIndex_8e157, Cond.static yJ3_checkIndex_8e157, Cond.initialized RJ3, Cond.code yJ3_checkIndex_8e157 cJ3_checkIndex_8e157 3 (some .int), Cond.methodLink RJ0 498 yJ2_charAt_3b067, Cond.static yJ2_charAt_3b067, Cond.initialized RJ2, Cond.code yJ2_charAt_3b067 cJ2_charAt_3b067 2 (some .char)]
def wsX10_init_r7 : List Cond := [Cond.methodLink RJ2 67 yJ2_checkIndex_2214a, Cond.static yJ2_checkIndex_2214a, Cond.code yJ2_checkIndex_2214a cJ2_checkIndex_2214a 2 none, Cond.methodLink RJ2 48 yJ2_length_9d52b, Cond.static yJ2_length_9d52b, Cond.code yJ2_length_9d52b cJ2_length_9d52b 1 (some .int), Cond.methodLink RJ2 414 yJ0_checkIndex_df160, Cond.methodLink RJ2 71 yJ2_getChar_3b067, Cond.static yJ2_getChar_3b067, Cond.code yJ2_getChar_3b067 cJ2_getChar_3b067 2 (some .char), Cond.fieldLink RJ2 44 "java/lang/StringUTF16" "$assertionsDisabled" "Z", Cond.fieldLink RJ2 59 "java/lang/StringUTF16" "HI_BYTE_SHIFT" "I", Cond.fieldLink RJ2 63 "java/lang/StringUTF16" "LO_BYTE_SHIFT" "I", Cond.methodLink RX7 29 yX7_append, Cond.instanceMethod yX7_append, Cond.selects RX7 yX7_append yX7_append, Cond.code yX7_append cX7_append 2 (some .boolean), Cond.methodLink RX10 74 yX10_layText, Cond.instanceMethod yX10_layText, Cond.selects RX10 yX10_layText yX10_layText, Cond.initialized RX10, Cond.code yX10_layText cX10_layText 2 (some .boolean), Cond.fieldLink RX10 233 "SevenOnStrike$Told" "figures" "LSevenOnStrike$Figures;", Cond.fieldLink RX10 215 "SevenOnStrike$Night" "size" "I"]
def wsX10_init_r8 : List Cond := [Cond.fieldLink RX10 128 "SevenOnStrike$Past" "size" "I", Cond.fieldLink RX10 229 "SevenOnStrike$Kept" "size" "I", Cond.methodLink RX10 89 yX9_readFrom, Cond.instanceMethod yX9_readFrom, Cond.selects RX9 yX9_readFrom yX9_readFrom, Cond.code yX9_readFrom cX9_readFrom 4 (some .int), Cond.fieldLink RX9 45 "SevenOnStrike$Sum" "length" "I", Cond.fieldLink RX9 50 "SevenOnStrike$Text" "length" "I", Cond.methodLink RX9 42 yX0_clear, Cond.instanceMethod yX0_clear, Cond.selects RX0 yX0_clear yX0_clear, Cond.code yX0_clear cX0_clear 2 none, Cond.methodLink RX9 51 yX9_readItem, Cond.instanceMethod yX9_readItem, Cond.selects RX9 yX9_readItem yX9_readItem, Cond.code yX9_readItem cX9_readItem 3 (some .boolean), Cond.methodLink RX9 55 yX7_letterAt, Cond.instanceMethod yX7_letterAt, Cond.selects RX7 yX7_letterAt yX7_letterAt, Cond.code yX7_letterAt cX7_letterAt 2 (some .int), Cond.static yX10_isWithin, Cond.code yX10_isWithin cX10_isWithin 3 (some .boolean), Cond.methodLink RX9 59 yX9_readStrike, Cond.instanceMethod yX9_readStrike]
def wsX10_init_r9 : List Cond := [Cond.selects RX9 yX9_readStrike yX9_readStrike, Cond.code yX9_readStrike cX9_readStrike 3 (some .boolean), Cond.fieldLink RX9 85 "SevenOnStrike$Figures" "mask" "I", Cond.methodLink RX9 77 yX9_readNumber, Cond.instanceMethod yX9_readNumber, Cond.selects RX9 yX9_readNumber yX9_readNumber, Cond.code yX9_readNumber cX9_readNumber 4 (some .int), Cond.methodLink RX9 108 Lib.Math.max.name, Cond.static Lib.Math.max.name, Cond.initialized "java/lang/Math", Cond.code Lib.Math.max.name Lib.Math.max.code 2 (some .int), Cond.methodLink RX9 98 yX9_isDigit, Cond.static yX9_isDigit, Cond.code yX9_isDigit cX9_isDigit 1 (some .boolean), Cond.static yX10_isFigure, Cond.code yX10_isFigure cX10_isFigure 1 (some .boolean), Cond.methodLink RX10 100 yX10_isWithin, Cond.methodLink RX9 62 yX9_readStandIn, Cond.instanceMethod yX9_readStandIn, Cond.selects RX9 yX9_readStandIn yX9_readStandIn, Cond.code yX9_readStandIn cX9_readStandIn 4 (some .boolean), Cond.fieldLink RX9 88 "SevenOnStrike$Figures" "standIns" "[I", Cond.methodLink RX9 65 yX9_readCoin, Cond.instanceMethod yX9_readCoin]
def wsX10_init_r10 : List Cond := [Cond.selects RX9 yX9_readCoin yX9_readCoin, Cond.code yX9_readCoin cX9_readCoin 3 (some .boolean), Cond.methodLink RX9 91 yX9_hasCoin, Cond.instanceMethod yX9_hasCoin, Cond.selects RX9 yX9_hasCoin yX9_hasCoin, Cond.code yX9_hasCoin cX9_hasCoin 3 (some .boolean), Cond.methodLink RX9 68 yX9_readSides, Cond.instanceMethod yX9_readSides, Cond.selects RX9 yX9_readSides yX9_readSides, Cond.code yX9_readSides cX9_readSides 2 (some .boolean), Cond.methodLink RX9 71 yX9_readWeek, Cond.instanceMethod yX9_readWeek, Cond.selects RX9 yX9_readWeek yX9_readWeek, Cond.code yX9_readWeek cX9_readWeek 2 (some .boolean), Cond.methodLink RX9 74 yX9_readSum, Cond.instanceMethod yX9_readSum, Cond.selects RX9 yX9_readSum yX9_readSum, Cond.code yX9_readSum cX9_readSum 5 (some .boolean), Cond.methodLink RX9 101 yX6_isSign, Cond.static yX6_isSign, Cond.code yX6_isSign cX6_isSign 1 (some .boolean), Cond.methodLink RX9 104 yX6_append, Cond.instanceMethod yX6_append, Cond.selects RX6 yX6_append yX6_append]
def wsX10_init_r11 : List Cond := [Cond.code yX6_append cX6_append 2 none, Cond.methodLink RX10 234 yX0_copyFrom, Cond.instanceMethod yX0_copyFrom, Cond.selects RX0 yX0_copyFrom yX0_copyFrom, Cond.code yX0_copyFrom cX0_copyFrom 2 none, Cond.methodLink RX0 25 arraycopyName, Cond.native arraycopyName, Cond.static arraycopyName, Cond.initialized "java/lang/System", Cond.methodLink RX10 78 yX7_clear]
def wsX10_init : List Cond := .code yX10_init cX10_init 1 none :: ((wsX10_init_r1 ++ (wsX10_init_r2 ++ (wsX10_init_r3 ++ (wsX10_init_r4 ++ (wsX10_init_r5 ++ (wsX10_init_r6 ++ (wsX10_init_r7 ++ (wsX10_init_r8 ++ (wsX10_init_r9 ++ (wsX10_init_r10 ++ wsX10_init_r11)))))))))) ++ wsX70 ++ wsX100 ++ wsX00 ++ wsX40 ++ wsX10 ++ wsX20 ++ wsX50 ++ wsX80 ++ wsX90 ++ wsX60)
def wsX10_write : List Cond := .code yX10_write cX10_write 2 (some .int) :: ([.fieldLink RX10 10 "SevenOnStrike" "text" "LSevenOnStrike$Text;", .fieldLink RX10 85 "SevenOnStrike$Text" "length" "I", .methodLink RX10 81 yX7_append, .instanceMethod yX7_append, .selects RX7 yX7_append yX7_append, .initialized RX7, .code yX7_append cX7_append 2 (some .boolean), .fieldLink RX7 13 "SevenOnStrike$Text" "length" "I", .fieldLink RX7 9 "SevenOnStrike$Text" "letters" "[B"] ++ wsX100 ++ wsX70)
def wsX10_wipe : List Cond := .code yX10_wipe cX10_wipe 2 (some .int) :: ([.fieldLink RX10 10 "SevenOnStrike" "text" "LSevenOnStrike$Text;", .fieldLink RX10 85 "SevenOnStrike$Text" "length" "I", .methodLink RX10 78 yX7_clear, .instanceMethod yX7_clear, .selects RX7 yX7_clear yX7_clear, .initialized RX7, .code yX7_clear cX7_clear 1 none, .fieldLink RX7 13 "SevenOnStrike$Text" "length" "I"] ++ wsX100 ++ wsX70)
def wsX10_fault_r1 : List Cond := [Cond.fieldLink RX10 65 "SevenOnStrike" "draft" "LSevenOnStrike$Told;", Cond.fieldLink RX10 10 "SevenOnStrike" "text" "LSevenOnStrike$Text;", Cond.methodLink RX10 89 yX9_readFrom, Cond.instanceMethod yX9_readFrom, Cond.selects RX9 yX9_readFrom yX9_readFrom, Cond.initialized RX9, Cond.code yX9_readFrom cX9_readFrom 4 (some .int), Cond.fieldLink RX9 12 "SevenOnStrike$Told" "figures" "LSevenOnStrike$Figures;", Cond.fieldLink RX9 22 "SevenOnStrike$Told" "coinCount" "I", Cond.fieldLink RX9 26 "SevenOnStrike$Told" "sides" "I", Cond.fieldLink RX9 29 "SevenOnStrike$Told" "week" "I", Cond.fieldLink RX9 35 "SevenOnStrike$Told" "sum" "LSevenOnStrike$Sum;", Cond.fieldLink RX9 45 "SevenOnStrike$Sum" "length" "I", Cond.fieldLink RX9 39 "SevenOnStrike$Told" "at" "I", Cond.fieldLink RX9 50 "SevenOnStrike$Text" "length" "I", Cond.methodLink RX9 42 yX0_clear, Cond.instanceMethod yX0_clear, Cond.selects RX0 yX0_clear yX0_clear, Cond.initialized RX0, Cond.code yX0_clear cX0_clear 2 none, Cond.fieldLink RX0 9 "SevenOnStrike$Figures" "mask" "I", Cond.fieldLink RX0 15 "SevenOnStrike$Figures" "standIns" "[I", Cond.methodLink RX9 51 yX9_readItem, Cond.instanceMethod yX9_readItem]
def wsX10_fault_r2 : List Cond := [Cond.selects RX9 yX9_readItem yX9_readItem, Cond.code yX9_readItem cX9_readItem 3 (some .boolean), Cond.methodLink RX9 55 yX7_letterAt, Cond.instanceMethod yX7_letterAt, Cond.selects RX7 yX7_letterAt yX7_letterAt, Cond.initialized RX7, Cond.code yX7_letterAt cX7_letterAt 2 (some .int), Cond.fieldLink RX7 13 "SevenOnStrike$Text" "length" "I", Cond.fieldLink RX7 9 "SevenOnStrike$Text" "letters" "[B", Cond.static yX10_isWithin, Cond.initialized RX10, Cond.code yX10_isWithin cX10_isWithin 3 (some .boolean), Cond.methodLink RX9 59 yX9_readStrike, Cond.instanceMethod yX9_readStrike, Cond.selects RX9 yX9_readStrike yX9_readStrike, Cond.code yX9_readStrike cX9_readStrike 3 (some .boolean), Cond.fieldLink RX9 85 "SevenOnStrike$Figures" "mask" "I", Cond.methodLink RX9 77 yX9_readNumber, Cond.instanceMethod yX9_readNumber, Cond.selects RX9 yX9_readNumber yX9_readNumber, Cond.code yX9_readNumber cX9_readNumber 4 (some .int), Cond.methodLink RX9 108 Lib.Math.max.name, Cond.static Lib.Math.max.name, Cond.initialized "java/lang/Math"]
def wsX10_fault_r3 : List Cond := [Cond.code Lib.Math.max.name Lib.Math.max.code 2 (some .int), Cond.methodLink RX9 98 yX9_isDigit, Cond.static yX9_isDigit, Cond.code yX9_isDigit cX9_isDigit 1 (some .boolean), Cond.static yX10_isFigure, Cond.code yX10_isFigure cX10_isFigure 1 (some .boolean), Cond.methodLink RX10 100 yX10_isWithin, Cond.methodLink RX9 62 yX9_readStandIn, Cond.instanceMethod yX9_readStandIn, Cond.selects RX9 yX9_readStandIn yX9_readStandIn, Cond.code yX9_readStandIn cX9_readStandIn 4 (some .boolean), Cond.fieldLink RX9 88 "SevenOnStrike$Figures" "standIns" "[I", Cond.methodLink RX9 65 yX9_readCoin, Cond.instanceMethod yX9_readCoin, Cond.selects RX9 yX9_readCoin yX9_readCoin, Cond.code yX9_readCoin cX9_readCoin 3 (some .boolean), Cond.fieldLink RX9 18 "SevenOnStrike$Told" "coins" "[I", Cond.methodLink RX9 91 yX9_hasCoin, Cond.instanceMethod yX9_hasCoin, Cond.selects RX9 yX9_hasCoin yX9_hasCoin, Cond.code yX9_hasCoin cX9_hasCoin 3 (some .boolean), Cond.methodLink RX9 68 yX9_readSides, Cond.instanceMethod yX9_readSides, Cond.selects RX9 yX9_readSides yX9_readSides]
def wsX10_fault_r4 : List Cond := [Cond.code yX9_readSides cX9_readSides 2 (some .boolean), Cond.methodLink RX9 71 yX9_readWeek, Cond.instanceMethod yX9_readWeek, Cond.selects RX9 yX9_readWeek yX9_readWeek, Cond.code yX9_readWeek cX9_readWeek 2 (some .boolean), Cond.methodLink RX9 74 yX9_readSum, Cond.instanceMethod yX9_readSum, Cond.selects RX9 yX9_readSum yX9_readSum, Cond.code yX9_readSum cX9_readSum 5 (some .boolean), Cond.methodLink RX9 101 yX6_isSign, Cond.static yX6_isSign, Cond.initialized RX6, Cond.code yX6_isSign cX6_isSign 1 (some .boolean), Cond.methodLink RX9 104 yX6_append, Cond.instanceMethod yX6_append, Cond.selects RX6 yX6_append yX6_append, Cond.code yX6_append cX6_append 2 none, Cond.fieldLink RX6 13 "SevenOnStrike$Sum" "length" "I", Cond.fieldLink RX6 9 "SevenOnStrike$Sum" "letters" "[B"]
def wsX10_fault : List Cond := .code yX10_fault cX10_fault 1 (some .int) :: ((wsX10_fault_r1 ++ (wsX10_fault_r2 ++ (wsX10_fault_r3 ++ wsX10_fault_r4))) ++ wsX100 ++ wsX90 ++ wsX60 ++ wsX70 ++ wsX00)
def wsX10_lay_r1 : List Cond := [Cond.fieldLink RX10 19 "SevenOnStrike" "figures" "LSevenOnStrike$Figures;", Cond.methodLink RX10 74 yX10_layText, Cond.instanceMethod yX10_layText, Cond.selects RX10 yX10_layText yX10_layText, Cond.initialized RX10, Cond.code yX10_layText cX10_layText 2 (some .boolean), Cond.fieldLink RX10 65 "SevenOnStrike" "draft" "LSevenOnStrike$Told;", Cond.fieldLink RX10 10 "SevenOnStrike" "text" "LSevenOnStrike$Text;", Cond.fieldLink RX10 61 "SevenOnStrike" "laid" "LSevenOnStrike$Told;", Cond.fieldLink RX10 233 "SevenOnStrike$Told" "figures" "LSevenOnStrike$Figures;", Cond.fieldLink RX10 40 "SevenOnStrike" "night" "LSevenOnStrike$Night;", Cond.fieldLink RX10 215 "SevenOnStrike$Night" "size" "I", Cond.fieldLink RX10 26 "SevenOnStrike" "past" "LSevenOnStrike$Past;", Cond.fieldLink RX10 128 "SevenOnStrike$Past" "size" "I", Cond.fieldLink RX10 33 "SevenOnStrike" "kept" "LSevenOnStrike$Kept;", Cond.fieldLink RX10 229 "SevenOnStrike$Kept" "size" "I", Cond.methodLink RX10 89 yX9_readFrom, Cond.instanceMethod yX9_readFrom, Cond.selects RX9 yX9_readFrom yX9_readFrom, Cond.initialized RX9, Cond.code yX9_readFrom cX9_readFrom 4 (some .int), Cond.fieldLink RX9 12 "SevenOnStrike$Told" "figures" "LSevenOnStrike$Figures;", Cond.fieldLink RX9 22 "SevenOnStrike$Told" "coinCount" "I", Cond.fieldLink RX9 26 "SevenOnStrike$Told" "sides" "I"]
def wsX10_lay_r2 : List Cond := [Cond.fieldLink RX9 29 "SevenOnStrike$Told" "week" "I", Cond.fieldLink RX9 35 "SevenOnStrike$Told" "sum" "LSevenOnStrike$Sum;", Cond.fieldLink RX9 45 "SevenOnStrike$Sum" "length" "I", Cond.fieldLink RX9 39 "SevenOnStrike$Told" "at" "I", Cond.fieldLink RX9 50 "SevenOnStrike$Text" "length" "I", Cond.methodLink RX9 42 yX0_clear, Cond.instanceMethod yX0_clear, Cond.selects RX0 yX0_clear yX0_clear, Cond.initialized RX0, Cond.code yX0_clear cX0_clear 2 none, Cond.fieldLink RX0 9 "SevenOnStrike$Figures" "mask" "I", Cond.fieldLink RX0 15 "SevenOnStrike$Figures" "standIns" "[I", Cond.methodLink RX9 51 yX9_readItem, Cond.instanceMethod yX9_readItem, Cond.selects RX9 yX9_readItem yX9_readItem, Cond.code yX9_readItem cX9_readItem 3 (some .boolean), Cond.methodLink RX9 55 yX7_letterAt, Cond.instanceMethod yX7_letterAt, Cond.selects RX7 yX7_letterAt yX7_letterAt, Cond.initialized RX7, Cond.code yX7_letterAt cX7_letterAt 2 (some .int), Cond.fieldLink RX7 13 "SevenOnStrike$Text" "length" "I", Cond.fieldLink RX7 9 "SevenOnStrike$Text" "letters" "[B", Cond.static yX10_isWithin]
def wsX10_lay_r3 : List Cond := [Cond.code yX10_isWithin cX10_isWithin 3 (some .boolean), Cond.methodLink RX9 59 yX9_readStrike, Cond.instanceMethod yX9_readStrike, Cond.selects RX9 yX9_readStrike yX9_readStrike, Cond.code yX9_readStrike cX9_readStrike 3 (some .boolean), Cond.fieldLink RX9 85 "SevenOnStrike$Figures" "mask" "I", Cond.methodLink RX9 77 yX9_readNumber, Cond.instanceMethod yX9_readNumber, Cond.selects RX9 yX9_readNumber yX9_readNumber, Cond.code yX9_readNumber cX9_readNumber 4 (some .int), Cond.methodLink RX9 108 Lib.Math.max.name, Cond.static Lib.Math.max.name, Cond.initialized "java/lang/Math", Cond.code Lib.Math.max.name Lib.Math.max.code 2 (some .int), Cond.methodLink RX9 98 yX9_isDigit, Cond.static yX9_isDigit, Cond.code yX9_isDigit cX9_isDigit 1 (some .boolean), Cond.static yX10_isFigure, Cond.code yX10_isFigure cX10_isFigure 1 (some .boolean), Cond.methodLink RX10 100 yX10_isWithin, Cond.methodLink RX9 62 yX9_readStandIn, Cond.instanceMethod yX9_readStandIn, Cond.selects RX9 yX9_readStandIn yX9_readStandIn, Cond.code yX9_readStandIn cX9_readStandIn 4 (some .boolean)]
def wsX10_lay_r4 : List Cond := [Cond.fieldLink RX9 88 "SevenOnStrike$Figures" "standIns" "[I", Cond.methodLink RX9 65 yX9_readCoin, Cond.instanceMethod yX9_readCoin, Cond.selects RX9 yX9_readCoin yX9_readCoin, Cond.code yX9_readCoin cX9_readCoin 3 (some .boolean), Cond.fieldLink RX9 18 "SevenOnStrike$Told" "coins" "[I", Cond.methodLink RX9 91 yX9_hasCoin, Cond.instanceMethod yX9_hasCoin, Cond.selects RX9 yX9_hasCoin yX9_hasCoin, Cond.code yX9_hasCoin cX9_hasCoin 3 (some .boolean), Cond.methodLink RX9 68 yX9_readSides, Cond.instanceMethod yX9_readSides, Cond.selects RX9 yX9_readSides yX9_readSides, Cond.code yX9_readSides cX9_readSides 2 (some .boolean), Cond.methodLink RX9 71 yX9_readWeek, Cond.instanceMethod yX9_readWeek, Cond.selects RX9 yX9_readWeek yX9_readWeek, Cond.code yX9_readWeek cX9_readWeek 2 (some .boolean), Cond.methodLink RX9 74 yX9_readSum, Cond.instanceMethod yX9_readSum, Cond.selects RX9 yX9_readSum yX9_readSum, Cond.code yX9_readSum cX9_readSum 5 (some .boolean), Cond.methodLink RX9 101 yX6_isSign, Cond.static yX6_isSign]
def wsX10_lay_r5 : List Cond := [Cond.initialized RX6, Cond.code yX6_isSign cX6_isSign 1 (some .boolean), Cond.methodLink RX9 104 yX6_append, Cond.instanceMethod yX6_append, Cond.selects RX6 yX6_append yX6_append, Cond.code yX6_append cX6_append 2 none, Cond.fieldLink RX6 13 "SevenOnStrike$Sum" "length" "I", Cond.fieldLink RX6 9 "SevenOnStrike$Sum" "letters" "[B", Cond.methodLink RX10 234 yX0_copyFrom, Cond.instanceMethod yX0_copyFrom, Cond.selects RX0 yX0_copyFrom yX0_copyFrom, Cond.code yX0_copyFrom cX0_copyFrom 2 none, Cond.methodLink RX0 25 arraycopyName, Cond.native arraycopyName, Cond.static arraycopyName, Cond.initialized "java/lang/System", Cond.methodLink RX10 93 yX0_strikers, Cond.instanceMethod yX0_strikers, Cond.selects RX0 yX0_strikers yX0_strikers, Cond.code yX0_strikers cX0_strikers 1 (some .int), Cond.methodLink RX0 19 yJ6_bitCount_0f7a4, Cond.static yJ6_bitCount_0f7a4, Cond.initialized RJ6, Cond.code yJ6_bitCount_0f7a4 cJ6_bitCount_0f7a4 1 (some .int)]
def wsX10_lay_r6 : List Cond := [Cond.constant RJ6 265 (1431655765), Cond.constant RJ6 266 (858993459), Cond.constant RJ6 267 (252645135)]
def wsX10_lay : List Cond := .code yX10_lay cX10_lay 1 (some .int) :: ((wsX10_lay_r1 ++ (wsX10_lay_r2 ++ (wsX10_lay_r3 ++ (wsX10_lay_r4 ++ (wsX10_lay_r5 ++ wsX10_lay_r6))))) ++ wsX100 ++ wsX90 ++ wsX20 ++ wsX40 ++ wsX10 ++ wsX60 ++ wsX70 ++ wsX00)
def wsX10_figure : List Cond := .code yX10_figure cX10_figure 3 (some .int) :: ([.fieldLink RX10 19 "SevenOnStrike" "figures" "LSevenOnStrike$Figures;", .fieldLink RX10 107 "SevenOnStrike$Figures" "standIns" "[I", .methodLink RX10 97 yX10_isFigure, .static yX10_isFigure, .initialized RX10, .code yX10_isFigure cX10_isFigure 1 (some .boolean), .methodLink RX10 100 yX10_isWithin, .static yX10_isWithin, .code yX10_isWithin cX10_isWithin 3 (some .boolean), .methodLink RX10 104 yX0_isOnStrike, .instanceMethod yX0_isOnStrike, .selects RX0 yX0_isOnStrike yX0_isOnStrike, .initialized RX0, .code yX0_isOnStrike cX0_isOnStrike 2 (some .boolean), .fieldLink RX0 9 "SevenOnStrike$Figures" "mask" "I"] ++ wsX100 ++ wsX00)
def wsX10_coin : List Cond := .code yX10_coin cX10_coin 2 (some .int) :: ([.fieldLink RX10 61 "SevenOnStrike" "laid" "LSevenOnStrike$Told;", .fieldLink RX10 111 "SevenOnStrike$Told" "coinCount" "I", .fieldLink RX10 114 "SevenOnStrike$Told" "coins" "[I", .methodLink RX10 100 yX10_isWithin, .static yX10_isWithin, .initialized RX10, .code yX10_isWithin cX10_isWithin 3 (some .boolean)] ++ wsX100 ++ wsX90)
def wsX10_strike_r1 : List Cond := [Cond.fieldLink RX10 19 "SevenOnStrike" "figures" "LSevenOnStrike$Figures;", Cond.fieldLink RX10 117 "SevenOnStrike$Figures" "mask" "I", Cond.fieldLink RX10 26 "SevenOnStrike" "past" "LSevenOnStrike$Past;", Cond.methodLink RX10 97 yX10_isFigure, Cond.static yX10_isFigure, Cond.initialized RX10, Cond.code yX10_isFigure cX10_isFigure 1 (some .boolean), Cond.methodLink RX10 100 yX10_isWithin, Cond.static yX10_isWithin, Cond.code yX10_isWithin cX10_isWithin 3 (some .boolean), Cond.methodLink RX10 104 yX0_isOnStrike, Cond.instanceMethod yX0_isOnStrike, Cond.selects RX0 yX0_isOnStrike yX0_isOnStrike, Cond.initialized RX0, Cond.code yX0_isOnStrike cX0_isOnStrike 2 (some .boolean), Cond.fieldLink RX0 9 "SevenOnStrike$Figures" "mask" "I", Cond.methodLink RX10 120 yX4_remember, Cond.instanceMethod yX4_remember, Cond.selects RX4 yX4_remember yX4_remember, Cond.initialized RX4, Cond.code yX4_remember cX4_remember 3 none, Cond.fieldLink RX4 16 "SevenOnStrike$Past" "size" "I", Cond.fieldLink RX4 9 "SevenOnStrike$Past" "changed" "[I", Cond.methodLink RX4 20 arraycopyName]
def wsX10_strike_r2 : List Cond := [Cond.native arraycopyName, Cond.static arraycopyName, Cond.initialized "java/lang/System", Cond.fieldLink RX4 13 "SevenOnStrike$Past" "before" "[I", Cond.methodLink RX10 93 yX0_strikers, Cond.instanceMethod yX0_strikers, Cond.selects RX0 yX0_strikers yX0_strikers, Cond.code yX0_strikers cX0_strikers 1 (some .int), Cond.methodLink RX0 19 yJ6_bitCount_0f7a4, Cond.static yJ6_bitCount_0f7a4, Cond.initialized RJ6, Cond.code yJ6_bitCount_0f7a4 cJ6_bitCount_0f7a4 1 (some .int), Cond.constant RJ6 265 (1431655765), Cond.constant RJ6 266 (858993459), Cond.constant RJ6 267 (252645135)]
def wsX10_strike : List Cond := .code yX10_strike cX10_strike 3 (some .int) :: ((wsX10_strike_r1 ++ wsX10_strike_r2) ++ wsX100 ++ wsX00 ++ wsX40)
def wsX10_standIn : List Cond := .code yX10_standIn cX10_standIn 4 (some .int) :: ([.fieldLink RX10 19 "SevenOnStrike" "figures" "LSevenOnStrike$Figures;", .fieldLink RX10 107 "SevenOnStrike$Figures" "standIns" "[I", .fieldLink RX10 26 "SevenOnStrike" "past" "LSevenOnStrike$Past;", .methodLink RX10 97 yX10_isFigure, .static yX10_isFigure, .initialized RX10, .code yX10_isFigure cX10_isFigure 1 (some .boolean), .methodLink RX10 100 yX10_isWithin, .static yX10_isWithin, .code yX10_isWithin cX10_isWithin 3 (some .boolean), .methodLink RX10 120 yX4_remember, .instanceMethod yX4_remember, .selects RX4 yX4_remember yX4_remember, .initialized RX4, .code yX4_remember cX4_remember 3 none, .fieldLink RX4 16 "SevenOnStrike$Past" "size" "I", .fieldLink RX4 9 "SevenOnStrike$Past" "changed" "[I", .methodLink RX4 20 arraycopyName, .native arraycopyName, .static arraycopyName, .initialized "java/lang/System", .fieldLink RX4 13 "SevenOnStrike$Past" "before" "[I"] ++ wsX100 ++ wsX00 ++ wsX40)
def wsX10_undo : List Cond := .code yX10_undo cX10_undo 1 (some .int) :: ([.fieldLink RX10 26 "SevenOnStrike" "past" "LSevenOnStrike$Past;", .fieldLink RX10 19 "SevenOnStrike" "figures" "LSevenOnStrike$Figures;", .fieldLink RX10 128 "SevenOnStrike$Past" "size" "I", .methodLink RX10 124 yX4_takeBack, .instanceMethod yX4_takeBack, .selects RX4 yX4_takeBack yX4_takeBack, .initialized RX4, .code yX4_takeBack cX4_takeBack 3 (some .boolean), .fieldLink RX4 16 "SevenOnStrike$Past" "size" "I", .fieldLink RX4 9 "SevenOnStrike$Past" "changed" "[I", .fieldLink RX4 13 "SevenOnStrike$Past" "before" "[I", .fieldLink RX4 26 "SevenOnStrike$Figures" "mask" "I", .fieldLink RX4 31 "SevenOnStrike$Figures" "standIns" "[I"] ++ wsX100 ++ wsX40 ++ wsX00)
def wsX10_said : List Cond := .code yX10_said cX10_said 2 (some .int) :: ([.constant RX10 131 (99999), .fieldLink RX10 19 "SevenOnStrike" "figures" "LSevenOnStrike$Figures;", .fieldLink RX10 117 "SevenOnStrike$Figures" "mask" "I", .methodLink RX10 100 yX10_isWithin, .static yX10_isWithin, .initialized RX10, .code yX10_isWithin cX10_isWithin 3 (some .boolean), .methodLink RX10 132 yX3_canSay, .static yX3_canSay, .initialized RX3, .code yX3_canSay cX3_canSay 4 (some .boolean)] ++ wsX100 ++ wsX00)
def wsX10_next_r1 : List Cond := [Cond.constant RX10 131 (99999), Cond.fieldLink RX10 19 "SevenOnStrike" "figures" "LSevenOnStrike$Figures;", Cond.fieldLink RX10 117 "SevenOnStrike$Figures" "mask" "I", Cond.methodLink RX10 100 yX10_isWithin, Cond.static yX10_isWithin, Cond.initialized RX10, Cond.code yX10_isWithin cX10_isWithin 3 (some .boolean), Cond.methodLink RX10 138 yX3_sayable, Cond.static yX3_sayable, Cond.initialized RX3, Cond.code yX3_sayable cX3_sayable 9 (some .int), Cond.methodLink RX3 11 yX3_workingUpTo, Cond.static yX3_workingUpTo, Cond.code yX3_workingUpTo cX3_workingUpTo 2 (some .int), Cond.methodLink RX3 23 yJ6_bitCount_0f7a4, Cond.static yJ6_bitCount_0f7a4, Cond.initialized RJ6, Cond.code yJ6_bitCount_0f7a4 cJ6_bitCount_0f7a4 1 (some .int), Cond.constant RJ6 265 (1431655765), Cond.constant RJ6 266 (858993459), Cond.constant RJ6 267 (252645135), Cond.methodLink RX3 15 yX3_lengthOf, Cond.static yX3_lengthOf, Cond.code yX3_lengthOf cX3_lengthOf 1 (some .int)]
def wsX10_next_r2 : List Cond := [Cond.methodLink RX3 19 yX3_canSay, Cond.static yX3_canSay, Cond.code yX3_canSay cX3_canSay 4 (some .boolean), Cond.methodLink RX10 142 yX3_atRank, Cond.static yX3_atRank, Cond.code yX3_atRank cX3_atRank 5 (some .int), Cond.constant RX3 28 (65536), Cond.constant RX3 29 (99999), Cond.methodLink RX3 30 yX3_sayable]
def wsX10_next : List Cond := .code yX10_next cX10_next 2 (some .int) :: ((wsX10_next_r1 ++ wsX10_next_r2) ++ wsX100 ++ wsX00)
def wsX10_rank_r1 : List Cond := [Cond.constant RX10 131 (99999), Cond.fieldLink RX10 19 "SevenOnStrike" "figures" "LSevenOnStrike$Figures;", Cond.fieldLink RX10 117 "SevenOnStrike$Figures" "mask" "I", Cond.methodLink RX10 100 yX10_isWithin, Cond.static yX10_isWithin, Cond.initialized RX10, Cond.code yX10_isWithin cX10_isWithin 3 (some .boolean), Cond.methodLink RX10 138 yX3_sayable, Cond.static yX3_sayable, Cond.initialized RX3, Cond.code yX3_sayable cX3_sayable 9 (some .int), Cond.methodLink RX3 11 yX3_workingUpTo, Cond.static yX3_workingUpTo, Cond.code yX3_workingUpTo cX3_workingUpTo 2 (some .int), Cond.methodLink RX3 23 yJ6_bitCount_0f7a4, Cond.static yJ6_bitCount_0f7a4, Cond.initialized RJ6, Cond.code yJ6_bitCount_0f7a4 cJ6_bitCount_0f7a4 1 (some .int), Cond.constant RJ6 265 (1431655765), Cond.constant RJ6 266 (858993459), Cond.constant RJ6 267 (252645135), Cond.methodLink RX3 15 yX3_lengthOf, Cond.static yX3_lengthOf, Cond.code yX3_lengthOf cX3_lengthOf 1 (some .int)]
def wsX10_rank_r2 : List Cond := [Cond.methodLink RX3 19 yX3_canSay, Cond.static yX3_canSay, Cond.code yX3_canSay cX3_canSay 4 (some .boolean)]
def wsX10_rank : List Cond := .code yX10_rank cX10_rank 2 (some .int) :: ((wsX10_rank_r1 ++ wsX10_rank_r2) ++ wsX100 ++ wsX00)
def wsX10_kth_r1 : List Cond := [Cond.constant RX10 131 (99999), Cond.fieldLink RX10 19 "SevenOnStrike" "figures" "LSevenOnStrike$Figures;", Cond.fieldLink RX10 117 "SevenOnStrike$Figures" "mask" "I", Cond.methodLink RX10 100 yX10_isWithin, Cond.static yX10_isWithin, Cond.initialized RX10, Cond.code yX10_isWithin cX10_isWithin 3 (some .boolean), Cond.methodLink RX10 142 yX3_atRank, Cond.static yX3_atRank, Cond.initialized RX3, Cond.code yX3_atRank cX3_atRank 5 (some .int), Cond.constant RX3 28 (65536), Cond.constant RX3 29 (99999), Cond.methodLink RX3 30 yX3_sayable, Cond.static yX3_sayable, Cond.code yX3_sayable cX3_sayable 9 (some .int), Cond.methodLink RX3 11 yX3_workingUpTo, Cond.static yX3_workingUpTo, Cond.code yX3_workingUpTo cX3_workingUpTo 2 (some .int), Cond.methodLink RX3 23 yJ6_bitCount_0f7a4, Cond.static yJ6_bitCount_0f7a4, Cond.initialized RJ6, Cond.code yJ6_bitCount_0f7a4 cJ6_bitCount_0f7a4 1 (some .int), Cond.constant RJ6 265 (1431655765)]
def wsX10_kth_r2 : List Cond := [Cond.constant RJ6 266 (858993459), Cond.constant RJ6 267 (252645135), Cond.methodLink RX3 15 yX3_lengthOf, Cond.static yX3_lengthOf, Cond.code yX3_lengthOf cX3_lengthOf 1 (some .int), Cond.methodLink RX3 19 yX3_canSay, Cond.static yX3_canSay, Cond.code yX3_canSay cX3_canSay 4 (some .boolean)]
def wsX10_kth : List Cond := .code yX10_kth cX10_kth 2 (some .int) :: ((wsX10_kth_r1 ++ wsX10_kth_r2) ++ wsX100 ++ wsX00)
def wsX10_sum_r1 : List Cond := [Cond.fieldLink RX10 61 "SevenOnStrike" "laid" "LSevenOnStrike$Told;", Cond.fieldLink RX10 145 "SevenOnStrike$Told" "sum" "LSevenOnStrike$Sum;", Cond.fieldLink RX10 19 "SevenOnStrike" "figures" "LSevenOnStrike$Figures;", Cond.fieldLink RX10 107 "SevenOnStrike$Figures" "standIns" "[I", Cond.fieldLink RX10 117 "SevenOnStrike$Figures" "mask" "I", Cond.methodLink RX10 149 yX6_comesTo, Cond.instanceMethod yX6_comesTo, Cond.selects RX6 yX6_comesTo yX6_comesTo, Cond.initialized RX6, Cond.code yX6_comesTo cX6_comesTo 13 (some .int), Cond.fieldLink RX6 13 "SevenOnStrike$Sum" "length" "I", Cond.fieldLink RX6 9 "SevenOnStrike$Sum" "letters" "[B", Cond.constantLong RX6 21 (10), Cond.methodLink RX6 17 yX6_isSign, Cond.static yX6_isSign, Cond.code yX6_isSign cX6_isSign 1 (some .boolean), Cond.methodLink RX6 23 yX0_heardAs, Cond.static yX0_heardAs, Cond.initialized RX0, Cond.code yX0_heardAs cX0_heardAs 3 (some .int), Cond.methodLink RX6 29 yX6_keptWithin, Cond.static yX6_keptWithin, Cond.code yX6_keptWithin cX6_keptWithin 2 (some .long), Cond.constantLong RX6 33 (-2000000000)]
def wsX10_sum_r2 : List Cond := [Cond.constantLong RX6 35 (2000000000), Cond.methodLink RX6 37 Lib.MathLoose.min_long.x, Cond.static Lib.MathLoose.min_long.x, Cond.initialized "java/lang/Math", Cond.code Lib.MathLoose.min_long.x Lib.MathLoose.min_long.code 4 (some .long), Cond.methodLink RX6 43 Lib.MathLoose.max_long.x, Cond.static Lib.MathLoose.max_long.x, Cond.code Lib.MathLoose.max_long.x Lib.MathLoose.max_long.code 4 (some .long), Cond.methodLink RX10 155 yX6_numbers, Cond.instanceMethod yX6_numbers, Cond.selects RX6 yX6_numbers yX6_numbers, Cond.code yX6_numbers cX6_numbers 3 (some .int)]
def wsX10_sum : List Cond := .code yX10_sum cX10_sum 2 (some .int) :: ((wsX10_sum_r1 ++ wsX10_sum_r2) ++ wsX100 ++ wsX90 ++ wsX00 ++ wsX60)
def wsX10_ways_r1 : List Cond := [Cond.fieldLink RX10 47 "SevenOnStrike" "speech" "LSevenOnStrike$Speech;", Cond.fieldLink RX10 19 "SevenOnStrike" "figures" "LSevenOnStrike$Figures;", Cond.fieldLink RX10 117 "SevenOnStrike$Figures" "mask" "I", Cond.fieldLink RX10 161 "SevenOnStrike$Speech" "found" "I", Cond.methodLink RX10 100 yX10_isWithin, Cond.static yX10_isWithin, Cond.initialized RX10, Cond.code yX10_isWithin cX10_isWithin 3 (some .boolean), Cond.methodLink RX10 158 yX5_find, Cond.instanceMethod yX5_find, Cond.selects RX5 yX5_find yX5_find, Cond.initialized RX5, Cond.code yX5_find cX5_find 4 none, Cond.fieldLink RX5 19 "SevenOnStrike$Speech" "found" "I", Cond.fieldLink RX5 9 "SevenOnStrike$Speech" "canSay" "[Z", Cond.methodLink RX5 34 yX5_fillRow, Cond.instanceMethod yX5_fillRow, Cond.selects RX5 yX5_fillRow yX5_fillRow, Cond.code yX5_fillRow cX5_fillRow 3 none, Cond.fieldLink RX5 15 "SevenOnStrike$Speech" "rowMask" "I", Cond.methodLink RX5 45 yX3_canSay, Cond.static yX3_canSay, Cond.initialized RX3, Cond.code yX3_canSay cX3_canSay 4 (some .boolean)]
def wsX10_ways_r2 : List Cond := [Cond.methodLink RX5 38 yX5_take, Cond.instanceMethod yX5_take, Cond.selects RX5 yX5_take yX5_take, Cond.code yX5_take cX5_take 5 none, Cond.fieldLink RX5 22 "SevenOnStrike$Speech" "letters" "I", Cond.fieldLink RX5 25 "SevenOnStrike$Speech" "kind" "I", Cond.fieldLink RX5 28 "SevenOnStrike$Speech" "first" "I", Cond.fieldLink RX5 31 "SevenOnStrike$Speech" "second" "I", Cond.methodLink RX5 50 yX3_lengthOf, Cond.static yX3_lengthOf, Cond.code yX3_lengthOf cX3_lengthOf 1 (some .int), Cond.methodLink RX5 42 yX5_takeIfSaid, Cond.instanceMethod yX5_takeIfSaid, Cond.selects RX5 yX5_takeIfSaid yX5_takeIfSaid, Cond.code yX5_takeIfSaid cX5_takeIfSaid 4 none]
def wsX10_ways : List Cond := .code yX10_ways cX10_ways 2 (some .int) :: ((wsX10_ways_r1 ++ wsX10_ways_r2) ++ wsX100 ++ wsX00 ++ wsX50)
def wsX10_shortest_r1 : List Cond := [Cond.fieldLink RX10 47 "SevenOnStrike" "speech" "LSevenOnStrike$Speech;", Cond.fieldLink RX10 19 "SevenOnStrike" "figures" "LSevenOnStrike$Figures;", Cond.fieldLink RX10 117 "SevenOnStrike$Figures" "mask" "I", Cond.fieldLink RX10 161 "SevenOnStrike$Speech" "found" "I", Cond.fieldLink RX10 164 "SevenOnStrike$Speech" "letters" "I", Cond.fieldLink RX10 167 "SevenOnStrike$Speech" "kind" "I", Cond.fieldLink RX10 170 "SevenOnStrike$Speech" "first" "I", Cond.fieldLink RX10 173 "SevenOnStrike$Speech" "second" "I", Cond.methodLink RX10 100 yX10_isWithin, Cond.static yX10_isWithin, Cond.initialized RX10, Cond.code yX10_isWithin cX10_isWithin 3 (some .boolean), Cond.methodLink RX10 158 yX5_find, Cond.instanceMethod yX5_find, Cond.selects RX5 yX5_find yX5_find, Cond.initialized RX5, Cond.code yX5_find cX5_find 4 none, Cond.fieldLink RX5 19 "SevenOnStrike$Speech" "found" "I", Cond.fieldLink RX5 9 "SevenOnStrike$Speech" "canSay" "[Z", Cond.methodLink RX5 34 yX5_fillRow, Cond.instanceMethod yX5_fillRow, Cond.selects RX5 yX5_fillRow yX5_fillRow, Cond.code yX5_fillRow cX5_fillRow 3 none, Cond.fieldLink RX5 15 "SevenOnStrike$Speech" "rowMask" "I"]
def wsX10_shortest_r2 : List Cond := [Cond.methodLink RX5 45 yX3_canSay, Cond.static yX3_canSay, Cond.initialized RX3, Cond.code yX3_canSay cX3_canSay 4 (some .boolean), Cond.methodLink RX5 38 yX5_take, Cond.instanceMethod yX5_take, Cond.selects RX5 yX5_take yX5_take, Cond.code yX5_take cX5_take 5 none, Cond.fieldLink RX5 22 "SevenOnStrike$Speech" "letters" "I", Cond.fieldLink RX5 25 "SevenOnStrike$Speech" "kind" "I", Cond.fieldLink RX5 28 "SevenOnStrike$Speech" "first" "I", Cond.fieldLink RX5 31 "SevenOnStrike$Speech" "second" "I", Cond.methodLink RX5 50 yX3_lengthOf, Cond.static yX3_lengthOf, Cond.code yX3_lengthOf cX3_lengthOf 1 (some .int), Cond.methodLink RX5 42 yX5_takeIfSaid, Cond.instanceMethod yX5_takeIfSaid, Cond.selects RX5 yX5_takeIfSaid yX5_takeIfSaid, Cond.code yX5_takeIfSaid cX5_takeIfSaid 4 none]
def wsX10_shortest : List Cond := .code yX10_shortest cX10_shortest 3 (some .int) :: ((wsX10_shortest_r1 ++ wsX10_shortest_r2) ++ wsX100 ++ wsX00 ++ wsX50)
def wsX10_change_r1 : List Cond := [Cond.fieldLink RX10 54 "SevenOnStrike" "till" "LSevenOnStrike$Till;", Cond.fieldLink RX10 61 "SevenOnStrike" "laid" "LSevenOnStrike$Told;", Cond.fieldLink RX10 19 "SevenOnStrike" "figures" "LSevenOnStrike$Figures;", Cond.fieldLink RX10 117 "SevenOnStrike$Figures" "mask" "I", Cond.fieldLink RX10 183 "SevenOnStrike$Till" "row" "[I", Cond.methodLink RX10 100 yX10_isWithin, Cond.static yX10_isWithin, Cond.initialized RX10, Cond.code yX10_isWithin cX10_isWithin 3 (some .boolean), Cond.methodLink RX10 176 yX8_countFewest, Cond.instanceMethod yX8_countFewest, Cond.selects RX8 yX8_countFewest yX8_countFewest, Cond.initialized RX8, Cond.code yX8_countFewest cX8_countFewest 6 none, Cond.fieldLink RX8 19 "SevenOnStrike$Told" "coinCount" "I", Cond.fieldLink RX8 25 "SevenOnStrike$Told" "coins" "[I", Cond.fieldLink RX8 9 "SevenOnStrike$Till" "row" "[I", Cond.methodLink RX8 34 Lib.Math.min.name, Cond.static Lib.Math.min.name, Cond.initialized "java/lang/Math", Cond.code Lib.Math.min.name Lib.Math.min.code 2 (some .int), Cond.methodLink RX8 15 yX8_startWith, Cond.instanceMethod yX8_startWith, Cond.selects RX8 yX8_startWith yX8_startWith]
def wsX10_change_r2 : List Cond := [Cond.code yX8_startWith cX8_startWith 4 none, Cond.methodLink RX8 28 yX3_canSay, Cond.static yX3_canSay, Cond.initialized RX3, Cond.code yX3_canSay cX3_canSay 4 (some .boolean), Cond.methodLink RX10 180 yX8_isMade, Cond.instanceMethod yX8_isMade, Cond.selects RX8 yX8_isMade yX8_isMade, Cond.code yX8_isMade cX8_isMade 2 (some .boolean)]
def wsX10_change : List Cond := .code yX10_change cX10_change 2 (some .int) :: ((wsX10_change_r1 ++ wsX10_change_r2) ++ wsX100 ++ wsX00 ++ wsX80 ++ wsX90)
def wsX10_never_r1 : List Cond := [Cond.fieldLink RX10 54 "SevenOnStrike" "till" "LSevenOnStrike$Till;", Cond.fieldLink RX10 61 "SevenOnStrike" "laid" "LSevenOnStrike$Told;", Cond.fieldLink RX10 19 "SevenOnStrike" "figures" "LSevenOnStrike$Figures;", Cond.fieldLink RX10 117 "SevenOnStrike$Figures" "mask" "I", Cond.methodLink RX10 176 yX8_countFewest, Cond.instanceMethod yX8_countFewest, Cond.selects RX8 yX8_countFewest yX8_countFewest, Cond.initialized RX8, Cond.code yX8_countFewest cX8_countFewest 6 none, Cond.fieldLink RX8 19 "SevenOnStrike$Told" "coinCount" "I", Cond.fieldLink RX8 25 "SevenOnStrike$Told" "coins" "[I", Cond.fieldLink RX8 9 "SevenOnStrike$Till" "row" "[I", Cond.methodLink RX8 34 Lib.Math.min.name, Cond.static Lib.Math.min.name, Cond.initialized "java/lang/Math", Cond.code Lib.Math.min.name Lib.Math.min.code 2 (some .int), Cond.methodLink RX8 15 yX8_startWith, Cond.instanceMethod yX8_startWith, Cond.selects RX8 yX8_startWith yX8_startWith, Cond.code yX8_startWith cX8_startWith 4 none, Cond.methodLink RX8 28 yX3_canSay, Cond.static yX3_canSay, Cond.initialized RX3, Cond.code yX3_canSay cX3_canSay 4 (some .boolean)]
def wsX10_never_r2 : List Cond := [Cond.methodLink RX10 180 yX8_isMade, Cond.instanceMethod yX8_isMade, Cond.selects RX8 yX8_isMade yX8_isMade, Cond.code yX8_isMade cX8_isMade 2 (some .boolean)]
def wsX10_never : List Cond := .code yX10_never cX10_never 2 (some .int) :: ((wsX10_never_r1 ++ wsX10_never_r2) ++ wsX100 ++ wsX00 ++ wsX90 ++ wsX80)
def wsX10_pays_r1 : List Cond := [Cond.fieldLink RX10 54 "SevenOnStrike" "till" "LSevenOnStrike$Till;", Cond.fieldLink RX10 61 "SevenOnStrike" "laid" "LSevenOnStrike$Told;", Cond.fieldLink RX10 19 "SevenOnStrike" "figures" "LSevenOnStrike$Figures;", Cond.fieldLink RX10 117 "SevenOnStrike$Figures" "mask" "I", Cond.fieldLink RX10 183 "SevenOnStrike$Till" "row" "[I", Cond.methodLink RX10 100 yX10_isWithin, Cond.static yX10_isWithin, Cond.initialized RX10, Cond.code yX10_isWithin cX10_isWithin 3 (some .boolean), Cond.methodLink RX10 186 yX8_countWays, Cond.instanceMethod yX8_countWays, Cond.selects RX8 yX8_countWays yX8_countWays, Cond.initialized RX8, Cond.code yX8_countWays cX8_countWays 6 none, Cond.fieldLink RX8 19 "SevenOnStrike$Told" "coinCount" "I", Cond.fieldLink RX8 25 "SevenOnStrike$Told" "coins" "[I", Cond.fieldLink RX8 9 "SevenOnStrike$Till" "row" "[I", Cond.methodLink RX8 15 yX8_startWith, Cond.instanceMethod yX8_startWith, Cond.selects RX8 yX8_startWith yX8_startWith, Cond.code yX8_startWith cX8_startWith 4 none, Cond.methodLink RX8 28 yX3_canSay, Cond.static yX3_canSay, Cond.initialized RX3]
def wsX10_pays_r2 : List Cond := [Cond.code yX3_canSay cX3_canSay 4 (some .boolean)]
def wsX10_pays : List Cond := .code yX10_pays cX10_pays 2 (some .int) :: ((wsX10_pays_r1 ++ wsX10_pays_r2) ++ wsX100 ++ wsX00 ++ wsX80 ++ wsX90)
def wsX10_workingDays : List Cond := .code yX10_workingDays cX10_workingDays 3 (some .int) :: ([.fieldLink RX10 61 "SevenOnStrike" "laid" "LSevenOnStrike$Told;", .fieldLink RX10 192 "SevenOnStrike$Told" "week" "I", .fieldLink RX10 19 "SevenOnStrike" "figures" "LSevenOnStrike$Figures;", .methodLink RX10 104 yX0_isOnStrike, .instanceMethod yX0_isOnStrike, .selects RX0 yX0_isOnStrike yX0_isOnStrike, .initialized RX0, .code yX0_isOnStrike cX0_isOnStrike 2 (some .boolean), .fieldLink RX0 9 "SevenOnStrike$Figures" "mask" "I"] ++ wsX100 ++ wsX90 ++ wsX00)
def wsX10_day : List Cond := .code yX10_day cX10_day 5 (some .int) :: ([.fieldLink RX10 61 "SevenOnStrike" "laid" "LSevenOnStrike$Told;", .fieldLink RX10 192 "SevenOnStrike$Told" "week" "I", .fieldLink RX10 19 "SevenOnStrike" "figures" "LSevenOnStrike$Figures;", .methodLink RX10 100 yX10_isWithin, .static yX10_isWithin, .initialized RX10, .code yX10_isWithin cX10_isWithin 3 (some .boolean), .methodLink RX10 189 yX10_workingDays, .instanceMethod yX10_workingDays, .selects RX10 yX10_workingDays yX10_workingDays, .code yX10_workingDays cX10_workingDays 3 (some .int), .methodLink RX10 104 yX0_isOnStrike, .instanceMethod yX0_isOnStrike, .selects RX0 yX0_isOnStrike yX0_isOnStrike, .initialized RX0, .code yX0_isOnStrike cX0_isOnStrike 2 (some .boolean), .fieldLink RX0 9 "SevenOnStrike$Figures" "mask" "I"] ++ wsX100 ++ wsX90 ++ wsX00)
def wsX10_agree : List Cond := .code yX10_agree cX10_agree 2 (some .int) :: ([.fieldLink RX10 61 "SevenOnStrike" "laid" "LSevenOnStrike$Told;", .fieldLink RX10 192 "SevenOnStrike$Told" "week" "I", .methodLink RX10 189 yX10_workingDays, .instanceMethod yX10_workingDays, .selects RX10 yX10_workingDays yX10_workingDays, .initialized RX10, .code yX10_workingDays cX10_workingDays 3 (some .int), .fieldLink RX10 19 "SevenOnStrike" "figures" "LSevenOnStrike$Figures;", .methodLink RX10 104 yX0_isOnStrike, .instanceMethod yX0_isOnStrike, .selects RX0 yX0_isOnStrike yX0_isOnStrike, .initialized RX0, .code yX0_isOnStrike cX0_isOnStrike 2 (some .boolean), .fieldLink RX0 9 "SevenOnStrike$Figures" "mask" "I", .methodLink RX10 195 yX3_commonDivisor, .static yX3_commonDivisor, .initialized RX3, .code yX3_commonDivisor cX3_commonDivisor 3 (some .int)] ++ wsX100 ++ wsX90 ++ wsX00)
def wsX10_shownBy : List Cond := .code yX10_shownBy cX10_shownBy 2 (some .int) :: ([.fieldLink RX10 19 "SevenOnStrike" "figures" "LSevenOnStrike$Figures;", .methodLink RX10 104 yX0_isOnStrike, .instanceMethod yX0_isOnStrike, .selects RX0 yX0_isOnStrike yX0_isOnStrike, .initialized RX0, .code yX0_isOnStrike cX0_isOnStrike 2 (some .boolean), .fieldLink RX0 9 "SevenOnStrike$Figures" "mask" "I"] ++ wsX100 ++ wsX00)
def wsX10_odds : List Cond := .code yX10_odds cX10_odds 6 (some .int) :: ([.fieldLink RX10 61 "SevenOnStrike" "laid" "LSevenOnStrike$Told;", .fieldLink RX10 198 "SevenOnStrike$Told" "sides" "I", .methodLink RX10 100 yX10_isWithin, .static yX10_isWithin, .initialized RX10, .code yX10_isWithin cX10_isWithin 3 (some .boolean), .methodLink RX10 201 yX10_shownBy, .instanceMethod yX10_shownBy, .selects RX10 yX10_shownBy yX10_shownBy, .code yX10_shownBy cX10_shownBy 2 (some .int), .fieldLink RX10 19 "SevenOnStrike" "figures" "LSevenOnStrike$Figures;", .methodLink RX10 104 yX0_isOnStrike, .instanceMethod yX0_isOnStrike, .selects RX0 yX0_isOnStrike yX0_isOnStrike, .initialized RX0, .code yX0_isOnStrike cX0_isOnStrike 2 (some .boolean), .fieldLink RX0 9 "SevenOnStrike$Figures" "mask" "I", .methodLink RX10 205 yX3_lowestTerms, .static yX3_lowestTerms, .initialized RX3, .code yX3_lowestTerms cX3_lowestTerms 4 (some .int), .methodLink RX3 33 yX3_commonDivisor, .static yX3_commonDivisor, .code yX3_commonDivisor cX3_commonDivisor 3 (some .int)] ++ wsX100 ++ wsX90 ++ wsX00)
def wsX10_mean : List Cond := .code yX10_mean cX10_mean 4 (some .int) :: ([.fieldLink RX10 61 "SevenOnStrike" "laid" "LSevenOnStrike$Told;", .fieldLink RX10 198 "SevenOnStrike$Told" "sides" "I", .methodLink RX10 100 yX10_isWithin, .static yX10_isWithin, .initialized RX10, .code yX10_isWithin cX10_isWithin 3 (some .boolean), .methodLink RX10 201 yX10_shownBy, .instanceMethod yX10_shownBy, .selects RX10 yX10_shownBy yX10_shownBy, .code yX10_shownBy cX10_shownBy 2 (some .int), .fieldLink RX10 19 "SevenOnStrike" "figures" "LSevenOnStrike$Figures;", .methodLink RX10 104 yX0_isOnStrike, .instanceMethod yX0_isOnStrike, .selects RX0 yX0_isOnStrike yX0_isOnStrike, .initialized RX0, .code yX0_isOnStrike cX0_isOnStrike 2 (some .boolean), .fieldLink RX0 9 "SevenOnStrike$Figures" "mask" "I", .methodLink RX10 205 yX3_lowestTerms, .static yX3_lowestTerms, .initialized RX3, .code yX3_lowestTerms cX3_lowestTerms 4 (some .int), .methodLink RX3 33 yX3_commonDivisor, .static yX3_commonDivisor, .code yX3_commonDivisor cX3_commonDivisor 3 (some .int)] ++ wsX100 ++ wsX90 ++ wsX00)
def wsX10_dark : List Cond := .code yX10_dark cX10_dark 3 (some .int) :: ([.fieldLink RX10 40 "SevenOnStrike" "night" "LSevenOnStrike$Night;", .fieldLink RX10 215 "SevenOnStrike$Night" "size" "I", .methodLink RX10 100 yX10_isWithin, .static yX10_isWithin, .initialized RX10, .code yX10_isWithin cX10_isWithin 3 (some .boolean), .methodLink RX10 209 yX3_lengthOf, .static yX3_lengthOf, .initialized RX3, .code yX3_lengthOf cX3_lengthOf 1 (some .int), .methodLink RX10 212 yX2_tell, .instanceMethod yX2_tell, .selects RX2 yX2_tell yX2_tell, .initialized RX2, .code yX2_tell cX2_tell 3 (some .boolean), .fieldLink RX2 16 "SevenOnStrike$Night" "size" "I", .fieldLink RX2 9 "SevenOnStrike$Night" "told" "[I", .fieldLink RX2 13 "SevenOnStrike$Night" "heard" "[I"] ++ wsX100 ++ wsX20)
def wsX10_forget : List Cond := .code yX10_forget cX10_forget 2 (some .int) :: ([.fieldLink RX10 40 "SevenOnStrike" "night" "LSevenOnStrike$Night;", .fieldLink RX10 215 "SevenOnStrike$Night" "size" "I"] ++ wsX100 ++ wsX20)
def wsX10_works : List Cond := .code yX10_works cX10_works 3 (some .int) :: ([.fieldLink RX10 40 "SevenOnStrike" "night" "LSevenOnStrike$Night;", .fieldLink RX10 19 "SevenOnStrike" "figures" "LSevenOnStrike$Figures;", .fieldLink RX10 117 "SevenOnStrike$Figures" "mask" "I", .fieldLink RX10 107 "SevenOnStrike$Figures" "standIns" "[I", .methodLink RX10 216 yX2_isSo, .instanceMethod yX2_isSo, .selects RX2 yX2_isSo yX2_isSo, .initialized RX2, .code yX2_isSo cX2_isSo 4 (some .boolean), .fieldLink RX2 16 "SevenOnStrike$Night" "size" "I", .fieldLink RX2 9 "SevenOnStrike$Night" "told" "[I", .fieldLink RX2 13 "SevenOnStrike$Night" "heard" "[I", .methodLink RX2 20 yX2_isHeardAs, .static yX2_isHeardAs, .code yX2_isHeardAs cX2_isHeardAs 8 (some .boolean), .methodLink RX2 24 yX3_lengthOf, .static yX3_lengthOf, .initialized RX3, .code yX3_lengthOf cX3_lengthOf 1 (some .int), .methodLink RX2 30 yX0_heardAs, .static yX0_heardAs, .initialized RX0, .code yX0_heardAs cX0_heardAs 3 (some .int)] ++ wsX100 ++ wsX00 ++ wsX20)
def wsX10_costOf : List Cond := .code yX10_costOf cX10_costOf 4 (some .int) :: ([.fieldLink RX10 19 "SevenOnStrike" "figures" "LSevenOnStrike$Figures;", .fieldLink RX10 117 "SevenOnStrike$Figures" "mask" "I", .methodLink RX10 138 yX3_sayable, .static yX3_sayable, .initialized RX3, .code yX3_sayable cX3_sayable 9 (some .int), .methodLink RX3 11 yX3_workingUpTo, .static yX3_workingUpTo, .code yX3_workingUpTo cX3_workingUpTo 2 (some .int), .methodLink RX3 23 yJ6_bitCount_0f7a4, .static yJ6_bitCount_0f7a4, .initialized RJ6, .code yJ6_bitCount_0f7a4 cJ6_bitCount_0f7a4 1 (some .int), .constant RJ6 265 (1431655765), .constant RJ6 266 (858993459), .constant RJ6 267 (252645135), .methodLink RX3 15 yX3_lengthOf, .static yX3_lengthOf, .code yX3_lengthOf cX3_lengthOf 1 (some .int), .methodLink RX3 19 yX3_canSay, .static yX3_canSay, .code yX3_canSay cX3_canSay 4 (some .boolean)] ++ wsX100 ++ wsX00)
def wsX10_costs_r1 : List Cond := [Cond.methodLink RX10 97 yX10_isFigure, Cond.static yX10_isFigure, Cond.initialized RX10, Cond.code yX10_isFigure cX10_isFigure 1 (some .boolean), Cond.methodLink RX10 100 yX10_isWithin, Cond.static yX10_isWithin, Cond.code yX10_isWithin cX10_isWithin 3 (some .boolean), Cond.methodLink RX10 220 yX10_costOf, Cond.instanceMethod yX10_costOf, Cond.selects RX10 yX10_costOf yX10_costOf, Cond.code yX10_costOf cX10_costOf 4 (some .int), Cond.fieldLink RX10 19 "SevenOnStrike" "figures" "LSevenOnStrike$Figures;", Cond.fieldLink RX10 117 "SevenOnStrike$Figures" "mask" "I", Cond.methodLink RX10 138 yX3_sayable, Cond.static yX3_sayable, Cond.initialized RX3, Cond.code yX3_sayable cX3_sayable 9 (some .int), Cond.methodLink RX3 11 yX3_workingUpTo, Cond.static yX3_workingUpTo, Cond.code yX3_workingUpTo cX3_workingUpTo 2 (some .int), Cond.methodLink RX3 23 yJ6_bitCount_0f7a4, Cond.static yJ6_bitCount_0f7a4, Cond.initialized RJ6, Cond.code yJ6_bitCount_0f7a4 cJ6_bitCount_0f7a4 1 (some .int)]
def wsX10_costs_r2 : List Cond := [Cond.constant RJ6 265 (1431655765), Cond.constant RJ6 266 (858993459), Cond.constant RJ6 267 (252645135), Cond.methodLink RX3 15 yX3_lengthOf, Cond.static yX3_lengthOf, Cond.code yX3_lengthOf cX3_lengthOf 1 (some .int), Cond.methodLink RX3 19 yX3_canSay, Cond.static yX3_canSay, Cond.code yX3_canSay cX3_canSay 4 (some .boolean)]
def wsX10_costs : List Cond := .code yX10_costs cX10_costs 3 (some .int) :: ((wsX10_costs_r1 ++ wsX10_costs_r2) ++ wsX100 ++ wsX00)
def wsX10_dearest_r1 : List Cond := [Cond.methodLink RX10 100 yX10_isWithin, Cond.static yX10_isWithin, Cond.initialized RX10, Cond.code yX10_isWithin cX10_isWithin 3 (some .boolean), Cond.methodLink RX10 220 yX10_costOf, Cond.instanceMethod yX10_costOf, Cond.selects RX10 yX10_costOf yX10_costOf, Cond.code yX10_costOf cX10_costOf 4 (some .int), Cond.fieldLink RX10 19 "SevenOnStrike" "figures" "LSevenOnStrike$Figures;", Cond.fieldLink RX10 117 "SevenOnStrike$Figures" "mask" "I", Cond.methodLink RX10 138 yX3_sayable, Cond.static yX3_sayable, Cond.initialized RX3, Cond.code yX3_sayable cX3_sayable 9 (some .int), Cond.methodLink RX3 11 yX3_workingUpTo, Cond.static yX3_workingUpTo, Cond.code yX3_workingUpTo cX3_workingUpTo 2 (some .int), Cond.methodLink RX3 23 yJ6_bitCount_0f7a4, Cond.static yJ6_bitCount_0f7a4, Cond.initialized RJ6, Cond.code yJ6_bitCount_0f7a4 cJ6_bitCount_0f7a4 1 (some .int), Cond.constant RJ6 265 (1431655765), Cond.constant RJ6 266 (858993459), Cond.constant RJ6 267 (252645135)]
def wsX10_dearest_r2 : List Cond := [Cond.methodLink RX3 15 yX3_lengthOf, Cond.static yX3_lengthOf, Cond.code yX3_lengthOf cX3_lengthOf 1 (some .int), Cond.methodLink RX3 19 yX3_canSay, Cond.static yX3_canSay, Cond.code yX3_canSay cX3_canSay 4 (some .boolean)]
def wsX10_dearest : List Cond := .code yX10_dearest cX10_dearest 7 (some .int) :: ((wsX10_dearest_r1 ++ wsX10_dearest_r2) ++ wsX100 ++ wsX00)
def wsX10_bargain_r1 : List Cond := [Cond.fieldLink RX10 19 "SevenOnStrike" "figures" "LSevenOnStrike$Figures;", Cond.fieldLink RX10 117 "SevenOnStrike$Figures" "mask" "I", Cond.methodLink RX10 97 yX10_isFigure, Cond.static yX10_isFigure, Cond.initialized RX10, Cond.code yX10_isFigure cX10_isFigure 1 (some .boolean), Cond.methodLink RX10 100 yX10_isWithin, Cond.static yX10_isWithin, Cond.code yX10_isWithin cX10_isWithin 3 (some .boolean), Cond.methodLink RX10 138 yX3_sayable, Cond.static yX3_sayable, Cond.initialized RX3, Cond.code yX3_sayable cX3_sayable 9 (some .int), Cond.methodLink RX3 11 yX3_workingUpTo, Cond.static yX3_workingUpTo, Cond.code yX3_workingUpTo cX3_workingUpTo 2 (some .int), Cond.methodLink RX3 23 yJ6_bitCount_0f7a4, Cond.static yJ6_bitCount_0f7a4, Cond.initialized RJ6, Cond.code yJ6_bitCount_0f7a4 cJ6_bitCount_0f7a4 1 (some .int), Cond.constant RJ6 265 (1431655765), Cond.constant RJ6 266 (858993459), Cond.constant RJ6 267 (252645135), Cond.methodLink RX3 15 yX3_lengthOf]
def wsX10_bargain_r2 : List Cond := [Cond.static yX3_lengthOf, Cond.code yX3_lengthOf cX3_lengthOf 1 (some .int), Cond.methodLink RX3 19 yX3_canSay, Cond.static yX3_canSay, Cond.code yX3_canSay cX3_canSay 4 (some .boolean)]
def wsX10_bargain : List Cond := .code yX10_bargain cX10_bargain 7 (some .int) :: ((wsX10_bargain_r1 ++ wsX10_bargain_r2) ++ wsX100 ++ wsX00)
def wsX10_drawnFigure : List Cond := .code yX10_drawnFigure cX10_drawnFigure 4 (some .int) :: ([.constantLong RX10 237 (7919), .constantLong RX10 239 (6151), .constantLong RX10 241 (65521), .constantLong RX10 243 (4), .constantLong RX10 245 (10)])
def wsX10_days_r1 : List Cond := [Cond.fieldLink RX10 19 "SevenOnStrike" "figures" "LSevenOnStrike$Figures;", Cond.fieldLink RX10 117 "SevenOnStrike$Figures" "mask" "I", Cond.methodLink RX10 100 yX10_isWithin, Cond.static yX10_isWithin, Cond.initialized RX10, Cond.code yX10_isWithin cX10_isWithin 3 (some .boolean), Cond.methodLink RX10 223 yX10_drawnFigure, Cond.static yX10_drawnFigure, Cond.code yX10_drawnFigure cX10_drawnFigure 4 (some .int), Cond.constantLong RX10 237 (7919), Cond.constantLong RX10 239 (6151), Cond.constantLong RX10 241 (65521), Cond.constantLong RX10 243 (4), Cond.constantLong RX10 245 (10), Cond.methodLink RX10 138 yX3_sayable, Cond.static yX3_sayable, Cond.initialized RX3, Cond.code yX3_sayable cX3_sayable 9 (some .int), Cond.methodLink RX3 11 yX3_workingUpTo, Cond.static yX3_workingUpTo, Cond.code yX3_workingUpTo cX3_workingUpTo 2 (some .int), Cond.methodLink RX3 23 yJ6_bitCount_0f7a4, Cond.static yJ6_bitCount_0f7a4, Cond.initialized RJ6]
def wsX10_days_r2 : List Cond := [Cond.code yJ6_bitCount_0f7a4 cJ6_bitCount_0f7a4 1 (some .int), Cond.constant RJ6 265 (1431655765), Cond.constant RJ6 266 (858993459), Cond.constant RJ6 267 (252645135), Cond.methodLink RX3 15 yX3_lengthOf, Cond.static yX3_lengthOf, Cond.code yX3_lengthOf cX3_lengthOf 1 (some .int), Cond.methodLink RX3 19 yX3_canSay, Cond.static yX3_canSay, Cond.code yX3_canSay cX3_canSay 4 (some .boolean)]
def wsX10_days : List Cond := .code yX10_days cX10_days 7 (some .int) :: ((wsX10_days_r1 ++ wsX10_days_r2) ++ wsX100 ++ wsX00)
def wsX10_keep : List Cond := .code yX10_keep cX10_keep 1 (some .int) :: ([.fieldLink RX10 33 "SevenOnStrike" "kept" "LSevenOnStrike$Kept;", .fieldLink RX10 19 "SevenOnStrike" "figures" "LSevenOnStrike$Figures;", .fieldLink RX10 229 "SevenOnStrike$Kept" "size" "I", .methodLink RX10 226 yX1_put, .instanceMethod yX1_put, .selects RX1 yX1_put yX1_put, .initialized RX1, .code yX1_put cX1_put 2 (some .boolean), .fieldLink RX1 16 "SevenOnStrike$Kept" "size" "I", .fieldLink RX1 10 "SevenOnStrike$Kept" "rows" "[LSevenOnStrike$Figures;", .methodLink RX1 20 yX0_copyFrom, .instanceMethod yX0_copyFrom, .selects RX0 yX0_copyFrom yX0_copyFrom, .initialized RX0, .code yX0_copyFrom cX0_copyFrom 2 none, .fieldLink RX0 9 "SevenOnStrike$Figures" "mask" "I", .fieldLink RX0 15 "SevenOnStrike$Figures" "standIns" "[I", .methodLink RX0 25 arraycopyName, .native arraycopyName, .static arraycopyName, .initialized "java/lang/System"] ++ wsX100 ++ wsX10 ++ wsX00)
def wsX10_back : List Cond := .code yX10_back cX10_back 1 (some .int) :: ([.fieldLink RX10 33 "SevenOnStrike" "kept" "LSevenOnStrike$Kept;", .fieldLink RX10 19 "SevenOnStrike" "figures" "LSevenOnStrike$Figures;", .fieldLink RX10 26 "SevenOnStrike" "past" "LSevenOnStrike$Past;", .fieldLink RX10 128 "SevenOnStrike$Past" "size" "I", .fieldLink RX10 229 "SevenOnStrike$Kept" "size" "I", .methodLink RX10 230 yX1_restore, .instanceMethod yX1_restore, .selects RX1 yX1_restore yX1_restore, .initialized RX1, .code yX1_restore cX1_restore 2 (some .boolean), .fieldLink RX1 16 "SevenOnStrike$Kept" "size" "I", .fieldLink RX1 10 "SevenOnStrike$Kept" "rows" "[LSevenOnStrike$Figures;", .methodLink RX1 20 yX0_copyFrom, .instanceMethod yX0_copyFrom, .selects RX0 yX0_copyFrom yX0_copyFrom, .initialized RX0, .code yX0_copyFrom cX0_copyFrom 2 none, .fieldLink RX0 9 "SevenOnStrike$Figures" "mask" "I", .fieldLink RX0 15 "SevenOnStrike$Figures" "standIns" "[I", .methodLink RX0 25 arraycopyName, .native arraycopyName, .static arraycopyName, .initialized "java/lang/System"] ++ wsX100 ++ wsX40 ++ wsX10 ++ wsX00)
def wsX10_count_r1 : List Cond := [Cond.fieldLink RX10 19 "SevenOnStrike" "figures" "LSevenOnStrike$Figures;", Cond.fieldLink RX10 61 "SevenOnStrike" "laid" "LSevenOnStrike$Told;", Cond.fieldLink RX10 111 "SevenOnStrike$Told" "coinCount" "I", Cond.fieldLink RX10 198 "SevenOnStrike$Told" "sides" "I", Cond.fieldLink RX10 192 "SevenOnStrike$Told" "week" "I", Cond.fieldLink RX10 40 "SevenOnStrike" "night" "LSevenOnStrike$Night;", Cond.fieldLink RX10 215 "SevenOnStrike$Night" "size" "I", Cond.fieldLink RX10 26 "SevenOnStrike" "past" "LSevenOnStrike$Past;", Cond.fieldLink RX10 128 "SevenOnStrike$Past" "size" "I", Cond.fieldLink RX10 33 "SevenOnStrike" "kept" "LSevenOnStrike$Kept;", Cond.fieldLink RX10 229 "SevenOnStrike$Kept" "size" "I", Cond.fieldLink RX10 10 "SevenOnStrike" "text" "LSevenOnStrike$Text;", Cond.fieldLink RX10 85 "SevenOnStrike$Text" "length" "I", Cond.methodLink RX10 93 yX0_strikers, Cond.instanceMethod yX0_strikers, Cond.selects RX0 yX0_strikers yX0_strikers, Cond.initialized RX0, Cond.code yX0_strikers cX0_strikers 1 (some .int), Cond.fieldLink RX0 9 "SevenOnStrike$Figures" "mask" "I", Cond.methodLink RX0 19 yJ6_bitCount_0f7a4, Cond.static yJ6_bitCount_0f7a4, Cond.initialized RJ6, Cond.code yJ6_bitCount_0f7a4 cJ6_bitCount_0f7a4 1 (some .int), Cond.constant RJ6 265 (1431655765)]
def wsX10_count_r2 : List Cond := [Cond.constant RJ6 266 (858993459), Cond.constant RJ6 267 (252645135)]
def wsX10_count : List Cond := .code yX10_count cX10_count 2 (some .int) :: ((wsX10_count_r1 ++ wsX10_count_r2) ++ wsX100 ++ wsX90 ++ wsX20 ++ wsX40 ++ wsX10 ++ wsX70 ++ wsX00)
def wsX11_nothing : List Cond := .code yX11_nothing cX11_nothing 3 none :: ([.fieldLink RX11 13 "SevenOnStrikeModel" "rows" "[I", .fieldLink RX11 19 "SevenOnStrikeModel" "coinMany" "[I", .fieldLink RX11 22 "SevenOnStrikeModel" "faces" "[I", .fieldLink RX11 25 "SevenOnStrikeModel" "weeks" "[I", .fieldLink RX11 31 "SevenOnStrikeModel" "sumMany" "[I"] ++ wsX110)
def wsX11_begin : List Cond := .code yX11_begin cX11_begin 2 none :: ([.fieldLink RX11 34 "SevenOnStrikeModel" "now" "[I", .fieldLink RX11 13 "SevenOnStrikeModel" "rows" "[I", .fieldLink RX11 119 "SevenOnStrikeModel" "undoMany" "I", .fieldLink RX11 122 "SevenOnStrikeModel" "keptMany" "I", .fieldLink RX11 125 "SevenOnStrikeModel" "darkMany" "I"] ++ wsX110)
def wsX11_init_r1 : List Cond := [Cond.methodLink RX11 1 objectInit, Cond.instanceMethod objectInit, Cond.code objectInit ⟨#[0xb1]⟩ 1 none, Cond.arrayClass .int, Cond.fieldLink RX11 7 "SevenOnStrikeModel" "text" "[I", Cond.fieldLink RX11 13 "SevenOnStrikeModel" "rows" "[I", Cond.fieldLink RX11 16 "SevenOnStrikeModel" "coins" "[I", Cond.fieldLink RX11 19 "SevenOnStrikeModel" "coinMany" "[I", Cond.fieldLink RX11 22 "SevenOnStrikeModel" "faces" "[I", Cond.fieldLink RX11 25 "SevenOnStrikeModel" "weeks" "[I", Cond.fieldLink RX11 28 "SevenOnStrikeModel" "sums" "[I", Cond.fieldLink RX11 31 "SevenOnStrikeModel" "sumMany" "[I", Cond.fieldLink RX11 34 "SevenOnStrikeModel" "now" "[I", Cond.fieldLink RX11 37 "SevenOnStrikeModel" "before" "[I", Cond.fieldLink RX11 40 "SevenOnStrikeModel" "kept" "[I", Cond.fieldLink RX11 43 "SevenOnStrikeModel" "darkOne" "[I", Cond.fieldLink RX11 46 "SevenOnStrikeModel" "darkOther" "[I", Cond.fieldLink RX11 49 "SevenOnStrikeModel" "told" "[I", Cond.fieldLink RX11 52 "SevenOnStrikeModel" "fewest" "[I", Cond.fieldLink RX11 55 "SevenOnStrikeModel" "many" "[I", Cond.fieldLink RX11 58 "SevenOnStrikeModel" "was" "[I", Cond.methodLink RX11 61 yX11_nothing, Cond.instanceMethod yX11_nothing, Cond.selects RX11 yX11_nothing yX11_nothing]
def wsX11_init_r2 : List Cond := [Cond.initialized RX11, Cond.code yX11_nothing cX11_nothing 3 none, Cond.methodLink RX11 65 yX11_begin, Cond.instanceMethod yX11_begin, Cond.selects RX11 yX11_begin yX11_begin, Cond.code yX11_begin cX11_begin 2 none, Cond.fieldLink RX11 119 "SevenOnStrikeModel" "undoMany" "I", Cond.fieldLink RX11 122 "SevenOnStrikeModel" "keptMany" "I", Cond.fieldLink RX11 125 "SevenOnStrikeModel" "darkMany" "I"]
def wsX11_init : List Cond := .code yX11_init cX11_init 1 none :: ((wsX11_init_r1 ++ wsX11_init_r2) ++ wsX110)
def wsX11_in : List Cond := .code yX11_in cX11_in 6 (some .boolean) :: ([])
def wsX11_write : List Cond := .code yX11_write cX11_write 2 (some .int) :: ([.constantLong RX11 68 (32), .constantLong RX11 70 (126), .fieldLink RX11 76 "SevenOnStrikeModel" "length" "I", .fieldLink RX11 7 "SevenOnStrikeModel" "text" "[I", .methodLink RX11 72 yX11_in, .static yX11_in, .initialized RX11, .code yX11_in cX11_in 6 (some .boolean)] ++ wsX110)
def wsX11_wipe : List Cond := .code yX11_wipe cX11_wipe 2 (some .int) :: ([.fieldLink RX11 76 "SevenOnStrikeModel" "length" "I"] ++ wsX110)
def wsX11_letterAt : List Cond := .code yX11_letterAt cX11_letterAt 2 (some .int) :: ([.fieldLink RX11 76 "SevenOnStrikeModel" "length" "I", .fieldLink RX11 7 "SevenOnStrikeModel" "text" "[I"] ++ wsX110)
def wsX11_figures : List Cond := .code yX11_figures cX11_figures 5 (some .boolean) :: ([.fieldLink RX11 80 "SevenOnStrikeModel" "spot" "I", .constantLong RX11 87 (48), .constantLong RX11 89 (57), .constantLong RX11 91 (2), .fieldLink RX11 49 "SevenOnStrikeModel" "told" "[I", .methodLink RX11 83 yX11_letterAt, .instanceMethod yX11_letterAt, .selects RX11 yX11_letterAt yX11_letterAt, .initialized RX11, .code yX11_letterAt cX11_letterAt 2 (some .int), .fieldLink RX11 76 "SevenOnStrikeModel" "length" "I", .fieldLink RX11 7 "SevenOnStrikeModel" "text" "[I", .methodLink RX11 72 yX11_in, .static yX11_in, .code yX11_in cX11_in 6 (some .boolean)] ++ wsX110)
def wsX11_coinItem : List Cond := .code yX11_coinItem cX11_coinItem 3 (some .boolean) :: ([.fieldLink RX11 49 "SevenOnStrikeModel" "told" "[I", .fieldLink RX11 19 "SevenOnStrikeModel" "coinMany" "[I", .fieldLink RX11 16 "SevenOnStrikeModel" "coins" "[I", .methodLink RX11 93 yX11_figures, .instanceMethod yX11_figures, .selects RX11 yX11_figures yX11_figures, .initialized RX11, .code yX11_figures cX11_figures 5 (some .boolean), .fieldLink RX11 80 "SevenOnStrikeModel" "spot" "I", .constantLong RX11 87 (48), .constantLong RX11 89 (57), .constantLong RX11 91 (2), .methodLink RX11 83 yX11_letterAt, .instanceMethod yX11_letterAt, .selects RX11 yX11_letterAt yX11_letterAt, .code yX11_letterAt cX11_letterAt 2 (some .int), .fieldLink RX11 76 "SevenOnStrikeModel" "length" "I", .fieldLink RX11 7 "SevenOnStrikeModel" "text" "[I", .methodLink RX11 72 yX11_in, .static yX11_in, .code yX11_in cX11_in 6 (some .boolean)] ++ wsX110)
def wsX11_isSign : List Cond := .code yX11_isSign cX11_isSign 1 (some .boolean) :: ([])
def wsX11_sumItem : List Cond := .code yX11_sumItem cX11_sumItem 6 (some .boolean) :: ([.fieldLink RX11 80 "SevenOnStrikeModel" "spot" "I", .constantLong RX11 87 (48), .constantLong RX11 89 (57), .fieldLink RX11 28 "SevenOnStrikeModel" "sums" "[I", .fieldLink RX11 31 "SevenOnStrikeModel" "sumMany" "[I", .methodLink RX11 83 yX11_letterAt, .instanceMethod yX11_letterAt, .selects RX11 yX11_letterAt yX11_letterAt, .initialized RX11, .code yX11_letterAt cX11_letterAt 2 (some .int), .fieldLink RX11 76 "SevenOnStrikeModel" "length" "I", .fieldLink RX11 7 "SevenOnStrikeModel" "text" "[I", .methodLink RX11 72 yX11_in, .static yX11_in, .code yX11_in cX11_in 6 (some .boolean), .methodLink RX11 97 yX11_isSign, .static yX11_isSign, .code yX11_isSign cX11_isSign 1 (some .boolean)] ++ wsX110)
def wsX11_item_r1 : List Cond := [Cond.fieldLink RX11 80 "SevenOnStrikeModel" "spot" "I", Cond.fieldLink RX11 49 "SevenOnStrikeModel" "told" "[I", Cond.fieldLink RX11 13 "SevenOnStrikeModel" "rows" "[I", Cond.constantLong RX11 91 (2), Cond.constantLong RX11 104 (9), Cond.fieldLink RX11 22 "SevenOnStrikeModel" "faces" "[I", Cond.fieldLink RX11 25 "SevenOnStrikeModel" "weeks" "[I", Cond.methodLink RX11 83 yX11_letterAt, Cond.instanceMethod yX11_letterAt, Cond.selects RX11 yX11_letterAt yX11_letterAt, Cond.initialized RX11, Cond.code yX11_letterAt cX11_letterAt 2 (some .int), Cond.fieldLink RX11 76 "SevenOnStrikeModel" "length" "I", Cond.fieldLink RX11 7 "SevenOnStrikeModel" "text" "[I", Cond.methodLink RX11 93 yX11_figures, Cond.instanceMethod yX11_figures, Cond.selects RX11 yX11_figures yX11_figures, Cond.code yX11_figures cX11_figures 5 (some .boolean), Cond.constantLong RX11 87 (48), Cond.constantLong RX11 89 (57), Cond.methodLink RX11 72 yX11_in, Cond.static yX11_in, Cond.code yX11_in cX11_in 6 (some .boolean), Cond.methodLink RX11 100 yX11_coinItem]
def wsX11_item_r2 : List Cond := [Cond.instanceMethod yX11_coinItem, Cond.selects RX11 yX11_coinItem yX11_coinItem, Cond.code yX11_coinItem cX11_coinItem 3 (some .boolean), Cond.fieldLink RX11 19 "SevenOnStrikeModel" "coinMany" "[I", Cond.fieldLink RX11 16 "SevenOnStrikeModel" "coins" "[I", Cond.methodLink RX11 106 yX11_sumItem, Cond.instanceMethod yX11_sumItem, Cond.selects RX11 yX11_sumItem yX11_sumItem, Cond.code yX11_sumItem cX11_sumItem 6 (some .boolean), Cond.fieldLink RX11 28 "SevenOnStrikeModel" "sums" "[I", Cond.fieldLink RX11 31 "SevenOnStrikeModel" "sumMany" "[I", Cond.methodLink RX11 97 yX11_isSign, Cond.static yX11_isSign, Cond.code yX11_isSign cX11_isSign 1 (some .boolean)]
def wsX11_item : List Cond := .code yX11_item cX11_item 2 (some .boolean) :: ((wsX11_item_r1 ++ wsX11_item_r2) ++ wsX110)
def wsX11_readAll_r1 : List Cond := [Cond.fieldLink RX11 80 "SevenOnStrikeModel" "spot" "I", Cond.fieldLink RX11 76 "SevenOnStrikeModel" "length" "I", Cond.methodLink RX11 61 yX11_nothing, Cond.instanceMethod yX11_nothing, Cond.selects RX11 yX11_nothing yX11_nothing, Cond.initialized RX11, Cond.code yX11_nothing cX11_nothing 3 none, Cond.fieldLink RX11 13 "SevenOnStrikeModel" "rows" "[I", Cond.fieldLink RX11 19 "SevenOnStrikeModel" "coinMany" "[I", Cond.fieldLink RX11 22 "SevenOnStrikeModel" "faces" "[I", Cond.fieldLink RX11 25 "SevenOnStrikeModel" "weeks" "[I", Cond.fieldLink RX11 31 "SevenOnStrikeModel" "sumMany" "[I", Cond.methodLink RX11 109 yX11_item, Cond.instanceMethod yX11_item, Cond.selects RX11 yX11_item yX11_item, Cond.code yX11_item cX11_item 2 (some .boolean), Cond.fieldLink RX11 49 "SevenOnStrikeModel" "told" "[I", Cond.constantLong RX11 91 (2), Cond.constantLong RX11 104 (9), Cond.methodLink RX11 83 yX11_letterAt, Cond.instanceMethod yX11_letterAt, Cond.selects RX11 yX11_letterAt yX11_letterAt, Cond.code yX11_letterAt cX11_letterAt 2 (some .int), Cond.fieldLink RX11 7 "SevenOnStrikeModel" "text" "[I"]
def wsX11_readAll_r2 : List Cond := [Cond.methodLink RX11 93 yX11_figures, Cond.instanceMethod yX11_figures, Cond.selects RX11 yX11_figures yX11_figures, Cond.code yX11_figures cX11_figures 5 (some .boolean), Cond.constantLong RX11 87 (48), Cond.constantLong RX11 89 (57), Cond.methodLink RX11 72 yX11_in, Cond.static yX11_in, Cond.code yX11_in cX11_in 6 (some .boolean), Cond.methodLink RX11 100 yX11_coinItem, Cond.instanceMethod yX11_coinItem, Cond.selects RX11 yX11_coinItem yX11_coinItem, Cond.code yX11_coinItem cX11_coinItem 3 (some .boolean), Cond.fieldLink RX11 16 "SevenOnStrikeModel" "coins" "[I", Cond.methodLink RX11 106 yX11_sumItem, Cond.instanceMethod yX11_sumItem, Cond.selects RX11 yX11_sumItem yX11_sumItem, Cond.code yX11_sumItem cX11_sumItem 6 (some .boolean), Cond.fieldLink RX11 28 "SevenOnStrikeModel" "sums" "[I", Cond.methodLink RX11 97 yX11_isSign, Cond.static yX11_isSign, Cond.code yX11_isSign cX11_isSign 1 (some .boolean)]
def wsX11_readAll : List Cond := .code yX11_readAll cX11_readAll 2 (some .int) :: ((wsX11_readAll_r1 ++ wsX11_readAll_r2) ++ wsX110)
def wsX11_fault_r1 : List Cond := [Cond.methodLink RX11 112 yX11_readAll, Cond.instanceMethod yX11_readAll, Cond.selects RX11 yX11_readAll yX11_readAll, Cond.initialized RX11, Cond.code yX11_readAll cX11_readAll 2 (some .int), Cond.fieldLink RX11 80 "SevenOnStrikeModel" "spot" "I", Cond.fieldLink RX11 76 "SevenOnStrikeModel" "length" "I", Cond.methodLink RX11 61 yX11_nothing, Cond.instanceMethod yX11_nothing, Cond.selects RX11 yX11_nothing yX11_nothing, Cond.code yX11_nothing cX11_nothing 3 none, Cond.fieldLink RX11 13 "SevenOnStrikeModel" "rows" "[I", Cond.fieldLink RX11 19 "SevenOnStrikeModel" "coinMany" "[I", Cond.fieldLink RX11 22 "SevenOnStrikeModel" "faces" "[I", Cond.fieldLink RX11 25 "SevenOnStrikeModel" "weeks" "[I", Cond.fieldLink RX11 31 "SevenOnStrikeModel" "sumMany" "[I", Cond.methodLink RX11 109 yX11_item, Cond.instanceMethod yX11_item, Cond.selects RX11 yX11_item yX11_item, Cond.code yX11_item cX11_item 2 (some .boolean), Cond.fieldLink RX11 49 "SevenOnStrikeModel" "told" "[I", Cond.constantLong RX11 91 (2), Cond.constantLong RX11 104 (9), Cond.methodLink RX11 83 yX11_letterAt]
def wsX11_fault_r2 : List Cond := [Cond.instanceMethod yX11_letterAt, Cond.selects RX11 yX11_letterAt yX11_letterAt, Cond.code yX11_letterAt cX11_letterAt 2 (some .int), Cond.fieldLink RX11 7 "SevenOnStrikeModel" "text" "[I", Cond.methodLink RX11 93 yX11_figures, Cond.instanceMethod yX11_figures, Cond.selects RX11 yX11_figures yX11_figures, Cond.code yX11_figures cX11_figures 5 (some .boolean), Cond.constantLong RX11 87 (48), Cond.constantLong RX11 89 (57), Cond.methodLink RX11 72 yX11_in, Cond.static yX11_in, Cond.code yX11_in cX11_in 6 (some .boolean), Cond.methodLink RX11 100 yX11_coinItem, Cond.instanceMethod yX11_coinItem, Cond.selects RX11 yX11_coinItem yX11_coinItem, Cond.code yX11_coinItem cX11_coinItem 3 (some .boolean), Cond.fieldLink RX11 16 "SevenOnStrikeModel" "coins" "[I", Cond.methodLink RX11 106 yX11_sumItem, Cond.instanceMethod yX11_sumItem, Cond.selects RX11 yX11_sumItem yX11_sumItem, Cond.code yX11_sumItem cX11_sumItem 6 (some .boolean), Cond.fieldLink RX11 28 "SevenOnStrikeModel" "sums" "[I", Cond.methodLink RX11 97 yX11_isSign]
def wsX11_fault_r3 : List Cond := [Cond.static yX11_isSign, Cond.code yX11_isSign cX11_isSign 1 (some .boolean)]
def wsX11_fault : List Cond := .code yX11_fault cX11_fault 1 (some .int) :: ((wsX11_fault_r1 ++ (wsX11_fault_r2 ++ wsX11_fault_r3)) ++ wsX110)
def wsX11_strikers : List Cond := .code yX11_strikers cX11_strikers 3 (some .int) :: ([.fieldLink RX11 34 "SevenOnStrikeModel" "now" "[I"] ++ wsX110)
def wsX11_lay_r1 : List Cond := [Cond.fieldLink RX11 13 "SevenOnStrikeModel" "rows" "[I", Cond.fieldLink RX11 28 "SevenOnStrikeModel" "sums" "[I", Cond.fieldLink RX11 16 "SevenOnStrikeModel" "coins" "[I", Cond.fieldLink RX11 19 "SevenOnStrikeModel" "coinMany" "[I", Cond.fieldLink RX11 22 "SevenOnStrikeModel" "faces" "[I", Cond.fieldLink RX11 25 "SevenOnStrikeModel" "weeks" "[I", Cond.fieldLink RX11 31 "SevenOnStrikeModel" "sumMany" "[I", Cond.methodLink RX11 112 yX11_readAll, Cond.instanceMethod yX11_readAll, Cond.selects RX11 yX11_readAll yX11_readAll, Cond.initialized RX11, Cond.code yX11_readAll cX11_readAll 2 (some .int), Cond.fieldLink RX11 80 "SevenOnStrikeModel" "spot" "I", Cond.fieldLink RX11 76 "SevenOnStrikeModel" "length" "I", Cond.methodLink RX11 61 yX11_nothing, Cond.instanceMethod yX11_nothing, Cond.selects RX11 yX11_nothing yX11_nothing, Cond.code yX11_nothing cX11_nothing 3 none, Cond.methodLink RX11 109 yX11_item, Cond.instanceMethod yX11_item, Cond.selects RX11 yX11_item yX11_item, Cond.code yX11_item cX11_item 2 (some .boolean), Cond.fieldLink RX11 49 "SevenOnStrikeModel" "told" "[I", Cond.constantLong RX11 91 (2)]
def wsX11_lay_r2 : List Cond := [Cond.constantLong RX11 104 (9), Cond.methodLink RX11 83 yX11_letterAt, Cond.instanceMethod yX11_letterAt, Cond.selects RX11 yX11_letterAt yX11_letterAt, Cond.code yX11_letterAt cX11_letterAt 2 (some .int), Cond.fieldLink RX11 7 "SevenOnStrikeModel" "text" "[I", Cond.methodLink RX11 93 yX11_figures, Cond.instanceMethod yX11_figures, Cond.selects RX11 yX11_figures yX11_figures, Cond.code yX11_figures cX11_figures 5 (some .boolean), Cond.constantLong RX11 87 (48), Cond.constantLong RX11 89 (57), Cond.methodLink RX11 72 yX11_in, Cond.static yX11_in, Cond.code yX11_in cX11_in 6 (some .boolean), Cond.methodLink RX11 100 yX11_coinItem, Cond.instanceMethod yX11_coinItem, Cond.selects RX11 yX11_coinItem yX11_coinItem, Cond.code yX11_coinItem cX11_coinItem 3 (some .boolean), Cond.methodLink RX11 106 yX11_sumItem, Cond.instanceMethod yX11_sumItem, Cond.selects RX11 yX11_sumItem yX11_sumItem, Cond.code yX11_sumItem cX11_sumItem 6 (some .boolean), Cond.methodLink RX11 97 yX11_isSign]
def wsX11_lay_r3 : List Cond := [Cond.static yX11_isSign, Cond.code yX11_isSign cX11_isSign 1 (some .boolean), Cond.methodLink RX11 65 yX11_begin, Cond.instanceMethod yX11_begin, Cond.selects RX11 yX11_begin yX11_begin, Cond.code yX11_begin cX11_begin 2 none, Cond.fieldLink RX11 34 "SevenOnStrikeModel" "now" "[I", Cond.fieldLink RX11 119 "SevenOnStrikeModel" "undoMany" "I", Cond.fieldLink RX11 122 "SevenOnStrikeModel" "keptMany" "I", Cond.fieldLink RX11 125 "SevenOnStrikeModel" "darkMany" "I", Cond.methodLink RX11 116 yX11_strikers, Cond.instanceMethod yX11_strikers, Cond.selects RX11 yX11_strikers yX11_strikers, Cond.code yX11_strikers cX11_strikers 3 (some .int)]
def wsX11_lay : List Cond := .code yX11_lay cX11_lay 2 (some .int) :: ((wsX11_lay_r1 ++ (wsX11_lay_r2 ++ wsX11_lay_r3)) ++ wsX110)
def wsX11_isFigure : List Cond := .code yX11_isFigure cX11_isFigure 1 (some .boolean) :: ([.constantLong RX11 104 (9), .methodLink RX11 72 yX11_in, .static yX11_in, .initialized RX11, .code yX11_in cX11_in 6 (some .boolean)])
def wsX11_figure : List Cond := .code yX11_figure cX11_figure 3 (some .int) :: ([.fieldLink RX11 34 "SevenOnStrikeModel" "now" "[I", .methodLink RX11 128 yX11_isFigure, .static yX11_isFigure, .initialized RX11, .code yX11_isFigure cX11_isFigure 1 (some .boolean), .constantLong RX11 104 (9), .methodLink RX11 72 yX11_in, .static yX11_in, .code yX11_in cX11_in 6 (some .boolean)] ++ wsX110)
def wsX11_coin : List Cond := .code yX11_coin cX11_coin 2 (some .int) :: ([.fieldLink RX11 19 "SevenOnStrikeModel" "coinMany" "[I", .fieldLink RX11 16 "SevenOnStrikeModel" "coins" "[I", .methodLink RX11 72 yX11_in, .static yX11_in, .initialized RX11, .code yX11_in cX11_in 6 (some .boolean)] ++ wsX110)
def wsX11_note : List Cond := .code yX11_note cX11_note 2 none :: ([.fieldLink RX11 119 "SevenOnStrikeModel" "undoMany" "I", .fieldLink RX11 37 "SevenOnStrikeModel" "before" "[I", .fieldLink RX11 34 "SevenOnStrikeModel" "now" "[I"] ++ wsX110)
def wsX11_strike : List Cond := .code yX11_strike cX11_strike 3 (some .int) :: ([.fieldLink RX11 34 "SevenOnStrikeModel" "now" "[I", .methodLink RX11 128 yX11_isFigure, .static yX11_isFigure, .initialized RX11, .code yX11_isFigure cX11_isFigure 1 (some .boolean), .constantLong RX11 104 (9), .methodLink RX11 72 yX11_in, .static yX11_in, .code yX11_in cX11_in 6 (some .boolean), .methodLink RX11 131 yX11_note, .instanceMethod yX11_note, .selects RX11 yX11_note yX11_note, .code yX11_note cX11_note 2 none, .fieldLink RX11 119 "SevenOnStrikeModel" "undoMany" "I", .fieldLink RX11 37 "SevenOnStrikeModel" "before" "[I", .methodLink RX11 116 yX11_strikers, .instanceMethod yX11_strikers, .selects RX11 yX11_strikers yX11_strikers, .code yX11_strikers cX11_strikers 3 (some .int)] ++ wsX110)
def wsX11_standIn : List Cond := .code yX11_standIn cX11_standIn 4 (some .int) :: ([.fieldLink RX11 34 "SevenOnStrikeModel" "now" "[I", .methodLink RX11 128 yX11_isFigure, .static yX11_isFigure, .initialized RX11, .code yX11_isFigure cX11_isFigure 1 (some .boolean), .constantLong RX11 104 (9), .methodLink RX11 72 yX11_in, .static yX11_in, .code yX11_in cX11_in 6 (some .boolean), .methodLink RX11 131 yX11_note, .instanceMethod yX11_note, .selects RX11 yX11_note yX11_note, .code yX11_note cX11_note 2 none, .fieldLink RX11 119 "SevenOnStrikeModel" "undoMany" "I", .fieldLink RX11 37 "SevenOnStrikeModel" "before" "[I"] ++ wsX110)
def wsX11_undo : List Cond := .code yX11_undo cX11_undo 2 (some .int) :: ([.fieldLink RX11 119 "SevenOnStrikeModel" "undoMany" "I", .fieldLink RX11 34 "SevenOnStrikeModel" "now" "[I", .fieldLink RX11 37 "SevenOnStrikeModel" "before" "[I"] ++ wsX110)
def wsX11_canSay : List Cond := .code yX11_canSay cX11_canSay 4 (some .boolean) :: ([.fieldLink RX11 34 "SevenOnStrikeModel" "now" "[I"] ++ wsX110)
def wsX11_sayable : List Cond := .code yX11_sayable cX11_sayable 4 (some .int) :: ([.methodLink RX11 134 yX11_canSay, .instanceMethod yX11_canSay, .selects RX11 yX11_canSay yX11_canSay, .initialized RX11, .code yX11_canSay cX11_canSay 4 (some .boolean), .fieldLink RX11 34 "SevenOnStrikeModel" "now" "[I"] ++ wsX110)
def wsX11_said : List Cond := .code yX11_said cX11_said 2 (some .int) :: ([.constantLong RX11 137 (99999), .methodLink RX11 72 yX11_in, .static yX11_in, .initialized RX11, .code yX11_in cX11_in 6 (some .boolean), .methodLink RX11 134 yX11_canSay, .instanceMethod yX11_canSay, .selects RX11 yX11_canSay yX11_canSay, .code yX11_canSay cX11_canSay 4 (some .boolean), .fieldLink RX11 34 "SevenOnStrikeModel" "now" "[I"] ++ wsX110)
def wsX11_next : List Cond := .code yX11_next cX11_next 3 (some .int) :: ([.constantLong RX11 137 (99999), .constant RX11 139 (99999), .methodLink RX11 72 yX11_in, .static yX11_in, .initialized RX11, .code yX11_in cX11_in 6 (some .boolean), .methodLink RX11 134 yX11_canSay, .instanceMethod yX11_canSay, .selects RX11 yX11_canSay yX11_canSay, .code yX11_canSay cX11_canSay 4 (some .boolean), .fieldLink RX11 34 "SevenOnStrikeModel" "now" "[I"] ++ wsX110)
def wsX11_rank : List Cond := .code yX11_rank cX11_rank 2 (some .int) :: ([.constantLong RX11 137 (99999), .methodLink RX11 72 yX11_in, .static yX11_in, .initialized RX11, .code yX11_in cX11_in 6 (some .boolean), .methodLink RX11 140 yX11_sayable, .instanceMethod yX11_sayable, .selects RX11 yX11_sayable yX11_sayable, .code yX11_sayable cX11_sayable 4 (some .int), .methodLink RX11 134 yX11_canSay, .instanceMethod yX11_canSay, .selects RX11 yX11_canSay yX11_canSay, .code yX11_canSay cX11_canSay 4 (some .boolean), .fieldLink RX11 34 "SevenOnStrikeModel" "now" "[I"] ++ wsX110)
def wsX11_kth : List Cond := .code yX11_kth cX11_kth 4 (some .int) :: ([.constantLong RX11 137 (99999), .constant RX11 139 (99999), .methodLink RX11 72 yX11_in, .static yX11_in, .initialized RX11, .code yX11_in cX11_in 6 (some .boolean), .methodLink RX11 134 yX11_canSay, .instanceMethod yX11_canSay, .selects RX11 yX11_canSay yX11_canSay, .code yX11_canSay cX11_canSay 4 (some .boolean), .fieldLink RX11 34 "SevenOnStrikeModel" "now" "[I"] ++ wsX110)
def wsX11_within : List Cond := .code yX11_within cX11_within 2 (some .long) :: ([.constantLong RX11 143 (2000000000), .constantLong RX11 145 (-2000000000)])
def wsX11_numberOf : List Cond := .code yX11_numberOf cX11_numberOf 5 (some .long) :: ([.fieldLink RX11 147 "SevenOnStrikeModel" "sumSpot" "I", .fieldLink RX11 31 "SevenOnStrikeModel" "sumMany" "[I", .fieldLink RX11 28 "SevenOnStrikeModel" "sums" "[I", .constantLong RX11 150 (10), .fieldLink RX11 34 "SevenOnStrikeModel" "now" "[I", .methodLink RX11 97 yX11_isSign, .static yX11_isSign, .initialized RX11, .code yX11_isSign cX11_isSign 1 (some .boolean)] ++ wsX110)
def wsX11_productOf : List Cond := .code yX11_productOf cX11_productOf 4 (some .long) :: ([.fieldLink RX11 147 "SevenOnStrikeModel" "sumSpot" "I", .fieldLink RX11 31 "SevenOnStrikeModel" "sumMany" "[I", .fieldLink RX11 28 "SevenOnStrikeModel" "sums" "[I", .methodLink RX11 152 yX11_numberOf, .instanceMethod yX11_numberOf, .selects RX11 yX11_numberOf yX11_numberOf, .initialized RX11, .code yX11_numberOf cX11_numberOf 5 (some .long), .constantLong RX11 150 (10), .fieldLink RX11 34 "SevenOnStrikeModel" "now" "[I", .methodLink RX11 97 yX11_isSign, .static yX11_isSign, .code yX11_isSign cX11_isSign 1 (some .boolean), .methodLink RX11 156 yX11_within, .static yX11_within, .code yX11_within cX11_within 2 (some .long), .constantLong RX11 143 (2000000000), .constantLong RX11 145 (-2000000000)] ++ wsX110)
def wsX11_worth : List Cond := .code yX11_worth cX11_worth 7 (some .int) :: ([.fieldLink RX11 147 "SevenOnStrikeModel" "sumSpot" "I", .fieldLink RX11 31 "SevenOnStrikeModel" "sumMany" "[I", .fieldLink RX11 28 "SevenOnStrikeModel" "sums" "[I", .methodLink RX11 160 yX11_productOf, .instanceMethod yX11_productOf, .selects RX11 yX11_productOf yX11_productOf, .initialized RX11, .code yX11_productOf cX11_productOf 4 (some .long), .methodLink RX11 152 yX11_numberOf, .instanceMethod yX11_numberOf, .selects RX11 yX11_numberOf yX11_numberOf, .code yX11_numberOf cX11_numberOf 5 (some .long), .constantLong RX11 150 (10), .fieldLink RX11 34 "SevenOnStrikeModel" "now" "[I", .methodLink RX11 97 yX11_isSign, .static yX11_isSign, .code yX11_isSign cX11_isSign 1 (some .boolean), .methodLink RX11 156 yX11_within, .static yX11_within, .code yX11_within cX11_within 2 (some .long), .constantLong RX11 143 (2000000000), .constantLong RX11 145 (-2000000000)] ++ wsX110)
def wsX11_sum_r1 : List Cond := [Cond.constantLong RX11 91 (2), Cond.fieldLink RX11 31 "SevenOnStrikeModel" "sumMany" "[I", Cond.fieldLink RX11 28 "SevenOnStrikeModel" "sums" "[I", Cond.methodLink RX11 72 yX11_in, Cond.static yX11_in, Cond.initialized RX11, Cond.code yX11_in cX11_in 6 (some .boolean), Cond.methodLink RX11 97 yX11_isSign, Cond.static yX11_isSign, Cond.code yX11_isSign cX11_isSign 1 (some .boolean), Cond.methodLink RX11 163 yX11_worth, Cond.instanceMethod yX11_worth, Cond.selects RX11 yX11_worth yX11_worth, Cond.code yX11_worth cX11_worth 7 (some .int), Cond.fieldLink RX11 147 "SevenOnStrikeModel" "sumSpot" "I", Cond.methodLink RX11 160 yX11_productOf, Cond.instanceMethod yX11_productOf, Cond.selects RX11 yX11_productOf yX11_productOf, Cond.code yX11_productOf cX11_productOf 4 (some .long), Cond.methodLink RX11 152 yX11_numberOf, Cond.instanceMethod yX11_numberOf, Cond.selects RX11 yX11_numberOf yX11_numberOf, Cond.code yX11_numberOf cX11_numberOf 5 (some .long), Cond.constantLong RX11 150 (10)]
def wsX11_sum_r2 : List Cond := [Cond.fieldLink RX11 34 "SevenOnStrikeModel" "now" "[I", Cond.methodLink RX11 156 yX11_within, Cond.static yX11_within, Cond.code yX11_within cX11_within 2 (some .long), Cond.constantLong RX11 143 (2000000000), Cond.constantLong RX11 145 (-2000000000)]
def wsX11_sum : List Cond := .code yX11_sum cX11_sum 4 (some .int) :: ((wsX11_sum_r1 ++ wsX11_sum_r2) ++ wsX110)
def wsX11_lettersOf : List Cond := .code yX11_lettersOf cX11_lettersOf 3 (some .int) :: ([])
def wsX11_noteWay : List Cond := .code yX11_noteWay cX11_noteWay 6 none :: ([.fieldLink RX11 170 "SevenOnStrikeModel" "ways" "I", .fieldLink RX11 173 "SevenOnStrikeModel" "shortLetters" "I", .fieldLink RX11 176 "SevenOnStrikeModel" "shortKind" "I", .fieldLink RX11 179 "SevenOnStrikeModel" "shortA" "I", .fieldLink RX11 182 "SevenOnStrikeModel" "shortB" "I", .methodLink RX11 134 yX11_canSay, .instanceMethod yX11_canSay, .selects RX11 yX11_canSay yX11_canSay, .initialized RX11, .code yX11_canSay cX11_canSay 4 (some .boolean), .fieldLink RX11 34 "SevenOnStrikeModel" "now" "[I", .methodLink RX11 167 yX11_lettersOf, .static yX11_lettersOf, .code yX11_lettersOf cX11_lettersOf 3 (some .int)] ++ wsX110)
def wsX11_goWays : List Cond := .code yX11_goWays cX11_goWays 4 none :: ([.fieldLink RX11 170 "SevenOnStrikeModel" "ways" "I", .methodLink RX11 185 yX11_noteWay, .instanceMethod yX11_noteWay, .selects RX11 yX11_noteWay yX11_noteWay, .initialized RX11, .code yX11_noteWay cX11_noteWay 6 none, .fieldLink RX11 173 "SevenOnStrikeModel" "shortLetters" "I", .fieldLink RX11 176 "SevenOnStrikeModel" "shortKind" "I", .fieldLink RX11 179 "SevenOnStrikeModel" "shortA" "I", .fieldLink RX11 182 "SevenOnStrikeModel" "shortB" "I", .methodLink RX11 134 yX11_canSay, .instanceMethod yX11_canSay, .selects RX11 yX11_canSay yX11_canSay, .code yX11_canSay cX11_canSay 4 (some .boolean), .fieldLink RX11 34 "SevenOnStrikeModel" "now" "[I", .methodLink RX11 167 yX11_lettersOf, .static yX11_lettersOf, .code yX11_lettersOf cX11_lettersOf 3 (some .int)] ++ wsX110)
def wsX11_ways_r1 : List Cond := [Cond.constantLong RX11 189 (999), Cond.fieldLink RX11 170 "SevenOnStrikeModel" "ways" "I", Cond.methodLink RX11 72 yX11_in, Cond.static yX11_in, Cond.initialized RX11, Cond.code yX11_in cX11_in 6 (some .boolean), Cond.methodLink RX11 191 yX11_goWays, Cond.instanceMethod yX11_goWays, Cond.selects RX11 yX11_goWays yX11_goWays, Cond.code yX11_goWays cX11_goWays 4 none, Cond.methodLink RX11 185 yX11_noteWay, Cond.instanceMethod yX11_noteWay, Cond.selects RX11 yX11_noteWay yX11_noteWay, Cond.code yX11_noteWay cX11_noteWay 6 none, Cond.fieldLink RX11 173 "SevenOnStrikeModel" "shortLetters" "I", Cond.fieldLink RX11 176 "SevenOnStrikeModel" "shortKind" "I", Cond.fieldLink RX11 179 "SevenOnStrikeModel" "shortA" "I", Cond.fieldLink RX11 182 "SevenOnStrikeModel" "shortB" "I", Cond.methodLink RX11 134 yX11_canSay, Cond.instanceMethod yX11_canSay, Cond.selects RX11 yX11_canSay yX11_canSay, Cond.code yX11_canSay cX11_canSay 4 (some .boolean), Cond.fieldLink RX11 34 "SevenOnStrikeModel" "now" "[I", Cond.methodLink RX11 167 yX11_lettersOf]
def wsX11_ways_r2 : List Cond := [Cond.static yX11_lettersOf, Cond.code yX11_lettersOf cX11_lettersOf 3 (some .int)]
def wsX11_ways : List Cond := .code yX11_ways cX11_ways 2 (some .int) :: ((wsX11_ways_r1 ++ wsX11_ways_r2) ++ wsX110)
def wsX11_shortest_r1 : List Cond := [Cond.constantLong RX11 189 (999), Cond.constantLong RX11 194 (3), Cond.fieldLink RX11 170 "SevenOnStrikeModel" "ways" "I", Cond.fieldLink RX11 173 "SevenOnStrikeModel" "shortLetters" "I", Cond.fieldLink RX11 176 "SevenOnStrikeModel" "shortKind" "I", Cond.fieldLink RX11 179 "SevenOnStrikeModel" "shortA" "I", Cond.fieldLink RX11 182 "SevenOnStrikeModel" "shortB" "I", Cond.methodLink RX11 72 yX11_in, Cond.static yX11_in, Cond.initialized RX11, Cond.code yX11_in cX11_in 6 (some .boolean), Cond.methodLink RX11 191 yX11_goWays, Cond.instanceMethod yX11_goWays, Cond.selects RX11 yX11_goWays yX11_goWays, Cond.code yX11_goWays cX11_goWays 4 none, Cond.methodLink RX11 185 yX11_noteWay, Cond.instanceMethod yX11_noteWay, Cond.selects RX11 yX11_noteWay yX11_noteWay, Cond.code yX11_noteWay cX11_noteWay 6 none, Cond.methodLink RX11 134 yX11_canSay, Cond.instanceMethod yX11_canSay, Cond.selects RX11 yX11_canSay yX11_canSay, Cond.code yX11_canSay cX11_canSay 4 (some .boolean), Cond.fieldLink RX11 34 "SevenOnStrikeModel" "now" "[I"]
def wsX11_shortest_r2 : List Cond := [Cond.methodLink RX11 167 yX11_lettersOf, Cond.static yX11_lettersOf, Cond.code yX11_lettersOf cX11_lettersOf 3 (some .int)]
def wsX11_shortest : List Cond := .code yX11_shortest cX11_shortest 3 (some .int) :: ((wsX11_shortest_r1 ++ wsX11_shortest_r2) ++ wsX110)
def wsX11_goCoins : List Cond := .code yX11_goCoins cX11_goCoins 4 none :: ([.fieldLink RX11 52 "SevenOnStrikeModel" "fewest" "[I", .constant RX11 196 (2000000000), .fieldLink RX11 55 "SevenOnStrikeModel" "many" "[I", .fieldLink RX11 19 "SevenOnStrikeModel" "coinMany" "[I", .fieldLink RX11 16 "SevenOnStrikeModel" "coins" "[I", .methodLink RX11 134 yX11_canSay, .instanceMethod yX11_canSay, .selects RX11 yX11_canSay yX11_canSay, .initialized RX11, .code yX11_canSay cX11_canSay 4 (some .boolean), .fieldLink RX11 34 "SevenOnStrikeModel" "now" "[I"] ++ wsX110)
def wsX11_change : List Cond := .code yX11_change cX11_change 2 (some .int) :: ([.constantLong RX11 197 (200), .fieldLink RX11 52 "SevenOnStrikeModel" "fewest" "[I", .constant RX11 196 (2000000000), .methodLink RX11 72 yX11_in, .static yX11_in, .initialized RX11, .code yX11_in cX11_in 6 (some .boolean), .methodLink RX11 199 yX11_goCoins, .instanceMethod yX11_goCoins, .selects RX11 yX11_goCoins yX11_goCoins, .code yX11_goCoins cX11_goCoins 4 none, .fieldLink RX11 55 "SevenOnStrikeModel" "many" "[I", .fieldLink RX11 19 "SevenOnStrikeModel" "coinMany" "[I", .fieldLink RX11 16 "SevenOnStrikeModel" "coins" "[I", .methodLink RX11 134 yX11_canSay, .instanceMethod yX11_canSay, .selects RX11 yX11_canSay yX11_canSay, .code yX11_canSay cX11_canSay 4 (some .boolean), .fieldLink RX11 34 "SevenOnStrikeModel" "now" "[I"] ++ wsX110)
def wsX11_never : List Cond := .code yX11_never cX11_never 3 (some .int) :: ([.fieldLink RX11 55 "SevenOnStrikeModel" "many" "[I", .methodLink RX11 199 yX11_goCoins, .instanceMethod yX11_goCoins, .selects RX11 yX11_goCoins yX11_goCoins, .initialized RX11, .code yX11_goCoins cX11_goCoins 4 none, .fieldLink RX11 52 "SevenOnStrikeModel" "fewest" "[I", .constant RX11 196 (2000000000), .fieldLink RX11 19 "SevenOnStrikeModel" "coinMany" "[I", .fieldLink RX11 16 "SevenOnStrikeModel" "coins" "[I", .methodLink RX11 134 yX11_canSay, .instanceMethod yX11_canSay, .selects RX11 yX11_canSay yX11_canSay, .code yX11_canSay cX11_canSay 4 (some .boolean), .fieldLink RX11 34 "SevenOnStrikeModel" "now" "[I"] ++ wsX110)
def wsX11_pays : List Cond := .code yX11_pays cX11_pays 2 (some .int) :: ([.constantLong RX11 197 (200), .fieldLink RX11 55 "SevenOnStrikeModel" "many" "[I", .methodLink RX11 72 yX11_in, .static yX11_in, .initialized RX11, .code yX11_in cX11_in 6 (some .boolean), .methodLink RX11 199 yX11_goCoins, .instanceMethod yX11_goCoins, .selects RX11 yX11_goCoins yX11_goCoins, .code yX11_goCoins cX11_goCoins 4 none, .fieldLink RX11 52 "SevenOnStrikeModel" "fewest" "[I", .constant RX11 196 (2000000000), .fieldLink RX11 19 "SevenOnStrikeModel" "coinMany" "[I", .fieldLink RX11 16 "SevenOnStrikeModel" "coins" "[I", .methodLink RX11 134 yX11_canSay, .instanceMethod yX11_canSay, .selects RX11 yX11_canSay yX11_canSay, .code yX11_canSay cX11_canSay 4 (some .boolean), .fieldLink RX11 34 "SevenOnStrikeModel" "now" "[I"] ++ wsX110)
def wsX11_daysLeft : List Cond := .code yX11_daysLeft cX11_daysLeft 3 (some .int) :: ([.fieldLink RX11 25 "SevenOnStrikeModel" "weeks" "[I", .fieldLink RX11 34 "SevenOnStrikeModel" "now" "[I"] ++ wsX110)
def wsX11_day : List Cond := .code yX11_day cX11_day 5 (some .int) :: ([.constantLong RX11 202 (9999), .fieldLink RX11 34 "SevenOnStrikeModel" "now" "[I", .methodLink RX11 72 yX11_in, .static yX11_in, .initialized RX11, .code yX11_in cX11_in 6 (some .boolean), .methodLink RX11 204 yX11_daysLeft, .instanceMethod yX11_daysLeft, .selects RX11 yX11_daysLeft yX11_daysLeft, .code yX11_daysLeft cX11_daysLeft 3 (some .int), .fieldLink RX11 25 "SevenOnStrikeModel" "weeks" "[I"] ++ wsX110)
def wsX11_common : List Cond := .code yX11_common cX11_common 5 (some .int) :: ([])
def wsX11_agree : List Cond := .code yX11_agree cX11_agree 2 (some .int) :: ([.fieldLink RX11 25 "SevenOnStrikeModel" "weeks" "[I", .methodLink RX11 204 yX11_daysLeft, .instanceMethod yX11_daysLeft, .selects RX11 yX11_daysLeft yX11_daysLeft, .initialized RX11, .code yX11_daysLeft cX11_daysLeft 3 (some .int), .fieldLink RX11 34 "SevenOnStrikeModel" "now" "[I", .methodLink RX11 207 yX11_common, .static yX11_common, .code yX11_common cX11_common 5 (some .int)] ++ wsX110)
def wsX11_faceOf : List Cond := .code yX11_faceOf cX11_faceOf 2 (some .int) :: ([.fieldLink RX11 34 "SevenOnStrikeModel" "now" "[I"] ++ wsX110)
def wsX11_odds : List Cond := .code yX11_odds cX11_odds 6 (some .int) :: ([.constantLong RX11 211 (18), .fieldLink RX11 22 "SevenOnStrikeModel" "faces" "[I", .methodLink RX11 72 yX11_in, .static yX11_in, .initialized RX11, .code yX11_in cX11_in 6 (some .boolean), .methodLink RX11 213 yX11_faceOf, .instanceMethod yX11_faceOf, .selects RX11 yX11_faceOf yX11_faceOf, .code yX11_faceOf cX11_faceOf 2 (some .int), .fieldLink RX11 34 "SevenOnStrikeModel" "now" "[I", .methodLink RX11 207 yX11_common, .static yX11_common, .code yX11_common cX11_common 5 (some .int)] ++ wsX110)
def wsX11_mean : List Cond := .code yX11_mean cX11_mean 4 (some .int) :: ([.fieldLink RX11 22 "SevenOnStrikeModel" "faces" "[I", .methodLink RX11 72 yX11_in, .static yX11_in, .initialized RX11, .code yX11_in cX11_in 6 (some .boolean), .methodLink RX11 213 yX11_faceOf, .instanceMethod yX11_faceOf, .selects RX11 yX11_faceOf yX11_faceOf, .code yX11_faceOf cX11_faceOf 2 (some .int), .fieldLink RX11 34 "SevenOnStrikeModel" "now" "[I", .methodLink RX11 207 yX11_common, .static yX11_common, .code yX11_common cX11_common 5 (some .int)] ++ wsX110)
def wsX11_dark : List Cond := .code yX11_dark cX11_dark 3 (some .int) :: ([.constantLong RX11 202 (9999), .fieldLink RX11 125 "SevenOnStrikeModel" "darkMany" "I", .fieldLink RX11 43 "SevenOnStrikeModel" "darkOne" "[I", .fieldLink RX11 46 "SevenOnStrikeModel" "darkOther" "[I", .methodLink RX11 72 yX11_in, .static yX11_in, .initialized RX11, .code yX11_in cX11_in 6 (some .boolean), .methodLink RX11 167 yX11_lettersOf, .static yX11_lettersOf, .code yX11_lettersOf cX11_lettersOf 3 (some .int)] ++ wsX110)
def wsX11_forget : List Cond := .code yX11_forget cX11_forget 2 (some .int) :: ([.fieldLink RX11 125 "SevenOnStrikeModel" "darkMany" "I"] ++ wsX110)
def wsX11_isHeard : List Cond := .code yX11_isHeard cX11_isHeard 8 (some .boolean) :: ([.fieldLink RX11 125 "SevenOnStrikeModel" "darkMany" "I", .fieldLink RX11 43 "SevenOnStrikeModel" "darkOne" "[I", .fieldLink RX11 46 "SevenOnStrikeModel" "darkOther" "[I", .fieldLink RX11 34 "SevenOnStrikeModel" "now" "[I", .methodLink RX11 167 yX11_lettersOf, .static yX11_lettersOf, .initialized RX11, .code yX11_lettersOf cX11_lettersOf 3 (some .int)] ++ wsX110)
def wsX11_works : List Cond := .code yX11_works cX11_works 4 (some .int) :: ([.fieldLink RX11 34 "SevenOnStrikeModel" "now" "[I", .methodLink RX11 216 yX11_isHeard, .instanceMethod yX11_isHeard, .selects RX11 yX11_isHeard yX11_isHeard, .initialized RX11, .code yX11_isHeard cX11_isHeard 8 (some .boolean), .fieldLink RX11 125 "SevenOnStrikeModel" "darkMany" "I", .fieldLink RX11 43 "SevenOnStrikeModel" "darkOne" "[I", .fieldLink RX11 46 "SevenOnStrikeModel" "darkOther" "[I", .methodLink RX11 167 yX11_lettersOf, .static yX11_lettersOf, .code yX11_lettersOf cX11_lettersOf 3 (some .int)] ++ wsX110)
def wsX11_sayableBy : List Cond := .code yX11_sayableBy cX11_sayableBy 6 (some .int) :: ([.fieldLink RX11 34 "SevenOnStrikeModel" "now" "[I", .methodLink RX11 140 yX11_sayable, .instanceMethod yX11_sayable, .selects RX11 yX11_sayable yX11_sayable, .initialized RX11, .code yX11_sayable cX11_sayable 4 (some .int), .methodLink RX11 134 yX11_canSay, .instanceMethod yX11_canSay, .selects RX11 yX11_canSay yX11_canSay, .code yX11_canSay cX11_canSay 4 (some .boolean)] ++ wsX110)
def wsX11_costs : List Cond := .code yX11_costs cX11_costs 3 (some .int) :: ([.constantLong RX11 202 (9999), .methodLink RX11 128 yX11_isFigure, .static yX11_isFigure, .initialized RX11, .code yX11_isFigure cX11_isFigure 1 (some .boolean), .constantLong RX11 104 (9), .methodLink RX11 72 yX11_in, .static yX11_in, .code yX11_in cX11_in 6 (some .boolean), .methodLink RX11 219 yX11_sayableBy, .instanceMethod yX11_sayableBy, .selects RX11 yX11_sayableBy yX11_sayableBy, .code yX11_sayableBy cX11_sayableBy 6 (some .int), .fieldLink RX11 34 "SevenOnStrikeModel" "now" "[I", .methodLink RX11 140 yX11_sayable, .instanceMethod yX11_sayable, .selects RX11 yX11_sayable yX11_sayable, .code yX11_sayable cX11_sayable 4 (some .int), .methodLink RX11 134 yX11_canSay, .instanceMethod yX11_canSay, .selects RX11 yX11_canSay yX11_canSay, .code yX11_canSay cX11_canSay 4 (some .boolean)] ++ wsX110)
def wsX11_dearest_r1 : List Cond := [Cond.constantLong RX11 202 (9999), Cond.methodLink RX11 72 yX11_in, Cond.static yX11_in, Cond.initialized RX11, Cond.code yX11_in cX11_in 6 (some .boolean), Cond.methodLink RX11 223 yX11_costs, Cond.instanceMethod yX11_costs, Cond.selects RX11 yX11_costs yX11_costs, Cond.code yX11_costs cX11_costs 3 (some .int), Cond.methodLink RX11 128 yX11_isFigure, Cond.static yX11_isFigure, Cond.code yX11_isFigure cX11_isFigure 1 (some .boolean), Cond.constantLong RX11 104 (9), Cond.methodLink RX11 219 yX11_sayableBy, Cond.instanceMethod yX11_sayableBy, Cond.selects RX11 yX11_sayableBy yX11_sayableBy, Cond.code yX11_sayableBy cX11_sayableBy 6 (some .int), Cond.fieldLink RX11 34 "SevenOnStrikeModel" "now" "[I", Cond.methodLink RX11 140 yX11_sayable, Cond.instanceMethod yX11_sayable, Cond.selects RX11 yX11_sayable yX11_sayable, Cond.code yX11_sayable cX11_sayable 4 (some .int), Cond.methodLink RX11 134 yX11_canSay, Cond.instanceMethod yX11_canSay]
def wsX11_dearest_r2 : List Cond := [Cond.selects RX11 yX11_canSay yX11_canSay, Cond.code yX11_canSay cX11_canSay 4 (some .boolean)]
def wsX11_dearest : List Cond := .code yX11_dearest cX11_dearest 7 (some .int) :: ((wsX11_dearest_r1 ++ wsX11_dearest_r2) ++ wsX110)
def wsX11_sayableIf : List Cond := .code yX11_sayableIf cX11_sayableIf 6 (some .int) :: ([.fieldLink RX11 34 "SevenOnStrikeModel" "now" "[I", .methodLink RX11 219 yX11_sayableBy, .instanceMethod yX11_sayableBy, .selects RX11 yX11_sayableBy yX11_sayableBy, .initialized RX11, .code yX11_sayableBy cX11_sayableBy 6 (some .int), .methodLink RX11 140 yX11_sayable, .instanceMethod yX11_sayable, .selects RX11 yX11_sayable yX11_sayable, .code yX11_sayable cX11_sayable 4 (some .int), .methodLink RX11 134 yX11_canSay, .instanceMethod yX11_canSay, .selects RX11 yX11_canSay yX11_canSay, .code yX11_canSay cX11_canSay 4 (some .boolean)] ++ wsX110)
def wsX11_bargain_r1 : List Cond := [Cond.constantLong RX11 202 (9999), Cond.methodLink RX11 128 yX11_isFigure, Cond.static yX11_isFigure, Cond.initialized RX11, Cond.code yX11_isFigure cX11_isFigure 1 (some .boolean), Cond.constantLong RX11 104 (9), Cond.methodLink RX11 72 yX11_in, Cond.static yX11_in, Cond.code yX11_in cX11_in 6 (some .boolean), Cond.methodLink RX11 226 yX11_sayableIf, Cond.instanceMethod yX11_sayableIf, Cond.selects RX11 yX11_sayableIf yX11_sayableIf, Cond.code yX11_sayableIf cX11_sayableIf 6 (some .int), Cond.fieldLink RX11 34 "SevenOnStrikeModel" "now" "[I", Cond.methodLink RX11 219 yX11_sayableBy, Cond.instanceMethod yX11_sayableBy, Cond.selects RX11 yX11_sayableBy yX11_sayableBy, Cond.code yX11_sayableBy cX11_sayableBy 6 (some .int), Cond.methodLink RX11 140 yX11_sayable, Cond.instanceMethod yX11_sayable, Cond.selects RX11 yX11_sayable yX11_sayable, Cond.code yX11_sayable cX11_sayable 4 (some .int), Cond.methodLink RX11 134 yX11_canSay, Cond.instanceMethod yX11_canSay]
def wsX11_bargain_r2 : List Cond := [Cond.selects RX11 yX11_canSay yX11_canSay, Cond.code yX11_canSay cX11_canSay 4 (some .boolean)]
def wsX11_bargain : List Cond := .code yX11_bargain cX11_bargain 4 (some .int) :: ((wsX11_bargain_r1 ++ wsX11_bargain_r2) ++ wsX110)
def wsX11_days : List Cond := .code yX11_days cX11_days 9 (some .int) :: ([.constantLong RX11 202 (9999), .constantLong RX11 229 (50), .fieldLink RX11 58 "SevenOnStrikeModel" "was" "[I", .fieldLink RX11 34 "SevenOnStrikeModel" "now" "[I", .constantLong RX11 231 (7919), .constantLong RX11 233 (6151), .constantLong RX11 235 (65521), .constantLong RX11 237 (4), .constantLong RX11 150 (10), .methodLink RX11 72 yX11_in, .static yX11_in, .initialized RX11, .code yX11_in cX11_in 6 (some .boolean), .methodLink RX11 140 yX11_sayable, .instanceMethod yX11_sayable, .selects RX11 yX11_sayable yX11_sayable, .code yX11_sayable cX11_sayable 4 (some .int), .methodLink RX11 134 yX11_canSay, .instanceMethod yX11_canSay, .selects RX11 yX11_canSay yX11_canSay, .code yX11_canSay cX11_canSay 4 (some .boolean)] ++ wsX110)
def wsX11_keep : List Cond := .code yX11_keep cX11_keep 2 (some .int) :: ([.fieldLink RX11 122 "SevenOnStrikeModel" "keptMany" "I", .fieldLink RX11 40 "SevenOnStrikeModel" "kept" "[I", .fieldLink RX11 34 "SevenOnStrikeModel" "now" "[I"] ++ wsX110)
def wsX11_back : List Cond := .code yX11_back cX11_back 2 (some .int) :: ([.fieldLink RX11 122 "SevenOnStrikeModel" "keptMany" "I", .fieldLink RX11 34 "SevenOnStrikeModel" "now" "[I", .fieldLink RX11 40 "SevenOnStrikeModel" "kept" "[I", .fieldLink RX11 119 "SevenOnStrikeModel" "undoMany" "I"] ++ wsX110)
def wsX11_count : List Cond := .code yX11_count cX11_count 2 (some .int) :: ([.fieldLink RX11 19 "SevenOnStrikeModel" "coinMany" "[I", .fieldLink RX11 22 "SevenOnStrikeModel" "faces" "[I", .fieldLink RX11 25 "SevenOnStrikeModel" "weeks" "[I", .fieldLink RX11 125 "SevenOnStrikeModel" "darkMany" "I", .fieldLink RX11 119 "SevenOnStrikeModel" "undoMany" "I", .fieldLink RX11 122 "SevenOnStrikeModel" "keptMany" "I", .fieldLink RX11 76 "SevenOnStrikeModel" "length" "I", .methodLink RX11 116 yX11_strikers, .instanceMethod yX11_strikers, .selects RX11 yX11_strikers yX11_strikers, .initialized RX11, .code yX11_strikers cX11_strikers 3 (some .int), .fieldLink RX11 34 "SevenOnStrikeModel" "now" "[I"] ++ wsX110)
def wsJ9_max_7cf53 : List Cond := .code yJ9_max_7cf53 cJ9_max_7cf53 2 (some .int) :: ([])
def wsJ9_max_f86c9 : List Cond := .code yJ9_max_f86c9 cJ9_max_f86c9 4 (some .long) :: ([])
def wsJ9_min_7cf53 : List Cond := .code yJ9_min_7cf53 cJ9_min_7cf53 2 (some .int) :: ([])
def wsJ9_min_f86c9 : List Cond := .code yJ9_min_f86c9 cJ9_min_f86c9 4 (some .long) :: ([])
def wsL_law_r1 : List Cond := [Cond.classLink RL 7 RX10, Cond.instantiable RX10 9, Cond.initialized RX10, Cond.classLink RL 10 RX11, Cond.instantiable RX11 28, Cond.initialized RX11, Cond.methodLink RL 9 yX10_init, Cond.instanceMethod yX10_init, Cond.code yX10_init cX10_init 1 none, Cond.methodLink RX10 1 objectInit, Cond.instanceMethod objectInit, Cond.code objectInit ⟨#[0xb1]⟩ 1 none, Cond.classLink RX10 7 RX7, Cond.instantiable RX7 2, Cond.initialized RX7, Cond.fieldLink RX10 10 "SevenOnStrike" "text" "LSevenOnStrike$Text;", Cond.classLink RX10 16 RX0, Cond.instantiable RX0 2, Cond.initialized RX0, Cond.fieldLink RX10 19 "SevenOnStrike" "figures" "LSevenOnStrike$Figures;", Cond.classLink RX10 23 RX4, Cond.instantiable RX4 3, Cond.initialized RX4, Cond.fieldLink RX10 26 "SevenOnStrike" "past" "LSevenOnStrike$Past;"]
def wsL_law_r2 : List Cond := [Cond.classLink RX10 30 RX1, Cond.instantiable RX1 2, Cond.initialized RX1, Cond.fieldLink RX10 33 "SevenOnStrike" "kept" "LSevenOnStrike$Kept;", Cond.classLink RX10 37 RX2, Cond.instantiable RX2 3, Cond.initialized RX2, Cond.fieldLink RX10 40 "SevenOnStrike" "night" "LSevenOnStrike$Night;", Cond.classLink RX10 44 RX5, Cond.instantiable RX5 7, Cond.initialized RX5, Cond.fieldLink RX10 47 "SevenOnStrike" "speech" "LSevenOnStrike$Speech;", Cond.classLink RX10 51 RX8, Cond.instantiable RX8 1, Cond.initialized RX8, Cond.fieldLink RX10 54 "SevenOnStrike" "till" "LSevenOnStrike$Till;", Cond.classLink RX10 58 RX9, Cond.instantiable RX9 7, Cond.initialized RX9, Cond.fieldLink RX10 61 "SevenOnStrike" "laid" "LSevenOnStrike$Told;", Cond.fieldLink RX10 65 "SevenOnStrike" "draft" "LSevenOnStrike$Told;", Cond.instanceMethod yX7_init, Cond.code yX7_init cX7_init 1 none, Cond.methodLink RX7 1 objectInit]
def wsL_law_r3 : List Cond := [Cond.arrayClass .byte, Cond.fieldLink RX7 9 "SevenOnStrike$Text" "letters" "[B", Cond.fieldLink RX7 13 "SevenOnStrike$Text" "length" "I", Cond.instanceMethod yX0_init, Cond.code yX0_init cX0_init 1 none, Cond.methodLink RX0 3 objectInit, Cond.fieldLink RX0 9 "SevenOnStrike$Figures" "mask" "I", Cond.arrayClass .int, Cond.fieldLink RX0 15 "SevenOnStrike$Figures" "standIns" "[I", Cond.instanceMethod yX4_init, Cond.code yX4_init cX4_init 1 none, Cond.methodLink RX4 1 objectInit, Cond.fieldLink RX4 9 "SevenOnStrike$Past" "changed" "[I", Cond.fieldLink RX4 13 "SevenOnStrike$Past" "before" "[I", Cond.fieldLink RX4 16 "SevenOnStrike$Past" "size" "I", Cond.instanceMethod yX1_init, Cond.code yX1_init cX1_init 1 none, Cond.methodLink RX1 1 objectInit, Cond.classLink RX1 7 RX0, Cond.fieldLink RX1 10 "SevenOnStrike$Kept" "rows" "[LSevenOnStrike$Figures;", Cond.fieldLink RX1 16 "SevenOnStrike$Kept" "size" "I", Cond.instanceMethod yX2_init, Cond.code yX2_init cX2_init 1 none, Cond.methodLink RX2 1 objectInit]
def wsL_law_r4 : List Cond := [Cond.fieldLink RX2 9 "SevenOnStrike$Night" "told" "[I", Cond.fieldLink RX2 13 "SevenOnStrike$Night" "heard" "[I", Cond.fieldLink RX2 16 "SevenOnStrike$Night" "size" "I", Cond.instanceMethod yX5_init, Cond.code yX5_init cX5_init 1 none, Cond.methodLink RX5 3 objectInit, Cond.arrayClass .boolean, Cond.fieldLink RX5 9 "SevenOnStrike$Speech" "canSay" "[Z", Cond.fieldLink RX5 15 "SevenOnStrike$Speech" "rowMask" "I", Cond.fieldLink RX5 19 "SevenOnStrike$Speech" "found" "I", Cond.fieldLink RX5 22 "SevenOnStrike$Speech" "letters" "I", Cond.fieldLink RX5 25 "SevenOnStrike$Speech" "kind" "I", Cond.fieldLink RX5 28 "SevenOnStrike$Speech" "first" "I", Cond.fieldLink RX5 31 "SevenOnStrike$Speech" "second" "I", Cond.instanceMethod yX8_init, Cond.code yX8_init cX8_init 1 none, Cond.methodLink RX8 3 objectInit, Cond.fieldLink RX8 9 "SevenOnStrike$Till" "row" "[I", Cond.instanceMethod yX9_init, Cond.code yX9_init cX9_init 1 none, Cond.methodLink RX9 3 objectInit, Cond.classLink RX9 9 RX0, Cond.fieldLink RX9 12 "SevenOnStrike$Told" "figures" "LSevenOnStrike$Figures;", Cond.fieldLink RX9 18 "SevenOnStrike$Told" "coins" "[I"]
def wsL_law_r5 : List Cond := [Cond.fieldLink RX9 22 "SevenOnStrike$Told" "coinCount" "I", Cond.fieldLink RX9 26 "SevenOnStrike$Told" "sides" "I", Cond.fieldLink RX9 29 "SevenOnStrike$Told" "week" "I", Cond.classLink RX9 32 RX6, Cond.instantiable RX6 2, Cond.initialized RX6, Cond.fieldLink RX9 35 "SevenOnStrike$Told" "sum" "LSevenOnStrike$Sum;", Cond.fieldLink RX9 39 "SevenOnStrike$Told" "at" "I", Cond.instanceMethod yX6_init, Cond.code yX6_init cX6_init 1 none, Cond.methodLink RX6 1 objectInit, Cond.fieldLink RX6 9 "SevenOnStrike$Sum" "letters" "[B", Cond.fieldLink RX6 13 "SevenOnStrike$Sum" "length" "I", Cond.methodLink RX10 70 yX7_copyFrom, Cond.instanceMethod yX7_copyFrom, Cond.selects RX7 yX7_copyFrom yX7_copyFrom, Cond.code yX7_copyFrom cX7_copyFrom 3 none, Cond.methodLink RX7 17 yX7_clear, Cond.instanceMethod yX7_clear, Cond.selects RX7 yX7_clear yX7_clear, Cond.code yX7_clear cX7_clear 1 none, Cond.methodLink RX7 20 yJ0_length_8abf5, Cond.instanceMethod yJ0_length_8abf5, Cond.selects RJ0 yJ0_length_8abf5 yJ0_length_8abf5]
def wsL_law_r6 : List Cond := [Cond.initialized RJ0, Cond.code yJ0_length_8abf5 cJ0_length_8abf5 1 (some .int), Cond.fieldLink RJ0 9 "java/lang/String" "value" "[B", Cond.methodLink RJ0 335 yJ0_coder_7d493, Cond.instanceMethod yJ0_coder_7d493, Cond.selects RJ0 yJ0_coder_7d493 yJ0_coder_7d493, Cond.code yJ0_coder_7d493 cJ0_coder_7d493 1 (some .byte), Cond.fieldLink RJ0 38 "java/lang/String" "COMPACT_STRINGS" "Z", Cond.fieldLink RJ0 15 "java/lang/String" "coder" "B", Cond.methodLink RX7 25 yJ0_charAt_5068e, Cond.instanceMethod yJ0_charAt_5068e, Cond.selects RJ0 yJ0_charAt_5068e yJ0_charAt_5068e, Cond.code yJ0_charAt_5068e cJ0_charAt_5068e 2 (some .char), Cond.methodLink RJ0 492 yJ0_isLatin1_aae02, Cond.instanceMethod yJ0_isLatin1_aae02, Cond.selects RJ0 yJ0_isLatin1_aae02 yJ0_isLatin1_aae02, Cond.code yJ0_isLatin1_aae02 cJ0_isLatin1_aae02 1 (some .boolean), Cond.methodLink RJ0 495 yJ1_charAt_3b067, Cond.static yJ1_charAt_3b067, Cond.initialized RJ1, Cond.code yJ1_charAt_3b067 cJ1_charAt_3b067 2 (some .char), Cond.methodLink RJ1 9 yJ0_checkIndex_df160, Cond.static yJ0_checkIndex_df160, Cond.code yJ0_checkIndex_df160 cJ0_checkIndex_df160 2 none]
def wsL_law_r7 : List Cond := [Cond.fieldLink RJ0 1053 "jdk/internal/util/Preconditions" "SIOOBE_FORMATTER" "Ljava/util/function/BiFunction;", Cond.methodLink RJ0 1059 yJ3_checkIndex_8e157, Cond.static yJ3_checkIndex_8e157, Cond.initialized RJ3, Cond.code yJ3_checkIndex_8e157 cJ3_checkIndex_8e157 3 (some .int), Cond.methodLink RJ0 498 yJ2_charAt_3b067, Cond.static yJ2_charAt_3b067, Cond.initialized RJ2, Cond.code yJ2_charAt_3b067 cJ2_charAt_3b067 2 (some .char), Cond.methodLink RJ2 67 yJ2_checkIndex_2214a, Cond.static yJ2_checkIndex_2214a, Cond.code yJ2_checkIndex_2214a cJ2_checkIndex_2214a 2 none, Cond.methodLink RJ2 48 yJ2_length_9d52b, Cond.static yJ2_length_9d52b, Cond.code yJ2_length_9d52b cJ2_length_9d52b 1 (some .int), Cond.methodLink RJ2 414 yJ0_checkIndex_df160, Cond.methodLink RJ2 71 yJ2_getChar_3b067, Cond.static yJ2_getChar_3b067, Cond.code yJ2_getChar_3b067 cJ2_getChar_3b067 2 (some .char), Cond.fieldLink RJ2 44 "java/lang/StringUTF16" "$assertionsDisabled" "Z", Cond.fieldLink RJ2 59 "java/lang/StringUTF16" "HI_BYTE_SHIFT" "I", Cond.fieldLink RJ2 63 "java/lang/StringUTF16" "LO_BYTE_SHIFT" "I", Cond.methodLink RX7 29 yX7_append, Cond.instanceMethod yX7_append]
def wsL_law_r8 : List Cond := [Cond.selects RX7 yX7_append yX7_append, Cond.code yX7_append cX7_append 2 (some .boolean), Cond.methodLink RX10 74 yX10_layText, Cond.instanceMethod yX10_layText, Cond.selects RX10 yX10_layText yX10_layText, Cond.code yX10_layText cX10_layText 2 (some .boolean), Cond.fieldLink RX10 233 "SevenOnStrike$Told" "figures" "LSevenOnStrike$Figures;", Cond.fieldLink RX10 215 "SevenOnStrike$Night" "size" "I", Cond.fieldLink RX10 128 "SevenOnStrike$Past" "size" "I", Cond.fieldLink RX10 229 "SevenOnStrike$Kept" "size" "I", Cond.methodLink RX10 89 yX9_readFrom, Cond.instanceMethod yX9_readFrom, Cond.selects RX9 yX9_readFrom yX9_readFrom, Cond.code yX9_readFrom cX9_readFrom 4 (some .int), Cond.fieldLink RX9 45 "SevenOnStrike$Sum" "length" "I", Cond.fieldLink RX9 50 "SevenOnStrike$Text" "length" "I", Cond.methodLink RX9 42 yX0_clear, Cond.instanceMethod yX0_clear, Cond.selects RX0 yX0_clear yX0_clear, Cond.code yX0_clear cX0_clear 2 none, Cond.methodLink RX9 51 yX9_readItem, Cond.instanceMethod yX9_readItem, Cond.selects RX9 yX9_readItem yX9_readItem, Cond.code yX9_readItem cX9_readItem 3 (some .boolean)]
def wsL_law_r9 : List Cond := [Cond.methodLink RX9 55 yX7_letterAt, Cond.instanceMethod yX7_letterAt, Cond.selects RX7 yX7_letterAt yX7_letterAt, Cond.code yX7_letterAt cX7_letterAt 2 (some .int), Cond.static yX10_isWithin, Cond.code yX10_isWithin cX10_isWithin 3 (some .boolean), Cond.methodLink RX9 59 yX9_readStrike, Cond.instanceMethod yX9_readStrike, Cond.selects RX9 yX9_readStrike yX9_readStrike, Cond.code yX9_readStrike cX9_readStrike 3 (some .boolean), Cond.fieldLink RX9 85 "SevenOnStrike$Figures" "mask" "I", Cond.methodLink RX9 77 yX9_readNumber, Cond.instanceMethod yX9_readNumber, Cond.selects RX9 yX9_readNumber yX9_readNumber, Cond.code yX9_readNumber cX9_readNumber 4 (some .int), Cond.methodLink RX9 108 Lib.Math.max.name, Cond.static Lib.Math.max.name, Cond.initialized "java/lang/Math", Cond.code Lib.Math.max.name Lib.Math.max.code 2 (some .int), Cond.methodLink RX9 98 yX9_isDigit, Cond.static yX9_isDigit, Cond.code yX9_isDigit cX9_isDigit 1 (some .boolean), Cond.static yX10_isFigure, Cond.code yX10_isFigure cX10_isFigure 1 (some .boolean)]
def wsL_law_r10 : List Cond := [Cond.methodLink RX10 100 yX10_isWithin, Cond.methodLink RX9 62 yX9_readStandIn, Cond.instanceMethod yX9_readStandIn, Cond.selects RX9 yX9_readStandIn yX9_readStandIn, Cond.code yX9_readStandIn cX9_readStandIn 4 (some .boolean), Cond.fieldLink RX9 88 "SevenOnStrike$Figures" "standIns" "[I", Cond.methodLink RX9 65 yX9_readCoin, Cond.instanceMethod yX9_readCoin, Cond.selects RX9 yX9_readCoin yX9_readCoin, Cond.code yX9_readCoin cX9_readCoin 3 (some .boolean), Cond.methodLink RX9 91 yX9_hasCoin, Cond.instanceMethod yX9_hasCoin, Cond.selects RX9 yX9_hasCoin yX9_hasCoin, Cond.code yX9_hasCoin cX9_hasCoin 3 (some .boolean), Cond.methodLink RX9 68 yX9_readSides, Cond.instanceMethod yX9_readSides, Cond.selects RX9 yX9_readSides yX9_readSides, Cond.code yX9_readSides cX9_readSides 2 (some .boolean), Cond.methodLink RX9 71 yX9_readWeek, Cond.instanceMethod yX9_readWeek, Cond.selects RX9 yX9_readWeek yX9_readWeek, Cond.code yX9_readWeek cX9_readWeek 2 (some .boolean), Cond.methodLink RX9 74 yX9_readSum, Cond.instanceMethod yX9_readSum]
def wsL_law_r11 : List Cond := [Cond.selects RX9 yX9_readSum yX9_readSum, Cond.code yX9_readSum cX9_readSum 5 (some .boolean), Cond.methodLink RX9 101 yX6_isSign, Cond.static yX6_isSign, Cond.code yX6_isSign cX6_isSign 1 (some .boolean), Cond.methodLink RX9 104 yX6_append, Cond.instanceMethod yX6_append, Cond.selects RX6 yX6_append yX6_append, Cond.code yX6_append cX6_append 2 none, Cond.methodLink RX10 234 yX0_copyFrom, Cond.instanceMethod yX0_copyFrom, Cond.selects RX0 yX0_copyFrom yX0_copyFrom, Cond.code yX0_copyFrom cX0_copyFrom 2 none, Cond.methodLink RX0 25 arraycopyName, Cond.native arraycopyName, Cond.static arraycopyName, Cond.initialized "java/lang/System", Cond.methodLink RX10 78 yX7_clear, Cond.methodLink RL 12 yX11_init, Cond.instanceMethod yX11_init, Cond.code yX11_init cX11_init 1 none, Cond.methodLink RX11 1 objectInit, Cond.fieldLink RX11 7 "SevenOnStrikeModel" "text" "[I", Cond.fieldLink RX11 13 "SevenOnStrikeModel" "rows" "[I"]
def wsL_law_r12 : List Cond := [Cond.fieldLink RX11 16 "SevenOnStrikeModel" "coins" "[I", Cond.fieldLink RX11 19 "SevenOnStrikeModel" "coinMany" "[I", Cond.fieldLink RX11 22 "SevenOnStrikeModel" "faces" "[I", Cond.fieldLink RX11 25 "SevenOnStrikeModel" "weeks" "[I", Cond.fieldLink RX11 28 "SevenOnStrikeModel" "sums" "[I", Cond.fieldLink RX11 31 "SevenOnStrikeModel" "sumMany" "[I", Cond.fieldLink RX11 34 "SevenOnStrikeModel" "now" "[I", Cond.fieldLink RX11 37 "SevenOnStrikeModel" "before" "[I", Cond.fieldLink RX11 40 "SevenOnStrikeModel" "kept" "[I", Cond.fieldLink RX11 43 "SevenOnStrikeModel" "darkOne" "[I", Cond.fieldLink RX11 46 "SevenOnStrikeModel" "darkOther" "[I", Cond.fieldLink RX11 49 "SevenOnStrikeModel" "told" "[I", Cond.fieldLink RX11 52 "SevenOnStrikeModel" "fewest" "[I", Cond.fieldLink RX11 55 "SevenOnStrikeModel" "many" "[I", Cond.fieldLink RX11 58 "SevenOnStrikeModel" "was" "[I", Cond.methodLink RX11 61 yX11_nothing, Cond.instanceMethod yX11_nothing, Cond.selects RX11 yX11_nothing yX11_nothing, Cond.code yX11_nothing cX11_nothing 3 none, Cond.methodLink RX11 65 yX11_begin, Cond.instanceMethod yX11_begin, Cond.selects RX11 yX11_begin yX11_begin, Cond.code yX11_begin cX11_begin 2 none, Cond.fieldLink RX11 119 "SevenOnStrikeModel" "undoMany" "I"]
def wsL_law_r13 : List Cond := [Cond.fieldLink RX11 122 "SevenOnStrikeModel" "keptMany" "I", Cond.fieldLink RX11 125 "SevenOnStrikeModel" "darkMany" "I", Cond.methodLink RL 13 yX10_write, Cond.instanceMethod yX10_write, Cond.selects RX10 yX10_write yX10_write, Cond.code yX10_write cX10_write 2 (some .int), Cond.fieldLink RX10 85 "SevenOnStrike$Text" "length" "I", Cond.methodLink RX10 81 yX7_append, Cond.methodLink RL 17 yX11_write, Cond.instanceMethod yX11_write, Cond.selects RX11 yX11_write yX11_write, Cond.code yX11_write cX11_write 2 (some .int), Cond.constantLong RX11 68 (32), Cond.constantLong RX11 70 (126), Cond.fieldLink RX11 76 "SevenOnStrikeModel" "length" "I", Cond.methodLink RX11 72 yX11_in, Cond.static yX11_in, Cond.code yX11_in cX11_in 6 (some .boolean), Cond.methodLink RL 18 yX10_wipe, Cond.instanceMethod yX10_wipe, Cond.selects RX10 yX10_wipe yX10_wipe, Cond.code yX10_wipe cX10_wipe 2 (some .int), Cond.methodLink RL 22 yX11_wipe, Cond.instanceMethod yX11_wipe]
def wsL_law_r14 : List Cond := [Cond.selects RX11 yX11_wipe yX11_wipe, Cond.code yX11_wipe cX11_wipe 2 (some .int), Cond.methodLink RL 23 yX10_fault, Cond.instanceMethod yX10_fault, Cond.selects RX10 yX10_fault yX10_fault, Cond.code yX10_fault cX10_fault 1 (some .int), Cond.methodLink RL 26 yX11_fault, Cond.instanceMethod yX11_fault, Cond.selects RX11 yX11_fault yX11_fault, Cond.code yX11_fault cX11_fault 1 (some .int), Cond.methodLink RX11 112 yX11_readAll, Cond.instanceMethod yX11_readAll, Cond.selects RX11 yX11_readAll yX11_readAll, Cond.code yX11_readAll cX11_readAll 2 (some .int), Cond.fieldLink RX11 80 "SevenOnStrikeModel" "spot" "I", Cond.methodLink RX11 109 yX11_item, Cond.instanceMethod yX11_item, Cond.selects RX11 yX11_item yX11_item, Cond.code yX11_item cX11_item 2 (some .boolean), Cond.constantLong RX11 91 (2), Cond.constantLong RX11 104 (9), Cond.methodLink RX11 83 yX11_letterAt, Cond.instanceMethod yX11_letterAt, Cond.selects RX11 yX11_letterAt yX11_letterAt]
def wsL_law_r15 : List Cond := [Cond.code yX11_letterAt cX11_letterAt 2 (some .int), Cond.methodLink RX11 93 yX11_figures, Cond.instanceMethod yX11_figures, Cond.selects RX11 yX11_figures yX11_figures, Cond.code yX11_figures cX11_figures 5 (some .boolean), Cond.constantLong RX11 87 (48), Cond.constantLong RX11 89 (57), Cond.methodLink RX11 100 yX11_coinItem, Cond.instanceMethod yX11_coinItem, Cond.selects RX11 yX11_coinItem yX11_coinItem, Cond.code yX11_coinItem cX11_coinItem 3 (some .boolean), Cond.methodLink RX11 106 yX11_sumItem, Cond.instanceMethod yX11_sumItem, Cond.selects RX11 yX11_sumItem yX11_sumItem, Cond.code yX11_sumItem cX11_sumItem 6 (some .boolean), Cond.methodLink RX11 97 yX11_isSign, Cond.static yX11_isSign, Cond.code yX11_isSign cX11_isSign 1 (some .boolean), Cond.methodLink RL 27 yX10_lay, Cond.instanceMethod yX10_lay, Cond.selects RX10 yX10_lay yX10_lay, Cond.code yX10_lay cX10_lay 1 (some .int), Cond.methodLink RX10 93 yX0_strikers, Cond.instanceMethod yX0_strikers]
def wsL_law_r16 : List Cond := [Cond.selects RX0 yX0_strikers yX0_strikers, Cond.code yX0_strikers cX0_strikers 1 (some .int), Cond.methodLink RX0 19 yJ6_bitCount_0f7a4, Cond.static yJ6_bitCount_0f7a4, Cond.initialized RJ6, Cond.code yJ6_bitCount_0f7a4 cJ6_bitCount_0f7a4 1 (some .int), Cond.constant RJ6 265 (1431655765), Cond.constant RJ6 266 (858993459), Cond.constant RJ6 267 (252645135), Cond.methodLink RL 30 yX11_lay, Cond.instanceMethod yX11_lay, Cond.selects RX11 yX11_lay yX11_lay, Cond.code yX11_lay cX11_lay 2 (some .int), Cond.methodLink RX11 116 yX11_strikers, Cond.instanceMethod yX11_strikers, Cond.selects RX11 yX11_strikers yX11_strikers, Cond.code yX11_strikers cX11_strikers 3 (some .int), Cond.methodLink RL 31 yX10_figure, Cond.instanceMethod yX10_figure, Cond.selects RX10 yX10_figure yX10_figure, Cond.code yX10_figure cX10_figure 3 (some .int), Cond.fieldLink RX10 107 "SevenOnStrike$Figures" "standIns" "[I", Cond.methodLink RX10 97 yX10_isFigure, Cond.methodLink RX10 104 yX0_isOnStrike]
def wsL_law_r17 : List Cond := [Cond.instanceMethod yX0_isOnStrike, Cond.selects RX0 yX0_isOnStrike yX0_isOnStrike, Cond.code yX0_isOnStrike cX0_isOnStrike 2 (some .boolean), Cond.methodLink RL 35 yX11_figure, Cond.instanceMethod yX11_figure, Cond.selects RX11 yX11_figure yX11_figure, Cond.code yX11_figure cX11_figure 3 (some .int), Cond.methodLink RX11 128 yX11_isFigure, Cond.static yX11_isFigure, Cond.code yX11_isFigure cX11_isFigure 1 (some .boolean), Cond.methodLink RL 36 yX10_coin, Cond.instanceMethod yX10_coin, Cond.selects RX10 yX10_coin yX10_coin, Cond.code yX10_coin cX10_coin 2 (some .int), Cond.fieldLink RX10 111 "SevenOnStrike$Told" "coinCount" "I", Cond.fieldLink RX10 114 "SevenOnStrike$Told" "coins" "[I", Cond.methodLink RL 39 yX11_coin, Cond.instanceMethod yX11_coin, Cond.selects RX11 yX11_coin yX11_coin, Cond.code yX11_coin cX11_coin 2 (some .int), Cond.methodLink RL 40 yX10_strike, Cond.instanceMethod yX10_strike, Cond.selects RX10 yX10_strike yX10_strike, Cond.code yX10_strike cX10_strike 3 (some .int)]
def wsL_law_r18 : List Cond := [Cond.fieldLink RX10 117 "SevenOnStrike$Figures" "mask" "I", Cond.methodLink RX10 120 yX4_remember, Cond.instanceMethod yX4_remember, Cond.selects RX4 yX4_remember yX4_remember, Cond.code yX4_remember cX4_remember 3 none, Cond.methodLink RX4 20 arraycopyName, Cond.methodLink RL 43 yX11_strike, Cond.instanceMethod yX11_strike, Cond.selects RX11 yX11_strike yX11_strike, Cond.code yX11_strike cX11_strike 3 (some .int), Cond.methodLink RX11 131 yX11_note, Cond.instanceMethod yX11_note, Cond.selects RX11 yX11_note yX11_note, Cond.code yX11_note cX11_note 2 none, Cond.methodLink RL 44 yX10_standIn, Cond.instanceMethod yX10_standIn, Cond.selects RX10 yX10_standIn yX10_standIn, Cond.code yX10_standIn cX10_standIn 4 (some .int), Cond.methodLink RL 47 yX11_standIn, Cond.instanceMethod yX11_standIn, Cond.selects RX11 yX11_standIn yX11_standIn, Cond.code yX11_standIn cX11_standIn 4 (some .int), Cond.methodLink RL 48 yX10_undo, Cond.instanceMethod yX10_undo]
def wsL_law_r19 : List Cond := [Cond.selects RX10 yX10_undo yX10_undo, Cond.code yX10_undo cX10_undo 1 (some .int), Cond.methodLink RX10 124 yX4_takeBack, Cond.instanceMethod yX4_takeBack, Cond.selects RX4 yX4_takeBack yX4_takeBack, Cond.code yX4_takeBack cX4_takeBack 3 (some .boolean), Cond.fieldLink RX4 26 "SevenOnStrike$Figures" "mask" "I", Cond.fieldLink RX4 31 "SevenOnStrike$Figures" "standIns" "[I", Cond.methodLink RL 51 yX11_undo, Cond.instanceMethod yX11_undo, Cond.selects RX11 yX11_undo yX11_undo, Cond.code yX11_undo cX11_undo 2 (some .int), Cond.methodLink RL 52 yX10_said, Cond.instanceMethod yX10_said, Cond.selects RX10 yX10_said yX10_said, Cond.code yX10_said cX10_said 2 (some .int), Cond.constant RX10 131 (99999), Cond.methodLink RX10 132 yX3_canSay, Cond.static yX3_canSay, Cond.initialized RX3, Cond.code yX3_canSay cX3_canSay 4 (some .boolean), Cond.methodLink RL 55 yX11_said, Cond.instanceMethod yX11_said, Cond.selects RX11 yX11_said yX11_said]
def wsL_law_r20 : List Cond := [Cond.code yX11_said cX11_said 2 (some .int), Cond.constantLong RX11 137 (99999), Cond.methodLink RX11 134 yX11_canSay, Cond.instanceMethod yX11_canSay, Cond.selects RX11 yX11_canSay yX11_canSay, Cond.code yX11_canSay cX11_canSay 4 (some .boolean), Cond.methodLink RL 56 yX10_next, Cond.instanceMethod yX10_next, Cond.selects RX10 yX10_next yX10_next, Cond.code yX10_next cX10_next 2 (some .int), Cond.methodLink RX10 138 yX3_sayable, Cond.static yX3_sayable, Cond.code yX3_sayable cX3_sayable 9 (some .int), Cond.methodLink RX3 11 yX3_workingUpTo, Cond.static yX3_workingUpTo, Cond.code yX3_workingUpTo cX3_workingUpTo 2 (some .int), Cond.methodLink RX3 23 yJ6_bitCount_0f7a4, Cond.methodLink RX3 15 yX3_lengthOf, Cond.static yX3_lengthOf, Cond.code yX3_lengthOf cX3_lengthOf 1 (some .int), Cond.methodLink RX3 19 yX3_canSay, Cond.methodLink RX10 142 yX3_atRank, Cond.static yX3_atRank, Cond.code yX3_atRank cX3_atRank 5 (some .int)]
def wsL_law_r21 : List Cond := [Cond.constant RX3 28 (65536), Cond.constant RX3 29 (99999), Cond.methodLink RX3 30 yX3_sayable, Cond.methodLink RL 59 yX11_next, Cond.instanceMethod yX11_next, Cond.selects RX11 yX11_next yX11_next, Cond.code yX11_next cX11_next 3 (some .int), Cond.constant RX11 139 (99999), Cond.methodLink RL 60 yX10_rank, Cond.instanceMethod yX10_rank, Cond.selects RX10 yX10_rank yX10_rank, Cond.code yX10_rank cX10_rank 2 (some .int), Cond.methodLink RL 63 yX11_rank, Cond.instanceMethod yX11_rank, Cond.selects RX11 yX11_rank yX11_rank, Cond.code yX11_rank cX11_rank 2 (some .int), Cond.methodLink RX11 140 yX11_sayable, Cond.instanceMethod yX11_sayable, Cond.selects RX11 yX11_sayable yX11_sayable, Cond.code yX11_sayable cX11_sayable 4 (some .int), Cond.methodLink RL 64 yX10_kth, Cond.instanceMethod yX10_kth, Cond.selects RX10 yX10_kth yX10_kth, Cond.code yX10_kth cX10_kth 2 (some .int)]
def wsL_law_r22 : List Cond := [Cond.methodLink RL 67 yX11_kth, Cond.instanceMethod yX11_kth, Cond.selects RX11 yX11_kth yX11_kth, Cond.code yX11_kth cX11_kth 4 (some .int), Cond.methodLink RL 68 yX10_sum, Cond.instanceMethod yX10_sum, Cond.selects RX10 yX10_sum yX10_sum, Cond.code yX10_sum cX10_sum 2 (some .int), Cond.fieldLink RX10 145 "SevenOnStrike$Told" "sum" "LSevenOnStrike$Sum;", Cond.methodLink RX10 149 yX6_comesTo, Cond.instanceMethod yX6_comesTo, Cond.selects RX6 yX6_comesTo yX6_comesTo, Cond.code yX6_comesTo cX6_comesTo 13 (some .int), Cond.constantLong RX6 21 (10), Cond.methodLink RX6 17 yX6_isSign, Cond.methodLink RX6 23 yX0_heardAs, Cond.static yX0_heardAs, Cond.code yX0_heardAs cX0_heardAs 3 (some .int), Cond.methodLink RX6 29 yX6_keptWithin, Cond.static yX6_keptWithin, Cond.code yX6_keptWithin cX6_keptWithin 2 (some .long), Cond.constantLong RX6 33 (-2000000000), Cond.constantLong RX6 35 (2000000000), Cond.methodLink RX6 37 Lib.MathLoose.min_long.x]
def wsL_law_r23 : List Cond := [Cond.static Lib.MathLoose.min_long.x, Cond.code Lib.MathLoose.min_long.x Lib.MathLoose.min_long.code 4 (some .long), Cond.methodLink RX6 43 Lib.MathLoose.max_long.x, Cond.static Lib.MathLoose.max_long.x, Cond.code Lib.MathLoose.max_long.x Lib.MathLoose.max_long.code 4 (some .long), Cond.methodLink RX10 155 yX6_numbers, Cond.instanceMethod yX6_numbers, Cond.selects RX6 yX6_numbers yX6_numbers, Cond.code yX6_numbers cX6_numbers 3 (some .int), Cond.methodLink RL 71 yX11_sum, Cond.instanceMethod yX11_sum, Cond.selects RX11 yX11_sum yX11_sum, Cond.code yX11_sum cX11_sum 4 (some .int), Cond.methodLink RX11 163 yX11_worth, Cond.instanceMethod yX11_worth, Cond.selects RX11 yX11_worth yX11_worth, Cond.code yX11_worth cX11_worth 7 (some .int), Cond.fieldLink RX11 147 "SevenOnStrikeModel" "sumSpot" "I", Cond.methodLink RX11 160 yX11_productOf, Cond.instanceMethod yX11_productOf, Cond.selects RX11 yX11_productOf yX11_productOf, Cond.code yX11_productOf cX11_productOf 4 (some .long), Cond.methodLink RX11 152 yX11_numberOf, Cond.instanceMethod yX11_numberOf]
def wsL_law_r24 : List Cond := [Cond.selects RX11 yX11_numberOf yX11_numberOf, Cond.code yX11_numberOf cX11_numberOf 5 (some .long), Cond.constantLong RX11 150 (10), Cond.methodLink RX11 156 yX11_within, Cond.static yX11_within, Cond.code yX11_within cX11_within 2 (some .long), Cond.constantLong RX11 143 (2000000000), Cond.constantLong RX11 145 (-2000000000), Cond.methodLink RL 72 yX10_ways, Cond.instanceMethod yX10_ways, Cond.selects RX10 yX10_ways yX10_ways, Cond.code yX10_ways cX10_ways 2 (some .int), Cond.fieldLink RX10 161 "SevenOnStrike$Speech" "found" "I", Cond.methodLink RX10 158 yX5_find, Cond.instanceMethod yX5_find, Cond.selects RX5 yX5_find yX5_find, Cond.code yX5_find cX5_find 4 none, Cond.methodLink RX5 34 yX5_fillRow, Cond.instanceMethod yX5_fillRow, Cond.selects RX5 yX5_fillRow yX5_fillRow, Cond.code yX5_fillRow cX5_fillRow 3 none, Cond.methodLink RX5 45 yX3_canSay, Cond.methodLink RX5 38 yX5_take, Cond.instanceMethod yX5_take]
def wsL_law_r25 : List Cond := [Cond.selects RX5 yX5_take yX5_take, Cond.code yX5_take cX5_take 5 none, Cond.methodLink RX5 50 yX3_lengthOf, Cond.methodLink RX5 42 yX5_takeIfSaid, Cond.instanceMethod yX5_takeIfSaid, Cond.selects RX5 yX5_takeIfSaid yX5_takeIfSaid, Cond.code yX5_takeIfSaid cX5_takeIfSaid 4 none, Cond.methodLink RL 75 yX11_ways, Cond.instanceMethod yX11_ways, Cond.selects RX11 yX11_ways yX11_ways, Cond.code yX11_ways cX11_ways 2 (some .int), Cond.constantLong RX11 189 (999), Cond.fieldLink RX11 170 "SevenOnStrikeModel" "ways" "I", Cond.methodLink RX11 191 yX11_goWays, Cond.instanceMethod yX11_goWays, Cond.selects RX11 yX11_goWays yX11_goWays, Cond.code yX11_goWays cX11_goWays 4 none, Cond.methodLink RX11 185 yX11_noteWay, Cond.instanceMethod yX11_noteWay, Cond.selects RX11 yX11_noteWay yX11_noteWay, Cond.code yX11_noteWay cX11_noteWay 6 none, Cond.fieldLink RX11 173 "SevenOnStrikeModel" "shortLetters" "I", Cond.fieldLink RX11 176 "SevenOnStrikeModel" "shortKind" "I", Cond.fieldLink RX11 179 "SevenOnStrikeModel" "shortA" "I"]
def wsL_law_r26 : List Cond := [Cond.fieldLink RX11 182 "SevenOnStrikeModel" "shortB" "I", Cond.methodLink RX11 167 yX11_lettersOf, Cond.static yX11_lettersOf, Cond.code yX11_lettersOf cX11_lettersOf 3 (some .int), Cond.methodLink RL 76 yX10_shortest, Cond.instanceMethod yX10_shortest, Cond.selects RX10 yX10_shortest yX10_shortest, Cond.code yX10_shortest cX10_shortest 3 (some .int), Cond.fieldLink RX10 164 "SevenOnStrike$Speech" "letters" "I", Cond.fieldLink RX10 167 "SevenOnStrike$Speech" "kind" "I", Cond.fieldLink RX10 170 "SevenOnStrike$Speech" "first" "I", Cond.fieldLink RX10 173 "SevenOnStrike$Speech" "second" "I", Cond.methodLink RL 79 yX11_shortest, Cond.instanceMethod yX11_shortest, Cond.selects RX11 yX11_shortest yX11_shortest, Cond.code yX11_shortest cX11_shortest 3 (some .int), Cond.constantLong RX11 194 (3), Cond.methodLink RL 80 yX10_change, Cond.instanceMethod yX10_change, Cond.selects RX10 yX10_change yX10_change, Cond.code yX10_change cX10_change 2 (some .int), Cond.fieldLink RX10 183 "SevenOnStrike$Till" "row" "[I", Cond.methodLink RX10 176 yX8_countFewest, Cond.instanceMethod yX8_countFewest]
def wsL_law_r27 : List Cond := [Cond.selects RX8 yX8_countFewest yX8_countFewest, Cond.code yX8_countFewest cX8_countFewest 6 none, Cond.fieldLink RX8 19 "SevenOnStrike$Told" "coinCount" "I", Cond.fieldLink RX8 25 "SevenOnStrike$Told" "coins" "[I", Cond.methodLink RX8 34 Lib.Math.min.name, Cond.static Lib.Math.min.name, Cond.code Lib.Math.min.name Lib.Math.min.code 2 (some .int), Cond.methodLink RX8 15 yX8_startWith, Cond.instanceMethod yX8_startWith, Cond.selects RX8 yX8_startWith yX8_startWith, Cond.code yX8_startWith cX8_startWith 4 none, Cond.methodLink RX8 28 yX3_canSay, Cond.methodLink RX10 180 yX8_isMade, Cond.instanceMethod yX8_isMade, Cond.selects RX8 yX8_isMade yX8_isMade, Cond.code yX8_isMade cX8_isMade 2 (some .boolean), Cond.methodLink RL 83 yX11_change, Cond.instanceMethod yX11_change, Cond.selects RX11 yX11_change yX11_change, Cond.code yX11_change cX11_change 2 (some .int), Cond.constantLong RX11 197 (200), Cond.constant RX11 196 (2000000000), Cond.methodLink RX11 199 yX11_goCoins, Cond.instanceMethod yX11_goCoins]
def wsL_law_r28 : List Cond := [Cond.selects RX11 yX11_goCoins yX11_goCoins, Cond.code yX11_goCoins cX11_goCoins 4 none, Cond.methodLink RL 84 yX10_never, Cond.instanceMethod yX10_never, Cond.selects RX10 yX10_never yX10_never, Cond.code yX10_never cX10_never 2 (some .int), Cond.methodLink RL 87 yX11_never, Cond.instanceMethod yX11_never, Cond.selects RX11 yX11_never yX11_never, Cond.code yX11_never cX11_never 3 (some .int), Cond.methodLink RL 88 yX10_pays, Cond.instanceMethod yX10_pays, Cond.selects RX10 yX10_pays yX10_pays, Cond.code yX10_pays cX10_pays 2 (some .int), Cond.methodLink RX10 186 yX8_countWays, Cond.instanceMethod yX8_countWays, Cond.selects RX8 yX8_countWays yX8_countWays, Cond.code yX8_countWays cX8_countWays 6 none, Cond.methodLink RL 91 yX11_pays, Cond.instanceMethod yX11_pays, Cond.selects RX11 yX11_pays yX11_pays, Cond.code yX11_pays cX11_pays 2 (some .int), Cond.methodLink RL 92 yX10_day, Cond.instanceMethod yX10_day]
def wsL_law_r29 : List Cond := [Cond.selects RX10 yX10_day yX10_day, Cond.code yX10_day cX10_day 5 (some .int), Cond.fieldLink RX10 192 "SevenOnStrike$Told" "week" "I", Cond.methodLink RX10 189 yX10_workingDays, Cond.instanceMethod yX10_workingDays, Cond.selects RX10 yX10_workingDays yX10_workingDays, Cond.code yX10_workingDays cX10_workingDays 3 (some .int), Cond.methodLink RL 95 yX11_day, Cond.instanceMethod yX11_day, Cond.selects RX11 yX11_day yX11_day, Cond.code yX11_day cX11_day 5 (some .int), Cond.constantLong RX11 202 (9999), Cond.methodLink RX11 204 yX11_daysLeft, Cond.instanceMethod yX11_daysLeft, Cond.selects RX11 yX11_daysLeft yX11_daysLeft, Cond.code yX11_daysLeft cX11_daysLeft 3 (some .int), Cond.methodLink RL 96 yX10_agree, Cond.instanceMethod yX10_agree, Cond.selects RX10 yX10_agree yX10_agree, Cond.code yX10_agree cX10_agree 2 (some .int), Cond.methodLink RX10 195 yX3_commonDivisor, Cond.static yX3_commonDivisor, Cond.code yX3_commonDivisor cX3_commonDivisor 3 (some .int), Cond.methodLink RL 99 yX11_agree]
def wsL_law_r30 : List Cond := [Cond.instanceMethod yX11_agree, Cond.selects RX11 yX11_agree yX11_agree, Cond.code yX11_agree cX11_agree 2 (some .int), Cond.methodLink RX11 207 yX11_common, Cond.static yX11_common, Cond.code yX11_common cX11_common 5 (some .int), Cond.methodLink RL 100 yX10_odds, Cond.instanceMethod yX10_odds, Cond.selects RX10 yX10_odds yX10_odds, Cond.code yX10_odds cX10_odds 6 (some .int), Cond.fieldLink RX10 198 "SevenOnStrike$Told" "sides" "I", Cond.methodLink RX10 201 yX10_shownBy, Cond.instanceMethod yX10_shownBy, Cond.selects RX10 yX10_shownBy yX10_shownBy, Cond.code yX10_shownBy cX10_shownBy 2 (some .int), Cond.methodLink RX10 205 yX3_lowestTerms, Cond.static yX3_lowestTerms, Cond.code yX3_lowestTerms cX3_lowestTerms 4 (some .int), Cond.methodLink RX3 33 yX3_commonDivisor, Cond.methodLink RL 103 yX11_odds, Cond.instanceMethod yX11_odds, Cond.selects RX11 yX11_odds yX11_odds, Cond.code yX11_odds cX11_odds 6 (some .int), Cond.constantLong RX11 211 (18)]
def wsL_law_r31 : List Cond := [Cond.methodLink RX11 213 yX11_faceOf, Cond.instanceMethod yX11_faceOf, Cond.selects RX11 yX11_faceOf yX11_faceOf, Cond.code yX11_faceOf cX11_faceOf 2 (some .int), Cond.methodLink RL 104 yX10_mean, Cond.instanceMethod yX10_mean, Cond.selects RX10 yX10_mean yX10_mean, Cond.code yX10_mean cX10_mean 4 (some .int), Cond.methodLink RL 107 yX11_mean, Cond.instanceMethod yX11_mean, Cond.selects RX11 yX11_mean yX11_mean, Cond.code yX11_mean cX11_mean 4 (some .int), Cond.methodLink RL 108 yX10_dark, Cond.instanceMethod yX10_dark, Cond.selects RX10 yX10_dark yX10_dark, Cond.code yX10_dark cX10_dark 3 (some .int), Cond.methodLink RX10 209 yX3_lengthOf, Cond.methodLink RX10 212 yX2_tell, Cond.instanceMethod yX2_tell, Cond.selects RX2 yX2_tell yX2_tell, Cond.code yX2_tell cX2_tell 3 (some .boolean), Cond.methodLink RL 111 yX11_dark, Cond.instanceMethod yX11_dark, Cond.selects RX11 yX11_dark yX11_dark]
def wsL_law_r32 : List Cond := [Cond.code yX11_dark cX11_dark 3 (some .int), Cond.methodLink RL 112 yX10_forget, Cond.instanceMethod yX10_forget, Cond.selects RX10 yX10_forget yX10_forget, Cond.code yX10_forget cX10_forget 2 (some .int), Cond.methodLink RL 115 yX11_forget, Cond.instanceMethod yX11_forget, Cond.selects RX11 yX11_forget yX11_forget, Cond.code yX11_forget cX11_forget 2 (some .int), Cond.methodLink RL 116 yX10_works, Cond.instanceMethod yX10_works, Cond.selects RX10 yX10_works yX10_works, Cond.code yX10_works cX10_works 3 (some .int), Cond.methodLink RX10 216 yX2_isSo, Cond.instanceMethod yX2_isSo, Cond.selects RX2 yX2_isSo yX2_isSo, Cond.code yX2_isSo cX2_isSo 4 (some .boolean), Cond.methodLink RX2 20 yX2_isHeardAs, Cond.static yX2_isHeardAs, Cond.code yX2_isHeardAs cX2_isHeardAs 8 (some .boolean), Cond.methodLink RX2 24 yX3_lengthOf, Cond.methodLink RX2 30 yX0_heardAs, Cond.methodLink RL 119 yX11_works, Cond.instanceMethod yX11_works]
def wsL_law_r33 : List Cond := [Cond.selects RX11 yX11_works yX11_works, Cond.code yX11_works cX11_works 4 (some .int), Cond.methodLink RX11 216 yX11_isHeard, Cond.instanceMethod yX11_isHeard, Cond.selects RX11 yX11_isHeard yX11_isHeard, Cond.code yX11_isHeard cX11_isHeard 8 (some .boolean), Cond.methodLink RL 120 yX10_costs, Cond.instanceMethod yX10_costs, Cond.selects RX10 yX10_costs yX10_costs, Cond.code yX10_costs cX10_costs 3 (some .int), Cond.methodLink RX10 220 yX10_costOf, Cond.instanceMethod yX10_costOf, Cond.selects RX10 yX10_costOf yX10_costOf, Cond.code yX10_costOf cX10_costOf 4 (some .int), Cond.methodLink RL 123 yX11_costs, Cond.instanceMethod yX11_costs, Cond.selects RX11 yX11_costs yX11_costs, Cond.code yX11_costs cX11_costs 3 (some .int), Cond.methodLink RX11 219 yX11_sayableBy, Cond.instanceMethod yX11_sayableBy, Cond.selects RX11 yX11_sayableBy yX11_sayableBy, Cond.code yX11_sayableBy cX11_sayableBy 6 (some .int), Cond.methodLink RL 124 yX10_dearest, Cond.instanceMethod yX10_dearest]
def wsL_law_r34 : List Cond := [Cond.selects RX10 yX10_dearest yX10_dearest, Cond.code yX10_dearest cX10_dearest 7 (some .int), Cond.methodLink RL 127 yX11_dearest, Cond.instanceMethod yX11_dearest, Cond.selects RX11 yX11_dearest yX11_dearest, Cond.code yX11_dearest cX11_dearest 7 (some .int), Cond.methodLink RX11 223 yX11_costs, Cond.methodLink RL 128 yX10_bargain, Cond.instanceMethod yX10_bargain, Cond.selects RX10 yX10_bargain yX10_bargain, Cond.code yX10_bargain cX10_bargain 7 (some .int), Cond.methodLink RL 132 yX11_bargain, Cond.instanceMethod yX11_bargain, Cond.selects RX11 yX11_bargain yX11_bargain, Cond.code yX11_bargain cX11_bargain 4 (some .int), Cond.methodLink RX11 226 yX11_sayableIf, Cond.instanceMethod yX11_sayableIf, Cond.selects RX11 yX11_sayableIf yX11_sayableIf, Cond.code yX11_sayableIf cX11_sayableIf 6 (some .int), Cond.methodLink RL 133 yX10_days, Cond.instanceMethod yX10_days, Cond.selects RX10 yX10_days yX10_days, Cond.code yX10_days cX10_days 7 (some .int), Cond.methodLink RX10 223 yX10_drawnFigure]
def wsL_law_r35 : List Cond := [Cond.static yX10_drawnFigure, Cond.code yX10_drawnFigure cX10_drawnFigure 4 (some .int), Cond.constantLong RX10 237 (7919), Cond.constantLong RX10 239 (6151), Cond.constantLong RX10 241 (65521), Cond.constantLong RX10 243 (4), Cond.constantLong RX10 245 (10), Cond.methodLink RL 136 yX11_days, Cond.instanceMethod yX11_days, Cond.selects RX11 yX11_days yX11_days, Cond.code yX11_days cX11_days 9 (some .int), Cond.constantLong RX11 229 (50), Cond.constantLong RX11 231 (7919), Cond.constantLong RX11 233 (6151), Cond.constantLong RX11 235 (65521), Cond.constantLong RX11 237 (4), Cond.methodLink RL 137 yX10_keep, Cond.instanceMethod yX10_keep, Cond.selects RX10 yX10_keep yX10_keep, Cond.code yX10_keep cX10_keep 1 (some .int), Cond.methodLink RX10 226 yX1_put, Cond.instanceMethod yX1_put, Cond.selects RX1 yX1_put yX1_put, Cond.code yX1_put cX1_put 2 (some .boolean)]
def wsL_law_r36 : List Cond := [Cond.methodLink RX1 20 yX0_copyFrom, Cond.methodLink RL 140 yX11_keep, Cond.instanceMethod yX11_keep, Cond.selects RX11 yX11_keep yX11_keep, Cond.code yX11_keep cX11_keep 2 (some .int), Cond.methodLink RL 141 yX10_back, Cond.instanceMethod yX10_back, Cond.selects RX10 yX10_back yX10_back, Cond.code yX10_back cX10_back 1 (some .int), Cond.methodLink RX10 230 yX1_restore, Cond.instanceMethod yX1_restore, Cond.selects RX1 yX1_restore yX1_restore, Cond.code yX1_restore cX1_restore 2 (some .boolean), Cond.methodLink RL 144 yX11_back, Cond.instanceMethod yX11_back, Cond.selects RX11 yX11_back yX11_back, Cond.code yX11_back cX11_back 2 (some .int), Cond.methodLink RL 145 yX10_count, Cond.instanceMethod yX10_count, Cond.selects RX10 yX10_count yX10_count, Cond.code yX10_count cX10_count 2 (some .int), Cond.methodLink RL 148 yX11_count, Cond.instanceMethod yX11_count, Cond.selects RX11 yX11_count yX11_count]
def wsL_law_r37 : List Cond := [Cond.code yX11_count cX11_count 2 (some .int)]
def wsL_law : List Cond := (wsL_law_r1 ++ (wsL_law_r2 ++ (wsL_law_r3 ++ (wsL_law_r4 ++ (wsL_law_r5 ++ (wsL_law_r6 ++ (wsL_law_r7 ++ (wsL_law_r8 ++ (wsL_law_r9 ++ (wsL_law_r10 ++ (wsL_law_r11 ++ (wsL_law_r12 ++ (wsL_law_r13 ++ (wsL_law_r14 ++ (wsL_law_r15 ++ (wsL_law_r16 ++ (wsL_law_r17 ++ (wsL_law_r18 ++ (wsL_law_r19 ++ (wsL_law_r20 ++ (wsL_law_r21 ++ (wsL_law_r22 ++ (wsL_law_r23 ++ (wsL_law_r24 ++ (wsL_law_r25 ++ (wsL_law_r26 ++ (wsL_law_r27 ++ (wsL_law_r28 ++ (wsL_law_r29 ++ (wsL_law_r30 ++ (wsL_law_r31 ++ (wsL_law_r32 ++ (wsL_law_r33 ++ (wsL_law_r34 ++ (wsL_law_r35 ++ (wsL_law_r36 ++ wsL_law_r37)))))))))))))))))))))))))))))))))))) ++ wsX100 ++ wsX110 ++ wsX70 ++ wsX00 ++ wsX40 ++ wsX10 ++ wsX20 ++ wsX50 ++ wsX80 ++ wsX90 ++ wsX60 ++ ([] : List Cond)
theorem inlX0 : ∀ w ∈ wsX00, w ∈ wsL_law := fun _ h => List.mem_append_left _ (List.mem_append_left _ (List.mem_append_left _ (List.mem_append_left _ (List.mem_append_left _ (List.mem_append_left _ (List.mem_append_left _ (List.mem_append_left _ (List.mem_append_right _ h))))))))
theorem inlX1 : ∀ w ∈ wsX10, w ∈ wsL_law := fun _ h => List.mem_append_left _ (List.mem_append_left _ (List.mem_append_left _ (List.mem_append_left _ (List.mem_append_left _ (List.mem_append_left _ (List.mem_append_right _ h))))))
theorem inlX2 : ∀ w ∈ wsX20, w ∈ wsL_law := fun _ h => List.mem_append_left _ (List.mem_append_left _ (List.mem_append_left _ (List.mem_append_left _ (List.mem_append_left _ (List.mem_append_right _ h)))))
theorem inlX4 : ∀ w ∈ wsX40, w ∈ wsL_law := fun _ h => List.mem_append_left _ (List.mem_append_left _ (List.mem_append_left _ (List.mem_append_left _ (List.mem_append_left _ (List.mem_append_left _ (List.mem_append_left _ (List.mem_append_right _ h)))))))
theorem inlX5 : ∀ w ∈ wsX50, w ∈ wsL_law := fun _ h => List.mem_append_left _ (List.mem_append_left _ (List.mem_append_left _ (List.mem_append_left _ (List.mem_append_right _ h))))
theorem inlX6 : ∀ w ∈ wsX60, w ∈ wsL_law := fun _ h => List.mem_append_left _ (List.mem_append_right _ h)
theorem inlX7 : ∀ w ∈ wsX70, w ∈ wsL_law := fun _ h => List.mem_append_left _ (List.mem_append_left _ (List.mem_append_left _ (List.mem_append_left _ (List.mem_append_left _ (List.mem_append_left _ (List.mem_append_left _ (List.mem_append_left _ (List.mem_append_left _ (List.mem_append_right _ h)))))))))
theorem inlX8 : ∀ w ∈ wsX80, w ∈ wsL_law := fun _ h => List.mem_append_left _ (List.mem_append_left _ (List.mem_append_left _ (List.mem_append_right _ h)))
theorem inlX9 : ∀ w ∈ wsX90, w ∈ wsL_law := fun _ h => List.mem_append_left _ (List.mem_append_left _ (List.mem_append_right _ h))
theorem inlX10 : ∀ w ∈ wsX100, w ∈ wsL_law := fun _ h => List.mem_append_left _ (List.mem_append_left _ (List.mem_append_left _ (List.mem_append_left _ (List.mem_append_left _ (List.mem_append_left _ (List.mem_append_left _ (List.mem_append_left _ (List.mem_append_left _ (List.mem_append_left _ (List.mem_append_left _ (List.mem_append_right _ h)))))))))))
theorem inlX11 : ∀ w ∈ wsX110, w ∈ wsL_law := fun _ h => List.mem_append_left _ (List.mem_append_left _ (List.mem_append_left _ (List.mem_append_left _ (List.mem_append_left _ (List.mem_append_left _ (List.mem_append_left _ (List.mem_append_left _ (List.mem_append_left _ (List.mem_append_left _ (List.mem_append_right _ h))))))))))
abbrev vwCl : List vw_C := [(RX0, TX0, 2), (RX1, TX1, 2), (RX2, TX2, 3), (RX4, TX4, 3), (RX5, TX5, 7), (RX6, TX6, 2), (RX7, TX7, 2), (RX8, TX8, 1), (RX9, TX9, 7), (RX10, TX10, 9), (RX11, TX11, 28)]
end
section
theorem dX0_init_0 : decode cX0_init 0 = .ok (.aload_n 0, 1) := by decide +kernel
theorem dX0_init_1 : decode cX0_init 1 = .ok (.invokespecial 3, 3) := by decide +kernel
theorem dX0_init_4 : decode cX0_init 4 = .ok (.aload_n 0, 1) := by decide +kernel
theorem dX0_init_5 : decode cX0_init 5 = .ok (.iconst 0, 1) := by decide +kernel
theorem dX0_init_6 : decode cX0_init 6 = .ok (.putfield 9, 3) := by decide +kernel
theorem dX0_init_9 : decode cX0_init 9 = .ok (.aload_n 0, 1) := by decide +kernel
theorem dX0_init_10 : decode cX0_init 10 = .ok (.bipush 10, 2) := by decide +kernel
theorem dX0_init_12 : decode cX0_init 12 = .ok (.newarray .int, 2) := by decide +kernel
theorem dX0_init_14 : decode cX0_init 14 = .ok (.putfield 15, 3) := by decide +kernel
theorem dX0_init_17 : decode cX0_init 17 = .ok (.return_, 1) := by decide +kernel
theorem dX0_isOnStrike_0 : decode cX0_isOnStrike 0 = .ok (.aload_n 0, 1) := by decide +kernel
theorem dX0_isOnStrike_1 : decode cX0_isOnStrike 1 = .ok (.getfield 9, 3) := by decide +kernel
theorem dX0_isOnStrike_4 : decode cX0_isOnStrike 4 = .ok (.iload_n 1, 1) := by decide +kernel
theorem dX0_isOnStrike_5 : decode cX0_isOnStrike 5 = .ok (.ishr, 1) := by decide +kernel
theorem dX0_isOnStrike_6 : decode cX0_isOnStrike 6 = .ok (.iconst 1, 1) := by decide +kernel
theorem dX0_isOnStrike_7 : decode cX0_isOnStrike 7 = .ok (.iand, 1) := by decide +kernel
theorem dX0_isOnStrike_8 : decode cX0_isOnStrike 8 = .ok (.iconst 1, 1) := by decide +kernel
theorem dX0_isOnStrike_9 : decode cX0_isOnStrike 9 = .ok (.if_icmp .ne 7, 3) := by decide +kernel
theorem dX0_isOnStrike_12 : decode cX0_isOnStrike 12 = .ok (.iconst 1, 1) := by decide +kernel
theorem dX0_isOnStrike_13 : decode cX0_isOnStrike 13 = .ok (.goto 4, 3) := by decide +kernel
theorem dX0_isOnStrike_16 : decode cX0_isOnStrike 16 = .ok (.iconst 0, 1) := by decide +kernel
theorem dX0_isOnStrike_17 : decode cX0_isOnStrike 17 = .ok (.ireturn, 1) := by decide +kernel
theorem dX0_strikers_0 : decode cX0_strikers 0 = .ok (.aload_n 0, 1) := by decide +kernel
theorem dX0_strikers_1 : decode cX0_strikers 1 = .ok (.getfield 9, 3) := by decide +kernel
theorem dX0_strikers_4 : decode cX0_strikers 4 = .ok (.invokestatic 19, 3) := by decide +kernel
theorem dX0_strikers_7 : decode cX0_strikers 7 = .ok (.ireturn, 1) := by decide +kernel
theorem dX0_copyFrom_0 : decode cX0_copyFrom 0 = .ok (.aload_n 0, 1) := by decide +kernel
theorem dX0_copyFrom_1 : decode cX0_copyFrom 1 = .ok (.aload_n 1, 1) := by decide +kernel
theorem dX0_copyFrom_2 : decode cX0_copyFrom 2 = .ok (.getfield 9, 3) := by decide +kernel
theorem dX0_copyFrom_5 : decode cX0_copyFrom 5 = .ok (.putfield 9, 3) := by decide +kernel
theorem dX0_copyFrom_8 : decode cX0_copyFrom 8 = .ok (.aload_n 1, 1) := by decide +kernel
theorem dX0_copyFrom_9 : decode cX0_copyFrom 9 = .ok (.getfield 15, 3) := by decide +kernel
theorem dX0_copyFrom_12 : decode cX0_copyFrom 12 = .ok (.iconst 0, 1) := by decide +kernel
theorem dX0_copyFrom_13 : decode cX0_copyFrom 13 = .ok (.aload_n 0, 1) := by decide +kernel
theorem dX0_copyFrom_14 : decode cX0_copyFrom 14 = .ok (.getfield 15, 3) := by decide +kernel
theorem dX0_copyFrom_17 : decode cX0_copyFrom 17 = .ok (.iconst 0, 1) := by decide +kernel
theorem dX0_copyFrom_18 : decode cX0_copyFrom 18 = .ok (.bipush 10, 2) := by decide +kernel
theorem dX0_copyFrom_20 : decode cX0_copyFrom 20 = .ok (.invokestatic 25, 3) := by decide +kernel
theorem dX0_copyFrom_23 : decode cX0_copyFrom 23 = .ok (.return_, 1) := by decide +kernel
theorem dX0_clear_0 : decode cX0_clear 0 = .ok (.aload_n 0, 1) := by decide +kernel
theorem dX0_clear_1 : decode cX0_clear 1 = .ok (.iconst 0, 1) := by decide +kernel
theorem dX0_clear_2 : decode cX0_clear 2 = .ok (.putfield 9, 3) := by decide +kernel
theorem dX0_clear_5 : decode cX0_clear 5 = .ok (.iconst 0, 1) := by decide +kernel
theorem dX0_clear_6 : decode cX0_clear 6 = .ok (.istore_n 1, 1) := by decide +kernel
theorem dX0_clear_7 : decode cX0_clear 7 = .ok (.iload_n 1, 1) := by decide +kernel
theorem dX0_clear_8 : decode cX0_clear 8 = .ok (.bipush 10, 2) := by decide +kernel
theorem dX0_clear_10 : decode cX0_clear 10 = .ok (.if_icmp .ge 16, 3) := by decide +kernel
theorem dX0_clear_13 : decode cX0_clear 13 = .ok (.aload_n 0, 1) := by decide +kernel
theorem dX0_clear_14 : decode cX0_clear 14 = .ok (.getfield 15, 3) := by decide +kernel
theorem dX0_clear_17 : decode cX0_clear 17 = .ok (.iload_n 1, 1) := by decide +kernel
theorem dX0_clear_18 : decode cX0_clear 18 = .ok (.iload_n 1, 1) := by decide +kernel
theorem dX0_clear_19 : decode cX0_clear 19 = .ok (.iastore, 1) := by decide +kernel
theorem dX0_clear_20 : decode cX0_clear 20 = .ok (.iinc 1 1, 3) := by decide +kernel
theorem dX0_clear_23 : decode cX0_clear 23 = .ok (.goto (-16), 3) := by decide +kernel
theorem dX0_clear_26 : decode cX0_clear 26 = .ok (.return_, 1) := by decide +kernel
theorem dX0_heardAs_0 : decode cX0_heardAs 0 = .ok (.iload_n 1, 1) := by decide +kernel
theorem dX0_heardAs_1 : decode cX0_heardAs 1 = .ok (.iload_n 0, 1) := by decide +kernel
theorem dX0_heardAs_2 : decode cX0_heardAs 2 = .ok (.ishr, 1) := by decide +kernel
theorem dX0_heardAs_3 : decode cX0_heardAs 3 = .ok (.iconst 1, 1) := by decide +kernel
theorem dX0_heardAs_4 : decode cX0_heardAs 4 = .ok (.iand, 1) := by decide +kernel
theorem dX0_heardAs_5 : decode cX0_heardAs 5 = .ok (.iconst 1, 1) := by decide +kernel
theorem dX0_heardAs_6 : decode cX0_heardAs 6 = .ok (.if_icmp .ne 9, 3) := by decide +kernel
theorem dX0_heardAs_9 : decode cX0_heardAs 9 = .ok (.aload_n 2, 1) := by decide +kernel
theorem dX0_heardAs_10 : decode cX0_heardAs 10 = .ok (.iload_n 0, 1) := by decide +kernel
theorem dX0_heardAs_11 : decode cX0_heardAs 11 = .ok (.iaload, 1) := by decide +kernel
theorem dX0_heardAs_12 : decode cX0_heardAs 12 = .ok (.goto 4, 3) := by decide +kernel
theorem dX0_heardAs_15 : decode cX0_heardAs 15 = .ok (.iload_n 0, 1) := by decide +kernel
theorem dX0_heardAs_16 : decode cX0_heardAs 16 = .ok (.ireturn, 1) := by decide +kernel
theorem dX1_init_0 : decode cX1_init 0 = .ok (.aload_n 0, 1) := by decide +kernel
theorem dX1_init_1 : decode cX1_init 1 = .ok (.invokespecial 1, 3) := by decide +kernel
theorem dX1_init_4 : decode cX1_init 4 = .ok (.aload_n 0, 1) := by decide +kernel
theorem dX1_init_5 : decode cX1_init 5 = .ok (.iconst 2, 1) := by decide +kernel
theorem dX1_init_6 : decode cX1_init 6 = .ok (.anewarray 7, 3) := by decide +kernel
theorem dX1_init_9 : decode cX1_init 9 = .ok (.dup, 1) := by decide +kernel
theorem dX1_init_10 : decode cX1_init 10 = .ok (.iconst 0, 1) := by decide +kernel
theorem dX1_init_11 : decode cX1_init 11 = .ok (.new 7, 3) := by decide +kernel
theorem dX1_init_14 : decode cX1_init 14 = .ok (.dup, 1) := by decide +kernel
theorem dX1_init_15 : decode cX1_init 15 = .ok (.invokespecial 9, 3) := by decide +kernel
theorem dX1_init_18 : decode cX1_init 18 = .ok (.aastore, 1) := by decide +kernel
theorem dX1_init_19 : decode cX1_init 19 = .ok (.dup, 1) := by decide +kernel
theorem dX1_init_20 : decode cX1_init 20 = .ok (.iconst 1, 1) := by decide +kernel
theorem dX1_init_21 : decode cX1_init 21 = .ok (.new 7, 3) := by decide +kernel
theorem dX1_init_24 : decode cX1_init 24 = .ok (.dup, 1) := by decide +kernel
theorem dX1_init_25 : decode cX1_init 25 = .ok (.invokespecial 9, 3) := by decide +kernel
theorem dX1_init_28 : decode cX1_init 28 = .ok (.aastore, 1) := by decide +kernel
theorem dX1_init_29 : decode cX1_init 29 = .ok (.putfield 10, 3) := by decide +kernel
theorem dX1_init_32 : decode cX1_init 32 = .ok (.aload_n 0, 1) := by decide +kernel
theorem dX1_init_33 : decode cX1_init 33 = .ok (.iconst 0, 1) := by decide +kernel
theorem dX1_init_34 : decode cX1_init 34 = .ok (.putfield 16, 3) := by decide +kernel
theorem dX1_init_37 : decode cX1_init 37 = .ok (.return_, 1) := by decide +kernel
theorem dX1_put_0 : decode cX1_put 0 = .ok (.aload_n 0, 1) := by decide +kernel
theorem dX1_put_1 : decode cX1_put 1 = .ok (.getfield 16, 3) := by decide +kernel
theorem dX1_put_4 : decode cX1_put 4 = .ok (.iconst 2, 1) := by decide +kernel
theorem dX1_put_5 : decode cX1_put 5 = .ok (.if_icmp .lt 5, 3) := by decide +kernel
theorem dX1_put_8 : decode cX1_put 8 = .ok (.iconst 0, 1) := by decide +kernel
theorem dX1_put_9 : decode cX1_put 9 = .ok (.ireturn, 1) := by decide +kernel
theorem dX1_put_10 : decode cX1_put 10 = .ok (.aload_n 0, 1) := by decide +kernel
theorem dX1_put_11 : decode cX1_put 11 = .ok (.getfield 10, 3) := by decide +kernel
theorem dX1_put_14 : decode cX1_put 14 = .ok (.aload_n 0, 1) := by decide +kernel
theorem dX1_put_15 : decode cX1_put 15 = .ok (.getfield 16, 3) := by decide +kernel
theorem dX1_put_18 : decode cX1_put 18 = .ok (.aaload, 1) := by decide +kernel
theorem dX1_put_19 : decode cX1_put 19 = .ok (.aload_n 1, 1) := by decide +kernel
theorem dX1_put_20 : decode cX1_put 20 = .ok (.invokevirtual 20, 3) := by decide +kernel
theorem dX1_put_23 : decode cX1_put 23 = .ok (.aload_n 0, 1) := by decide +kernel
theorem dX1_put_24 : decode cX1_put 24 = .ok (.dup, 1) := by decide +kernel
theorem dX1_put_25 : decode cX1_put 25 = .ok (.getfield 16, 3) := by decide +kernel
theorem dX1_put_28 : decode cX1_put 28 = .ok (.iconst 1, 1) := by decide +kernel
theorem dX1_put_29 : decode cX1_put 29 = .ok (.iadd, 1) := by decide +kernel
theorem dX1_put_30 : decode cX1_put 30 = .ok (.putfield 16, 3) := by decide +kernel
theorem dX1_put_33 : decode cX1_put 33 = .ok (.iconst 1, 1) := by decide +kernel
theorem dX1_put_34 : decode cX1_put 34 = .ok (.ireturn, 1) := by decide +kernel
theorem dX1_restore_0 : decode cX1_restore 0 = .ok (.aload_n 0, 1) := by decide +kernel
theorem dX1_restore_1 : decode cX1_restore 1 = .ok (.getfield 16, 3) := by decide +kernel
theorem dX1_restore_4 : decode cX1_restore 4 = .ok (.ifCond .gt 5, 3) := by decide +kernel
theorem dX1_restore_7 : decode cX1_restore 7 = .ok (.iconst 0, 1) := by decide +kernel
theorem dX1_restore_8 : decode cX1_restore 8 = .ok (.ireturn, 1) := by decide +kernel
theorem dX1_restore_9 : decode cX1_restore 9 = .ok (.aload_n 0, 1) := by decide +kernel
theorem dX1_restore_10 : decode cX1_restore 10 = .ok (.dup, 1) := by decide +kernel
theorem dX1_restore_11 : decode cX1_restore 11 = .ok (.getfield 16, 3) := by decide +kernel
theorem dX1_restore_14 : decode cX1_restore 14 = .ok (.iconst 1, 1) := by decide +kernel
theorem dX1_restore_15 : decode cX1_restore 15 = .ok (.isub, 1) := by decide +kernel
theorem dX1_restore_16 : decode cX1_restore 16 = .ok (.putfield 16, 3) := by decide +kernel
theorem dX1_restore_19 : decode cX1_restore 19 = .ok (.aload_n 1, 1) := by decide +kernel
theorem dX1_restore_20 : decode cX1_restore 20 = .ok (.aload_n 0, 1) := by decide +kernel
theorem dX1_restore_21 : decode cX1_restore 21 = .ok (.getfield 10, 3) := by decide +kernel
theorem dX1_restore_24 : decode cX1_restore 24 = .ok (.aload_n 0, 1) := by decide +kernel
theorem dX1_restore_25 : decode cX1_restore 25 = .ok (.getfield 16, 3) := by decide +kernel
theorem dX1_restore_28 : decode cX1_restore 28 = .ok (.aaload, 1) := by decide +kernel
theorem dX1_restore_29 : decode cX1_restore 29 = .ok (.invokevirtual 20, 3) := by decide +kernel
theorem dX1_restore_32 : decode cX1_restore 32 = .ok (.iconst 1, 1) := by decide +kernel
theorem dX1_restore_33 : decode cX1_restore 33 = .ok (.ireturn, 1) := by decide +kernel
theorem dX2_init_0 : decode cX2_init 0 = .ok (.aload_n 0, 1) := by decide +kernel
theorem dX2_init_1 : decode cX2_init 1 = .ok (.invokespecial 1, 3) := by decide +kernel
theorem dX2_init_4 : decode cX2_init 4 = .ok (.aload_n 0, 1) := by decide +kernel
theorem dX2_init_5 : decode cX2_init 5 = .ok (.bipush 8, 2) := by decide +kernel
theorem dX2_init_7 : decode cX2_init 7 = .ok (.newarray .int, 2) := by decide +kernel
theorem dX2_init_9 : decode cX2_init 9 = .ok (.putfield 9, 3) := by decide +kernel
theorem dX2_init_12 : decode cX2_init 12 = .ok (.aload_n 0, 1) := by decide +kernel
theorem dX2_init_13 : decode cX2_init 13 = .ok (.bipush 8, 2) := by decide +kernel
theorem dX2_init_15 : decode cX2_init 15 = .ok (.newarray .int, 2) := by decide +kernel
theorem dX2_init_17 : decode cX2_init 17 = .ok (.putfield 13, 3) := by decide +kernel
theorem dX2_init_20 : decode cX2_init 20 = .ok (.aload_n 0, 1) := by decide +kernel
theorem dX2_init_21 : decode cX2_init 21 = .ok (.iconst 0, 1) := by decide +kernel
theorem dX2_init_22 : decode cX2_init 22 = .ok (.putfield 16, 3) := by decide +kernel
theorem dX2_init_25 : decode cX2_init 25 = .ok (.return_, 1) := by decide +kernel
theorem dX2_tell_0 : decode cX2_tell 0 = .ok (.aload_n 0, 1) := by decide +kernel
theorem dX2_tell_1 : decode cX2_tell 1 = .ok (.getfield 16, 3) := by decide +kernel
theorem dX2_tell_4 : decode cX2_tell 4 = .ok (.bipush 8, 2) := by decide +kernel
theorem dX2_tell_6 : decode cX2_tell 6 = .ok (.if_icmp .lt 5, 3) := by decide +kernel
theorem dX2_tell_9 : decode cX2_tell 9 = .ok (.iconst 0, 1) := by decide +kernel
theorem dX2_tell_10 : decode cX2_tell 10 = .ok (.ireturn, 1) := by decide +kernel
theorem dX2_tell_11 : decode cX2_tell 11 = .ok (.aload_n 0, 1) := by decide +kernel
theorem dX2_tell_12 : decode cX2_tell 12 = .ok (.getfield 9, 3) := by decide +kernel
theorem dX2_tell_15 : decode cX2_tell 15 = .ok (.aload_n 0, 1) := by decide +kernel
theorem dX2_tell_16 : decode cX2_tell 16 = .ok (.getfield 16, 3) := by decide +kernel
theorem dX2_tell_19 : decode cX2_tell 19 = .ok (.iload_n 1, 1) := by decide +kernel
theorem dX2_tell_20 : decode cX2_tell 20 = .ok (.iastore, 1) := by decide +kernel
theorem dX2_tell_21 : decode cX2_tell 21 = .ok (.aload_n 0, 1) := by decide +kernel
theorem dX2_tell_22 : decode cX2_tell 22 = .ok (.getfield 13, 3) := by decide +kernel
theorem dX2_tell_25 : decode cX2_tell 25 = .ok (.aload_n 0, 1) := by decide +kernel
theorem dX2_tell_26 : decode cX2_tell 26 = .ok (.getfield 16, 3) := by decide +kernel
theorem dX2_tell_29 : decode cX2_tell 29 = .ok (.iload_n 2, 1) := by decide +kernel
theorem dX2_tell_30 : decode cX2_tell 30 = .ok (.iastore, 1) := by decide +kernel
theorem dX2_tell_31 : decode cX2_tell 31 = .ok (.aload_n 0, 1) := by decide +kernel
theorem dX2_tell_32 : decode cX2_tell 32 = .ok (.dup, 1) := by decide +kernel
theorem dX2_tell_33 : decode cX2_tell 33 = .ok (.getfield 16, 3) := by decide +kernel
theorem dX2_tell_36 : decode cX2_tell 36 = .ok (.iconst 1, 1) := by decide +kernel
theorem dX2_tell_37 : decode cX2_tell 37 = .ok (.iadd, 1) := by decide +kernel
theorem dX2_tell_38 : decode cX2_tell 38 = .ok (.putfield 16, 3) := by decide +kernel
theorem dX2_tell_41 : decode cX2_tell 41 = .ok (.iconst 1, 1) := by decide +kernel
theorem dX2_tell_42 : decode cX2_tell 42 = .ok (.ireturn, 1) := by decide +kernel
theorem dX2_isSo_0 : decode cX2_isSo 0 = .ok (.iconst 0, 1) := by decide +kernel
theorem dX2_isSo_1 : decode cX2_isSo 1 = .ok (.istore_n 3, 1) := by decide +kernel
theorem dX2_isSo_2 : decode cX2_isSo 2 = .ok (.iload_n 3, 1) := by decide +kernel
theorem dX2_isSo_3 : decode cX2_isSo 3 = .ok (.aload_n 0, 1) := by decide +kernel
theorem dX2_isSo_4 : decode cX2_isSo 4 = .ok (.getfield 16, 3) := by decide +kernel
theorem dX2_isSo_7 : decode cX2_isSo 7 = .ok (.if_icmp .ge 31, 3) := by decide +kernel
theorem dX2_isSo_10 : decode cX2_isSo 10 = .ok (.aload_n 0, 1) := by decide +kernel
theorem dX2_isSo_11 : decode cX2_isSo 11 = .ok (.getfield 9, 3) := by decide +kernel
theorem dX2_isSo_14 : decode cX2_isSo 14 = .ok (.iload_n 3, 1) := by decide +kernel
theorem dX2_isSo_15 : decode cX2_isSo 15 = .ok (.iaload, 1) := by decide +kernel
theorem dX2_isSo_16 : decode cX2_isSo 16 = .ok (.aload_n 0, 1) := by decide +kernel
theorem dX2_isSo_17 : decode cX2_isSo 17 = .ok (.getfield 13, 3) := by decide +kernel
theorem dX2_isSo_20 : decode cX2_isSo 20 = .ok (.iload_n 3, 1) := by decide +kernel
theorem dX2_isSo_21 : decode cX2_isSo 21 = .ok (.iaload, 1) := by decide +kernel
theorem dX2_isSo_22 : decode cX2_isSo 22 = .ok (.iload_n 1, 1) := by decide +kernel
theorem dX2_isSo_23 : decode cX2_isSo 23 = .ok (.aload_n 2, 1) := by decide +kernel
theorem dX2_isSo_24 : decode cX2_isSo 24 = .ok (.invokestatic 20, 3) := by decide +kernel
theorem dX2_isSo_27 : decode cX2_isSo 27 = .ok (.ifCond .ne 5, 3) := by decide +kernel
theorem dX2_isSo_30 : decode cX2_isSo 30 = .ok (.iconst 0, 1) := by decide +kernel
theorem dX2_isSo_31 : decode cX2_isSo 31 = .ok (.ireturn, 1) := by decide +kernel
theorem dX2_isSo_32 : decode cX2_isSo 32 = .ok (.iinc 3 1, 3) := by decide +kernel
theorem dX2_isSo_35 : decode cX2_isSo 35 = .ok (.goto (-33), 3) := by decide +kernel
theorem dX2_isSo_38 : decode cX2_isSo 38 = .ok (.iconst 1, 1) := by decide +kernel
theorem dX2_isSo_39 : decode cX2_isSo 39 = .ok (.ireturn, 1) := by decide +kernel
theorem dX2_isHeardAs_0 : decode cX2_isHeardAs 0 = .ok (.iload_n 0, 1) := by decide +kernel
theorem dX2_isHeardAs_1 : decode cX2_isHeardAs 1 = .ok (.invokestatic 24, 3) := by decide +kernel
theorem dX2_isHeardAs_4 : decode cX2_isHeardAs 4 = .ok (.istore 4, 2) := by decide +kernel
theorem dX2_isHeardAs_6 : decode cX2_isHeardAs 6 = .ok (.iload_n 0, 1) := by decide +kernel
theorem dX2_isHeardAs_7 : decode cX2_isHeardAs 7 = .ok (.istore 5, 2) := by decide +kernel
theorem dX2_isHeardAs_9 : decode cX2_isHeardAs 9 = .ok (.iload_n 1, 1) := by decide +kernel
theorem dX2_isHeardAs_10 : decode cX2_isHeardAs 10 = .ok (.istore 6, 2) := by decide +kernel
theorem dX2_isHeardAs_12 : decode cX2_isHeardAs 12 = .ok (.iconst 0, 1) := by decide +kernel
theorem dX2_isHeardAs_13 : decode cX2_isHeardAs 13 = .ok (.istore 7, 2) := by decide +kernel
theorem dX2_isHeardAs_15 : decode cX2_isHeardAs 15 = .ok (.iload 7, 2) := by decide +kernel
theorem dX2_isHeardAs_17 : decode cX2_isHeardAs 17 = .ok (.iload 4, 2) := by decide +kernel
theorem dX2_isHeardAs_19 : decode cX2_isHeardAs 19 = .ok (.if_icmp .ge 43, 3) := by decide +kernel
theorem dX2_isHeardAs_22 : decode cX2_isHeardAs 22 = .ok (.iload 5, 2) := by decide +kernel
theorem dX2_isHeardAs_24 : decode cX2_isHeardAs 24 = .ok (.bipush 10, 2) := by decide +kernel
theorem dX2_isHeardAs_26 : decode cX2_isHeardAs 26 = .ok (.irem, 1) := by decide +kernel
theorem dX2_isHeardAs_27 : decode cX2_isHeardAs 27 = .ok (.iload_n 2, 1) := by decide +kernel
theorem dX2_isHeardAs_28 : decode cX2_isHeardAs 28 = .ok (.aload_n 3, 1) := by decide +kernel
theorem dX2_isHeardAs_29 : decode cX2_isHeardAs 29 = .ok (.invokestatic 30, 3) := by decide +kernel
theorem dX2_isHeardAs_32 : decode cX2_isHeardAs 32 = .ok (.iload 6, 2) := by decide +kernel
theorem dX2_isHeardAs_34 : decode cX2_isHeardAs 34 = .ok (.bipush 10, 2) := by decide +kernel
theorem dX2_isHeardAs_36 : decode cX2_isHeardAs 36 = .ok (.irem, 1) := by decide +kernel
theorem dX2_isHeardAs_37 : decode cX2_isHeardAs 37 = .ok (.if_icmp .eq 5, 3) := by decide +kernel
theorem dX2_isHeardAs_40 : decode cX2_isHeardAs 40 = .ok (.iconst 0, 1) := by decide +kernel
theorem dX2_isHeardAs_41 : decode cX2_isHeardAs 41 = .ok (.ireturn, 1) := by decide +kernel
theorem dX2_isHeardAs_42 : decode cX2_isHeardAs 42 = .ok (.iload 5, 2) := by decide +kernel
theorem dX2_isHeardAs_44 : decode cX2_isHeardAs 44 = .ok (.bipush 10, 2) := by decide +kernel
theorem dX2_isHeardAs_46 : decode cX2_isHeardAs 46 = .ok (.idiv, 1) := by decide +kernel
theorem dX2_isHeardAs_47 : decode cX2_isHeardAs 47 = .ok (.istore 5, 2) := by decide +kernel
theorem dX2_isHeardAs_49 : decode cX2_isHeardAs 49 = .ok (.iload 6, 2) := by decide +kernel
theorem dX2_isHeardAs_51 : decode cX2_isHeardAs 51 = .ok (.bipush 10, 2) := by decide +kernel
theorem dX2_isHeardAs_53 : decode cX2_isHeardAs 53 = .ok (.idiv, 1) := by decide +kernel
theorem dX2_isHeardAs_54 : decode cX2_isHeardAs 54 = .ok (.istore 6, 2) := by decide +kernel
theorem dX2_isHeardAs_56 : decode cX2_isHeardAs 56 = .ok (.iinc 7 1, 3) := by decide +kernel
theorem dX2_isHeardAs_59 : decode cX2_isHeardAs 59 = .ok (.goto (-44), 3) := by decide +kernel
theorem dX2_isHeardAs_62 : decode cX2_isHeardAs 62 = .ok (.iconst 1, 1) := by decide +kernel
theorem dX2_isHeardAs_63 : decode cX2_isHeardAs 63 = .ok (.ireturn, 1) := by decide +kernel
theorem dX3_lengthOf_0 : decode cX3_lengthOf 0 = .ok (.iload_n 0, 1) := by decide +kernel
theorem dX3_lengthOf_1 : decode cX3_lengthOf 1 = .ok (.bipush 100, 2) := by decide +kernel
theorem dX3_lengthOf_3 : decode cX3_lengthOf 3 = .ok (.if_icmp .ge 15, 3) := by decide +kernel
theorem dX3_lengthOf_6 : decode cX3_lengthOf 6 = .ok (.iload_n 0, 1) := by decide +kernel
theorem dX3_lengthOf_7 : decode cX3_lengthOf 7 = .ok (.bipush 10, 2) := by decide +kernel
theorem dX3_lengthOf_9 : decode cX3_lengthOf 9 = .ok (.if_icmp .ge 7, 3) := by decide +kernel
theorem dX3_lengthOf_12 : decode cX3_lengthOf 12 = .ok (.iconst 1, 1) := by decide +kernel
theorem dX3_lengthOf_13 : decode cX3_lengthOf 13 = .ok (.goto 4, 3) := by decide +kernel
theorem dX3_lengthOf_16 : decode cX3_lengthOf 16 = .ok (.iconst 2, 1) := by decide +kernel
theorem dX3_lengthOf_17 : decode cX3_lengthOf 17 = .ok (.ireturn, 1) := by decide +kernel
theorem dX3_lengthOf_18 : decode cX3_lengthOf 18 = .ok (.iload_n 0, 1) := by decide +kernel
theorem dX3_lengthOf_19 : decode cX3_lengthOf 19 = .ok (.sipush 10000, 3) := by decide +kernel
theorem dX3_lengthOf_22 : decode cX3_lengthOf 22 = .ok (.if_icmp .ge 16, 3) := by decide +kernel
theorem dX3_lengthOf_25 : decode cX3_lengthOf 25 = .ok (.iload_n 0, 1) := by decide +kernel
theorem dX3_lengthOf_26 : decode cX3_lengthOf 26 = .ok (.sipush 1000, 3) := by decide +kernel
theorem dX3_lengthOf_29 : decode cX3_lengthOf 29 = .ok (.if_icmp .ge 7, 3) := by decide +kernel
theorem dX3_lengthOf_32 : decode cX3_lengthOf 32 = .ok (.iconst 3, 1) := by decide +kernel
theorem dX3_lengthOf_33 : decode cX3_lengthOf 33 = .ok (.goto 4, 3) := by decide +kernel
theorem dX3_lengthOf_36 : decode cX3_lengthOf 36 = .ok (.iconst 4, 1) := by decide +kernel
theorem dX3_lengthOf_37 : decode cX3_lengthOf 37 = .ok (.ireturn, 1) := by decide +kernel
theorem dX3_lengthOf_38 : decode cX3_lengthOf 38 = .ok (.iconst 5, 1) := by decide +kernel
theorem dX3_lengthOf_39 : decode cX3_lengthOf 39 = .ok (.ireturn, 1) := by decide +kernel
theorem dX3_canSay_0 : decode cX3_canSay 0 = .ok (.iload_n 1, 1) := by decide +kernel
theorem dX3_canSay_1 : decode cX3_canSay 1 = .ok (.istore_n 2, 1) := by decide +kernel
theorem dX3_canSay_2 : decode cX3_canSay 2 = .ok (.iconst 0, 1) := by decide +kernel
theorem dX3_canSay_3 : decode cX3_canSay 3 = .ok (.istore_n 3, 1) := by decide +kernel
theorem dX3_canSay_4 : decode cX3_canSay 4 = .ok (.iload_n 3, 1) := by decide +kernel
theorem dX3_canSay_5 : decode cX3_canSay 5 = .ok (.iconst 5, 1) := by decide +kernel
theorem dX3_canSay_6 : decode cX3_canSay 6 = .ok (.if_icmp .ge 34, 3) := by decide +kernel
theorem dX3_canSay_9 : decode cX3_canSay 9 = .ok (.iload_n 0, 1) := by decide +kernel
theorem dX3_canSay_10 : decode cX3_canSay 10 = .ok (.iload_n 2, 1) := by decide +kernel
theorem dX3_canSay_11 : decode cX3_canSay 11 = .ok (.bipush 10, 2) := by decide +kernel
theorem dX3_canSay_13 : decode cX3_canSay 13 = .ok (.irem, 1) := by decide +kernel
theorem dX3_canSay_14 : decode cX3_canSay 14 = .ok (.ishr, 1) := by decide +kernel
theorem dX3_canSay_15 : decode cX3_canSay 15 = .ok (.iconst 1, 1) := by decide +kernel
theorem dX3_canSay_16 : decode cX3_canSay 16 = .ok (.iand, 1) := by decide +kernel
theorem dX3_canSay_17 : decode cX3_canSay 17 = .ok (.iconst 1, 1) := by decide +kernel
theorem dX3_canSay_18 : decode cX3_canSay 18 = .ok (.if_icmp .ne 5, 3) := by decide +kernel
theorem dX3_canSay_21 : decode cX3_canSay 21 = .ok (.iconst 0, 1) := by decide +kernel
theorem dX3_canSay_22 : decode cX3_canSay 22 = .ok (.ireturn, 1) := by decide +kernel
theorem dX3_canSay_23 : decode cX3_canSay 23 = .ok (.iload_n 2, 1) := by decide +kernel
theorem dX3_canSay_24 : decode cX3_canSay 24 = .ok (.bipush 10, 2) := by decide +kernel
theorem dX3_canSay_26 : decode cX3_canSay 26 = .ok (.idiv, 1) := by decide +kernel
theorem dX3_canSay_27 : decode cX3_canSay 27 = .ok (.istore_n 2, 1) := by decide +kernel
theorem dX3_canSay_28 : decode cX3_canSay 28 = .ok (.iload_n 2, 1) := by decide +kernel
theorem dX3_canSay_29 : decode cX3_canSay 29 = .ok (.ifCond .ne 5, 3) := by decide +kernel
theorem dX3_canSay_32 : decode cX3_canSay 32 = .ok (.iconst 1, 1) := by decide +kernel
theorem dX3_canSay_33 : decode cX3_canSay 33 = .ok (.ireturn, 1) := by decide +kernel
theorem dX3_canSay_34 : decode cX3_canSay 34 = .ok (.iinc 3 1, 3) := by decide +kernel
theorem dX3_canSay_37 : decode cX3_canSay 37 = .ok (.goto (-33), 3) := by decide +kernel
theorem dX3_canSay_40 : decode cX3_canSay 40 = .ok (.iconst 1, 1) := by decide +kernel
theorem dX3_canSay_41 : decode cX3_canSay 41 = .ok (.ireturn, 1) := by decide +kernel
theorem dX3_sayable_0 : decode cX3_sayable 0 = .ok (.iload_n 0, 1) := by decide +kernel
theorem dX3_sayable_1 : decode cX3_sayable 1 = .ok (.bipush 9, 2) := by decide +kernel
theorem dX3_sayable_3 : decode cX3_sayable 3 = .ok (.invokestatic 11, 3) := by decide +kernel
theorem dX3_sayable_6 : decode cX3_sayable 6 = .ok (.istore_n 2, 1) := by decide +kernel
theorem dX3_sayable_7 : decode cX3_sayable 7 = .ok (.iload_n 0, 1) := by decide +kernel
theorem dX3_sayable_8 : decode cX3_sayable 8 = .ok (.iconst 0, 1) := by decide +kernel
theorem dX3_sayable_9 : decode cX3_sayable 9 = .ok (.invokestatic 11, 3) := by decide +kernel
theorem dX3_sayable_12 : decode cX3_sayable 12 = .ok (.istore_n 3, 1) := by decide +kernel
theorem dX3_sayable_13 : decode cX3_sayable 13 = .ok (.iconst 1, 1) := by decide +kernel
theorem dX3_sayable_14 : decode cX3_sayable 14 = .ok (.istore 4, 2) := by decide +kernel
theorem dX3_sayable_16 : decode cX3_sayable 16 = .ok (.iload_n 1, 1) := by decide +kernel
theorem dX3_sayable_17 : decode cX3_sayable 17 = .ok (.invokestatic 15, 3) := by decide +kernel
theorem dX3_sayable_20 : decode cX3_sayable 20 = .ok (.istore 5, 2) := by decide +kernel
theorem dX3_sayable_22 : decode cX3_sayable 22 = .ok (.iload 5, 2) := by decide +kernel
theorem dX3_sayable_24 : decode cX3_sayable 24 = .ok (.iconst 1, 1) := by decide +kernel
theorem dX3_sayable_25 : decode cX3_sayable 25 = .ok (.if_icmp .le 16, 3) := by decide +kernel
theorem dX3_sayable_28 : decode cX3_sayable 28 = .ok (.iload 4, 2) := by decide +kernel
theorem dX3_sayable_30 : decode cX3_sayable 30 = .ok (.bipush 10, 2) := by decide +kernel
theorem dX3_sayable_32 : decode cX3_sayable 32 = .ok (.imul, 1) := by decide +kernel
theorem dX3_sayable_33 : decode cX3_sayable 33 = .ok (.istore 4, 2) := by decide +kernel
theorem dX3_sayable_35 : decode cX3_sayable 35 = .ok (.iinc 5 (-1), 3) := by decide +kernel
theorem dX3_sayable_38 : decode cX3_sayable 38 = .ok (.goto (-16), 3) := by decide +kernel
theorem dX3_sayable_41 : decode cX3_sayable 41 = .ok (.iload_n 0, 1) := by decide +kernel
theorem dX3_sayable_42 : decode cX3_sayable 42 = .ok (.iload_n 1, 1) := by decide +kernel
theorem dX3_sayable_43 : decode cX3_sayable 43 = .ok (.iload 4, 2) := by decide +kernel
theorem dX3_sayable_45 : decode cX3_sayable 45 = .ok (.idiv, 1) := by decide +kernel
theorem dX3_sayable_46 : decode cX3_sayable 46 = .ok (.invokestatic 11, 3) := by decide +kernel
theorem dX3_sayable_49 : decode cX3_sayable 49 = .ok (.istore 5, 2) := by decide +kernel
theorem dX3_sayable_51 : decode cX3_sayable 51 = .ok (.iload 4, 2) := by decide +kernel
theorem dX3_sayable_53 : decode cX3_sayable 53 = .ok (.bipush 10, 2) := by decide +kernel
theorem dX3_sayable_55 : decode cX3_sayable 55 = .ok (.idiv, 1) := by decide +kernel
theorem dX3_sayable_56 : decode cX3_sayable 56 = .ok (.istore 4, 2) := by decide +kernel
theorem dX3_sayable_58 : decode cX3_sayable 58 = .ok (.iload 4, 2) := by decide +kernel
theorem dX3_sayable_60 : decode cX3_sayable 60 = .ok (.ifCond .le 70, 3) := by decide +kernel
theorem dX3_sayable_63 : decode cX3_sayable 63 = .ok (.iload_n 1, 1) := by decide +kernel
theorem dX3_sayable_64 : decode cX3_sayable 64 = .ok (.iload 4, 2) := by decide +kernel
theorem dX3_sayable_66 : decode cX3_sayable 66 = .ok (.idiv, 1) := by decide +kernel
theorem dX3_sayable_67 : decode cX3_sayable 67 = .ok (.bipush 10, 2) := by decide +kernel
theorem dX3_sayable_69 : decode cX3_sayable 69 = .ok (.idiv, 1) := by decide +kernel
theorem dX3_sayable_70 : decode cX3_sayable 70 = .ok (.istore 6, 2) := by decide +kernel
theorem dX3_sayable_72 : decode cX3_sayable 72 = .ok (.iload_n 0, 1) := by decide +kernel
theorem dX3_sayable_73 : decode cX3_sayable 73 = .ok (.iload 6, 2) := by decide +kernel
theorem dX3_sayable_75 : decode cX3_sayable 75 = .ok (.invokestatic 19, 3) := by decide +kernel
theorem dX3_sayable_78 : decode cX3_sayable 78 = .ok (.ifCond .eq 7, 3) := by decide +kernel
theorem dX3_sayable_81 : decode cX3_sayable 81 = .ok (.iconst 1, 1) := by decide +kernel
theorem dX3_sayable_82 : decode cX3_sayable 82 = .ok (.goto 4, 3) := by decide +kernel
theorem dX3_sayable_85 : decode cX3_sayable 85 = .ok (.iconst 0, 1) := by decide +kernel
theorem dX3_sayable_86 : decode cX3_sayable 86 = .ok (.istore 7, 2) := by decide +kernel
theorem dX3_sayable_88 : decode cX3_sayable 88 = .ok (.iload 5, 2) := by decide +kernel
theorem dX3_sayable_90 : decode cX3_sayable 90 = .ok (.iload 7, 2) := by decide +kernel
theorem dX3_sayable_92 : decode cX3_sayable 92 = .ok (.isub, 1) := by decide +kernel
theorem dX3_sayable_93 : decode cX3_sayable 93 = .ok (.iload_n 3, 1) := by decide +kernel
theorem dX3_sayable_94 : decode cX3_sayable 94 = .ok (.isub, 1) := by decide +kernel
theorem dX3_sayable_95 : decode cX3_sayable 95 = .ok (.istore 8, 2) := by decide +kernel
theorem dX3_sayable_97 : decode cX3_sayable 97 = .ok (.iload_n 2, 1) := by decide +kernel
theorem dX3_sayable_98 : decode cX3_sayable 98 = .ok (.iload 8, 2) := by decide +kernel
theorem dX3_sayable_100 : decode cX3_sayable 100 = .ok (.iload_n 2, 1) := by decide +kernel
theorem dX3_sayable_101 : decode cX3_sayable 101 = .ok (.imul, 1) := by decide +kernel
theorem dX3_sayable_102 : decode cX3_sayable 102 = .ok (.iadd, 1) := by decide +kernel
theorem dX3_sayable_103 : decode cX3_sayable 103 = .ok (.iload 7, 2) := by decide +kernel
theorem dX3_sayable_105 : decode cX3_sayable 105 = .ok (.iload_n 0, 1) := by decide +kernel
theorem dX3_sayable_106 : decode cX3_sayable 106 = .ok (.iload_n 1, 1) := by decide +kernel
theorem dX3_sayable_107 : decode cX3_sayable 107 = .ok (.iload 4, 2) := by decide +kernel
theorem dX3_sayable_109 : decode cX3_sayable 109 = .ok (.idiv, 1) := by decide +kernel
theorem dX3_sayable_110 : decode cX3_sayable 110 = .ok (.bipush 10, 2) := by decide +kernel
theorem dX3_sayable_112 : decode cX3_sayable 112 = .ok (.irem, 1) := by decide +kernel
theorem dX3_sayable_113 : decode cX3_sayable 113 = .ok (.invokestatic 11, 3) := by decide +kernel
theorem dX3_sayable_116 : decode cX3_sayable 116 = .ok (.imul, 1) := by decide +kernel
theorem dX3_sayable_117 : decode cX3_sayable 117 = .ok (.iadd, 1) := by decide +kernel
theorem dX3_sayable_118 : decode cX3_sayable 118 = .ok (.istore 5, 2) := by decide +kernel
theorem dX3_sayable_120 : decode cX3_sayable 120 = .ok (.iload 4, 2) := by decide +kernel
theorem dX3_sayable_122 : decode cX3_sayable 122 = .ok (.bipush 10, 2) := by decide +kernel
theorem dX3_sayable_124 : decode cX3_sayable 124 = .ok (.idiv, 1) := by decide +kernel
theorem dX3_sayable_125 : decode cX3_sayable 125 = .ok (.istore 4, 2) := by decide +kernel
theorem dX3_sayable_127 : decode cX3_sayable 127 = .ok (.goto (-69), 3) := by decide +kernel
theorem dX3_sayable_130 : decode cX3_sayable 130 = .ok (.iload 5, 2) := by decide +kernel
theorem dX3_sayable_132 : decode cX3_sayable 132 = .ok (.ireturn, 1) := by decide +kernel
theorem dX3_workingUpTo_0 : decode cX3_workingUpTo 0 = .ok (.iload_n 0, 1) := by decide +kernel
theorem dX3_workingUpTo_1 : decode cX3_workingUpTo 1 = .ok (.iconst (-1), 1) := by decide +kernel
theorem dX3_workingUpTo_2 : decode cX3_workingUpTo 2 = .ok (.ixor, 1) := by decide +kernel
theorem dX3_workingUpTo_3 : decode cX3_workingUpTo 3 = .ok (.iconst 2, 1) := by decide +kernel
theorem dX3_workingUpTo_4 : decode cX3_workingUpTo 4 = .ok (.iload_n 1, 1) := by decide +kernel
theorem dX3_workingUpTo_5 : decode cX3_workingUpTo 5 = .ok (.ishl, 1) := by decide +kernel
theorem dX3_workingUpTo_6 : decode cX3_workingUpTo 6 = .ok (.iconst 1, 1) := by decide +kernel
theorem dX3_workingUpTo_7 : decode cX3_workingUpTo 7 = .ok (.isub, 1) := by decide +kernel
theorem dX3_workingUpTo_8 : decode cX3_workingUpTo 8 = .ok (.iand, 1) := by decide +kernel
theorem dX3_workingUpTo_9 : decode cX3_workingUpTo 9 = .ok (.invokestatic 23, 3) := by decide +kernel
theorem dX3_workingUpTo_12 : decode cX3_workingUpTo 12 = .ok (.ireturn, 1) := by decide +kernel
theorem dX3_atRank_0 : decode cX3_atRank 0 = .ok (.iconst 0, 1) := by decide +kernel
theorem dX3_atRank_1 : decode cX3_atRank 1 = .ok (.istore_n 2, 1) := by decide +kernel
theorem dX3_atRank_2 : decode cX3_atRank 2 = .ok (.ldc 28, 2) := by decide +kernel
theorem dX3_atRank_4 : decode cX3_atRank 4 = .ok (.istore_n 3, 1) := by decide +kernel
theorem dX3_atRank_5 : decode cX3_atRank 5 = .ok (.iload_n 3, 1) := by decide +kernel
theorem dX3_atRank_6 : decode cX3_atRank 6 = .ok (.ifCond .le 38, 3) := by decide +kernel
theorem dX3_atRank_9 : decode cX3_atRank 9 = .ok (.iload_n 2, 1) := by decide +kernel
theorem dX3_atRank_10 : decode cX3_atRank 10 = .ok (.iload_n 3, 1) := by decide +kernel
theorem dX3_atRank_11 : decode cX3_atRank 11 = .ok (.iadd, 1) := by decide +kernel
theorem dX3_atRank_12 : decode cX3_atRank 12 = .ok (.iconst 1, 1) := by decide +kernel
theorem dX3_atRank_13 : decode cX3_atRank 13 = .ok (.isub, 1) := by decide +kernel
theorem dX3_atRank_14 : decode cX3_atRank 14 = .ok (.istore 4, 2) := by decide +kernel
theorem dX3_atRank_16 : decode cX3_atRank 16 = .ok (.iload 4, 2) := by decide +kernel
theorem dX3_atRank_18 : decode cX3_atRank 18 = .ok (.ldc 29, 2) := by decide +kernel
theorem dX3_atRank_20 : decode cX3_atRank 20 = .ok (.if_icmp .gt 17, 3) := by decide +kernel
theorem dX3_atRank_23 : decode cX3_atRank 23 = .ok (.iload_n 0, 1) := by decide +kernel
theorem dX3_atRank_24 : decode cX3_atRank 24 = .ok (.iload 4, 2) := by decide +kernel
theorem dX3_atRank_26 : decode cX3_atRank 26 = .ok (.invokestatic 30, 3) := by decide +kernel
theorem dX3_atRank_29 : decode cX3_atRank 29 = .ok (.iload_n 1, 1) := by decide +kernel
theorem dX3_atRank_30 : decode cX3_atRank 30 = .ok (.if_icmp .gt 7, 3) := by decide +kernel
theorem dX3_atRank_33 : decode cX3_atRank 33 = .ok (.iload_n 2, 1) := by decide +kernel
theorem dX3_atRank_34 : decode cX3_atRank 34 = .ok (.iload_n 3, 1) := by decide +kernel
theorem dX3_atRank_35 : decode cX3_atRank 35 = .ok (.iadd, 1) := by decide +kernel
theorem dX3_atRank_36 : decode cX3_atRank 36 = .ok (.istore_n 2, 1) := by decide +kernel
theorem dX3_atRank_37 : decode cX3_atRank 37 = .ok (.iload_n 3, 1) := by decide +kernel
theorem dX3_atRank_38 : decode cX3_atRank 38 = .ok (.iconst 2, 1) := by decide +kernel
theorem dX3_atRank_39 : decode cX3_atRank 39 = .ok (.idiv, 1) := by decide +kernel
theorem dX3_atRank_40 : decode cX3_atRank 40 = .ok (.istore_n 3, 1) := by decide +kernel
theorem dX3_atRank_41 : decode cX3_atRank 41 = .ok (.goto (-36), 3) := by decide +kernel
theorem dX3_atRank_44 : decode cX3_atRank 44 = .ok (.iload_n 2, 1) := by decide +kernel
theorem dX3_atRank_45 : decode cX3_atRank 45 = .ok (.ldc 29, 2) := by decide +kernel
theorem dX3_atRank_47 : decode cX3_atRank 47 = .ok (.if_icmp .gt 7, 3) := by decide +kernel
theorem dX3_atRank_50 : decode cX3_atRank 50 = .ok (.iload_n 2, 1) := by decide +kernel
theorem dX3_atRank_51 : decode cX3_atRank 51 = .ok (.goto 5, 3) := by decide +kernel
theorem dX3_atRank_54 : decode cX3_atRank 54 = .ok (.bipush (-4), 2) := by decide +kernel
theorem dX3_atRank_56 : decode cX3_atRank 56 = .ok (.ireturn, 1) := by decide +kernel
theorem dX3_commonDivisor_0 : decode cX3_commonDivisor 0 = .ok (.iload_n 1, 1) := by decide +kernel
theorem dX3_commonDivisor_1 : decode cX3_commonDivisor 1 = .ok (.istore_n 2, 1) := by decide +kernel
theorem dX3_commonDivisor_2 : decode cX3_commonDivisor 2 = .ok (.iload_n 2, 1) := by decide +kernel
theorem dX3_commonDivisor_3 : decode cX3_commonDivisor 3 = .ok (.iconst 1, 1) := by decide +kernel
theorem dX3_commonDivisor_4 : decode cX3_commonDivisor 4 = .ok (.if_icmp .le 23, 3) := by decide +kernel
theorem dX3_commonDivisor_7 : decode cX3_commonDivisor 7 = .ok (.iload_n 0, 1) := by decide +kernel
theorem dX3_commonDivisor_8 : decode cX3_commonDivisor 8 = .ok (.iload_n 2, 1) := by decide +kernel
theorem dX3_commonDivisor_9 : decode cX3_commonDivisor 9 = .ok (.irem, 1) := by decide +kernel
theorem dX3_commonDivisor_10 : decode cX3_commonDivisor 10 = .ok (.ifCond .ne 11, 3) := by decide +kernel
theorem dX3_commonDivisor_13 : decode cX3_commonDivisor 13 = .ok (.iload_n 1, 1) := by decide +kernel
theorem dX3_commonDivisor_14 : decode cX3_commonDivisor 14 = .ok (.iload_n 2, 1) := by decide +kernel
theorem dX3_commonDivisor_15 : decode cX3_commonDivisor 15 = .ok (.irem, 1) := by decide +kernel
theorem dX3_commonDivisor_16 : decode cX3_commonDivisor 16 = .ok (.ifCond .ne 5, 3) := by decide +kernel
theorem dX3_commonDivisor_19 : decode cX3_commonDivisor 19 = .ok (.iload_n 2, 1) := by decide +kernel
theorem dX3_commonDivisor_20 : decode cX3_commonDivisor 20 = .ok (.ireturn, 1) := by decide +kernel
theorem dX3_commonDivisor_21 : decode cX3_commonDivisor 21 = .ok (.iinc 2 (-1), 3) := by decide +kernel
theorem dX3_commonDivisor_24 : decode cX3_commonDivisor 24 = .ok (.goto (-22), 3) := by decide +kernel
theorem dX3_commonDivisor_27 : decode cX3_commonDivisor 27 = .ok (.iconst 1, 1) := by decide +kernel
theorem dX3_commonDivisor_28 : decode cX3_commonDivisor 28 = .ok (.ireturn, 1) := by decide +kernel
theorem dX3_lowestTerms_0 : decode cX3_lowestTerms 0 = .ok (.iload_n 0, 1) := by decide +kernel
theorem dX3_lowestTerms_1 : decode cX3_lowestTerms 1 = .ok (.iload_n 1, 1) := by decide +kernel
theorem dX3_lowestTerms_2 : decode cX3_lowestTerms 2 = .ok (.invokestatic 33, 3) := by decide +kernel
theorem dX3_lowestTerms_5 : decode cX3_lowestTerms 5 = .ok (.istore_n 3, 1) := by decide +kernel
theorem dX3_lowestTerms_6 : decode cX3_lowestTerms 6 = .ok (.iload_n 2, 1) := by decide +kernel
theorem dX3_lowestTerms_7 : decode cX3_lowestTerms 7 = .ok (.ifCond .ne 7, 3) := by decide +kernel
theorem dX3_lowestTerms_10 : decode cX3_lowestTerms 10 = .ok (.iload_n 0, 1) := by decide +kernel
theorem dX3_lowestTerms_11 : decode cX3_lowestTerms 11 = .ok (.goto 4, 3) := by decide +kernel
theorem dX3_lowestTerms_14 : decode cX3_lowestTerms 14 = .ok (.iload_n 1, 1) := by decide +kernel
theorem dX3_lowestTerms_15 : decode cX3_lowestTerms 15 = .ok (.iload_n 3, 1) := by decide +kernel
theorem dX3_lowestTerms_16 : decode cX3_lowestTerms 16 = .ok (.idiv, 1) := by decide +kernel
theorem dX3_lowestTerms_17 : decode cX3_lowestTerms 17 = .ok (.ireturn, 1) := by decide +kernel
theorem dX4_init_0 : decode cX4_init 0 = .ok (.aload_n 0, 1) := by decide +kernel
theorem dX4_init_1 : decode cX4_init 1 = .ok (.invokespecial 1, 3) := by decide +kernel
theorem dX4_init_4 : decode cX4_init 4 = .ok (.aload_n 0, 1) := by decide +kernel
theorem dX4_init_5 : decode cX4_init 5 = .ok (.bipush 8, 2) := by decide +kernel
theorem dX4_init_7 : decode cX4_init 7 = .ok (.newarray .int, 2) := by decide +kernel
theorem dX4_init_9 : decode cX4_init 9 = .ok (.putfield 9, 3) := by decide +kernel
theorem dX4_init_12 : decode cX4_init 12 = .ok (.aload_n 0, 1) := by decide +kernel
theorem dX4_init_13 : decode cX4_init 13 = .ok (.bipush 8, 2) := by decide +kernel
theorem dX4_init_15 : decode cX4_init 15 = .ok (.newarray .int, 2) := by decide +kernel
theorem dX4_init_17 : decode cX4_init 17 = .ok (.putfield 13, 3) := by decide +kernel
theorem dX4_init_20 : decode cX4_init 20 = .ok (.aload_n 0, 1) := by decide +kernel
theorem dX4_init_21 : decode cX4_init 21 = .ok (.iconst 0, 1) := by decide +kernel
theorem dX4_init_22 : decode cX4_init 22 = .ok (.putfield 16, 3) := by decide +kernel
theorem dX4_init_25 : decode cX4_init 25 = .ok (.return_, 1) := by decide +kernel
theorem dX4_remember_0 : decode cX4_remember 0 = .ok (.aload_n 0, 1) := by decide +kernel
theorem dX4_remember_1 : decode cX4_remember 1 = .ok (.getfield 16, 3) := by decide +kernel
theorem dX4_remember_4 : decode cX4_remember 4 = .ok (.bipush 8, 2) := by decide +kernel
theorem dX4_remember_6 : decode cX4_remember 6 = .ok (.if_icmp .lt 39, 3) := by decide +kernel
theorem dX4_remember_9 : decode cX4_remember 9 = .ok (.aload_n 0, 1) := by decide +kernel
theorem dX4_remember_10 : decode cX4_remember 10 = .ok (.getfield 9, 3) := by decide +kernel
theorem dX4_remember_13 : decode cX4_remember 13 = .ok (.iconst 1, 1) := by decide +kernel
theorem dX4_remember_14 : decode cX4_remember 14 = .ok (.aload_n 0, 1) := by decide +kernel
theorem dX4_remember_15 : decode cX4_remember 15 = .ok (.getfield 9, 3) := by decide +kernel
theorem dX4_remember_18 : decode cX4_remember 18 = .ok (.iconst 0, 1) := by decide +kernel
theorem dX4_remember_19 : decode cX4_remember 19 = .ok (.bipush 7, 2) := by decide +kernel
theorem dX4_remember_21 : decode cX4_remember 21 = .ok (.invokestatic 20, 3) := by decide +kernel
theorem dX4_remember_24 : decode cX4_remember 24 = .ok (.aload_n 0, 1) := by decide +kernel
theorem dX4_remember_25 : decode cX4_remember 25 = .ok (.getfield 13, 3) := by decide +kernel
theorem dX4_remember_28 : decode cX4_remember 28 = .ok (.iconst 1, 1) := by decide +kernel
theorem dX4_remember_29 : decode cX4_remember 29 = .ok (.aload_n 0, 1) := by decide +kernel
theorem dX4_remember_30 : decode cX4_remember 30 = .ok (.getfield 13, 3) := by decide +kernel
theorem dX4_remember_33 : decode cX4_remember 33 = .ok (.iconst 0, 1) := by decide +kernel
theorem dX4_remember_34 : decode cX4_remember 34 = .ok (.bipush 7, 2) := by decide +kernel
theorem dX4_remember_36 : decode cX4_remember 36 = .ok (.invokestatic 20, 3) := by decide +kernel
theorem dX4_remember_39 : decode cX4_remember 39 = .ok (.aload_n 0, 1) := by decide +kernel
theorem dX4_remember_40 : decode cX4_remember 40 = .ok (.bipush 7, 2) := by decide +kernel
theorem dX4_remember_42 : decode cX4_remember 42 = .ok (.putfield 16, 3) := by decide +kernel
theorem dX4_remember_45 : decode cX4_remember 45 = .ok (.aload_n 0, 1) := by decide +kernel
theorem dX4_remember_46 : decode cX4_remember 46 = .ok (.getfield 9, 3) := by decide +kernel
theorem dX4_remember_49 : decode cX4_remember 49 = .ok (.aload_n 0, 1) := by decide +kernel
theorem dX4_remember_50 : decode cX4_remember 50 = .ok (.getfield 16, 3) := by decide +kernel
theorem dX4_remember_53 : decode cX4_remember 53 = .ok (.iload_n 1, 1) := by decide +kernel
theorem dX4_remember_54 : decode cX4_remember 54 = .ok (.iastore, 1) := by decide +kernel
theorem dX4_remember_55 : decode cX4_remember 55 = .ok (.aload_n 0, 1) := by decide +kernel
theorem dX4_remember_56 : decode cX4_remember 56 = .ok (.getfield 13, 3) := by decide +kernel
theorem dX4_remember_59 : decode cX4_remember 59 = .ok (.aload_n 0, 1) := by decide +kernel
theorem dX4_remember_60 : decode cX4_remember 60 = .ok (.getfield 16, 3) := by decide +kernel
theorem dX4_remember_63 : decode cX4_remember 63 = .ok (.iload_n 2, 1) := by decide +kernel
theorem dX4_remember_64 : decode cX4_remember 64 = .ok (.iastore, 1) := by decide +kernel
theorem dX4_remember_65 : decode cX4_remember 65 = .ok (.aload_n 0, 1) := by decide +kernel
theorem dX4_remember_66 : decode cX4_remember 66 = .ok (.dup, 1) := by decide +kernel
theorem dX4_remember_67 : decode cX4_remember 67 = .ok (.getfield 16, 3) := by decide +kernel
theorem dX4_remember_70 : decode cX4_remember 70 = .ok (.iconst 1, 1) := by decide +kernel
theorem dX4_remember_71 : decode cX4_remember 71 = .ok (.iadd, 1) := by decide +kernel
theorem dX4_remember_72 : decode cX4_remember 72 = .ok (.putfield 16, 3) := by decide +kernel
theorem dX4_remember_75 : decode cX4_remember 75 = .ok (.return_, 1) := by decide +kernel
theorem dX4_takeBack_0 : decode cX4_takeBack 0 = .ok (.aload_n 0, 1) := by decide +kernel
theorem dX4_takeBack_1 : decode cX4_takeBack 1 = .ok (.getfield 16, 3) := by decide +kernel
theorem dX4_takeBack_4 : decode cX4_takeBack 4 = .ok (.ifCond .gt 5, 3) := by decide +kernel
theorem dX4_takeBack_7 : decode cX4_takeBack 7 = .ok (.iconst 0, 1) := by decide +kernel
theorem dX4_takeBack_8 : decode cX4_takeBack 8 = .ok (.ireturn, 1) := by decide +kernel
theorem dX4_takeBack_9 : decode cX4_takeBack 9 = .ok (.aload_n 0, 1) := by decide +kernel
theorem dX4_takeBack_10 : decode cX4_takeBack 10 = .ok (.dup, 1) := by decide +kernel
theorem dX4_takeBack_11 : decode cX4_takeBack 11 = .ok (.getfield 16, 3) := by decide +kernel
theorem dX4_takeBack_14 : decode cX4_takeBack 14 = .ok (.iconst 1, 1) := by decide +kernel
theorem dX4_takeBack_15 : decode cX4_takeBack 15 = .ok (.isub, 1) := by decide +kernel
theorem dX4_takeBack_16 : decode cX4_takeBack 16 = .ok (.putfield 16, 3) := by decide +kernel
theorem dX4_takeBack_19 : decode cX4_takeBack 19 = .ok (.aload_n 0, 1) := by decide +kernel
theorem dX4_takeBack_20 : decode cX4_takeBack 20 = .ok (.getfield 9, 3) := by decide +kernel
theorem dX4_takeBack_23 : decode cX4_takeBack 23 = .ok (.aload_n 0, 1) := by decide +kernel
theorem dX4_takeBack_24 : decode cX4_takeBack 24 = .ok (.getfield 16, 3) := by decide +kernel
theorem dX4_takeBack_27 : decode cX4_takeBack 27 = .ok (.iaload, 1) := by decide +kernel
theorem dX4_takeBack_28 : decode cX4_takeBack 28 = .ok (.istore_n 2, 1) := by decide +kernel
theorem dX4_takeBack_29 : decode cX4_takeBack 29 = .ok (.aload_n 0, 1) := by decide +kernel
theorem dX4_takeBack_30 : decode cX4_takeBack 30 = .ok (.getfield 13, 3) := by decide +kernel
theorem dX4_takeBack_33 : decode cX4_takeBack 33 = .ok (.aload_n 0, 1) := by decide +kernel
theorem dX4_takeBack_34 : decode cX4_takeBack 34 = .ok (.getfield 16, 3) := by decide +kernel
theorem dX4_takeBack_37 : decode cX4_takeBack 37 = .ok (.iaload, 1) := by decide +kernel
theorem dX4_takeBack_38 : decode cX4_takeBack 38 = .ok (.iconst (-1), 1) := by decide +kernel
theorem dX4_takeBack_39 : decode cX4_takeBack 39 = .ok (.if_icmp .ne 18, 3) := by decide +kernel
theorem dX4_takeBack_42 : decode cX4_takeBack 42 = .ok (.aload_n 1, 1) := by decide +kernel
theorem dX4_takeBack_43 : decode cX4_takeBack 43 = .ok (.dup, 1) := by decide +kernel
theorem dX4_takeBack_44 : decode cX4_takeBack 44 = .ok (.getfield 26, 3) := by decide +kernel
theorem dX4_takeBack_47 : decode cX4_takeBack 47 = .ok (.iconst 1, 1) := by decide +kernel
theorem dX4_takeBack_48 : decode cX4_takeBack 48 = .ok (.iload_n 2, 1) := by decide +kernel
theorem dX4_takeBack_49 : decode cX4_takeBack 49 = .ok (.ishl, 1) := by decide +kernel
theorem dX4_takeBack_50 : decode cX4_takeBack 50 = .ok (.ixor, 1) := by decide +kernel
theorem dX4_takeBack_51 : decode cX4_takeBack 51 = .ok (.putfield 26, 3) := by decide +kernel
theorem dX4_takeBack_54 : decode cX4_takeBack 54 = .ok (.goto 18, 3) := by decide +kernel
theorem dX4_takeBack_57 : decode cX4_takeBack 57 = .ok (.aload_n 1, 1) := by decide +kernel
theorem dX4_takeBack_58 : decode cX4_takeBack 58 = .ok (.getfield 31, 3) := by decide +kernel
theorem dX4_takeBack_61 : decode cX4_takeBack 61 = .ok (.iload_n 2, 1) := by decide +kernel
theorem dX4_takeBack_62 : decode cX4_takeBack 62 = .ok (.aload_n 0, 1) := by decide +kernel
theorem dX4_takeBack_63 : decode cX4_takeBack 63 = .ok (.getfield 13, 3) := by decide +kernel
theorem dX4_takeBack_66 : decode cX4_takeBack 66 = .ok (.aload_n 0, 1) := by decide +kernel
theorem dX4_takeBack_67 : decode cX4_takeBack 67 = .ok (.getfield 16, 3) := by decide +kernel
theorem dX4_takeBack_70 : decode cX4_takeBack 70 = .ok (.iaload, 1) := by decide +kernel
theorem dX4_takeBack_71 : decode cX4_takeBack 71 = .ok (.iastore, 1) := by decide +kernel
theorem dX4_takeBack_72 : decode cX4_takeBack 72 = .ok (.iconst 1, 1) := by decide +kernel
theorem dX4_takeBack_73 : decode cX4_takeBack 73 = .ok (.ireturn, 1) := by decide +kernel
theorem dX5_init_0 : decode cX5_init 0 = .ok (.aload_n 0, 1) := by decide +kernel
theorem dX5_init_1 : decode cX5_init 1 = .ok (.invokespecial 3, 3) := by decide +kernel
theorem dX5_init_4 : decode cX5_init 4 = .ok (.aload_n 0, 1) := by decide +kernel
theorem dX5_init_5 : decode cX5_init 5 = .ok (.sipush 1000, 3) := by decide +kernel
theorem dX5_init_8 : decode cX5_init 8 = .ok (.newarray .boolean, 2) := by decide +kernel
theorem dX5_init_10 : decode cX5_init 10 = .ok (.putfield 9, 3) := by decide +kernel
theorem dX5_init_13 : decode cX5_init 13 = .ok (.aload_n 0, 1) := by decide +kernel
theorem dX5_init_14 : decode cX5_init 14 = .ok (.iconst (-1), 1) := by decide +kernel
theorem dX5_init_15 : decode cX5_init 15 = .ok (.putfield 15, 3) := by decide +kernel
theorem dX5_init_18 : decode cX5_init 18 = .ok (.aload_n 0, 1) := by decide +kernel
theorem dX5_init_19 : decode cX5_init 19 = .ok (.iconst 0, 1) := by decide +kernel
theorem dX5_init_20 : decode cX5_init 20 = .ok (.putfield 19, 3) := by decide +kernel
theorem dX5_init_23 : decode cX5_init 23 = .ok (.aload_n 0, 1) := by decide +kernel
theorem dX5_init_24 : decode cX5_init 24 = .ok (.iconst 0, 1) := by decide +kernel
theorem dX5_init_25 : decode cX5_init 25 = .ok (.putfield 22, 3) := by decide +kernel
theorem dX5_init_28 : decode cX5_init 28 = .ok (.aload_n 0, 1) := by decide +kernel
theorem dX5_init_29 : decode cX5_init 29 = .ok (.iconst 0, 1) := by decide +kernel
theorem dX5_init_30 : decode cX5_init 30 = .ok (.putfield 25, 3) := by decide +kernel
theorem dX5_init_33 : decode cX5_init 33 = .ok (.aload_n 0, 1) := by decide +kernel
theorem dX5_init_34 : decode cX5_init 34 = .ok (.iconst 0, 1) := by decide +kernel
theorem dX5_init_35 : decode cX5_init 35 = .ok (.putfield 28, 3) := by decide +kernel
theorem dX5_init_38 : decode cX5_init 38 = .ok (.aload_n 0, 1) := by decide +kernel
theorem dX5_init_39 : decode cX5_init 39 = .ok (.iconst 0, 1) := by decide +kernel
theorem dX5_init_40 : decode cX5_init 40 = .ok (.putfield 31, 3) := by decide +kernel
theorem dX5_init_43 : decode cX5_init 43 = .ok (.return_, 1) := by decide +kernel
theorem dX5_find_0 : decode cX5_find 0 = .ok (.aload_n 0, 1) := by decide +kernel
theorem dX5_find_1 : decode cX5_find 1 = .ok (.iload_n 2, 1) := by decide +kernel
theorem dX5_find_2 : decode cX5_find 2 = .ok (.invokevirtual 34, 3) := by decide +kernel
theorem dX5_find_5 : decode cX5_find 5 = .ok (.aload_n 0, 1) := by decide +kernel
theorem dX5_find_6 : decode cX5_find 6 = .ok (.iconst 0, 1) := by decide +kernel
theorem dX5_find_7 : decode cX5_find 7 = .ok (.putfield 19, 3) := by decide +kernel
theorem dX5_find_10 : decode cX5_find 10 = .ok (.aload_n 0, 1) := by decide +kernel
theorem dX5_find_11 : decode cX5_find 11 = .ok (.getfield 9, 3) := by decide +kernel
theorem dX5_find_14 : decode cX5_find 14 = .ok (.iload_n 1, 1) := by decide +kernel
theorem dX5_find_15 : decode cX5_find 15 = .ok (.baload, 1) := by decide +kernel
theorem dX5_find_16 : decode cX5_find 16 = .ok (.ifCond .eq 10, 3) := by decide +kernel
theorem dX5_find_19 : decode cX5_find 19 = .ok (.aload_n 0, 1) := by decide +kernel
theorem dX5_find_20 : decode cX5_find 20 = .ok (.iconst 0, 1) := by decide +kernel
theorem dX5_find_21 : decode cX5_find 21 = .ok (.iload_n 1, 1) := by decide +kernel
theorem dX5_find_22 : decode cX5_find 22 = .ok (.iconst 0, 1) := by decide +kernel
theorem dX5_find_23 : decode cX5_find 23 = .ok (.invokevirtual 38, 3) := by decide +kernel
theorem dX5_find_26 : decode cX5_find 26 = .ok (.iconst 0, 1) := by decide +kernel
theorem dX5_find_27 : decode cX5_find 27 = .ok (.istore_n 3, 1) := by decide +kernel
theorem dX5_find_28 : decode cX5_find 28 = .ok (.iload_n 3, 1) := by decide +kernel
theorem dX5_find_29 : decode cX5_find 29 = .ok (.iload_n 1, 1) := by decide +kernel
theorem dX5_find_30 : decode cX5_find 30 = .ok (.iload_n 3, 1) := by decide +kernel
theorem dX5_find_31 : decode cX5_find 31 = .ok (.isub, 1) := by decide +kernel
theorem dX5_find_32 : decode cX5_find 32 = .ok (.if_icmp .gt 18, 3) := by decide +kernel
theorem dX5_find_35 : decode cX5_find 35 = .ok (.aload_n 0, 1) := by decide +kernel
theorem dX5_find_36 : decode cX5_find 36 = .ok (.iconst 1, 1) := by decide +kernel
theorem dX5_find_37 : decode cX5_find 37 = .ok (.iload_n 3, 1) := by decide +kernel
theorem dX5_find_38 : decode cX5_find 38 = .ok (.iload_n 1, 1) := by decide +kernel
theorem dX5_find_39 : decode cX5_find 39 = .ok (.iload_n 3, 1) := by decide +kernel
theorem dX5_find_40 : decode cX5_find 40 = .ok (.isub, 1) := by decide +kernel
theorem dX5_find_41 : decode cX5_find 41 = .ok (.invokevirtual 42, 3) := by decide +kernel
theorem dX5_find_44 : decode cX5_find 44 = .ok (.iinc 3 1, 3) := by decide +kernel
theorem dX5_find_47 : decode cX5_find 47 = .ok (.goto (-19), 3) := by decide +kernel
theorem dX5_find_50 : decode cX5_find 50 = .ok (.iconst 1, 1) := by decide +kernel
theorem dX5_find_51 : decode cX5_find 51 = .ok (.istore_n 3, 1) := by decide +kernel
theorem dX5_find_52 : decode cX5_find 52 = .ok (.iload_n 1, 1) := by decide +kernel
theorem dX5_find_53 : decode cX5_find 53 = .ok (.iload_n 3, 1) := by decide +kernel
theorem dX5_find_54 : decode cX5_find 54 = .ok (.iadd, 1) := by decide +kernel
theorem dX5_find_55 : decode cX5_find 55 = .ok (.sipush 999, 3) := by decide +kernel
theorem dX5_find_58 : decode cX5_find 58 = .ok (.if_icmp .gt 18, 3) := by decide +kernel
theorem dX5_find_61 : decode cX5_find 61 = .ok (.aload_n 0, 1) := by decide +kernel
theorem dX5_find_62 : decode cX5_find 62 = .ok (.iconst 2, 1) := by decide +kernel
theorem dX5_find_63 : decode cX5_find 63 = .ok (.iload_n 1, 1) := by decide +kernel
theorem dX5_find_64 : decode cX5_find 64 = .ok (.iload_n 3, 1) := by decide +kernel
theorem dX5_find_65 : decode cX5_find 65 = .ok (.iadd, 1) := by decide +kernel
theorem dX5_find_66 : decode cX5_find 66 = .ok (.iload_n 3, 1) := by decide +kernel
theorem dX5_find_67 : decode cX5_find 67 = .ok (.invokevirtual 42, 3) := by decide +kernel
theorem dX5_find_70 : decode cX5_find 70 = .ok (.iinc 3 1, 3) := by decide +kernel
theorem dX5_find_73 : decode cX5_find 73 = .ok (.goto (-21), 3) := by decide +kernel
theorem dX5_find_76 : decode cX5_find 76 = .ok (.iload_n 1, 1) := by decide +kernel
theorem dX5_find_77 : decode cX5_find 77 = .ok (.ifCond .ne 25, 3) := by decide +kernel
theorem dX5_find_80 : decode cX5_find 80 = .ok (.iconst 0, 1) := by decide +kernel
theorem dX5_find_81 : decode cX5_find 81 = .ok (.istore_n 3, 1) := by decide +kernel
theorem dX5_find_82 : decode cX5_find 82 = .ok (.iload_n 3, 1) := by decide +kernel
theorem dX5_find_83 : decode cX5_find 83 = .ok (.sipush 999, 3) := by decide +kernel
theorem dX5_find_86 : decode cX5_find 86 = .ok (.if_icmp .gt 16, 3) := by decide +kernel
theorem dX5_find_89 : decode cX5_find 89 = .ok (.aload_n 0, 1) := by decide +kernel
theorem dX5_find_90 : decode cX5_find 90 = .ok (.iconst 3, 1) := by decide +kernel
theorem dX5_find_91 : decode cX5_find 91 = .ok (.iconst 0, 1) := by decide +kernel
theorem dX5_find_92 : decode cX5_find 92 = .ok (.iload_n 3, 1) := by decide +kernel
theorem dX5_find_93 : decode cX5_find 93 = .ok (.invokevirtual 42, 3) := by decide +kernel
theorem dX5_find_96 : decode cX5_find 96 = .ok (.iinc 3 1, 3) := by decide +kernel
theorem dX5_find_99 : decode cX5_find 99 = .ok (.goto (-17), 3) := by decide +kernel
theorem dX5_find_102 : decode cX5_find 102 = .ok (.iconst 1, 1) := by decide +kernel
theorem dX5_find_103 : decode cX5_find 103 = .ok (.istore_n 3, 1) := by decide +kernel
theorem dX5_find_104 : decode cX5_find 104 = .ok (.iload_n 3, 1) := by decide +kernel
theorem dX5_find_105 : decode cX5_find 105 = .ok (.iload_n 3, 1) := by decide +kernel
theorem dX5_find_106 : decode cX5_find 106 = .ok (.imul, 1) := by decide +kernel
theorem dX5_find_107 : decode cX5_find 107 = .ok (.iload_n 1, 1) := by decide +kernel
theorem dX5_find_108 : decode cX5_find 108 = .ok (.if_icmp .gt 24, 3) := by decide +kernel
theorem dX5_find_111 : decode cX5_find 111 = .ok (.iload_n 1, 1) := by decide +kernel
theorem dX5_find_112 : decode cX5_find 112 = .ok (.iload_n 3, 1) := by decide +kernel
theorem dX5_find_113 : decode cX5_find 113 = .ok (.irem, 1) := by decide +kernel
theorem dX5_find_114 : decode cX5_find 114 = .ok (.ifCond .ne 12, 3) := by decide +kernel
theorem dX5_find_117 : decode cX5_find 117 = .ok (.aload_n 0, 1) := by decide +kernel
theorem dX5_find_118 : decode cX5_find 118 = .ok (.iconst 3, 1) := by decide +kernel
theorem dX5_find_119 : decode cX5_find 119 = .ok (.iload_n 3, 1) := by decide +kernel
theorem dX5_find_120 : decode cX5_find 120 = .ok (.iload_n 1, 1) := by decide +kernel
theorem dX5_find_121 : decode cX5_find 121 = .ok (.iload_n 3, 1) := by decide +kernel
theorem dX5_find_122 : decode cX5_find 122 = .ok (.idiv, 1) := by decide +kernel
theorem dX5_find_123 : decode cX5_find 123 = .ok (.invokevirtual 42, 3) := by decide +kernel
theorem dX5_find_126 : decode cX5_find 126 = .ok (.iinc 3 1, 3) := by decide +kernel
theorem dX5_find_129 : decode cX5_find 129 = .ok (.goto (-25), 3) := by decide +kernel
theorem dX5_find_132 : decode cX5_find 132 = .ok (.return_, 1) := by decide +kernel
theorem dX5_fillRow_0 : decode cX5_fillRow 0 = .ok (.aload_n 0, 1) := by decide +kernel
theorem dX5_fillRow_1 : decode cX5_fillRow 1 = .ok (.getfield 15, 3) := by decide +kernel
theorem dX5_fillRow_4 : decode cX5_fillRow 4 = .ok (.iload_n 1, 1) := by decide +kernel
theorem dX5_fillRow_5 : decode cX5_fillRow 5 = .ok (.if_icmp .ne 4, 3) := by decide +kernel
theorem dX5_fillRow_8 : decode cX5_fillRow 8 = .ok (.return_, 1) := by decide +kernel
theorem dX5_fillRow_9 : decode cX5_fillRow 9 = .ok (.aload_n 0, 1) := by decide +kernel
theorem dX5_fillRow_10 : decode cX5_fillRow 10 = .ok (.iload_n 1, 1) := by decide +kernel
theorem dX5_fillRow_11 : decode cX5_fillRow 11 = .ok (.putfield 15, 3) := by decide +kernel
theorem dX5_fillRow_14 : decode cX5_fillRow 14 = .ok (.iconst 0, 1) := by decide +kernel
theorem dX5_fillRow_15 : decode cX5_fillRow 15 = .ok (.istore_n 2, 1) := by decide +kernel
theorem dX5_fillRow_16 : decode cX5_fillRow 16 = .ok (.iload_n 2, 1) := by decide +kernel
theorem dX5_fillRow_17 : decode cX5_fillRow 17 = .ok (.sipush 999, 3) := by decide +kernel
theorem dX5_fillRow_20 : decode cX5_fillRow 20 = .ok (.if_icmp .gt 20, 3) := by decide +kernel
theorem dX5_fillRow_23 : decode cX5_fillRow 23 = .ok (.aload_n 0, 1) := by decide +kernel
theorem dX5_fillRow_24 : decode cX5_fillRow 24 = .ok (.getfield 9, 3) := by decide +kernel
theorem dX5_fillRow_27 : decode cX5_fillRow 27 = .ok (.iload_n 2, 1) := by decide +kernel
theorem dX5_fillRow_28 : decode cX5_fillRow 28 = .ok (.iload_n 1, 1) := by decide +kernel
theorem dX5_fillRow_29 : decode cX5_fillRow 29 = .ok (.iload_n 2, 1) := by decide +kernel
theorem dX5_fillRow_30 : decode cX5_fillRow 30 = .ok (.invokestatic 45, 3) := by decide +kernel
theorem dX5_fillRow_33 : decode cX5_fillRow 33 = .ok (.bastore, 1) := by decide +kernel
theorem dX5_fillRow_34 : decode cX5_fillRow 34 = .ok (.iinc 2 1, 3) := by decide +kernel
theorem dX5_fillRow_37 : decode cX5_fillRow 37 = .ok (.goto (-21), 3) := by decide +kernel
theorem dX5_fillRow_40 : decode cX5_fillRow 40 = .ok (.return_, 1) := by decide +kernel
theorem dX5_takeIfSaid_0 : decode cX5_takeIfSaid 0 = .ok (.aload_n 0, 1) := by decide +kernel
theorem dX5_takeIfSaid_1 : decode cX5_takeIfSaid 1 = .ok (.getfield 9, 3) := by decide +kernel
theorem dX5_takeIfSaid_4 : decode cX5_takeIfSaid 4 = .ok (.iload_n 2, 1) := by decide +kernel
theorem dX5_takeIfSaid_5 : decode cX5_takeIfSaid 5 = .ok (.baload, 1) := by decide +kernel
theorem dX5_takeIfSaid_6 : decode cX5_takeIfSaid 6 = .ok (.ifCond .eq 19, 3) := by decide +kernel
theorem dX5_takeIfSaid_9 : decode cX5_takeIfSaid 9 = .ok (.aload_n 0, 1) := by decide +kernel
theorem dX5_takeIfSaid_10 : decode cX5_takeIfSaid 10 = .ok (.getfield 9, 3) := by decide +kernel
theorem dX5_takeIfSaid_13 : decode cX5_takeIfSaid 13 = .ok (.iload_n 3, 1) := by decide +kernel
theorem dX5_takeIfSaid_14 : decode cX5_takeIfSaid 14 = .ok (.baload, 1) := by decide +kernel
theorem dX5_takeIfSaid_15 : decode cX5_takeIfSaid 15 = .ok (.ifCond .eq 10, 3) := by decide +kernel
theorem dX5_takeIfSaid_18 : decode cX5_takeIfSaid 18 = .ok (.aload_n 0, 1) := by decide +kernel
theorem dX5_takeIfSaid_19 : decode cX5_takeIfSaid 19 = .ok (.iload_n 1, 1) := by decide +kernel
theorem dX5_takeIfSaid_20 : decode cX5_takeIfSaid 20 = .ok (.iload_n 2, 1) := by decide +kernel
theorem dX5_takeIfSaid_21 : decode cX5_takeIfSaid 21 = .ok (.iload_n 3, 1) := by decide +kernel
theorem dX5_takeIfSaid_22 : decode cX5_takeIfSaid 22 = .ok (.invokevirtual 38, 3) := by decide +kernel
theorem dX5_takeIfSaid_25 : decode cX5_takeIfSaid 25 = .ok (.return_, 1) := by decide +kernel
theorem dX5_take_0 : decode cX5_take 0 = .ok (.iload_n 2, 1) := by decide +kernel
theorem dX5_take_1 : decode cX5_take 1 = .ok (.invokestatic 50, 3) := by decide +kernel
theorem dX5_take_4 : decode cX5_take 4 = .ok (.istore 4, 2) := by decide +kernel
theorem dX5_take_6 : decode cX5_take 6 = .ok (.iload_n 1, 1) := by decide +kernel
theorem dX5_take_7 : decode cX5_take 7 = .ok (.ifCond .eq 14, 3) := by decide +kernel
theorem dX5_take_10 : decode cX5_take 10 = .ok (.iload 4, 2) := by decide +kernel
theorem dX5_take_12 : decode cX5_take 12 = .ok (.iconst 1, 1) := by decide +kernel
theorem dX5_take_13 : decode cX5_take 13 = .ok (.iload_n 3, 1) := by decide +kernel
theorem dX5_take_14 : decode cX5_take 14 = .ok (.invokestatic 50, 3) := by decide +kernel
theorem dX5_take_17 : decode cX5_take 17 = .ok (.iadd, 1) := by decide +kernel
theorem dX5_take_18 : decode cX5_take 18 = .ok (.iadd, 1) := by decide +kernel
theorem dX5_take_19 : decode cX5_take 19 = .ok (.istore 4, 2) := by decide +kernel
theorem dX5_take_21 : decode cX5_take 21 = .ok (.aload_n 0, 1) := by decide +kernel
theorem dX5_take_22 : decode cX5_take 22 = .ok (.getfield 19, 3) := by decide +kernel
theorem dX5_take_25 : decode cX5_take 25 = .ok (.ifCond .eq 12, 3) := by decide +kernel
theorem dX5_take_28 : decode cX5_take 28 = .ok (.iload 4, 2) := by decide +kernel
theorem dX5_take_30 : decode cX5_take 30 = .ok (.aload_n 0, 1) := by decide +kernel
theorem dX5_take_31 : decode cX5_take 31 = .ok (.getfield 22, 3) := by decide +kernel
theorem dX5_take_34 : decode cX5_take 34 = .ok (.if_icmp .ge 24, 3) := by decide +kernel
theorem dX5_take_37 : decode cX5_take 37 = .ok (.aload_n 0, 1) := by decide +kernel
theorem dX5_take_38 : decode cX5_take 38 = .ok (.iload 4, 2) := by decide +kernel
theorem dX5_take_40 : decode cX5_take 40 = .ok (.putfield 22, 3) := by decide +kernel
theorem dX5_take_43 : decode cX5_take 43 = .ok (.aload_n 0, 1) := by decide +kernel
theorem dX5_take_44 : decode cX5_take 44 = .ok (.iload_n 1, 1) := by decide +kernel
theorem dX5_take_45 : decode cX5_take 45 = .ok (.putfield 25, 3) := by decide +kernel
theorem dX5_take_48 : decode cX5_take 48 = .ok (.aload_n 0, 1) := by decide +kernel
theorem dX5_take_49 : decode cX5_take 49 = .ok (.iload_n 2, 1) := by decide +kernel
theorem dX5_take_50 : decode cX5_take 50 = .ok (.putfield 28, 3) := by decide +kernel
theorem dX5_take_53 : decode cX5_take 53 = .ok (.aload_n 0, 1) := by decide +kernel
theorem dX5_take_54 : decode cX5_take 54 = .ok (.iload_n 3, 1) := by decide +kernel
theorem dX5_take_55 : decode cX5_take 55 = .ok (.putfield 31, 3) := by decide +kernel
theorem dX5_take_58 : decode cX5_take 58 = .ok (.aload_n 0, 1) := by decide +kernel
theorem dX5_take_59 : decode cX5_take 59 = .ok (.dup, 1) := by decide +kernel
theorem dX5_take_60 : decode cX5_take 60 = .ok (.getfield 19, 3) := by decide +kernel
theorem dX5_take_63 : decode cX5_take 63 = .ok (.iconst 1, 1) := by decide +kernel
theorem dX5_take_64 : decode cX5_take 64 = .ok (.iadd, 1) := by decide +kernel
theorem dX5_take_65 : decode cX5_take 65 = .ok (.putfield 19, 3) := by decide +kernel
theorem dX5_take_68 : decode cX5_take 68 = .ok (.return_, 1) := by decide +kernel
theorem dX6_init_0 : decode cX6_init 0 = .ok (.aload_n 0, 1) := by decide +kernel
theorem dX6_init_1 : decode cX6_init 1 = .ok (.invokespecial 1, 3) := by decide +kernel
theorem dX6_init_4 : decode cX6_init 4 = .ok (.aload_n 0, 1) := by decide +kernel
theorem dX6_init_5 : decode cX6_init 5 = .ok (.bipush 20, 2) := by decide +kernel
theorem dX6_init_7 : decode cX6_init 7 = .ok (.newarray .byte, 2) := by decide +kernel
theorem dX6_init_9 : decode cX6_init 9 = .ok (.putfield 9, 3) := by decide +kernel
theorem dX6_init_12 : decode cX6_init 12 = .ok (.aload_n 0, 1) := by decide +kernel
theorem dX6_init_13 : decode cX6_init 13 = .ok (.iconst 0, 1) := by decide +kernel
theorem dX6_init_14 : decode cX6_init 14 = .ok (.putfield 13, 3) := by decide +kernel
theorem dX6_init_17 : decode cX6_init 17 = .ok (.return_, 1) := by decide +kernel
theorem dX6_append_0 : decode cX6_append 0 = .ok (.aload_n 0, 1) := by decide +kernel
theorem dX6_append_1 : decode cX6_append 1 = .ok (.getfield 13, 3) := by decide +kernel
theorem dX6_append_4 : decode cX6_append 4 = .ok (.bipush 20, 2) := by decide +kernel
theorem dX6_append_6 : decode cX6_append 6 = .ok (.if_icmp .ge 24, 3) := by decide +kernel
theorem dX6_append_9 : decode cX6_append 9 = .ok (.aload_n 0, 1) := by decide +kernel
theorem dX6_append_10 : decode cX6_append 10 = .ok (.getfield 9, 3) := by decide +kernel
theorem dX6_append_13 : decode cX6_append 13 = .ok (.aload_n 0, 1) := by decide +kernel
theorem dX6_append_14 : decode cX6_append 14 = .ok (.getfield 13, 3) := by decide +kernel
theorem dX6_append_17 : decode cX6_append 17 = .ok (.iload_n 1, 1) := by decide +kernel
theorem dX6_append_18 : decode cX6_append 18 = .ok (.i2b, 1) := by decide +kernel
theorem dX6_append_19 : decode cX6_append 19 = .ok (.bastore, 1) := by decide +kernel
theorem dX6_append_20 : decode cX6_append 20 = .ok (.aload_n 0, 1) := by decide +kernel
theorem dX6_append_21 : decode cX6_append 21 = .ok (.dup, 1) := by decide +kernel
theorem dX6_append_22 : decode cX6_append 22 = .ok (.getfield 13, 3) := by decide +kernel
theorem dX6_append_25 : decode cX6_append 25 = .ok (.iconst 1, 1) := by decide +kernel
theorem dX6_append_26 : decode cX6_append 26 = .ok (.iadd, 1) := by decide +kernel
theorem dX6_append_27 : decode cX6_append 27 = .ok (.putfield 13, 3) := by decide +kernel
theorem dX6_append_30 : decode cX6_append 30 = .ok (.return_, 1) := by decide +kernel
theorem dX6_isSign_0 : decode cX6_isSign 0 = .ok (.iload_n 0, 1) := by decide +kernel
theorem dX6_isSign_1 : decode cX6_isSign 1 = .ok (.bipush 43, 2) := by decide +kernel
theorem dX6_isSign_3 : decode cX6_isSign 3 = .ok (.if_icmp .eq 15, 3) := by decide +kernel
theorem dX6_isSign_6 : decode cX6_isSign 6 = .ok (.iload_n 0, 1) := by decide +kernel
theorem dX6_isSign_7 : decode cX6_isSign 7 = .ok (.bipush 45, 2) := by decide +kernel
theorem dX6_isSign_9 : decode cX6_isSign 9 = .ok (.if_icmp .eq 9, 3) := by decide +kernel
theorem dX6_isSign_12 : decode cX6_isSign 12 = .ok (.iload_n 0, 1) := by decide +kernel
theorem dX6_isSign_13 : decode cX6_isSign 13 = .ok (.bipush 42, 2) := by decide +kernel
theorem dX6_isSign_15 : decode cX6_isSign 15 = .ok (.if_icmp .ne 7, 3) := by decide +kernel
theorem dX6_isSign_18 : decode cX6_isSign 18 = .ok (.iconst 1, 1) := by decide +kernel
theorem dX6_isSign_19 : decode cX6_isSign 19 = .ok (.goto 4, 3) := by decide +kernel
theorem dX6_isSign_22 : decode cX6_isSign 22 = .ok (.iconst 0, 1) := by decide +kernel
theorem dX6_isSign_23 : decode cX6_isSign 23 = .ok (.ireturn, 1) := by decide +kernel
theorem dX6_numbers_0 : decode cX6_numbers 0 = .ok (.aload_n 0, 1) := by decide +kernel
theorem dX6_numbers_1 : decode cX6_numbers 1 = .ok (.getfield 13, 3) := by decide +kernel
theorem dX6_numbers_4 : decode cX6_numbers 4 = .ok (.ifCond .le 7, 3) := by decide +kernel
theorem dX6_numbers_7 : decode cX6_numbers 7 = .ok (.iconst 1, 1) := by decide +kernel
theorem dX6_numbers_8 : decode cX6_numbers 8 = .ok (.goto 4, 3) := by decide +kernel
theorem dX6_numbers_11 : decode cX6_numbers 11 = .ok (.iconst 0, 1) := by decide +kernel
theorem dX6_numbers_12 : decode cX6_numbers 12 = .ok (.istore_n 1, 1) := by decide +kernel
theorem dX6_numbers_13 : decode cX6_numbers 13 = .ok (.iconst 0, 1) := by decide +kernel
theorem dX6_numbers_14 : decode cX6_numbers 14 = .ok (.istore_n 2, 1) := by decide +kernel
theorem dX6_numbers_15 : decode cX6_numbers 15 = .ok (.iload_n 2, 1) := by decide +kernel
theorem dX6_numbers_16 : decode cX6_numbers 16 = .ok (.aload_n 0, 1) := by decide +kernel
theorem dX6_numbers_17 : decode cX6_numbers 17 = .ok (.getfield 13, 3) := by decide +kernel
theorem dX6_numbers_20 : decode cX6_numbers 20 = .ok (.if_icmp .ge 24, 3) := by decide +kernel
theorem dX6_numbers_23 : decode cX6_numbers 23 = .ok (.aload_n 0, 1) := by decide +kernel
theorem dX6_numbers_24 : decode cX6_numbers 24 = .ok (.getfield 9, 3) := by decide +kernel
theorem dX6_numbers_27 : decode cX6_numbers 27 = .ok (.iload_n 2, 1) := by decide +kernel
theorem dX6_numbers_28 : decode cX6_numbers 28 = .ok (.baload, 1) := by decide +kernel
theorem dX6_numbers_29 : decode cX6_numbers 29 = .ok (.invokestatic 17, 3) := by decide +kernel
theorem dX6_numbers_32 : decode cX6_numbers 32 = .ok (.ifCond .eq 6, 3) := by decide +kernel
theorem dX6_numbers_35 : decode cX6_numbers 35 = .ok (.iinc 1 1, 3) := by decide +kernel
theorem dX6_numbers_38 : decode cX6_numbers 38 = .ok (.iinc 2 1, 3) := by decide +kernel
theorem dX6_numbers_41 : decode cX6_numbers 41 = .ok (.goto (-26), 3) := by decide +kernel
theorem dX6_numbers_44 : decode cX6_numbers 44 = .ok (.iload_n 1, 1) := by decide +kernel
theorem dX6_numbers_45 : decode cX6_numbers 45 = .ok (.ireturn, 1) := by decide +kernel
theorem dX6_comesTo_0 : decode cX6_comesTo 0 = .ok (.lconst 0, 1) := by decide +kernel
theorem dX6_comesTo_1 : decode cX6_comesTo 1 = .ok (.lstore_n 3, 1) := by decide +kernel
theorem dX6_comesTo_2 : decode cX6_comesTo 2 = .ok (.lconst 0, 1) := by decide +kernel
theorem dX6_comesTo_3 : decode cX6_comesTo 3 = .ok (.lstore 5, 2) := by decide +kernel
theorem dX6_comesTo_5 : decode cX6_comesTo 5 = .ok (.lconst 0, 1) := by decide +kernel
theorem dX6_comesTo_6 : decode cX6_comesTo 6 = .ok (.lstore 7, 2) := by decide +kernel
theorem dX6_comesTo_8 : decode cX6_comesTo 8 = .ok (.iconst 0, 1) := by decide +kernel
theorem dX6_comesTo_9 : decode cX6_comesTo 9 = .ok (.istore 9, 2) := by decide +kernel
theorem dX6_comesTo_11 : decode cX6_comesTo 11 = .ok (.iconst 0, 1) := by decide +kernel
theorem dX6_comesTo_12 : decode cX6_comesTo 12 = .ok (.istore 10, 2) := by decide +kernel
theorem dX6_comesTo_14 : decode cX6_comesTo 14 = .ok (.iconst 0, 1) := by decide +kernel
theorem dX6_comesTo_15 : decode cX6_comesTo 15 = .ok (.istore 11, 2) := by decide +kernel
theorem dX6_comesTo_17 : decode cX6_comesTo 17 = .ok (.iload 11, 2) := by decide +kernel
theorem dX6_comesTo_19 : decode cX6_comesTo 19 = .ok (.aload_n 0, 1) := by decide +kernel
theorem dX6_comesTo_20 : decode cX6_comesTo 20 = .ok (.getfield 13, 3) := by decide +kernel
theorem dX6_comesTo_23 : decode cX6_comesTo 23 = .ok (.if_icmp .gt 139, 3) := by decide +kernel
theorem dX6_comesTo_26 : decode cX6_comesTo 26 = .ok (.iload 11, 2) := by decide +kernel
theorem dX6_comesTo_28 : decode cX6_comesTo 28 = .ok (.aload_n 0, 1) := by decide +kernel
theorem dX6_comesTo_29 : decode cX6_comesTo 29 = .ok (.getfield 13, 3) := by decide +kernel
theorem dX6_comesTo_32 : decode cX6_comesTo 32 = .ok (.if_icmp .ge 13, 3) := by decide +kernel
theorem dX6_comesTo_35 : decode cX6_comesTo 35 = .ok (.aload_n 0, 1) := by decide +kernel
theorem dX6_comesTo_36 : decode cX6_comesTo 36 = .ok (.getfield 9, 3) := by decide +kernel
theorem dX6_comesTo_39 : decode cX6_comesTo 39 = .ok (.iload 11, 2) := by decide +kernel
theorem dX6_comesTo_41 : decode cX6_comesTo 41 = .ok (.baload, 1) := by decide +kernel
theorem dX6_comesTo_42 : decode cX6_comesTo 42 = .ok (.goto 5, 3) := by decide +kernel
theorem dX6_comesTo_45 : decode cX6_comesTo 45 = .ok (.bipush 43, 2) := by decide +kernel
theorem dX6_comesTo_47 : decode cX6_comesTo 47 = .ok (.istore 12, 2) := by decide +kernel
theorem dX6_comesTo_49 : decode cX6_comesTo 49 = .ok (.iload 12, 2) := by decide +kernel
theorem dX6_comesTo_51 : decode cX6_comesTo 51 = .ok (.invokestatic 17, 3) := by decide +kernel
theorem dX6_comesTo_54 : decode cX6_comesTo 54 = .ok (.ifCond .ne 26, 3) := by decide +kernel
theorem dX6_comesTo_57 : decode cX6_comesTo 57 = .ok (.lload 7, 2) := by decide +kernel
theorem dX6_comesTo_59 : decode cX6_comesTo 59 = .ok (.ldc2_w 21, 3) := by decide +kernel
theorem dX6_comesTo_62 : decode cX6_comesTo 62 = .ok (.lmul, 1) := by decide +kernel
theorem dX6_comesTo_63 : decode cX6_comesTo 63 = .ok (.iload 12, 2) := by decide +kernel
theorem dX6_comesTo_65 : decode cX6_comesTo 65 = .ok (.bipush 48, 2) := by decide +kernel
theorem dX6_comesTo_67 : decode cX6_comesTo 67 = .ok (.isub, 1) := by decide +kernel
theorem dX6_comesTo_68 : decode cX6_comesTo 68 = .ok (.iload_n 1, 1) := by decide +kernel
theorem dX6_comesTo_69 : decode cX6_comesTo 69 = .ok (.aload_n 2, 1) := by decide +kernel
theorem dX6_comesTo_70 : decode cX6_comesTo 70 = .ok (.invokestatic 23, 3) := by decide +kernel
theorem dX6_comesTo_73 : decode cX6_comesTo 73 = .ok (.i2l, 1) := by decide +kernel
theorem dX6_comesTo_74 : decode cX6_comesTo 74 = .ok (.ladd, 1) := by decide +kernel
theorem dX6_comesTo_75 : decode cX6_comesTo 75 = .ok (.lstore 7, 2) := by decide +kernel
theorem dX6_comesTo_77 : decode cX6_comesTo 77 = .ok (.goto 79, 3) := by decide +kernel
theorem dX6_comesTo_80 : decode cX6_comesTo 80 = .ok (.iload 9, 2) := by decide +kernel
theorem dX6_comesTo_82 : decode cX6_comesTo 82 = .ok (.ifCond .eq 14, 3) := by decide +kernel
theorem dX6_comesTo_85 : decode cX6_comesTo 85 = .ok (.lload 5, 2) := by decide +kernel
theorem dX6_comesTo_87 : decode cX6_comesTo 87 = .ok (.lload 7, 2) := by decide +kernel
theorem dX6_comesTo_89 : decode cX6_comesTo 89 = .ok (.lmul, 1) := by decide +kernel
theorem dX6_comesTo_90 : decode cX6_comesTo 90 = .ok (.invokestatic 29, 3) := by decide +kernel
theorem dX6_comesTo_93 : decode cX6_comesTo 93 = .ok (.goto 5, 3) := by decide +kernel
theorem dX6_comesTo_96 : decode cX6_comesTo 96 = .ok (.lload 7, 2) := by decide +kernel
theorem dX6_comesTo_98 : decode cX6_comesTo 98 = .ok (.lstore 5, 2) := by decide +kernel
theorem dX6_comesTo_100 : decode cX6_comesTo 100 = .ok (.lconst 0, 1) := by decide +kernel
theorem dX6_comesTo_101 : decode cX6_comesTo 101 = .ok (.lstore 7, 2) := by decide +kernel
theorem dX6_comesTo_103 : decode cX6_comesTo 103 = .ok (.iload 12, 2) := by decide +kernel
theorem dX6_comesTo_105 : decode cX6_comesTo 105 = .ok (.bipush 42, 2) := by decide +kernel
theorem dX6_comesTo_107 : decode cX6_comesTo 107 = .ok (.if_icmp .ne 7, 3) := by decide +kernel
theorem dX6_comesTo_110 : decode cX6_comesTo 110 = .ok (.iconst 1, 1) := by decide +kernel
theorem dX6_comesTo_111 : decode cX6_comesTo 111 = .ok (.goto 4, 3) := by decide +kernel
theorem dX6_comesTo_114 : decode cX6_comesTo 114 = .ok (.iconst 0, 1) := by decide +kernel
theorem dX6_comesTo_115 : decode cX6_comesTo 115 = .ok (.istore 9, 2) := by decide +kernel
theorem dX6_comesTo_117 : decode cX6_comesTo 117 = .ok (.iload 9, 2) := by decide +kernel
theorem dX6_comesTo_119 : decode cX6_comesTo 119 = .ok (.ifCond .ne 37, 3) := by decide +kernel
theorem dX6_comesTo_122 : decode cX6_comesTo 122 = .ok (.iload 10, 2) := by decide +kernel
theorem dX6_comesTo_124 : decode cX6_comesTo 124 = .ok (.ifCond .eq 10, 3) := by decide +kernel
theorem dX6_comesTo_127 : decode cX6_comesTo 127 = .ok (.lload_n 3, 1) := by decide +kernel
theorem dX6_comesTo_128 : decode cX6_comesTo 128 = .ok (.lload 5, 2) := by decide +kernel
theorem dX6_comesTo_130 : decode cX6_comesTo 130 = .ok (.lsub, 1) := by decide +kernel
theorem dX6_comesTo_131 : decode cX6_comesTo 131 = .ok (.goto 7, 3) := by decide +kernel
theorem dX6_comesTo_134 : decode cX6_comesTo 134 = .ok (.lload_n 3, 1) := by decide +kernel
theorem dX6_comesTo_135 : decode cX6_comesTo 135 = .ok (.lload 5, 2) := by decide +kernel
theorem dX6_comesTo_137 : decode cX6_comesTo 137 = .ok (.ladd, 1) := by decide +kernel
theorem dX6_comesTo_138 : decode cX6_comesTo 138 = .ok (.invokestatic 29, 3) := by decide +kernel
theorem dX6_comesTo_141 : decode cX6_comesTo 141 = .ok (.lstore_n 3, 1) := by decide +kernel
theorem dX6_comesTo_142 : decode cX6_comesTo 142 = .ok (.iload 12, 2) := by decide +kernel
theorem dX6_comesTo_144 : decode cX6_comesTo 144 = .ok (.bipush 45, 2) := by decide +kernel
theorem dX6_comesTo_146 : decode cX6_comesTo 146 = .ok (.if_icmp .ne 7, 3) := by decide +kernel
theorem dX6_comesTo_149 : decode cX6_comesTo 149 = .ok (.iconst 1, 1) := by decide +kernel
theorem dX6_comesTo_150 : decode cX6_comesTo 150 = .ok (.goto 4, 3) := by decide +kernel
theorem dX6_comesTo_153 : decode cX6_comesTo 153 = .ok (.iconst 0, 1) := by decide +kernel
theorem dX6_comesTo_154 : decode cX6_comesTo 154 = .ok (.istore 10, 2) := by decide +kernel
theorem dX6_comesTo_156 : decode cX6_comesTo 156 = .ok (.iinc 11 1, 3) := by decide +kernel
theorem dX6_comesTo_159 : decode cX6_comesTo 159 = .ok (.goto (-142), 3) := by decide +kernel
theorem dX6_comesTo_162 : decode cX6_comesTo 162 = .ok (.lload_n 3, 1) := by decide +kernel
theorem dX6_comesTo_163 : decode cX6_comesTo 163 = .ok (.l2i, 1) := by decide +kernel
theorem dX6_comesTo_164 : decode cX6_comesTo 164 = .ok (.ireturn, 1) := by decide +kernel
theorem dX6_keptWithin_0 : decode cX6_keptWithin 0 = .ok (.ldc2_w 33, 3) := by decide +kernel
theorem dX6_keptWithin_3 : decode cX6_keptWithin 3 = .ok (.ldc2_w 35, 3) := by decide +kernel
theorem dX6_keptWithin_6 : decode cX6_keptWithin 6 = .ok (.lload_n 0, 1) := by decide +kernel
theorem dX6_keptWithin_7 : decode cX6_keptWithin 7 = .ok (.invokestatic 37, 3) := by decide +kernel
theorem dX6_keptWithin_10 : decode cX6_keptWithin 10 = .ok (.invokestatic 43, 3) := by decide +kernel
theorem dX6_keptWithin_13 : decode cX6_keptWithin 13 = .ok (.lreturn, 1) := by decide +kernel
theorem dX7_init_0 : decode cX7_init 0 = .ok (.aload_n 0, 1) := by decide +kernel
theorem dX7_init_1 : decode cX7_init 1 = .ok (.invokespecial 1, 3) := by decide +kernel
theorem dX7_init_4 : decode cX7_init 4 = .ok (.aload_n 0, 1) := by decide +kernel
theorem dX7_init_5 : decode cX7_init 5 = .ok (.sipush 200, 3) := by decide +kernel
theorem dX7_init_8 : decode cX7_init 8 = .ok (.newarray .byte, 2) := by decide +kernel
theorem dX7_init_10 : decode cX7_init 10 = .ok (.putfield 9, 3) := by decide +kernel
theorem dX7_init_13 : decode cX7_init 13 = .ok (.aload_n 0, 1) := by decide +kernel
theorem dX7_init_14 : decode cX7_init 14 = .ok (.iconst 0, 1) := by decide +kernel
theorem dX7_init_15 : decode cX7_init 15 = .ok (.putfield 13, 3) := by decide +kernel
theorem dX7_init_18 : decode cX7_init 18 = .ok (.return_, 1) := by decide +kernel
theorem dX7_append_0 : decode cX7_append 0 = .ok (.aload_n 0, 1) := by decide +kernel
theorem dX7_append_1 : decode cX7_append 1 = .ok (.getfield 13, 3) := by decide +kernel
theorem dX7_append_4 : decode cX7_append 4 = .ok (.sipush 200, 3) := by decide +kernel
theorem dX7_append_7 : decode cX7_append 7 = .ok (.if_icmp .lt 5, 3) := by decide +kernel
theorem dX7_append_10 : decode cX7_append 10 = .ok (.iconst 0, 1) := by decide +kernel
theorem dX7_append_11 : decode cX7_append 11 = .ok (.ireturn, 1) := by decide +kernel
theorem dX7_append_12 : decode cX7_append 12 = .ok (.aload_n 0, 1) := by decide +kernel
theorem dX7_append_13 : decode cX7_append 13 = .ok (.getfield 9, 3) := by decide +kernel
theorem dX7_append_16 : decode cX7_append 16 = .ok (.aload_n 0, 1) := by decide +kernel
theorem dX7_append_17 : decode cX7_append 17 = .ok (.getfield 13, 3) := by decide +kernel
theorem dX7_append_20 : decode cX7_append 20 = .ok (.iload_n 1, 1) := by decide +kernel
theorem dX7_append_21 : decode cX7_append 21 = .ok (.i2b, 1) := by decide +kernel
theorem dX7_append_22 : decode cX7_append 22 = .ok (.bastore, 1) := by decide +kernel
theorem dX7_append_23 : decode cX7_append 23 = .ok (.aload_n 0, 1) := by decide +kernel
theorem dX7_append_24 : decode cX7_append 24 = .ok (.dup, 1) := by decide +kernel
theorem dX7_append_25 : decode cX7_append 25 = .ok (.getfield 13, 3) := by decide +kernel
theorem dX7_append_28 : decode cX7_append 28 = .ok (.iconst 1, 1) := by decide +kernel
theorem dX7_append_29 : decode cX7_append 29 = .ok (.iadd, 1) := by decide +kernel
theorem dX7_append_30 : decode cX7_append 30 = .ok (.putfield 13, 3) := by decide +kernel
theorem dX7_append_33 : decode cX7_append 33 = .ok (.iconst 1, 1) := by decide +kernel
theorem dX7_append_34 : decode cX7_append 34 = .ok (.ireturn, 1) := by decide +kernel
theorem dX7_copyFrom_0 : decode cX7_copyFrom 0 = .ok (.aload_n 0, 1) := by decide +kernel
theorem dX7_copyFrom_1 : decode cX7_copyFrom 1 = .ok (.invokevirtual 17, 3) := by decide +kernel
theorem dX7_copyFrom_4 : decode cX7_copyFrom 4 = .ok (.iconst 0, 1) := by decide +kernel
theorem dX7_copyFrom_5 : decode cX7_copyFrom 5 = .ok (.istore_n 2, 1) := by decide +kernel
theorem dX7_copyFrom_6 : decode cX7_copyFrom 6 = .ok (.iload_n 2, 1) := by decide +kernel
theorem dX7_copyFrom_7 : decode cX7_copyFrom 7 = .ok (.aload_n 1, 1) := by decide +kernel
theorem dX7_copyFrom_8 : decode cX7_copyFrom 8 = .ok (.invokevirtual 20, 3) := by decide +kernel
theorem dX7_copyFrom_11 : decode cX7_copyFrom 11 = .ok (.if_icmp .ge 19, 3) := by decide +kernel
theorem dX7_copyFrom_14 : decode cX7_copyFrom 14 = .ok (.aload_n 0, 1) := by decide +kernel
theorem dX7_copyFrom_15 : decode cX7_copyFrom 15 = .ok (.aload_n 1, 1) := by decide +kernel
theorem dX7_copyFrom_16 : decode cX7_copyFrom 16 = .ok (.iload_n 2, 1) := by decide +kernel
theorem dX7_copyFrom_17 : decode cX7_copyFrom 17 = .ok (.invokevirtual 25, 3) := by decide +kernel
theorem dX7_copyFrom_20 : decode cX7_copyFrom 20 = .ok (.invokevirtual 29, 3) := by decide +kernel
theorem dX7_copyFrom_23 : decode cX7_copyFrom 23 = .ok (.pop, 1) := by decide +kernel
theorem dX7_copyFrom_24 : decode cX7_copyFrom 24 = .ok (.iinc 2 1, 3) := by decide +kernel
theorem dX7_copyFrom_27 : decode cX7_copyFrom 27 = .ok (.goto (-21), 3) := by decide +kernel
theorem dX7_copyFrom_30 : decode cX7_copyFrom 30 = .ok (.return_, 1) := by decide +kernel
theorem dX7_clear_0 : decode cX7_clear 0 = .ok (.aload_n 0, 1) := by decide +kernel
theorem dX7_clear_1 : decode cX7_clear 1 = .ok (.iconst 0, 1) := by decide +kernel
theorem dX7_clear_2 : decode cX7_clear 2 = .ok (.putfield 13, 3) := by decide +kernel
theorem dX7_clear_5 : decode cX7_clear 5 = .ok (.return_, 1) := by decide +kernel
theorem dX7_letterAt_0 : decode cX7_letterAt 0 = .ok (.iload_n 1, 1) := by decide +kernel
theorem dX7_letterAt_1 : decode cX7_letterAt 1 = .ok (.iconst 0, 1) := by decide +kernel
theorem dX7_letterAt_2 : decode cX7_letterAt 2 = .ok (.aload_n 0, 1) := by decide +kernel
theorem dX7_letterAt_3 : decode cX7_letterAt 3 = .ok (.getfield 13, 3) := by decide +kernel
theorem dX7_letterAt_6 : decode cX7_letterAt 6 = .ok (.iconst 1, 1) := by decide +kernel
theorem dX7_letterAt_7 : decode cX7_letterAt 7 = .ok (.isub, 1) := by decide +kernel
theorem dX7_letterAt_8 : decode cX7_letterAt 8 = .ok (.invokestatic 33, 3) := by decide +kernel
theorem dX7_letterAt_11 : decode cX7_letterAt 11 = .ok (.ifCond .eq 12, 3) := by decide +kernel
theorem dX7_letterAt_14 : decode cX7_letterAt 14 = .ok (.aload_n 0, 1) := by decide +kernel
theorem dX7_letterAt_15 : decode cX7_letterAt 15 = .ok (.getfield 9, 3) := by decide +kernel
theorem dX7_letterAt_18 : decode cX7_letterAt 18 = .ok (.iload_n 1, 1) := by decide +kernel
theorem dX7_letterAt_19 : decode cX7_letterAt 19 = .ok (.baload, 1) := by decide +kernel
theorem dX7_letterAt_20 : decode cX7_letterAt 20 = .ok (.goto 4, 3) := by decide +kernel
theorem dX7_letterAt_23 : decode cX7_letterAt 23 = .ok (.iconst 0, 1) := by decide +kernel
theorem dX7_letterAt_24 : decode cX7_letterAt 24 = .ok (.ireturn, 1) := by decide +kernel
theorem dX8_init_0 : decode cX8_init 0 = .ok (.aload_n 0, 1) := by decide +kernel
theorem dX8_init_1 : decode cX8_init 1 = .ok (.invokespecial 3, 3) := by decide +kernel
theorem dX8_init_4 : decode cX8_init 4 = .ok (.aload_n 0, 1) := by decide +kernel
theorem dX8_init_5 : decode cX8_init 5 = .ok (.sipush 201, 3) := by decide +kernel
theorem dX8_init_8 : decode cX8_init 8 = .ok (.newarray .int, 2) := by decide +kernel
theorem dX8_init_10 : decode cX8_init 10 = .ok (.putfield 9, 3) := by decide +kernel
theorem dX8_init_13 : decode cX8_init 13 = .ok (.return_, 1) := by decide +kernel
theorem dX8_countFewest_0 : decode cX8_countFewest 0 = .ok (.aload_n 0, 1) := by decide +kernel
theorem dX8_countFewest_1 : decode cX8_countFewest 1 = .ok (.iconst 0, 1) := by decide +kernel
theorem dX8_countFewest_2 : decode cX8_countFewest 2 = .ok (.sipush 201, 3) := by decide +kernel
theorem dX8_countFewest_5 : decode cX8_countFewest 5 = .ok (.invokevirtual 15, 3) := by decide +kernel
theorem dX8_countFewest_8 : decode cX8_countFewest 8 = .ok (.iconst 0, 1) := by decide +kernel
theorem dX8_countFewest_9 : decode cX8_countFewest 9 = .ok (.istore_n 3, 1) := by decide +kernel
theorem dX8_countFewest_10 : decode cX8_countFewest 10 = .ok (.iload_n 3, 1) := by decide +kernel
theorem dX8_countFewest_11 : decode cX8_countFewest 11 = .ok (.aload_n 1, 1) := by decide +kernel
theorem dX8_countFewest_12 : decode cX8_countFewest 12 = .ok (.getfield 19, 3) := by decide +kernel
theorem dX8_countFewest_15 : decode cX8_countFewest 15 = .ok (.if_icmp .ge 73, 3) := by decide +kernel
theorem dX8_countFewest_18 : decode cX8_countFewest 18 = .ok (.aload_n 1, 1) := by decide +kernel
theorem dX8_countFewest_19 : decode cX8_countFewest 19 = .ok (.getfield 25, 3) := by decide +kernel
theorem dX8_countFewest_22 : decode cX8_countFewest 22 = .ok (.iload_n 3, 1) := by decide +kernel
theorem dX8_countFewest_23 : decode cX8_countFewest 23 = .ok (.iaload, 1) := by decide +kernel
theorem dX8_countFewest_24 : decode cX8_countFewest 24 = .ok (.istore 4, 2) := by decide +kernel
theorem dX8_countFewest_26 : decode cX8_countFewest 26 = .ok (.iload_n 2, 1) := by decide +kernel
theorem dX8_countFewest_27 : decode cX8_countFewest 27 = .ok (.iload 4, 2) := by decide +kernel
theorem dX8_countFewest_29 : decode cX8_countFewest 29 = .ok (.invokestatic 28, 3) := by decide +kernel
theorem dX8_countFewest_32 : decode cX8_countFewest 32 = .ok (.ifCond .eq 50, 3) := by decide +kernel
theorem dX8_countFewest_35 : decode cX8_countFewest 35 = .ok (.iload 4, 2) := by decide +kernel
theorem dX8_countFewest_37 : decode cX8_countFewest 37 = .ok (.istore 5, 2) := by decide +kernel
theorem dX8_countFewest_39 : decode cX8_countFewest 39 = .ok (.iload 5, 2) := by decide +kernel
theorem dX8_countFewest_41 : decode cX8_countFewest 41 = .ok (.sipush 200, 3) := by decide +kernel
theorem dX8_countFewest_44 : decode cX8_countFewest 44 = .ok (.if_icmp .gt 38, 3) := by decide +kernel
theorem dX8_countFewest_47 : decode cX8_countFewest 47 = .ok (.aload_n 0, 1) := by decide +kernel
theorem dX8_countFewest_48 : decode cX8_countFewest 48 = .ok (.getfield 9, 3) := by decide +kernel
theorem dX8_countFewest_51 : decode cX8_countFewest 51 = .ok (.iload 5, 2) := by decide +kernel
theorem dX8_countFewest_53 : decode cX8_countFewest 53 = .ok (.aload_n 0, 1) := by decide +kernel
theorem dX8_countFewest_54 : decode cX8_countFewest 54 = .ok (.getfield 9, 3) := by decide +kernel
theorem dX8_countFewest_57 : decode cX8_countFewest 57 = .ok (.iload 5, 2) := by decide +kernel
theorem dX8_countFewest_59 : decode cX8_countFewest 59 = .ok (.iaload, 1) := by decide +kernel
theorem dX8_countFewest_60 : decode cX8_countFewest 60 = .ok (.aload_n 0, 1) := by decide +kernel
theorem dX8_countFewest_61 : decode cX8_countFewest 61 = .ok (.getfield 9, 3) := by decide +kernel
theorem dX8_countFewest_64 : decode cX8_countFewest 64 = .ok (.iload 5, 2) := by decide +kernel
theorem dX8_countFewest_66 : decode cX8_countFewest 66 = .ok (.iload 4, 2) := by decide +kernel
theorem dX8_countFewest_68 : decode cX8_countFewest 68 = .ok (.isub, 1) := by decide +kernel
theorem dX8_countFewest_69 : decode cX8_countFewest 69 = .ok (.iaload, 1) := by decide +kernel
theorem dX8_countFewest_70 : decode cX8_countFewest 70 = .ok (.iconst 1, 1) := by decide +kernel
theorem dX8_countFewest_71 : decode cX8_countFewest 71 = .ok (.iadd, 1) := by decide +kernel
theorem dX8_countFewest_72 : decode cX8_countFewest 72 = .ok (.invokestatic 34, 3) := by decide +kernel
theorem dX8_countFewest_75 : decode cX8_countFewest 75 = .ok (.iastore, 1) := by decide +kernel
theorem dX8_countFewest_76 : decode cX8_countFewest 76 = .ok (.iinc 5 1, 3) := by decide +kernel
theorem dX8_countFewest_79 : decode cX8_countFewest 79 = .ok (.goto (-40), 3) := by decide +kernel
theorem dX8_countFewest_82 : decode cX8_countFewest 82 = .ok (.iinc 3 1, 3) := by decide +kernel
theorem dX8_countFewest_85 : decode cX8_countFewest 85 = .ok (.goto (-75), 3) := by decide +kernel
theorem dX8_countFewest_88 : decode cX8_countFewest 88 = .ok (.return_, 1) := by decide +kernel
theorem dX8_isMade_0 : decode cX8_isMade 0 = .ok (.aload_n 0, 1) := by decide +kernel
theorem dX8_isMade_1 : decode cX8_isMade 1 = .ok (.getfield 9, 3) := by decide +kernel
theorem dX8_isMade_4 : decode cX8_isMade 4 = .ok (.iload_n 1, 1) := by decide +kernel
theorem dX8_isMade_5 : decode cX8_isMade 5 = .ok (.iaload, 1) := by decide +kernel
theorem dX8_isMade_6 : decode cX8_isMade 6 = .ok (.sipush 201, 3) := by decide +kernel
theorem dX8_isMade_9 : decode cX8_isMade 9 = .ok (.if_icmp .ge 7, 3) := by decide +kernel
theorem dX8_isMade_12 : decode cX8_isMade 12 = .ok (.iconst 1, 1) := by decide +kernel
theorem dX8_isMade_13 : decode cX8_isMade 13 = .ok (.goto 4, 3) := by decide +kernel
theorem dX8_isMade_16 : decode cX8_isMade 16 = .ok (.iconst 0, 1) := by decide +kernel
theorem dX8_isMade_17 : decode cX8_isMade 17 = .ok (.ireturn, 1) := by decide +kernel
theorem dX8_countWays_0 : decode cX8_countWays 0 = .ok (.aload_n 0, 1) := by decide +kernel
theorem dX8_countWays_1 : decode cX8_countWays 1 = .ok (.iconst 1, 1) := by decide +kernel
theorem dX8_countWays_2 : decode cX8_countWays 2 = .ok (.iconst 0, 1) := by decide +kernel
theorem dX8_countWays_3 : decode cX8_countWays 3 = .ok (.invokevirtual 15, 3) := by decide +kernel
theorem dX8_countWays_6 : decode cX8_countWays 6 = .ok (.iconst 0, 1) := by decide +kernel
theorem dX8_countWays_7 : decode cX8_countWays 7 = .ok (.istore_n 3, 1) := by decide +kernel
theorem dX8_countWays_8 : decode cX8_countWays 8 = .ok (.iload_n 3, 1) := by decide +kernel
theorem dX8_countWays_9 : decode cX8_countWays 9 = .ok (.aload_n 1, 1) := by decide +kernel
theorem dX8_countWays_10 : decode cX8_countWays 10 = .ok (.getfield 19, 3) := by decide +kernel
theorem dX8_countWays_13 : decode cX8_countWays 13 = .ok (.if_icmp .ge 64, 3) := by decide +kernel
theorem dX8_countWays_16 : decode cX8_countWays 16 = .ok (.aload_n 1, 1) := by decide +kernel
theorem dX8_countWays_17 : decode cX8_countWays 17 = .ok (.getfield 25, 3) := by decide +kernel
theorem dX8_countWays_20 : decode cX8_countWays 20 = .ok (.iload_n 3, 1) := by decide +kernel
theorem dX8_countWays_21 : decode cX8_countWays 21 = .ok (.iaload, 1) := by decide +kernel
theorem dX8_countWays_22 : decode cX8_countWays 22 = .ok (.istore 4, 2) := by decide +kernel
theorem dX8_countWays_24 : decode cX8_countWays 24 = .ok (.iload_n 2, 1) := by decide +kernel
theorem dX8_countWays_25 : decode cX8_countWays 25 = .ok (.iload 4, 2) := by decide +kernel
theorem dX8_countWays_27 : decode cX8_countWays 27 = .ok (.invokestatic 28, 3) := by decide +kernel
theorem dX8_countWays_30 : decode cX8_countWays 30 = .ok (.ifCond .eq 41, 3) := by decide +kernel
theorem dX8_countWays_33 : decode cX8_countWays 33 = .ok (.iload 4, 2) := by decide +kernel
theorem dX8_countWays_35 : decode cX8_countWays 35 = .ok (.istore 5, 2) := by decide +kernel
theorem dX8_countWays_37 : decode cX8_countWays 37 = .ok (.iload 5, 2) := by decide +kernel
theorem dX8_countWays_39 : decode cX8_countWays 39 = .ok (.sipush 200, 3) := by decide +kernel
theorem dX8_countWays_42 : decode cX8_countWays 42 = .ok (.if_icmp .gt 29, 3) := by decide +kernel
theorem dX8_countWays_45 : decode cX8_countWays 45 = .ok (.aload_n 0, 1) := by decide +kernel
theorem dX8_countWays_46 : decode cX8_countWays 46 = .ok (.getfield 9, 3) := by decide +kernel
theorem dX8_countWays_49 : decode cX8_countWays 49 = .ok (.iload 5, 2) := by decide +kernel
theorem dX8_countWays_51 : decode cX8_countWays 51 = .ok (.dup2, 1) := by decide +kernel
theorem dX8_countWays_52 : decode cX8_countWays 52 = .ok (.iaload, 1) := by decide +kernel
theorem dX8_countWays_53 : decode cX8_countWays 53 = .ok (.aload_n 0, 1) := by decide +kernel
theorem dX8_countWays_54 : decode cX8_countWays 54 = .ok (.getfield 9, 3) := by decide +kernel
theorem dX8_countWays_57 : decode cX8_countWays 57 = .ok (.iload 5, 2) := by decide +kernel
theorem dX8_countWays_59 : decode cX8_countWays 59 = .ok (.iload 4, 2) := by decide +kernel
theorem dX8_countWays_61 : decode cX8_countWays 61 = .ok (.isub, 1) := by decide +kernel
theorem dX8_countWays_62 : decode cX8_countWays 62 = .ok (.iaload, 1) := by decide +kernel
theorem dX8_countWays_63 : decode cX8_countWays 63 = .ok (.iadd, 1) := by decide +kernel
theorem dX8_countWays_64 : decode cX8_countWays 64 = .ok (.iastore, 1) := by decide +kernel
theorem dX8_countWays_65 : decode cX8_countWays 65 = .ok (.iinc 5 1, 3) := by decide +kernel
theorem dX8_countWays_68 : decode cX8_countWays 68 = .ok (.goto (-31), 3) := by decide +kernel
theorem dX8_countWays_71 : decode cX8_countWays 71 = .ok (.iinc 3 1, 3) := by decide +kernel
theorem dX8_countWays_74 : decode cX8_countWays 74 = .ok (.goto (-66), 3) := by decide +kernel
theorem dX8_countWays_77 : decode cX8_countWays 77 = .ok (.return_, 1) := by decide +kernel
theorem dX8_startWith_0 : decode cX8_startWith 0 = .ok (.aload_n 0, 1) := by decide +kernel
theorem dX8_startWith_1 : decode cX8_startWith 1 = .ok (.getfield 9, 3) := by decide +kernel
theorem dX8_startWith_4 : decode cX8_startWith 4 = .ok (.iconst 0, 1) := by decide +kernel
theorem dX8_startWith_5 : decode cX8_startWith 5 = .ok (.iload_n 1, 1) := by decide +kernel
theorem dX8_startWith_6 : decode cX8_startWith 6 = .ok (.iastore, 1) := by decide +kernel
theorem dX8_startWith_7 : decode cX8_startWith 7 = .ok (.iconst 1, 1) := by decide +kernel
theorem dX8_startWith_8 : decode cX8_startWith 8 = .ok (.istore_n 3, 1) := by decide +kernel
theorem dX8_startWith_9 : decode cX8_startWith 9 = .ok (.iload_n 3, 1) := by decide +kernel
theorem dX8_startWith_10 : decode cX8_startWith 10 = .ok (.sipush 200, 3) := by decide +kernel
theorem dX8_startWith_13 : decode cX8_startWith 13 = .ok (.if_icmp .gt 16, 3) := by decide +kernel
theorem dX8_startWith_16 : decode cX8_startWith 16 = .ok (.aload_n 0, 1) := by decide +kernel
theorem dX8_startWith_17 : decode cX8_startWith 17 = .ok (.getfield 9, 3) := by decide +kernel
theorem dX8_startWith_20 : decode cX8_startWith 20 = .ok (.iload_n 3, 1) := by decide +kernel
theorem dX8_startWith_21 : decode cX8_startWith 21 = .ok (.iload_n 2, 1) := by decide +kernel
theorem dX8_startWith_22 : decode cX8_startWith 22 = .ok (.iastore, 1) := by decide +kernel
theorem dX8_startWith_23 : decode cX8_startWith 23 = .ok (.iinc 3 1, 3) := by decide +kernel
theorem dX8_startWith_26 : decode cX8_startWith 26 = .ok (.goto (-17), 3) := by decide +kernel
theorem dX8_startWith_29 : decode cX8_startWith 29 = .ok (.return_, 1) := by decide +kernel
theorem dX9_init_0 : decode cX9_init 0 = .ok (.aload_n 0, 1) := by decide +kernel
theorem dX9_init_1 : decode cX9_init 1 = .ok (.invokespecial 3, 3) := by decide +kernel
theorem dX9_init_4 : decode cX9_init 4 = .ok (.aload_n 0, 1) := by decide +kernel
theorem dX9_init_5 : decode cX9_init 5 = .ok (.new 9, 3) := by decide +kernel
theorem dX9_init_8 : decode cX9_init 8 = .ok (.dup, 1) := by decide +kernel
theorem dX9_init_9 : decode cX9_init 9 = .ok (.invokespecial 11, 3) := by decide +kernel
theorem dX9_init_12 : decode cX9_init 12 = .ok (.putfield 12, 3) := by decide +kernel
theorem dX9_init_15 : decode cX9_init 15 = .ok (.aload_n 0, 1) := by decide +kernel
theorem dX9_init_16 : decode cX9_init 16 = .ok (.bipush 6, 2) := by decide +kernel
theorem dX9_init_18 : decode cX9_init 18 = .ok (.newarray .int, 2) := by decide +kernel
theorem dX9_init_20 : decode cX9_init 20 = .ok (.putfield 18, 3) := by decide +kernel
theorem dX9_init_23 : decode cX9_init 23 = .ok (.aload_n 0, 1) := by decide +kernel
theorem dX9_init_24 : decode cX9_init 24 = .ok (.iconst 0, 1) := by decide +kernel
theorem dX9_init_25 : decode cX9_init 25 = .ok (.putfield 22, 3) := by decide +kernel
theorem dX9_init_28 : decode cX9_init 28 = .ok (.aload_n 0, 1) := by decide +kernel
theorem dX9_init_29 : decode cX9_init 29 = .ok (.bipush 6, 2) := by decide +kernel
theorem dX9_init_31 : decode cX9_init 31 = .ok (.putfield 26, 3) := by decide +kernel
theorem dX9_init_34 : decode cX9_init 34 = .ok (.aload_n 0, 1) := by decide +kernel
theorem dX9_init_35 : decode cX9_init 35 = .ok (.bipush 7, 2) := by decide +kernel
theorem dX9_init_37 : decode cX9_init 37 = .ok (.putfield 29, 3) := by decide +kernel
theorem dX9_init_40 : decode cX9_init 40 = .ok (.aload_n 0, 1) := by decide +kernel
theorem dX9_init_41 : decode cX9_init 41 = .ok (.new 32, 3) := by decide +kernel
theorem dX9_init_44 : decode cX9_init 44 = .ok (.dup, 1) := by decide +kernel
theorem dX9_init_45 : decode cX9_init 45 = .ok (.invokespecial 34, 3) := by decide +kernel
theorem dX9_init_48 : decode cX9_init 48 = .ok (.putfield 35, 3) := by decide +kernel
theorem dX9_init_51 : decode cX9_init 51 = .ok (.aload_n 0, 1) := by decide +kernel
theorem dX9_init_52 : decode cX9_init 52 = .ok (.iconst 0, 1) := by decide +kernel
theorem dX9_init_53 : decode cX9_init 53 = .ok (.putfield 39, 3) := by decide +kernel
theorem dX9_init_56 : decode cX9_init 56 = .ok (.return_, 1) := by decide +kernel
theorem dX9_readFrom_0 : decode cX9_readFrom 0 = .ok (.aload_n 0, 1) := by decide +kernel
theorem dX9_readFrom_1 : decode cX9_readFrom 1 = .ok (.getfield 12, 3) := by decide +kernel
theorem dX9_readFrom_4 : decode cX9_readFrom 4 = .ok (.invokevirtual 42, 3) := by decide +kernel
theorem dX9_readFrom_7 : decode cX9_readFrom 7 = .ok (.aload_n 0, 1) := by decide +kernel
theorem dX9_readFrom_8 : decode cX9_readFrom 8 = .ok (.iconst 0, 1) := by decide +kernel
theorem dX9_readFrom_9 : decode cX9_readFrom 9 = .ok (.putfield 22, 3) := by decide +kernel
theorem dX9_readFrom_12 : decode cX9_readFrom 12 = .ok (.aload_n 0, 1) := by decide +kernel
theorem dX9_readFrom_13 : decode cX9_readFrom 13 = .ok (.bipush 6, 2) := by decide +kernel
theorem dX9_readFrom_15 : decode cX9_readFrom 15 = .ok (.putfield 26, 3) := by decide +kernel
theorem dX9_readFrom_18 : decode cX9_readFrom 18 = .ok (.aload_n 0, 1) := by decide +kernel
theorem dX9_readFrom_19 : decode cX9_readFrom 19 = .ok (.bipush 7, 2) := by decide +kernel
theorem dX9_readFrom_21 : decode cX9_readFrom 21 = .ok (.putfield 29, 3) := by decide +kernel
theorem dX9_readFrom_24 : decode cX9_readFrom 24 = .ok (.aload_n 0, 1) := by decide +kernel
theorem dX9_readFrom_25 : decode cX9_readFrom 25 = .ok (.getfield 35, 3) := by decide +kernel
theorem dX9_readFrom_28 : decode cX9_readFrom 28 = .ok (.iconst 0, 1) := by decide +kernel
theorem dX9_readFrom_29 : decode cX9_readFrom 29 = .ok (.putfield 45, 3) := by decide +kernel
theorem dX9_readFrom_32 : decode cX9_readFrom 32 = .ok (.aload_n 0, 1) := by decide +kernel
theorem dX9_readFrom_33 : decode cX9_readFrom 33 = .ok (.iconst 0, 1) := by decide +kernel
theorem dX9_readFrom_34 : decode cX9_readFrom 34 = .ok (.putfield 39, 3) := by decide +kernel
theorem dX9_readFrom_37 : decode cX9_readFrom 37 = .ok (.iconst 0, 1) := by decide +kernel
theorem dX9_readFrom_38 : decode cX9_readFrom 38 = .ok (.istore_n 2, 1) := by decide +kernel
theorem dX9_readFrom_39 : decode cX9_readFrom 39 = .ok (.iload_n 2, 1) := by decide +kernel
theorem dX9_readFrom_40 : decode cX9_readFrom 40 = .ok (.sipush 200, 3) := by decide +kernel
theorem dX9_readFrom_43 : decode cX9_readFrom 43 = .ok (.if_icmp .ge 58, 3) := by decide +kernel
theorem dX9_readFrom_46 : decode cX9_readFrom 46 = .ok (.aload_n 0, 1) := by decide +kernel
theorem dX9_readFrom_47 : decode cX9_readFrom 47 = .ok (.getfield 39, 3) := by decide +kernel
theorem dX9_readFrom_50 : decode cX9_readFrom 50 = .ok (.aload_n 1, 1) := by decide +kernel
theorem dX9_readFrom_51 : decode cX9_readFrom 51 = .ok (.getfield 50, 3) := by decide +kernel
theorem dX9_readFrom_54 : decode cX9_readFrom 54 = .ok (.if_icmp .ge 47, 3) := by decide +kernel
theorem dX9_readFrom_57 : decode cX9_readFrom 57 = .ok (.aload_n 0, 1) := by decide +kernel
theorem dX9_readFrom_58 : decode cX9_readFrom 58 = .ok (.getfield 39, 3) := by decide +kernel
theorem dX9_readFrom_61 : decode cX9_readFrom 61 = .ok (.istore_n 3, 1) := by decide +kernel
theorem dX9_readFrom_62 : decode cX9_readFrom 62 = .ok (.aload_n 0, 1) := by decide +kernel
theorem dX9_readFrom_63 : decode cX9_readFrom 63 = .ok (.aload_n 1, 1) := by decide +kernel
theorem dX9_readFrom_64 : decode cX9_readFrom 64 = .ok (.invokevirtual 51, 3) := by decide +kernel
theorem dX9_readFrom_67 : decode cX9_readFrom 67 = .ok (.ifCond .eq 16, 3) := by decide +kernel
theorem dX9_readFrom_70 : decode cX9_readFrom 70 = .ok (.aload_n 1, 1) := by decide +kernel
theorem dX9_readFrom_71 : decode cX9_readFrom 71 = .ok (.aload_n 0, 1) := by decide +kernel
theorem dX9_readFrom_72 : decode cX9_readFrom 72 = .ok (.getfield 39, 3) := by decide +kernel
theorem dX9_readFrom_75 : decode cX9_readFrom 75 = .ok (.invokevirtual 55, 3) := by decide +kernel
theorem dX9_readFrom_78 : decode cX9_readFrom 78 = .ok (.bipush 59, 2) := by decide +kernel
theorem dX9_readFrom_80 : decode cX9_readFrom 80 = .ok (.if_icmp .eq 5, 3) := by decide +kernel
theorem dX9_readFrom_83 : decode cX9_readFrom 83 = .ok (.iload_n 3, 1) := by decide +kernel
theorem dX9_readFrom_84 : decode cX9_readFrom 84 = .ok (.ireturn, 1) := by decide +kernel
theorem dX9_readFrom_85 : decode cX9_readFrom 85 = .ok (.aload_n 0, 1) := by decide +kernel
theorem dX9_readFrom_86 : decode cX9_readFrom 86 = .ok (.dup, 1) := by decide +kernel
theorem dX9_readFrom_87 : decode cX9_readFrom 87 = .ok (.getfield 39, 3) := by decide +kernel
theorem dX9_readFrom_90 : decode cX9_readFrom 90 = .ok (.iconst 1, 1) := by decide +kernel
theorem dX9_readFrom_91 : decode cX9_readFrom 91 = .ok (.iadd, 1) := by decide +kernel
theorem dX9_readFrom_92 : decode cX9_readFrom 92 = .ok (.putfield 39, 3) := by decide +kernel
theorem dX9_readFrom_95 : decode cX9_readFrom 95 = .ok (.iinc 2 1, 3) := by decide +kernel
theorem dX9_readFrom_98 : decode cX9_readFrom 98 = .ok (.goto (-59), 3) := by decide +kernel
theorem dX9_readFrom_101 : decode cX9_readFrom 101 = .ok (.bipush (-4), 2) := by decide +kernel
theorem dX9_readFrom_103 : decode cX9_readFrom 103 = .ok (.ireturn, 1) := by decide +kernel
theorem dX9_readItem_0 : decode cX9_readItem 0 = .ok (.aload_n 1, 1) := by decide +kernel
theorem dX9_readItem_1 : decode cX9_readItem 1 = .ok (.aload_n 0, 1) := by decide +kernel
theorem dX9_readItem_2 : decode cX9_readItem 2 = .ok (.getfield 39, 3) := by decide +kernel
theorem dX9_readItem_5 : decode cX9_readItem 5 = .ok (.invokevirtual 55, 3) := by decide +kernel
theorem dX9_readItem_8 : decode cX9_readItem 8 = .ok (.istore_n 2, 1) := by decide +kernel
theorem dX9_readItem_9 : decode cX9_readItem 9 = .ok (.aload_n 0, 1) := by decide +kernel
theorem dX9_readItem_10 : decode cX9_readItem 10 = .ok (.dup, 1) := by decide +kernel
theorem dX9_readItem_11 : decode cX9_readItem 11 = .ok (.getfield 39, 3) := by decide +kernel
theorem dX9_readItem_14 : decode cX9_readItem 14 = .ok (.iconst 1, 1) := by decide +kernel
theorem dX9_readItem_15 : decode cX9_readItem 15 = .ok (.iadd, 1) := by decide +kernel
theorem dX9_readItem_16 : decode cX9_readItem 16 = .ok (.putfield 39, 3) := by decide +kernel
theorem dX9_readItem_19 : decode cX9_readItem 19 = .ok (.iload_n 2, 1) := by decide +kernel
theorem dX9_readItem_20 : decode cX9_readItem 20 = .ok (.lookupswitch 96 #[(99, 72), (100, 78), (101, 90), (102, 66), (119, 84), (120, 60)], 60) := by decide +kernel
theorem dX9_readItem_80 : decode cX9_readItem 80 = .ok (.aload_n 0, 1) := by decide +kernel
theorem dX9_readItem_81 : decode cX9_readItem 81 = .ok (.aload_n 1, 1) := by decide +kernel
theorem dX9_readItem_82 : decode cX9_readItem 82 = .ok (.invokevirtual 59, 3) := by decide +kernel
theorem dX9_readItem_85 : decode cX9_readItem 85 = .ok (.ireturn, 1) := by decide +kernel
theorem dX9_readItem_86 : decode cX9_readItem 86 = .ok (.aload_n 0, 1) := by decide +kernel
theorem dX9_readItem_87 : decode cX9_readItem 87 = .ok (.aload_n 1, 1) := by decide +kernel
theorem dX9_readItem_88 : decode cX9_readItem 88 = .ok (.invokevirtual 62, 3) := by decide +kernel
theorem dX9_readItem_91 : decode cX9_readItem 91 = .ok (.ireturn, 1) := by decide +kernel
theorem dX9_readItem_92 : decode cX9_readItem 92 = .ok (.aload_n 0, 1) := by decide +kernel
theorem dX9_readItem_93 : decode cX9_readItem 93 = .ok (.aload_n 1, 1) := by decide +kernel
theorem dX9_readItem_94 : decode cX9_readItem 94 = .ok (.invokevirtual 65, 3) := by decide +kernel
theorem dX9_readItem_97 : decode cX9_readItem 97 = .ok (.ireturn, 1) := by decide +kernel
theorem dX9_readItem_98 : decode cX9_readItem 98 = .ok (.aload_n 0, 1) := by decide +kernel
theorem dX9_readItem_99 : decode cX9_readItem 99 = .ok (.aload_n 1, 1) := by decide +kernel
theorem dX9_readItem_100 : decode cX9_readItem 100 = .ok (.invokevirtual 68, 3) := by decide +kernel
theorem dX9_readItem_103 : decode cX9_readItem 103 = .ok (.ireturn, 1) := by decide +kernel
theorem dX9_readItem_104 : decode cX9_readItem 104 = .ok (.aload_n 0, 1) := by decide +kernel
theorem dX9_readItem_105 : decode cX9_readItem 105 = .ok (.aload_n 1, 1) := by decide +kernel
theorem dX9_readItem_106 : decode cX9_readItem 106 = .ok (.invokevirtual 71, 3) := by decide +kernel
theorem dX9_readItem_109 : decode cX9_readItem 109 = .ok (.ireturn, 1) := by decide +kernel
theorem dX9_readItem_110 : decode cX9_readItem 110 = .ok (.aload_n 0, 1) := by decide +kernel
theorem dX9_readItem_111 : decode cX9_readItem 111 = .ok (.aload_n 1, 1) := by decide +kernel
theorem dX9_readItem_112 : decode cX9_readItem 112 = .ok (.invokevirtual 74, 3) := by decide +kernel
theorem dX9_readItem_115 : decode cX9_readItem 115 = .ok (.ireturn, 1) := by decide +kernel
theorem dX9_readItem_116 : decode cX9_readItem 116 = .ok (.iconst 0, 1) := by decide +kernel
theorem dX9_readItem_117 : decode cX9_readItem 117 = .ok (.ireturn, 1) := by decide +kernel
theorem dX9_readStrike_0 : decode cX9_readStrike 0 = .ok (.aload_n 0, 1) := by decide +kernel
theorem dX9_readStrike_1 : decode cX9_readStrike 1 = .ok (.aload_n 1, 1) := by decide +kernel
theorem dX9_readStrike_2 : decode cX9_readStrike 2 = .ok (.invokevirtual 77, 3) := by decide +kernel
theorem dX9_readStrike_5 : decode cX9_readStrike 5 = .ok (.istore_n 2, 1) := by decide +kernel
theorem dX9_readStrike_6 : decode cX9_readStrike 6 = .ok (.iload_n 2, 1) := by decide +kernel
theorem dX9_readStrike_7 : decode cX9_readStrike 7 = .ok (.invokestatic 81, 3) := by decide +kernel
theorem dX9_readStrike_10 : decode cX9_readStrike 10 = .ok (.ifCond .ne 5, 3) := by decide +kernel
theorem dX9_readStrike_13 : decode cX9_readStrike 13 = .ok (.iconst 0, 1) := by decide +kernel
theorem dX9_readStrike_14 : decode cX9_readStrike 14 = .ok (.ireturn, 1) := by decide +kernel
theorem dX9_readStrike_15 : decode cX9_readStrike 15 = .ok (.aload_n 0, 1) := by decide +kernel
theorem dX9_readStrike_16 : decode cX9_readStrike 16 = .ok (.getfield 12, 3) := by decide +kernel
theorem dX9_readStrike_19 : decode cX9_readStrike 19 = .ok (.dup, 1) := by decide +kernel
theorem dX9_readStrike_20 : decode cX9_readStrike 20 = .ok (.getfield 85, 3) := by decide +kernel
theorem dX9_readStrike_23 : decode cX9_readStrike 23 = .ok (.iconst 1, 1) := by decide +kernel
theorem dX9_readStrike_24 : decode cX9_readStrike 24 = .ok (.iload_n 2, 1) := by decide +kernel
theorem dX9_readStrike_25 : decode cX9_readStrike 25 = .ok (.ishl, 1) := by decide +kernel
theorem dX9_readStrike_26 : decode cX9_readStrike 26 = .ok (.ior, 1) := by decide +kernel
theorem dX9_readStrike_27 : decode cX9_readStrike 27 = .ok (.putfield 85, 3) := by decide +kernel
theorem dX9_readStrike_30 : decode cX9_readStrike 30 = .ok (.iconst 1, 1) := by decide +kernel
theorem dX9_readStrike_31 : decode cX9_readStrike 31 = .ok (.ireturn, 1) := by decide +kernel
theorem dX9_readStandIn_0 : decode cX9_readStandIn 0 = .ok (.aload_n 0, 1) := by decide +kernel
theorem dX9_readStandIn_1 : decode cX9_readStandIn 1 = .ok (.aload_n 1, 1) := by decide +kernel
theorem dX9_readStandIn_2 : decode cX9_readStandIn 2 = .ok (.invokevirtual 77, 3) := by decide +kernel
theorem dX9_readStandIn_5 : decode cX9_readStandIn 5 = .ok (.istore_n 2, 1) := by decide +kernel
theorem dX9_readStandIn_6 : decode cX9_readStandIn 6 = .ok (.iload_n 2, 1) := by decide +kernel
theorem dX9_readStandIn_7 : decode cX9_readStandIn 7 = .ok (.invokestatic 81, 3) := by decide +kernel
theorem dX9_readStandIn_10 : decode cX9_readStandIn 10 = .ok (.ifCond .eq 16, 3) := by decide +kernel
theorem dX9_readStandIn_13 : decode cX9_readStandIn 13 = .ok (.aload_n 1, 1) := by decide +kernel
theorem dX9_readStandIn_14 : decode cX9_readStandIn 14 = .ok (.aload_n 0, 1) := by decide +kernel
theorem dX9_readStandIn_15 : decode cX9_readStandIn 15 = .ok (.getfield 39, 3) := by decide +kernel
theorem dX9_readStandIn_18 : decode cX9_readStandIn 18 = .ok (.invokevirtual 55, 3) := by decide +kernel
theorem dX9_readStandIn_21 : decode cX9_readStandIn 21 = .ok (.bipush 44, 2) := by decide +kernel
theorem dX9_readStandIn_23 : decode cX9_readStandIn 23 = .ok (.if_icmp .eq 5, 3) := by decide +kernel
theorem dX9_readStandIn_26 : decode cX9_readStandIn 26 = .ok (.iconst 0, 1) := by decide +kernel
theorem dX9_readStandIn_27 : decode cX9_readStandIn 27 = .ok (.ireturn, 1) := by decide +kernel
theorem dX9_readStandIn_28 : decode cX9_readStandIn 28 = .ok (.aload_n 0, 1) := by decide +kernel
theorem dX9_readStandIn_29 : decode cX9_readStandIn 29 = .ok (.dup, 1) := by decide +kernel
theorem dX9_readStandIn_30 : decode cX9_readStandIn 30 = .ok (.getfield 39, 3) := by decide +kernel
theorem dX9_readStandIn_33 : decode cX9_readStandIn 33 = .ok (.iconst 1, 1) := by decide +kernel
theorem dX9_readStandIn_34 : decode cX9_readStandIn 34 = .ok (.iadd, 1) := by decide +kernel
theorem dX9_readStandIn_35 : decode cX9_readStandIn 35 = .ok (.putfield 39, 3) := by decide +kernel
theorem dX9_readStandIn_38 : decode cX9_readStandIn 38 = .ok (.aload_n 0, 1) := by decide +kernel
theorem dX9_readStandIn_39 : decode cX9_readStandIn 39 = .ok (.aload_n 1, 1) := by decide +kernel
theorem dX9_readStandIn_40 : decode cX9_readStandIn 40 = .ok (.invokevirtual 77, 3) := by decide +kernel
theorem dX9_readStandIn_43 : decode cX9_readStandIn 43 = .ok (.istore_n 3, 1) := by decide +kernel
theorem dX9_readStandIn_44 : decode cX9_readStandIn 44 = .ok (.iload_n 3, 1) := by decide +kernel
theorem dX9_readStandIn_45 : decode cX9_readStandIn 45 = .ok (.invokestatic 81, 3) := by decide +kernel
theorem dX9_readStandIn_48 : decode cX9_readStandIn 48 = .ok (.ifCond .ne 5, 3) := by decide +kernel
theorem dX9_readStandIn_51 : decode cX9_readStandIn 51 = .ok (.iconst 0, 1) := by decide +kernel
theorem dX9_readStandIn_52 : decode cX9_readStandIn 52 = .ok (.ireturn, 1) := by decide +kernel
theorem dX9_readStandIn_53 : decode cX9_readStandIn 53 = .ok (.aload_n 0, 1) := by decide +kernel
theorem dX9_readStandIn_54 : decode cX9_readStandIn 54 = .ok (.getfield 12, 3) := by decide +kernel
theorem dX9_readStandIn_57 : decode cX9_readStandIn 57 = .ok (.getfield 88, 3) := by decide +kernel
theorem dX9_readStandIn_60 : decode cX9_readStandIn 60 = .ok (.iload_n 2, 1) := by decide +kernel
theorem dX9_readStandIn_61 : decode cX9_readStandIn 61 = .ok (.iload_n 3, 1) := by decide +kernel
theorem dX9_readStandIn_62 : decode cX9_readStandIn 62 = .ok (.iastore, 1) := by decide +kernel
theorem dX9_readStandIn_63 : decode cX9_readStandIn 63 = .ok (.iconst 1, 1) := by decide +kernel
theorem dX9_readStandIn_64 : decode cX9_readStandIn 64 = .ok (.ireturn, 1) := by decide +kernel
theorem dX9_readCoin_0 : decode cX9_readCoin 0 = .ok (.aload_n 0, 1) := by decide +kernel
theorem dX9_readCoin_1 : decode cX9_readCoin 1 = .ok (.aload_n 1, 1) := by decide +kernel
theorem dX9_readCoin_2 : decode cX9_readCoin 2 = .ok (.invokevirtual 77, 3) := by decide +kernel
theorem dX9_readCoin_5 : decode cX9_readCoin 5 = .ok (.istore_n 2, 1) := by decide +kernel
theorem dX9_readCoin_6 : decode cX9_readCoin 6 = .ok (.iload_n 2, 1) := by decide +kernel
theorem dX9_readCoin_7 : decode cX9_readCoin 7 = .ok (.iconst 1, 1) := by decide +kernel
theorem dX9_readCoin_8 : decode cX9_readCoin 8 = .ok (.if_icmp .lt 20, 3) := by decide +kernel
theorem dX9_readCoin_11 : decode cX9_readCoin 11 = .ok (.aload_n 0, 1) := by decide +kernel
theorem dX9_readCoin_12 : decode cX9_readCoin 12 = .ok (.getfield 22, 3) := by decide +kernel
theorem dX9_readCoin_15 : decode cX9_readCoin 15 = .ok (.bipush 6, 2) := by decide +kernel
theorem dX9_readCoin_17 : decode cX9_readCoin 17 = .ok (.if_icmp .ge 11, 3) := by decide +kernel
theorem dX9_readCoin_20 : decode cX9_readCoin 20 = .ok (.aload_n 0, 1) := by decide +kernel
theorem dX9_readCoin_21 : decode cX9_readCoin 21 = .ok (.iload_n 2, 1) := by decide +kernel
theorem dX9_readCoin_22 : decode cX9_readCoin 22 = .ok (.invokevirtual 91, 3) := by decide +kernel
theorem dX9_readCoin_25 : decode cX9_readCoin 25 = .ok (.ifCond .eq 5, 3) := by decide +kernel
theorem dX9_readCoin_28 : decode cX9_readCoin 28 = .ok (.iconst 0, 1) := by decide +kernel
theorem dX9_readCoin_29 : decode cX9_readCoin 29 = .ok (.ireturn, 1) := by decide +kernel
theorem dX9_readCoin_30 : decode cX9_readCoin 30 = .ok (.aload_n 0, 1) := by decide +kernel
theorem dX9_readCoin_31 : decode cX9_readCoin 31 = .ok (.getfield 18, 3) := by decide +kernel
theorem dX9_readCoin_34 : decode cX9_readCoin 34 = .ok (.aload_n 0, 1) := by decide +kernel
theorem dX9_readCoin_35 : decode cX9_readCoin 35 = .ok (.getfield 22, 3) := by decide +kernel
theorem dX9_readCoin_38 : decode cX9_readCoin 38 = .ok (.iload_n 2, 1) := by decide +kernel
theorem dX9_readCoin_39 : decode cX9_readCoin 39 = .ok (.iastore, 1) := by decide +kernel
theorem dX9_readCoin_40 : decode cX9_readCoin 40 = .ok (.aload_n 0, 1) := by decide +kernel
theorem dX9_readCoin_41 : decode cX9_readCoin 41 = .ok (.dup, 1) := by decide +kernel
theorem dX9_readCoin_42 : decode cX9_readCoin 42 = .ok (.getfield 22, 3) := by decide +kernel
theorem dX9_readCoin_45 : decode cX9_readCoin 45 = .ok (.iconst 1, 1) := by decide +kernel
theorem dX9_readCoin_46 : decode cX9_readCoin 46 = .ok (.iadd, 1) := by decide +kernel
theorem dX9_readCoin_47 : decode cX9_readCoin 47 = .ok (.putfield 22, 3) := by decide +kernel
theorem dX9_readCoin_50 : decode cX9_readCoin 50 = .ok (.iconst 1, 1) := by decide +kernel
theorem dX9_readCoin_51 : decode cX9_readCoin 51 = .ok (.ireturn, 1) := by decide +kernel
theorem dX9_hasCoin_0 : decode cX9_hasCoin 0 = .ok (.iconst 0, 1) := by decide +kernel
theorem dX9_hasCoin_1 : decode cX9_hasCoin 1 = .ok (.istore_n 2, 1) := by decide +kernel
theorem dX9_hasCoin_2 : decode cX9_hasCoin 2 = .ok (.iload_n 2, 1) := by decide +kernel
theorem dX9_hasCoin_3 : decode cX9_hasCoin 3 = .ok (.aload_n 0, 1) := by decide +kernel
theorem dX9_hasCoin_4 : decode cX9_hasCoin 4 = .ok (.getfield 22, 3) := by decide +kernel
theorem dX9_hasCoin_7 : decode cX9_hasCoin 7 = .ok (.if_icmp .ge 21, 3) := by decide +kernel
theorem dX9_hasCoin_10 : decode cX9_hasCoin 10 = .ok (.aload_n 0, 1) := by decide +kernel
theorem dX9_hasCoin_11 : decode cX9_hasCoin 11 = .ok (.getfield 18, 3) := by decide +kernel
theorem dX9_hasCoin_14 : decode cX9_hasCoin 14 = .ok (.iload_n 2, 1) := by decide +kernel
theorem dX9_hasCoin_15 : decode cX9_hasCoin 15 = .ok (.iaload, 1) := by decide +kernel
theorem dX9_hasCoin_16 : decode cX9_hasCoin 16 = .ok (.iload_n 1, 1) := by decide +kernel
theorem dX9_hasCoin_17 : decode cX9_hasCoin 17 = .ok (.if_icmp .ne 5, 3) := by decide +kernel
theorem dX9_hasCoin_20 : decode cX9_hasCoin 20 = .ok (.iconst 1, 1) := by decide +kernel
theorem dX9_hasCoin_21 : decode cX9_hasCoin 21 = .ok (.ireturn, 1) := by decide +kernel
theorem dX9_hasCoin_22 : decode cX9_hasCoin 22 = .ok (.iinc 2 1, 3) := by decide +kernel
theorem dX9_hasCoin_25 : decode cX9_hasCoin 25 = .ok (.goto (-23), 3) := by decide +kernel
theorem dX9_hasCoin_28 : decode cX9_hasCoin 28 = .ok (.iconst 0, 1) := by decide +kernel
theorem dX9_hasCoin_29 : decode cX9_hasCoin 29 = .ok (.ireturn, 1) := by decide +kernel
theorem dX9_readSides_0 : decode cX9_readSides 0 = .ok (.aload_n 0, 1) := by decide +kernel
theorem dX9_readSides_1 : decode cX9_readSides 1 = .ok (.aload_n 0, 1) := by decide +kernel
theorem dX9_readSides_2 : decode cX9_readSides 2 = .ok (.aload_n 1, 1) := by decide +kernel
theorem dX9_readSides_3 : decode cX9_readSides 3 = .ok (.invokevirtual 77, 3) := by decide +kernel
theorem dX9_readSides_6 : decode cX9_readSides 6 = .ok (.putfield 26, 3) := by decide +kernel
theorem dX9_readSides_9 : decode cX9_readSides 9 = .ok (.aload_n 0, 1) := by decide +kernel
theorem dX9_readSides_10 : decode cX9_readSides 10 = .ok (.getfield 26, 3) := by decide +kernel
theorem dX9_readSides_13 : decode cX9_readSides 13 = .ok (.iconst 2, 1) := by decide +kernel
theorem dX9_readSides_14 : decode cX9_readSides 14 = .ok (.bipush 9, 2) := by decide +kernel
theorem dX9_readSides_16 : decode cX9_readSides 16 = .ok (.invokestatic 94, 3) := by decide +kernel
theorem dX9_readSides_19 : decode cX9_readSides 19 = .ok (.ireturn, 1) := by decide +kernel
theorem dX9_readWeek_0 : decode cX9_readWeek 0 = .ok (.aload_n 0, 1) := by decide +kernel
theorem dX9_readWeek_1 : decode cX9_readWeek 1 = .ok (.aload_n 0, 1) := by decide +kernel
theorem dX9_readWeek_2 : decode cX9_readWeek 2 = .ok (.aload_n 1, 1) := by decide +kernel
theorem dX9_readWeek_3 : decode cX9_readWeek 3 = .ok (.invokevirtual 77, 3) := by decide +kernel
theorem dX9_readWeek_6 : decode cX9_readWeek 6 = .ok (.putfield 29, 3) := by decide +kernel
theorem dX9_readWeek_9 : decode cX9_readWeek 9 = .ok (.aload_n 0, 1) := by decide +kernel
theorem dX9_readWeek_10 : decode cX9_readWeek 10 = .ok (.getfield 29, 3) := by decide +kernel
theorem dX9_readWeek_13 : decode cX9_readWeek 13 = .ok (.iconst 1, 1) := by decide +kernel
theorem dX9_readWeek_14 : decode cX9_readWeek 14 = .ok (.bipush 9, 2) := by decide +kernel
theorem dX9_readWeek_16 : decode cX9_readWeek 16 = .ok (.invokestatic 94, 3) := by decide +kernel
theorem dX9_readWeek_19 : decode cX9_readWeek 19 = .ok (.ireturn, 1) := by decide +kernel
theorem dX9_readSum_0 : decode cX9_readSum 0 = .ok (.iconst 0, 1) := by decide +kernel
theorem dX9_readSum_1 : decode cX9_readSum 1 = .ok (.istore_n 2, 1) := by decide +kernel
theorem dX9_readSum_2 : decode cX9_readSum 2 = .ok (.aload_n 0, 1) := by decide +kernel
theorem dX9_readSum_3 : decode cX9_readSum 3 = .ok (.getfield 35, 3) := by decide +kernel
theorem dX9_readSum_6 : decode cX9_readSum 6 = .ok (.iconst 0, 1) := by decide +kernel
theorem dX9_readSum_7 : decode cX9_readSum 7 = .ok (.putfield 45, 3) := by decide +kernel
theorem dX9_readSum_10 : decode cX9_readSum 10 = .ok (.iconst 0, 1) := by decide +kernel
theorem dX9_readSum_11 : decode cX9_readSum 11 = .ok (.istore_n 3, 1) := by decide +kernel
theorem dX9_readSum_12 : decode cX9_readSum 12 = .ok (.iload_n 3, 1) := by decide +kernel
theorem dX9_readSum_13 : decode cX9_readSum 13 = .ok (.bipush 20, 2) := by decide +kernel
theorem dX9_readSum_15 : decode cX9_readSum 15 = .ok (.if_icmp .ge 70, 3) := by decide +kernel
theorem dX9_readSum_18 : decode cX9_readSum 18 = .ok (.aload_n 1, 1) := by decide +kernel
theorem dX9_readSum_19 : decode cX9_readSum 19 = .ok (.aload_n 0, 1) := by decide +kernel
theorem dX9_readSum_20 : decode cX9_readSum 20 = .ok (.getfield 39, 3) := by decide +kernel
theorem dX9_readSum_23 : decode cX9_readSum 23 = .ok (.invokevirtual 55, 3) := by decide +kernel
theorem dX9_readSum_26 : decode cX9_readSum 26 = .ok (.istore 4, 2) := by decide +kernel
theorem dX9_readSum_28 : decode cX9_readSum 28 = .ok (.iload 4, 2) := by decide +kernel
theorem dX9_readSum_30 : decode cX9_readSum 30 = .ok (.invokestatic 98, 3) := by decide +kernel
theorem dX9_readSum_33 : decode cX9_readSum 33 = .ok (.ifCond .eq 13, 3) := by decide +kernel
theorem dX9_readSum_36 : decode cX9_readSum 36 = .ok (.iinc 2 1, 3) := by decide +kernel
theorem dX9_readSum_39 : decode cX9_readSum 39 = .ok (.iload_n 2, 1) := by decide +kernel
theorem dX9_readSum_40 : decode cX9_readSum 40 = .ok (.iconst 4, 1) := by decide +kernel
theorem dX9_readSum_41 : decode cX9_readSum 41 = .ok (.if_icmp .le 19, 3) := by decide +kernel
theorem dX9_readSum_44 : decode cX9_readSum 44 = .ok (.iconst 0, 1) := by decide +kernel
theorem dX9_readSum_45 : decode cX9_readSum 45 = .ok (.ireturn, 1) := by decide +kernel
theorem dX9_readSum_46 : decode cX9_readSum 46 = .ok (.iload 4, 2) := by decide +kernel
theorem dX9_readSum_48 : decode cX9_readSum 48 = .ok (.invokestatic 101, 3) := by decide +kernel
theorem dX9_readSum_51 : decode cX9_readSum 51 = .ok (.ifCond .eq 34, 3) := by decide +kernel
theorem dX9_readSum_54 : decode cX9_readSum 54 = .ok (.iload_n 2, 1) := by decide +kernel
theorem dX9_readSum_55 : decode cX9_readSum 55 = .ok (.ifCond .le 30, 3) := by decide +kernel
theorem dX9_readSum_58 : decode cX9_readSum 58 = .ok (.iconst 0, 1) := by decide +kernel
theorem dX9_readSum_59 : decode cX9_readSum 59 = .ok (.istore_n 2, 1) := by decide +kernel
theorem dX9_readSum_60 : decode cX9_readSum 60 = .ok (.aload_n 0, 1) := by decide +kernel
theorem dX9_readSum_61 : decode cX9_readSum 61 = .ok (.getfield 35, 3) := by decide +kernel
theorem dX9_readSum_64 : decode cX9_readSum 64 = .ok (.iload 4, 2) := by decide +kernel
theorem dX9_readSum_66 : decode cX9_readSum 66 = .ok (.invokevirtual 104, 3) := by decide +kernel
theorem dX9_readSum_69 : decode cX9_readSum 69 = .ok (.aload_n 0, 1) := by decide +kernel
theorem dX9_readSum_70 : decode cX9_readSum 70 = .ok (.dup, 1) := by decide +kernel
theorem dX9_readSum_71 : decode cX9_readSum 71 = .ok (.getfield 39, 3) := by decide +kernel
theorem dX9_readSum_74 : decode cX9_readSum 74 = .ok (.iconst 1, 1) := by decide +kernel
theorem dX9_readSum_75 : decode cX9_readSum 75 = .ok (.iadd, 1) := by decide +kernel
theorem dX9_readSum_76 : decode cX9_readSum 76 = .ok (.putfield 39, 3) := by decide +kernel
theorem dX9_readSum_79 : decode cX9_readSum 79 = .ok (.iinc 3 1, 3) := by decide +kernel
theorem dX9_readSum_82 : decode cX9_readSum 82 = .ok (.goto (-70), 3) := by decide +kernel
theorem dX9_readSum_85 : decode cX9_readSum 85 = .ok (.iload_n 2, 1) := by decide +kernel
theorem dX9_readSum_86 : decode cX9_readSum 86 = .ok (.ifCond .le 7, 3) := by decide +kernel
theorem dX9_readSum_89 : decode cX9_readSum 89 = .ok (.iconst 1, 1) := by decide +kernel
theorem dX9_readSum_90 : decode cX9_readSum 90 = .ok (.goto 4, 3) := by decide +kernel
theorem dX9_readSum_93 : decode cX9_readSum 93 = .ok (.iconst 0, 1) := by decide +kernel
theorem dX9_readSum_94 : decode cX9_readSum 94 = .ok (.ireturn, 1) := by decide +kernel
theorem dX9_readNumber_0 : decode cX9_readNumber 0 = .ok (.iconst (-1), 1) := by decide +kernel
theorem dX9_readNumber_1 : decode cX9_readNumber 1 = .ok (.istore_n 2, 1) := by decide +kernel
theorem dX9_readNumber_2 : decode cX9_readNumber 2 = .ok (.iconst 0, 1) := by decide +kernel
theorem dX9_readNumber_3 : decode cX9_readNumber 3 = .ok (.istore_n 3, 1) := by decide +kernel
theorem dX9_readNumber_4 : decode cX9_readNumber 4 = .ok (.iload_n 3, 1) := by decide +kernel
theorem dX9_readNumber_5 : decode cX9_readNumber 5 = .ok (.iconst 2, 1) := by decide +kernel
theorem dX9_readNumber_6 : decode cX9_readNumber 6 = .ok (.if_icmp .ge 54, 3) := by decide +kernel
theorem dX9_readNumber_9 : decode cX9_readNumber 9 = .ok (.aload_n 1, 1) := by decide +kernel
theorem dX9_readNumber_10 : decode cX9_readNumber 10 = .ok (.aload_n 0, 1) := by decide +kernel
theorem dX9_readNumber_11 : decode cX9_readNumber 11 = .ok (.getfield 39, 3) := by decide +kernel
theorem dX9_readNumber_14 : decode cX9_readNumber 14 = .ok (.invokevirtual 55, 3) := by decide +kernel
theorem dX9_readNumber_17 : decode cX9_readNumber 17 = .ok (.invokestatic 98, 3) := by decide +kernel
theorem dX9_readNumber_20 : decode cX9_readNumber 20 = .ok (.ifCond .eq 40, 3) := by decide +kernel
theorem dX9_readNumber_23 : decode cX9_readNumber 23 = .ok (.iload_n 2, 1) := by decide +kernel
theorem dX9_readNumber_24 : decode cX9_readNumber 24 = .ok (.iconst 0, 1) := by decide +kernel
theorem dX9_readNumber_25 : decode cX9_readNumber 25 = .ok (.invokestatic 108, 3) := by decide +kernel
theorem dX9_readNumber_28 : decode cX9_readNumber 28 = .ok (.bipush 10, 2) := by decide +kernel
theorem dX9_readNumber_30 : decode cX9_readNumber 30 = .ok (.imul, 1) := by decide +kernel
theorem dX9_readNumber_31 : decode cX9_readNumber 31 = .ok (.aload_n 1, 1) := by decide +kernel
theorem dX9_readNumber_32 : decode cX9_readNumber 32 = .ok (.aload_n 0, 1) := by decide +kernel
theorem dX9_readNumber_33 : decode cX9_readNumber 33 = .ok (.getfield 39, 3) := by decide +kernel
theorem dX9_readNumber_36 : decode cX9_readNumber 36 = .ok (.invokevirtual 55, 3) := by decide +kernel
theorem dX9_readNumber_39 : decode cX9_readNumber 39 = .ok (.iadd, 1) := by decide +kernel
theorem dX9_readNumber_40 : decode cX9_readNumber 40 = .ok (.bipush 48, 2) := by decide +kernel
theorem dX9_readNumber_42 : decode cX9_readNumber 42 = .ok (.isub, 1) := by decide +kernel
theorem dX9_readNumber_43 : decode cX9_readNumber 43 = .ok (.istore_n 2, 1) := by decide +kernel
theorem dX9_readNumber_44 : decode cX9_readNumber 44 = .ok (.aload_n 0, 1) := by decide +kernel
theorem dX9_readNumber_45 : decode cX9_readNumber 45 = .ok (.dup, 1) := by decide +kernel
theorem dX9_readNumber_46 : decode cX9_readNumber 46 = .ok (.getfield 39, 3) := by decide +kernel
theorem dX9_readNumber_49 : decode cX9_readNumber 49 = .ok (.iconst 1, 1) := by decide +kernel
theorem dX9_readNumber_50 : decode cX9_readNumber 50 = .ok (.iadd, 1) := by decide +kernel
theorem dX9_readNumber_51 : decode cX9_readNumber 51 = .ok (.putfield 39, 3) := by decide +kernel
theorem dX9_readNumber_54 : decode cX9_readNumber 54 = .ok (.iinc 3 1, 3) := by decide +kernel
theorem dX9_readNumber_57 : decode cX9_readNumber 57 = .ok (.goto (-53), 3) := by decide +kernel
theorem dX9_readNumber_60 : decode cX9_readNumber 60 = .ok (.iload_n 2, 1) := by decide +kernel
theorem dX9_readNumber_61 : decode cX9_readNumber 61 = .ok (.ireturn, 1) := by decide +kernel
theorem dX9_isDigit_0 : decode cX9_isDigit 0 = .ok (.iload_n 0, 1) := by decide +kernel
theorem dX9_isDigit_1 : decode cX9_isDigit 1 = .ok (.bipush 48, 2) := by decide +kernel
theorem dX9_isDigit_3 : decode cX9_isDigit 3 = .ok (.if_icmp .lt 13, 3) := by decide +kernel
theorem dX9_isDigit_6 : decode cX9_isDigit 6 = .ok (.iload_n 0, 1) := by decide +kernel
theorem dX9_isDigit_7 : decode cX9_isDigit 7 = .ok (.bipush 57, 2) := by decide +kernel
theorem dX9_isDigit_9 : decode cX9_isDigit 9 = .ok (.if_icmp .gt 7, 3) := by decide +kernel
theorem dX9_isDigit_12 : decode cX9_isDigit 12 = .ok (.iconst 1, 1) := by decide +kernel
theorem dX9_isDigit_13 : decode cX9_isDigit 13 = .ok (.goto 4, 3) := by decide +kernel
theorem dX9_isDigit_16 : decode cX9_isDigit 16 = .ok (.iconst 0, 1) := by decide +kernel
theorem dX9_isDigit_17 : decode cX9_isDigit 17 = .ok (.ireturn, 1) := by decide +kernel
theorem dJ6_bitCount_0f7a4_0 : decode cJ6_bitCount_0f7a4 0 = .ok (.iload_n 0, 1) := by decide +kernel
theorem dJ6_bitCount_0f7a4_1 : decode cJ6_bitCount_0f7a4 1 = .ok (.iload_n 0, 1) := by decide +kernel
theorem dJ6_bitCount_0f7a4_2 : decode cJ6_bitCount_0f7a4 2 = .ok (.iconst 1, 1) := by decide +kernel
theorem dJ6_bitCount_0f7a4_3 : decode cJ6_bitCount_0f7a4 3 = .ok (.iushr, 1) := by decide +kernel
theorem dJ6_bitCount_0f7a4_4 : decode cJ6_bitCount_0f7a4 4 = .ok (.ldc_w 265, 3) := by decide +kernel
theorem dJ6_bitCount_0f7a4_7 : decode cJ6_bitCount_0f7a4 7 = .ok (.iand, 1) := by decide +kernel
theorem dJ6_bitCount_0f7a4_8 : decode cJ6_bitCount_0f7a4 8 = .ok (.isub, 1) := by decide +kernel
theorem dJ6_bitCount_0f7a4_9 : decode cJ6_bitCount_0f7a4 9 = .ok (.istore_n 0, 1) := by decide +kernel
theorem dJ6_bitCount_0f7a4_10 : decode cJ6_bitCount_0f7a4 10 = .ok (.iload_n 0, 1) := by decide +kernel
theorem dJ6_bitCount_0f7a4_11 : decode cJ6_bitCount_0f7a4 11 = .ok (.ldc_w 266, 3) := by decide +kernel
theorem dJ6_bitCount_0f7a4_14 : decode cJ6_bitCount_0f7a4 14 = .ok (.iand, 1) := by decide +kernel
theorem dJ6_bitCount_0f7a4_15 : decode cJ6_bitCount_0f7a4 15 = .ok (.iload_n 0, 1) := by decide +kernel
theorem dJ6_bitCount_0f7a4_16 : decode cJ6_bitCount_0f7a4 16 = .ok (.iconst 2, 1) := by decide +kernel
theorem dJ6_bitCount_0f7a4_17 : decode cJ6_bitCount_0f7a4 17 = .ok (.iushr, 1) := by decide +kernel
theorem dJ6_bitCount_0f7a4_18 : decode cJ6_bitCount_0f7a4 18 = .ok (.ldc_w 266, 3) := by decide +kernel
theorem dJ6_bitCount_0f7a4_21 : decode cJ6_bitCount_0f7a4 21 = .ok (.iand, 1) := by decide +kernel
theorem dJ6_bitCount_0f7a4_22 : decode cJ6_bitCount_0f7a4 22 = .ok (.iadd, 1) := by decide +kernel
theorem dJ6_bitCount_0f7a4_23 : decode cJ6_bitCount_0f7a4 23 = .ok (.istore_n 0, 1) := by decide +kernel
theorem dJ6_bitCount_0f7a4_24 : decode cJ6_bitCount_0f7a4 24 = .ok (.iload_n 0, 1) := by decide +kernel
theorem dJ6_bitCount_0f7a4_25 : decode cJ6_bitCount_0f7a4 25 = .ok (.iload_n 0, 1) := by decide +kernel
theorem dJ6_bitCount_0f7a4_26 : decode cJ6_bitCount_0f7a4 26 = .ok (.iconst 4, 1) := by decide +kernel
theorem dJ6_bitCount_0f7a4_27 : decode cJ6_bitCount_0f7a4 27 = .ok (.iushr, 1) := by decide +kernel
theorem dJ6_bitCount_0f7a4_28 : decode cJ6_bitCount_0f7a4 28 = .ok (.iadd, 1) := by decide +kernel
theorem dJ6_bitCount_0f7a4_29 : decode cJ6_bitCount_0f7a4 29 = .ok (.ldc_w 267, 3) := by decide +kernel
theorem dJ6_bitCount_0f7a4_32 : decode cJ6_bitCount_0f7a4 32 = .ok (.iand, 1) := by decide +kernel
theorem dJ6_bitCount_0f7a4_33 : decode cJ6_bitCount_0f7a4 33 = .ok (.istore_n 0, 1) := by decide +kernel
theorem dJ6_bitCount_0f7a4_34 : decode cJ6_bitCount_0f7a4 34 = .ok (.iload_n 0, 1) := by decide +kernel
theorem dJ6_bitCount_0f7a4_35 : decode cJ6_bitCount_0f7a4 35 = .ok (.iload_n 0, 1) := by decide +kernel
theorem dJ6_bitCount_0f7a4_36 : decode cJ6_bitCount_0f7a4 36 = .ok (.bipush 8, 2) := by decide +kernel
theorem dJ6_bitCount_0f7a4_38 : decode cJ6_bitCount_0f7a4 38 = .ok (.iushr, 1) := by decide +kernel
theorem dJ6_bitCount_0f7a4_39 : decode cJ6_bitCount_0f7a4 39 = .ok (.iadd, 1) := by decide +kernel
theorem dJ6_bitCount_0f7a4_40 : decode cJ6_bitCount_0f7a4 40 = .ok (.istore_n 0, 1) := by decide +kernel
theorem dJ6_bitCount_0f7a4_41 : decode cJ6_bitCount_0f7a4 41 = .ok (.iload_n 0, 1) := by decide +kernel
theorem dJ6_bitCount_0f7a4_42 : decode cJ6_bitCount_0f7a4 42 = .ok (.iload_n 0, 1) := by decide +kernel
theorem dJ6_bitCount_0f7a4_43 : decode cJ6_bitCount_0f7a4 43 = .ok (.bipush 16, 2) := by decide +kernel
theorem dJ6_bitCount_0f7a4_45 : decode cJ6_bitCount_0f7a4 45 = .ok (.iushr, 1) := by decide +kernel
theorem dJ6_bitCount_0f7a4_46 : decode cJ6_bitCount_0f7a4 46 = .ok (.iadd, 1) := by decide +kernel
theorem dJ6_bitCount_0f7a4_47 : decode cJ6_bitCount_0f7a4 47 = .ok (.istore_n 0, 1) := by decide +kernel
theorem dJ6_bitCount_0f7a4_48 : decode cJ6_bitCount_0f7a4 48 = .ok (.iload_n 0, 1) := by decide +kernel
theorem dJ6_bitCount_0f7a4_49 : decode cJ6_bitCount_0f7a4 49 = .ok (.bipush 63, 2) := by decide +kernel
theorem dJ6_bitCount_0f7a4_51 : decode cJ6_bitCount_0f7a4 51 = .ok (.iand, 1) := by decide +kernel
theorem dJ6_bitCount_0f7a4_52 : decode cJ6_bitCount_0f7a4 52 = .ok (.ireturn, 1) := by decide +kernel
theorem dJ9_max_7cf53_0 : decode cJ9_max_7cf53 0 = .ok (.iload_n 0, 1) := by decide +kernel
theorem dJ9_max_7cf53_1 : decode cJ9_max_7cf53 1 = .ok (.iload_n 1, 1) := by decide +kernel
theorem dJ9_max_7cf53_2 : decode cJ9_max_7cf53 2 = .ok (.if_icmp .lt 7, 3) := by decide +kernel
theorem dJ9_max_7cf53_5 : decode cJ9_max_7cf53 5 = .ok (.iload_n 0, 1) := by decide +kernel
theorem dJ9_max_7cf53_6 : decode cJ9_max_7cf53 6 = .ok (.goto 4, 3) := by decide +kernel
theorem dJ9_max_7cf53_9 : decode cJ9_max_7cf53 9 = .ok (.iload_n 1, 1) := by decide +kernel
theorem dJ9_max_7cf53_10 : decode cJ9_max_7cf53 10 = .ok (.ireturn, 1) := by decide +kernel
theorem dJ9_max_f86c9_0 : decode cJ9_max_f86c9 0 = .ok (.lload_n 0, 1) := by decide +kernel
theorem dJ9_max_f86c9_1 : decode cJ9_max_f86c9 1 = .ok (.lload_n 2, 1) := by decide +kernel
theorem dJ9_max_f86c9_2 : decode cJ9_max_f86c9 2 = .ok (.lcmp, 1) := by decide +kernel
theorem dJ9_max_f86c9_3 : decode cJ9_max_f86c9 3 = .ok (.ifCond .lt 7, 3) := by decide +kernel
theorem dJ9_max_f86c9_6 : decode cJ9_max_f86c9 6 = .ok (.lload_n 0, 1) := by decide +kernel
theorem dJ9_max_f86c9_7 : decode cJ9_max_f86c9 7 = .ok (.goto 4, 3) := by decide +kernel
theorem dJ9_max_f86c9_10 : decode cJ9_max_f86c9 10 = .ok (.lload_n 2, 1) := by decide +kernel
theorem dJ9_max_f86c9_11 : decode cJ9_max_f86c9 11 = .ok (.lreturn, 1) := by decide +kernel
theorem dJ9_min_7cf53_0 : decode cJ9_min_7cf53 0 = .ok (.iload_n 0, 1) := by decide +kernel
theorem dJ9_min_7cf53_1 : decode cJ9_min_7cf53 1 = .ok (.iload_n 1, 1) := by decide +kernel
theorem dJ9_min_7cf53_2 : decode cJ9_min_7cf53 2 = .ok (.if_icmp .gt 7, 3) := by decide +kernel
theorem dJ9_min_7cf53_5 : decode cJ9_min_7cf53 5 = .ok (.iload_n 0, 1) := by decide +kernel
theorem dJ9_min_7cf53_6 : decode cJ9_min_7cf53 6 = .ok (.goto 4, 3) := by decide +kernel
theorem dJ9_min_7cf53_9 : decode cJ9_min_7cf53 9 = .ok (.iload_n 1, 1) := by decide +kernel
theorem dJ9_min_7cf53_10 : decode cJ9_min_7cf53 10 = .ok (.ireturn, 1) := by decide +kernel
theorem dJ9_min_f86c9_0 : decode cJ9_min_f86c9 0 = .ok (.lload_n 0, 1) := by decide +kernel
theorem dJ9_min_f86c9_1 : decode cJ9_min_f86c9 1 = .ok (.lload_n 2, 1) := by decide +kernel
theorem dJ9_min_f86c9_2 : decode cJ9_min_f86c9 2 = .ok (.lcmp, 1) := by decide +kernel
theorem dJ9_min_f86c9_3 : decode cJ9_min_f86c9 3 = .ok (.ifCond .gt 7, 3) := by decide +kernel
theorem dJ9_min_f86c9_6 : decode cJ9_min_f86c9 6 = .ok (.lload_n 0, 1) := by decide +kernel
theorem dJ9_min_f86c9_7 : decode cJ9_min_f86c9 7 = .ok (.goto 4, 3) := by decide +kernel
theorem dJ9_min_f86c9_10 : decode cJ9_min_f86c9 10 = .ok (.lload_n 2, 1) := by decide +kernel
theorem dJ9_min_f86c9_11 : decode cJ9_min_f86c9 11 = .ok (.lreturn, 1) := by decide +kernel
theorem dJ0_length_8abf5_0 : decode cJ0_length_8abf5 0 = .ok (.aload_n 0, 1) := by decide +kernel
theorem dJ0_length_8abf5_1 : decode cJ0_length_8abf5 1 = .ok (.getfield 9, 3) := by decide +kernel
theorem dJ0_length_8abf5_4 : decode cJ0_length_8abf5 4 = .ok (.arraylength, 1) := by decide +kernel
theorem dJ0_length_8abf5_5 : decode cJ0_length_8abf5 5 = .ok (.aload_n 0, 1) := by decide +kernel
theorem dJ0_length_8abf5_6 : decode cJ0_length_8abf5 6 = .ok (.invokevirtual 335, 3) := by decide +kernel
theorem dJ0_length_8abf5_9 : decode cJ0_length_8abf5 9 = .ok (.ishr, 1) := by decide +kernel
theorem dJ0_length_8abf5_10 : decode cJ0_length_8abf5 10 = .ok (.ireturn, 1) := by decide +kernel
theorem dJ0_charAt_5068e_0 : decode cJ0_charAt_5068e 0 = .ok (.aload_n 0, 1) := by decide +kernel
theorem dJ0_charAt_5068e_1 : decode cJ0_charAt_5068e 1 = .ok (.invokevirtual 492, 3) := by decide +kernel
theorem dJ0_charAt_5068e_4 : decode cJ0_charAt_5068e 4 = .ok (.ifCond .eq 12, 3) := by decide +kernel
theorem dJ0_charAt_5068e_7 : decode cJ0_charAt_5068e 7 = .ok (.aload_n 0, 1) := by decide +kernel
theorem dJ0_charAt_5068e_8 : decode cJ0_charAt_5068e 8 = .ok (.getfield 9, 3) := by decide +kernel
theorem dJ0_charAt_5068e_11 : decode cJ0_charAt_5068e 11 = .ok (.iload_n 1, 1) := by decide +kernel
theorem dJ0_charAt_5068e_12 : decode cJ0_charAt_5068e 12 = .ok (.invokestatic 495, 3) := by decide +kernel
theorem dJ0_charAt_5068e_15 : decode cJ0_charAt_5068e 15 = .ok (.ireturn, 1) := by decide +kernel
theorem dJ0_charAt_5068e_16 : decode cJ0_charAt_5068e 16 = .ok (.aload_n 0, 1) := by decide +kernel
theorem dJ0_charAt_5068e_17 : decode cJ0_charAt_5068e 17 = .ok (.getfield 9, 3) := by decide +kernel
theorem dJ0_charAt_5068e_20 : decode cJ0_charAt_5068e 20 = .ok (.iload_n 1, 1) := by decide +kernel
theorem dJ0_charAt_5068e_21 : decode cJ0_charAt_5068e 21 = .ok (.invokestatic 498, 3) := by decide +kernel
theorem dJ0_charAt_5068e_24 : decode cJ0_charAt_5068e 24 = .ok (.ireturn, 1) := by decide +kernel
theorem dJ0_coder_7d493_0 : decode cJ0_coder_7d493 0 = .ok (.getstatic 38, 3) := by decide +kernel
theorem dJ0_coder_7d493_3 : decode cJ0_coder_7d493 3 = .ok (.ifCond .eq 10, 3) := by decide +kernel
theorem dJ0_coder_7d493_6 : decode cJ0_coder_7d493 6 = .ok (.aload_n 0, 1) := by decide +kernel
theorem dJ0_coder_7d493_7 : decode cJ0_coder_7d493 7 = .ok (.getfield 15, 3) := by decide +kernel
theorem dJ0_coder_7d493_10 : decode cJ0_coder_7d493 10 = .ok (.goto 4, 3) := by decide +kernel
theorem dJ0_coder_7d493_13 : decode cJ0_coder_7d493 13 = .ok (.iconst 1, 1) := by decide +kernel
theorem dJ0_coder_7d493_14 : decode cJ0_coder_7d493 14 = .ok (.ireturn, 1) := by decide +kernel
theorem dJ0_isLatin1_aae02_0 : decode cJ0_isLatin1_aae02 0 = .ok (.getstatic 38, 3) := by decide +kernel
theorem dJ0_isLatin1_aae02_3 : decode cJ0_isLatin1_aae02 3 = .ok (.ifCond .eq 14, 3) := by decide +kernel
theorem dJ0_isLatin1_aae02_6 : decode cJ0_isLatin1_aae02 6 = .ok (.aload_n 0, 1) := by decide +kernel
theorem dJ0_isLatin1_aae02_7 : decode cJ0_isLatin1_aae02 7 = .ok (.getfield 15, 3) := by decide +kernel
theorem dJ0_isLatin1_aae02_10 : decode cJ0_isLatin1_aae02 10 = .ok (.ifCond .ne 7, 3) := by decide +kernel
theorem dJ0_isLatin1_aae02_13 : decode cJ0_isLatin1_aae02 13 = .ok (.iconst 1, 1) := by decide +kernel
theorem dJ0_isLatin1_aae02_14 : decode cJ0_isLatin1_aae02 14 = .ok (.goto 4, 3) := by decide +kernel
theorem dJ0_isLatin1_aae02_17 : decode cJ0_isLatin1_aae02 17 = .ok (.iconst 0, 1) := by decide +kernel
theorem dJ0_isLatin1_aae02_18 : decode cJ0_isLatin1_aae02 18 = .ok (.ireturn, 1) := by decide +kernel
theorem dJ0_checkIndex_df160_0 : decode cJ0_checkIndex_df160 0 = .ok (.iload_n 0, 1) := by decide +kernel
theorem dJ0_checkIndex_df160_1 : decode cJ0_checkIndex_df160 1 = .ok (.iload_n 1, 1) := by decide +kernel
theorem dJ0_checkIndex_df160_2 : decode cJ0_checkIndex_df160 2 = .ok (.getstatic 1053, 3) := by decide +kernel
theorem dJ0_checkIndex_df160_5 : decode cJ0_checkIndex_df160 5 = .ok (.invokestatic 1059, 3) := by decide +kernel
theorem dJ0_checkIndex_df160_8 : decode cJ0_checkIndex_df160 8 = .ok (.pop, 1) := by decide +kernel
theorem dJ0_checkIndex_df160_9 : decode cJ0_checkIndex_df160 9 = .ok (.return_, 1) := by decide +kernel
theorem dJ1_charAt_3b067_0 : decode cJ1_charAt_3b067 0 = .ok (.iload_n 1, 1) := by decide +kernel
theorem dJ1_charAt_3b067_1 : decode cJ1_charAt_3b067 1 = .ok (.aload_n 0, 1) := by decide +kernel
theorem dJ1_charAt_3b067_2 : decode cJ1_charAt_3b067 2 = .ok (.arraylength, 1) := by decide +kernel
theorem dJ1_charAt_3b067_3 : decode cJ1_charAt_3b067 3 = .ok (.invokestatic 9, 3) := by decide +kernel
theorem dJ1_charAt_3b067_6 : decode cJ1_charAt_3b067 6 = .ok (.aload_n 0, 1) := by decide +kernel
theorem dJ1_charAt_3b067_7 : decode cJ1_charAt_3b067 7 = .ok (.iload_n 1, 1) := by decide +kernel
theorem dJ1_charAt_3b067_8 : decode cJ1_charAt_3b067 8 = .ok (.baload, 1) := by decide +kernel
theorem dJ1_charAt_3b067_9 : decode cJ1_charAt_3b067 9 = .ok (.sipush 255, 3) := by decide +kernel
theorem dJ1_charAt_3b067_12 : decode cJ1_charAt_3b067 12 = .ok (.iand, 1) := by decide +kernel
theorem dJ1_charAt_3b067_13 : decode cJ1_charAt_3b067 13 = .ok (.i2c, 1) := by decide +kernel
theorem dJ1_charAt_3b067_14 : decode cJ1_charAt_3b067 14 = .ok (.ireturn, 1) := by decide +kernel
theorem dJ2_getChar_3b067_0 : decode cJ2_getChar_3b067 0 = .ok (.getstatic 44, 3) := by decide +kernel
theorem dJ2_getChar_3b067_3 : decode cJ2_getChar_3b067 3 = .ok (.ifCond .ne 25, 3) := by decide +kernel
theorem dJ2_getChar_3b067_6 : decode cJ2_getChar_3b067 6 = .ok (.iload_n 1, 1) := by decide +kernel
theorem dJ2_getChar_3b067_7 : decode cJ2_getChar_3b067 7 = .ok (.ifCond .lt 11, 3) := by decide +kernel
theorem dJ2_getChar_3b067_10 : decode cJ2_getChar_3b067 10 = .ok (.iload_n 1, 1) := by decide +kernel
theorem dJ2_getChar_3b067_11 : decode cJ2_getChar_3b067 11 = .ok (.aload_n 0, 1) := by decide +kernel
theorem dJ2_getChar_3b067_12 : decode cJ2_getChar_3b067 12 = .ok (.invokestatic 48, 3) := by decide +kernel
theorem dJ2_getChar_3b067_15 : decode cJ2_getChar_3b067 15 = .ok (.if_icmp .lt 13, 3) := by decide +kernel
theorem dJ2_getChar_3b067_18 : decode cJ2_getChar_3b067 18 = .ok (.new 52, 3) := by decide +kernel
theorem dJ2_getChar_3b067_21 : decode cJ2_getChar_3b067 21 = .ok (.dup, 1) := by decide +kernel
theorem dJ2_getChar_3b067_22 : decode cJ2_getChar_3b067 22 = .ok (.ldc 54, 2) := by decide +kernel
theorem dJ2_getChar_3b067_24 : decode cJ2_getChar_3b067 24 = .ok (.invokespecial 56, 3) := by decide +kernel
theorem dJ2_getChar_3b067_27 : decode cJ2_getChar_3b067 27 = .ok (.athrow, 1) := by decide +kernel
theorem dJ2_getChar_3b067_28 : decode cJ2_getChar_3b067 28 = .ok (.iload_n 1, 1) := by decide +kernel
theorem dJ2_getChar_3b067_29 : decode cJ2_getChar_3b067 29 = .ok (.iconst 1, 1) := by decide +kernel
theorem dJ2_getChar_3b067_30 : decode cJ2_getChar_3b067 30 = .ok (.ishl, 1) := by decide +kernel
theorem dJ2_getChar_3b067_31 : decode cJ2_getChar_3b067 31 = .ok (.istore_n 1, 1) := by decide +kernel
theorem dJ2_getChar_3b067_32 : decode cJ2_getChar_3b067 32 = .ok (.aload_n 0, 1) := by decide +kernel
theorem dJ2_getChar_3b067_33 : decode cJ2_getChar_3b067 33 = .ok (.iload_n 1, 1) := by decide +kernel
theorem dJ2_getChar_3b067_34 : decode cJ2_getChar_3b067 34 = .ok (.iinc 1 1, 3) := by decide +kernel
theorem dJ2_getChar_3b067_37 : decode cJ2_getChar_3b067 37 = .ok (.baload, 1) := by decide +kernel
theorem dJ2_getChar_3b067_38 : decode cJ2_getChar_3b067 38 = .ok (.sipush 255, 3) := by decide +kernel
theorem dJ2_getChar_3b067_41 : decode cJ2_getChar_3b067 41 = .ok (.iand, 1) := by decide +kernel
theorem dJ2_getChar_3b067_42 : decode cJ2_getChar_3b067 42 = .ok (.getstatic 59, 3) := by decide +kernel
theorem dJ2_getChar_3b067_45 : decode cJ2_getChar_3b067 45 = .ok (.ishl, 1) := by decide +kernel
theorem dJ2_getChar_3b067_46 : decode cJ2_getChar_3b067 46 = .ok (.aload_n 0, 1) := by decide +kernel
theorem dJ2_getChar_3b067_47 : decode cJ2_getChar_3b067 47 = .ok (.iload_n 1, 1) := by decide +kernel
theorem dJ2_getChar_3b067_48 : decode cJ2_getChar_3b067 48 = .ok (.baload, 1) := by decide +kernel
theorem dJ2_getChar_3b067_49 : decode cJ2_getChar_3b067 49 = .ok (.sipush 255, 3) := by decide +kernel
theorem dJ2_getChar_3b067_52 : decode cJ2_getChar_3b067 52 = .ok (.iand, 1) := by decide +kernel
theorem dJ2_getChar_3b067_53 : decode cJ2_getChar_3b067 53 = .ok (.getstatic 63, 3) := by decide +kernel
theorem dJ2_getChar_3b067_56 : decode cJ2_getChar_3b067 56 = .ok (.ishl, 1) := by decide +kernel
theorem dJ2_getChar_3b067_57 : decode cJ2_getChar_3b067 57 = .ok (.ior, 1) := by decide +kernel
theorem dJ2_getChar_3b067_58 : decode cJ2_getChar_3b067 58 = .ok (.i2c, 1) := by decide +kernel
theorem dJ2_getChar_3b067_59 : decode cJ2_getChar_3b067 59 = .ok (.ireturn, 1) := by decide +kernel
theorem dJ2_length_9d52b_0 : decode cJ2_length_9d52b 0 = .ok (.aload_n 0, 1) := by decide +kernel
theorem dJ2_length_9d52b_1 : decode cJ2_length_9d52b 1 = .ok (.arraylength, 1) := by decide +kernel
theorem dJ2_length_9d52b_2 : decode cJ2_length_9d52b 2 = .ok (.iconst 1, 1) := by decide +kernel
theorem dJ2_length_9d52b_3 : decode cJ2_length_9d52b 3 = .ok (.ishr, 1) := by decide +kernel
theorem dJ2_length_9d52b_4 : decode cJ2_length_9d52b 4 = .ok (.ireturn, 1) := by decide +kernel
theorem dJ2_charAt_3b067_0 : decode cJ2_charAt_3b067 0 = .ok (.iload_n 1, 1) := by decide +kernel
theorem dJ2_charAt_3b067_1 : decode cJ2_charAt_3b067 1 = .ok (.aload_n 0, 1) := by decide +kernel
theorem dJ2_charAt_3b067_2 : decode cJ2_charAt_3b067 2 = .ok (.invokestatic 67, 3) := by decide +kernel
theorem dJ2_charAt_3b067_5 : decode cJ2_charAt_3b067 5 = .ok (.aload_n 0, 1) := by decide +kernel
theorem dJ2_charAt_3b067_6 : decode cJ2_charAt_3b067 6 = .ok (.iload_n 1, 1) := by decide +kernel
theorem dJ2_charAt_3b067_7 : decode cJ2_charAt_3b067 7 = .ok (.invokestatic 71, 3) := by decide +kernel
theorem dJ2_charAt_3b067_10 : decode cJ2_charAt_3b067 10 = .ok (.ireturn, 1) := by decide +kernel
theorem dJ2_checkIndex_2214a_0 : decode cJ2_checkIndex_2214a 0 = .ok (.iload_n 0, 1) := by decide +kernel
theorem dJ2_checkIndex_2214a_1 : decode cJ2_checkIndex_2214a 1 = .ok (.aload_n 1, 1) := by decide +kernel
theorem dJ2_checkIndex_2214a_2 : decode cJ2_checkIndex_2214a 2 = .ok (.invokestatic 48, 3) := by decide +kernel
theorem dJ2_checkIndex_2214a_5 : decode cJ2_checkIndex_2214a 5 = .ok (.invokestatic 414, 3) := by decide +kernel
theorem dJ2_checkIndex_2214a_8 : decode cJ2_checkIndex_2214a 8 = .ok (.return_, 1) := by decide +kernel
theorem dJ3_checkIndex_8e157_0 : decode cJ3_checkIndex_8e157 0 = .ok (.iload_n 0, 1) := by decide +kernel
theorem dJ3_checkIndex_8e157_1 : decode cJ3_checkIndex_8e157 1 = .ok (.ifCond .lt 8, 3) := by decide +kernel
theorem dJ3_checkIndex_8e157_4 : decode cJ3_checkIndex_8e157 4 = .ok (.iload_n 0, 1) := by decide +kernel
theorem dJ3_checkIndex_8e157_5 : decode cJ3_checkIndex_8e157 5 = .ok (.iload_n 1, 1) := by decide +kernel
theorem dJ3_checkIndex_8e157_6 : decode cJ3_checkIndex_8e157 6 = .ok (.if_icmp .lt 10, 3) := by decide +kernel
theorem dJ3_checkIndex_8e157_9 : decode cJ3_checkIndex_8e157 9 = .ok (.aload_n 2, 1) := by decide +kernel
theorem dJ3_checkIndex_8e157_10 : decode cJ3_checkIndex_8e157 10 = .ok (.iload_n 0, 1) := by decide +kernel
theorem dJ3_checkIndex_8e157_11 : decode cJ3_checkIndex_8e157 11 = .ok (.iload_n 1, 1) := by decide +kernel
theorem dJ3_checkIndex_8e157_12 : decode cJ3_checkIndex_8e157 12 = .ok (.invokestatic 95, 3) := by decide +kernel
theorem dJ3_checkIndex_8e157_15 : decode cJ3_checkIndex_8e157 15 = .ok (.athrow, 1) := by decide +kernel
theorem dJ3_checkIndex_8e157_16 : decode cJ3_checkIndex_8e157 16 = .ok (.iload_n 0, 1) := by decide +kernel
theorem dJ3_checkIndex_8e157_17 : decode cJ3_checkIndex_8e157 17 = .ok (.ireturn, 1) := by decide +kernel
end
section
theorem dX10_init_0 : decode cX10_init 0 = .ok (.aload_n 0, 1) := by decide +kernel
theorem dX10_init_1 : decode cX10_init 1 = .ok (.invokespecial 1, 3) := by decide +kernel
theorem dX10_init_4 : decode cX10_init 4 = .ok (.aload_n 0, 1) := by decide +kernel
theorem dX10_init_5 : decode cX10_init 5 = .ok (.new 7, 3) := by decide +kernel
theorem dX10_init_8 : decode cX10_init 8 = .ok (.dup, 1) := by decide +kernel
theorem dX10_init_9 : decode cX10_init 9 = .ok (.invokespecial 9, 3) := by decide +kernel
theorem dX10_init_12 : decode cX10_init 12 = .ok (.putfield 10, 3) := by decide +kernel
theorem dX10_init_15 : decode cX10_init 15 = .ok (.aload_n 0, 1) := by decide +kernel
theorem dX10_init_16 : decode cX10_init 16 = .ok (.new 16, 3) := by decide +kernel
theorem dX10_init_19 : decode cX10_init 19 = .ok (.dup, 1) := by decide +kernel
theorem dX10_init_20 : decode cX10_init 20 = .ok (.invokespecial 18, 3) := by decide +kernel
theorem dX10_init_23 : decode cX10_init 23 = .ok (.putfield 19, 3) := by decide +kernel
theorem dX10_init_26 : decode cX10_init 26 = .ok (.aload_n 0, 1) := by decide +kernel
theorem dX10_init_27 : decode cX10_init 27 = .ok (.new 23, 3) := by decide +kernel
theorem dX10_init_30 : decode cX10_init 30 = .ok (.dup, 1) := by decide +kernel
theorem dX10_init_31 : decode cX10_init 31 = .ok (.invokespecial 25, 3) := by decide +kernel
theorem dX10_init_34 : decode cX10_init 34 = .ok (.putfield 26, 3) := by decide +kernel
theorem dX10_init_37 : decode cX10_init 37 = .ok (.aload_n 0, 1) := by decide +kernel
theorem dX10_init_38 : decode cX10_init 38 = .ok (.new 30, 3) := by decide +kernel
theorem dX10_init_41 : decode cX10_init 41 = .ok (.dup, 1) := by decide +kernel
theorem dX10_init_42 : decode cX10_init 42 = .ok (.invokespecial 32, 3) := by decide +kernel
theorem dX10_init_45 : decode cX10_init 45 = .ok (.putfield 33, 3) := by decide +kernel
theorem dX10_init_48 : decode cX10_init 48 = .ok (.aload_n 0, 1) := by decide +kernel
theorem dX10_init_49 : decode cX10_init 49 = .ok (.new 37, 3) := by decide +kernel
theorem dX10_init_52 : decode cX10_init 52 = .ok (.dup, 1) := by decide +kernel
theorem dX10_init_53 : decode cX10_init 53 = .ok (.invokespecial 39, 3) := by decide +kernel
theorem dX10_init_56 : decode cX10_init 56 = .ok (.putfield 40, 3) := by decide +kernel
theorem dX10_init_59 : decode cX10_init 59 = .ok (.aload_n 0, 1) := by decide +kernel
theorem dX10_init_60 : decode cX10_init 60 = .ok (.new 44, 3) := by decide +kernel
theorem dX10_init_63 : decode cX10_init 63 = .ok (.dup, 1) := by decide +kernel
theorem dX10_init_64 : decode cX10_init 64 = .ok (.invokespecial 46, 3) := by decide +kernel
theorem dX10_init_67 : decode cX10_init 67 = .ok (.putfield 47, 3) := by decide +kernel
theorem dX10_init_70 : decode cX10_init 70 = .ok (.aload_n 0, 1) := by decide +kernel
theorem dX10_init_71 : decode cX10_init 71 = .ok (.new 51, 3) := by decide +kernel
theorem dX10_init_74 : decode cX10_init 74 = .ok (.dup, 1) := by decide +kernel
theorem dX10_init_75 : decode cX10_init 75 = .ok (.invokespecial 53, 3) := by decide +kernel
theorem dX10_init_78 : decode cX10_init 78 = .ok (.putfield 54, 3) := by decide +kernel
theorem dX10_init_81 : decode cX10_init 81 = .ok (.aload_n 0, 1) := by decide +kernel
theorem dX10_init_82 : decode cX10_init 82 = .ok (.new 58, 3) := by decide +kernel
theorem dX10_init_85 : decode cX10_init 85 = .ok (.dup, 1) := by decide +kernel
theorem dX10_init_86 : decode cX10_init 86 = .ok (.invokespecial 60, 3) := by decide +kernel
theorem dX10_init_89 : decode cX10_init 89 = .ok (.putfield 61, 3) := by decide +kernel
theorem dX10_init_92 : decode cX10_init 92 = .ok (.aload_n 0, 1) := by decide +kernel
theorem dX10_init_93 : decode cX10_init 93 = .ok (.new 58, 3) := by decide +kernel
theorem dX10_init_96 : decode cX10_init 96 = .ok (.dup, 1) := by decide +kernel
theorem dX10_init_97 : decode cX10_init 97 = .ok (.invokespecial 60, 3) := by decide +kernel
theorem dX10_init_100 : decode cX10_init 100 = .ok (.putfield 65, 3) := by decide +kernel
theorem dX10_init_103 : decode cX10_init 103 = .ok (.aload_n 0, 1) := by decide +kernel
theorem dX10_init_104 : decode cX10_init 104 = .ok (.getfield 10, 3) := by decide +kernel
theorem dX10_init_107 : decode cX10_init 107 = .ok (.ldc 68, 2) := by decide +kernel
theorem dX10_init_109 : decode cX10_init 109 = .ok (.invokevirtual 70, 3) := by decide +kernel
theorem dX10_init_112 : decode cX10_init 112 = .ok (.aload_n 0, 1) := by decide +kernel
theorem dX10_init_113 : decode cX10_init 113 = .ok (.invokevirtual 74, 3) := by decide +kernel
theorem dX10_init_116 : decode cX10_init 116 = .ok (.pop, 1) := by decide +kernel
theorem dX10_init_117 : decode cX10_init 117 = .ok (.aload_n 0, 1) := by decide +kernel
theorem dX10_init_118 : decode cX10_init 118 = .ok (.getfield 10, 3) := by decide +kernel
theorem dX10_init_121 : decode cX10_init 121 = .ok (.invokevirtual 78, 3) := by decide +kernel
theorem dX10_init_124 : decode cX10_init 124 = .ok (.return_, 1) := by decide +kernel
theorem dX10_write_0 : decode cX10_write 0 = .ok (.iload_n 1, 1) := by decide +kernel
theorem dX10_write_1 : decode cX10_write 1 = .ok (.bipush 32, 2) := by decide +kernel
theorem dX10_write_3 : decode cX10_write 3 = .ok (.if_icmp .lt 9, 3) := by decide +kernel
theorem dX10_write_6 : decode cX10_write 6 = .ok (.iload_n 1, 1) := by decide +kernel
theorem dX10_write_7 : decode cX10_write 7 = .ok (.bipush 126, 2) := by decide +kernel
theorem dX10_write_9 : decode cX10_write 9 = .ok (.if_icmp .le 5, 3) := by decide +kernel
theorem dX10_write_12 : decode cX10_write 12 = .ok (.iconst (-1), 1) := by decide +kernel
theorem dX10_write_13 : decode cX10_write 13 = .ok (.ireturn, 1) := by decide +kernel
theorem dX10_write_14 : decode cX10_write 14 = .ok (.aload_n 0, 1) := by decide +kernel
theorem dX10_write_15 : decode cX10_write 15 = .ok (.getfield 10, 3) := by decide +kernel
theorem dX10_write_18 : decode cX10_write 18 = .ok (.iload_n 1, 1) := by decide +kernel
theorem dX10_write_19 : decode cX10_write 19 = .ok (.invokevirtual 81, 3) := by decide +kernel
theorem dX10_write_22 : decode cX10_write 22 = .ok (.ifCond .eq 13, 3) := by decide +kernel
theorem dX10_write_25 : decode cX10_write 25 = .ok (.aload_n 0, 1) := by decide +kernel
theorem dX10_write_26 : decode cX10_write 26 = .ok (.getfield 10, 3) := by decide +kernel
theorem dX10_write_29 : decode cX10_write 29 = .ok (.getfield 85, 3) := by decide +kernel
theorem dX10_write_32 : decode cX10_write 32 = .ok (.goto 5, 3) := by decide +kernel
theorem dX10_write_35 : decode cX10_write 35 = .ok (.bipush (-3), 2) := by decide +kernel
theorem dX10_write_37 : decode cX10_write 37 = .ok (.ireturn, 1) := by decide +kernel
theorem dX10_wipe_0 : decode cX10_wipe 0 = .ok (.aload_n 0, 1) := by decide +kernel
theorem dX10_wipe_1 : decode cX10_wipe 1 = .ok (.getfield 10, 3) := by decide +kernel
theorem dX10_wipe_4 : decode cX10_wipe 4 = .ok (.getfield 85, 3) := by decide +kernel
theorem dX10_wipe_7 : decode cX10_wipe 7 = .ok (.istore_n 1, 1) := by decide +kernel
theorem dX10_wipe_8 : decode cX10_wipe 8 = .ok (.aload_n 0, 1) := by decide +kernel
theorem dX10_wipe_9 : decode cX10_wipe 9 = .ok (.getfield 10, 3) := by decide +kernel
theorem dX10_wipe_12 : decode cX10_wipe 12 = .ok (.invokevirtual 78, 3) := by decide +kernel
theorem dX10_wipe_15 : decode cX10_wipe 15 = .ok (.iload_n 1, 1) := by decide +kernel
theorem dX10_wipe_16 : decode cX10_wipe 16 = .ok (.ireturn, 1) := by decide +kernel
theorem dX10_fault_0 : decode cX10_fault 0 = .ok (.aload_n 0, 1) := by decide +kernel
theorem dX10_fault_1 : decode cX10_fault 1 = .ok (.getfield 65, 3) := by decide +kernel
theorem dX10_fault_4 : decode cX10_fault 4 = .ok (.aload_n 0, 1) := by decide +kernel
theorem dX10_fault_5 : decode cX10_fault 5 = .ok (.getfield 10, 3) := by decide +kernel
theorem dX10_fault_8 : decode cX10_fault 8 = .ok (.invokevirtual 89, 3) := by decide +kernel
theorem dX10_fault_11 : decode cX10_fault 11 = .ok (.ireturn, 1) := by decide +kernel
theorem dX10_lay_0 : decode cX10_lay 0 = .ok (.aload_n 0, 1) := by decide +kernel
theorem dX10_lay_1 : decode cX10_lay 1 = .ok (.invokevirtual 74, 3) := by decide +kernel
theorem dX10_lay_4 : decode cX10_lay 4 = .ok (.ifCond .eq 13, 3) := by decide +kernel
theorem dX10_lay_7 : decode cX10_lay 7 = .ok (.aload_n 0, 1) := by decide +kernel
theorem dX10_lay_8 : decode cX10_lay 8 = .ok (.getfield 19, 3) := by decide +kernel
theorem dX10_lay_11 : decode cX10_lay 11 = .ok (.invokevirtual 93, 3) := by decide +kernel
theorem dX10_lay_14 : decode cX10_lay 14 = .ok (.goto 5, 3) := by decide +kernel
theorem dX10_lay_17 : decode cX10_lay 17 = .ok (.bipush (-2), 2) := by decide +kernel
theorem dX10_lay_19 : decode cX10_lay 19 = .ok (.ireturn, 1) := by decide +kernel
theorem dX10_figure_0 : decode cX10_figure 0 = .ok (.iload_n 1, 1) := by decide +kernel
theorem dX10_figure_1 : decode cX10_figure 1 = .ok (.invokestatic 97, 3) := by decide +kernel
theorem dX10_figure_4 : decode cX10_figure 4 = .ok (.ifCond .eq 12, 3) := by decide +kernel
theorem dX10_figure_7 : decode cX10_figure 7 = .ok (.iload_n 2, 1) := by decide +kernel
theorem dX10_figure_8 : decode cX10_figure 8 = .ok (.iconst 0, 1) := by decide +kernel
theorem dX10_figure_9 : decode cX10_figure 9 = .ok (.iconst 1, 1) := by decide +kernel
theorem dX10_figure_10 : decode cX10_figure 10 = .ok (.invokestatic 100, 3) := by decide +kernel
theorem dX10_figure_13 : decode cX10_figure 13 = .ok (.ifCond .ne 5, 3) := by decide +kernel
theorem dX10_figure_16 : decode cX10_figure 16 = .ok (.iconst (-1), 1) := by decide +kernel
theorem dX10_figure_17 : decode cX10_figure 17 = .ok (.ireturn, 1) := by decide +kernel
theorem dX10_figure_18 : decode cX10_figure 18 = .ok (.iload_n 2, 1) := by decide +kernel
theorem dX10_figure_19 : decode cX10_figure 19 = .ok (.ifCond .ne 20, 3) := by decide +kernel
theorem dX10_figure_22 : decode cX10_figure 22 = .ok (.aload_n 0, 1) := by decide +kernel
theorem dX10_figure_23 : decode cX10_figure 23 = .ok (.getfield 19, 3) := by decide +kernel
theorem dX10_figure_26 : decode cX10_figure 26 = .ok (.iload_n 1, 1) := by decide +kernel
theorem dX10_figure_27 : decode cX10_figure 27 = .ok (.invokevirtual 104, 3) := by decide +kernel
theorem dX10_figure_30 : decode cX10_figure 30 = .ok (.ifCond .eq 7, 3) := by decide +kernel
theorem dX10_figure_33 : decode cX10_figure 33 = .ok (.iconst 1, 1) := by decide +kernel
theorem dX10_figure_34 : decode cX10_figure 34 = .ok (.goto 4, 3) := by decide +kernel
theorem dX10_figure_37 : decode cX10_figure 37 = .ok (.iconst 0, 1) := by decide +kernel
theorem dX10_figure_38 : decode cX10_figure 38 = .ok (.ireturn, 1) := by decide +kernel
theorem dX10_figure_39 : decode cX10_figure 39 = .ok (.aload_n 0, 1) := by decide +kernel
theorem dX10_figure_40 : decode cX10_figure 40 = .ok (.getfield 19, 3) := by decide +kernel
theorem dX10_figure_43 : decode cX10_figure 43 = .ok (.getfield 107, 3) := by decide +kernel
theorem dX10_figure_46 : decode cX10_figure 46 = .ok (.iload_n 1, 1) := by decide +kernel
theorem dX10_figure_47 : decode cX10_figure 47 = .ok (.iaload, 1) := by decide +kernel
theorem dX10_figure_48 : decode cX10_figure 48 = .ok (.ireturn, 1) := by decide +kernel
theorem dX10_coin_0 : decode cX10_coin 0 = .ok (.iload_n 1, 1) := by decide +kernel
theorem dX10_coin_1 : decode cX10_coin 1 = .ok (.iconst 0, 1) := by decide +kernel
theorem dX10_coin_2 : decode cX10_coin 2 = .ok (.aload_n 0, 1) := by decide +kernel
theorem dX10_coin_3 : decode cX10_coin 3 = .ok (.getfield 61, 3) := by decide +kernel
theorem dX10_coin_6 : decode cX10_coin 6 = .ok (.getfield 111, 3) := by decide +kernel
theorem dX10_coin_9 : decode cX10_coin 9 = .ok (.iconst 1, 1) := by decide +kernel
theorem dX10_coin_10 : decode cX10_coin 10 = .ok (.isub, 1) := by decide +kernel
theorem dX10_coin_11 : decode cX10_coin 11 = .ok (.invokestatic 100, 3) := by decide +kernel
theorem dX10_coin_14 : decode cX10_coin 14 = .ok (.ifCond .eq 15, 3) := by decide +kernel
theorem dX10_coin_17 : decode cX10_coin 17 = .ok (.aload_n 0, 1) := by decide +kernel
theorem dX10_coin_18 : decode cX10_coin 18 = .ok (.getfield 61, 3) := by decide +kernel
theorem dX10_coin_21 : decode cX10_coin 21 = .ok (.getfield 114, 3) := by decide +kernel
theorem dX10_coin_24 : decode cX10_coin 24 = .ok (.iload_n 1, 1) := by decide +kernel
theorem dX10_coin_25 : decode cX10_coin 25 = .ok (.iaload, 1) := by decide +kernel
theorem dX10_coin_26 : decode cX10_coin 26 = .ok (.goto 4, 3) := by decide +kernel
theorem dX10_coin_29 : decode cX10_coin 29 = .ok (.iconst (-1), 1) := by decide +kernel
theorem dX10_coin_30 : decode cX10_coin 30 = .ok (.ireturn, 1) := by decide +kernel
theorem dX10_strike_0 : decode cX10_strike 0 = .ok (.iload_n 1, 1) := by decide +kernel
theorem dX10_strike_1 : decode cX10_strike 1 = .ok (.invokestatic 97, 3) := by decide +kernel
theorem dX10_strike_4 : decode cX10_strike 4 = .ok (.ifCond .eq 12, 3) := by decide +kernel
theorem dX10_strike_7 : decode cX10_strike 7 = .ok (.iload_n 2, 1) := by decide +kernel
theorem dX10_strike_8 : decode cX10_strike 8 = .ok (.iconst 0, 1) := by decide +kernel
theorem dX10_strike_9 : decode cX10_strike 9 = .ok (.iconst 1, 1) := by decide +kernel
theorem dX10_strike_10 : decode cX10_strike 10 = .ok (.invokestatic 100, 3) := by decide +kernel
theorem dX10_strike_13 : decode cX10_strike 13 = .ok (.ifCond .ne 5, 3) := by decide +kernel
theorem dX10_strike_16 : decode cX10_strike 16 = .ok (.iconst (-1), 1) := by decide +kernel
theorem dX10_strike_17 : decode cX10_strike 17 = .ok (.ireturn, 1) := by decide +kernel
theorem dX10_strike_18 : decode cX10_strike 18 = .ok (.aload_n 0, 1) := by decide +kernel
theorem dX10_strike_19 : decode cX10_strike 19 = .ok (.getfield 19, 3) := by decide +kernel
theorem dX10_strike_22 : decode cX10_strike 22 = .ok (.iload_n 1, 1) := by decide +kernel
theorem dX10_strike_23 : decode cX10_strike 23 = .ok (.invokevirtual 104, 3) := by decide +kernel
theorem dX10_strike_26 : decode cX10_strike 26 = .ok (.iload_n 2, 1) := by decide +kernel
theorem dX10_strike_27 : decode cX10_strike 27 = .ok (.iconst 1, 1) := by decide +kernel
theorem dX10_strike_28 : decode cX10_strike 28 = .ok (.if_icmp .ne 7, 3) := by decide +kernel
theorem dX10_strike_31 : decode cX10_strike 31 = .ok (.iconst 1, 1) := by decide +kernel
theorem dX10_strike_32 : decode cX10_strike 32 = .ok (.goto 4, 3) := by decide +kernel
theorem dX10_strike_35 : decode cX10_strike 35 = .ok (.iconst 0, 1) := by decide +kernel
theorem dX10_strike_36 : decode cX10_strike 36 = .ok (.if_icmp .ne 6, 3) := by decide +kernel
theorem dX10_strike_39 : decode cX10_strike 39 = .ok (.bipush (-2), 2) := by decide +kernel
theorem dX10_strike_41 : decode cX10_strike 41 = .ok (.ireturn, 1) := by decide +kernel
theorem dX10_strike_42 : decode cX10_strike 42 = .ok (.aload_n 0, 1) := by decide +kernel
theorem dX10_strike_43 : decode cX10_strike 43 = .ok (.getfield 19, 3) := by decide +kernel
theorem dX10_strike_46 : decode cX10_strike 46 = .ok (.dup, 1) := by decide +kernel
theorem dX10_strike_47 : decode cX10_strike 47 = .ok (.getfield 117, 3) := by decide +kernel
theorem dX10_strike_50 : decode cX10_strike 50 = .ok (.iconst 1, 1) := by decide +kernel
theorem dX10_strike_51 : decode cX10_strike 51 = .ok (.iload_n 1, 1) := by decide +kernel
theorem dX10_strike_52 : decode cX10_strike 52 = .ok (.ishl, 1) := by decide +kernel
theorem dX10_strike_53 : decode cX10_strike 53 = .ok (.ixor, 1) := by decide +kernel
theorem dX10_strike_54 : decode cX10_strike 54 = .ok (.putfield 117, 3) := by decide +kernel
theorem dX10_strike_57 : decode cX10_strike 57 = .ok (.aload_n 0, 1) := by decide +kernel
theorem dX10_strike_58 : decode cX10_strike 58 = .ok (.getfield 26, 3) := by decide +kernel
theorem dX10_strike_61 : decode cX10_strike 61 = .ok (.iload_n 1, 1) := by decide +kernel
theorem dX10_strike_62 : decode cX10_strike 62 = .ok (.iconst (-1), 1) := by decide +kernel
theorem dX10_strike_63 : decode cX10_strike 63 = .ok (.invokevirtual 120, 3) := by decide +kernel
theorem dX10_strike_66 : decode cX10_strike 66 = .ok (.aload_n 0, 1) := by decide +kernel
theorem dX10_strike_67 : decode cX10_strike 67 = .ok (.getfield 19, 3) := by decide +kernel
theorem dX10_strike_70 : decode cX10_strike 70 = .ok (.invokevirtual 93, 3) := by decide +kernel
theorem dX10_strike_73 : decode cX10_strike 73 = .ok (.ireturn, 1) := by decide +kernel
theorem dX10_standIn_0 : decode cX10_standIn 0 = .ok (.iload_n 1, 1) := by decide +kernel
theorem dX10_standIn_1 : decode cX10_standIn 1 = .ok (.invokestatic 97, 3) := by decide +kernel
theorem dX10_standIn_4 : decode cX10_standIn 4 = .ok (.ifCond .eq 10, 3) := by decide +kernel
theorem dX10_standIn_7 : decode cX10_standIn 7 = .ok (.iload_n 2, 1) := by decide +kernel
theorem dX10_standIn_8 : decode cX10_standIn 8 = .ok (.invokestatic 97, 3) := by decide +kernel
theorem dX10_standIn_11 : decode cX10_standIn 11 = .ok (.ifCond .ne 5, 3) := by decide +kernel
theorem dX10_standIn_14 : decode cX10_standIn 14 = .ok (.iconst (-1), 1) := by decide +kernel
theorem dX10_standIn_15 : decode cX10_standIn 15 = .ok (.ireturn, 1) := by decide +kernel
theorem dX10_standIn_16 : decode cX10_standIn 16 = .ok (.aload_n 0, 1) := by decide +kernel
theorem dX10_standIn_17 : decode cX10_standIn 17 = .ok (.getfield 19, 3) := by decide +kernel
theorem dX10_standIn_20 : decode cX10_standIn 20 = .ok (.getfield 107, 3) := by decide +kernel
theorem dX10_standIn_23 : decode cX10_standIn 23 = .ok (.iload_n 1, 1) := by decide +kernel
theorem dX10_standIn_24 : decode cX10_standIn 24 = .ok (.iaload, 1) := by decide +kernel
theorem dX10_standIn_25 : decode cX10_standIn 25 = .ok (.istore_n 3, 1) := by decide +kernel
theorem dX10_standIn_26 : decode cX10_standIn 26 = .ok (.aload_n 0, 1) := by decide +kernel
theorem dX10_standIn_27 : decode cX10_standIn 27 = .ok (.getfield 19, 3) := by decide +kernel
theorem dX10_standIn_30 : decode cX10_standIn 30 = .ok (.getfield 107, 3) := by decide +kernel
theorem dX10_standIn_33 : decode cX10_standIn 33 = .ok (.iload_n 1, 1) := by decide +kernel
theorem dX10_standIn_34 : decode cX10_standIn 34 = .ok (.iload_n 2, 1) := by decide +kernel
theorem dX10_standIn_35 : decode cX10_standIn 35 = .ok (.iastore, 1) := by decide +kernel
theorem dX10_standIn_36 : decode cX10_standIn 36 = .ok (.aload_n 0, 1) := by decide +kernel
theorem dX10_standIn_37 : decode cX10_standIn 37 = .ok (.getfield 26, 3) := by decide +kernel
theorem dX10_standIn_40 : decode cX10_standIn 40 = .ok (.iload_n 1, 1) := by decide +kernel
theorem dX10_standIn_41 : decode cX10_standIn 41 = .ok (.iload_n 3, 1) := by decide +kernel
theorem dX10_standIn_42 : decode cX10_standIn 42 = .ok (.invokevirtual 120, 3) := by decide +kernel
theorem dX10_standIn_45 : decode cX10_standIn 45 = .ok (.iload_n 3, 1) := by decide +kernel
theorem dX10_standIn_46 : decode cX10_standIn 46 = .ok (.ireturn, 1) := by decide +kernel
theorem dX10_undo_0 : decode cX10_undo 0 = .ok (.aload_n 0, 1) := by decide +kernel
theorem dX10_undo_1 : decode cX10_undo 1 = .ok (.getfield 26, 3) := by decide +kernel
theorem dX10_undo_4 : decode cX10_undo 4 = .ok (.aload_n 0, 1) := by decide +kernel
theorem dX10_undo_5 : decode cX10_undo 5 = .ok (.getfield 19, 3) := by decide +kernel
theorem dX10_undo_8 : decode cX10_undo 8 = .ok (.invokevirtual 124, 3) := by decide +kernel
theorem dX10_undo_11 : decode cX10_undo 11 = .ok (.ifCond .eq 13, 3) := by decide +kernel
theorem dX10_undo_14 : decode cX10_undo 14 = .ok (.aload_n 0, 1) := by decide +kernel
theorem dX10_undo_15 : decode cX10_undo 15 = .ok (.getfield 26, 3) := by decide +kernel
theorem dX10_undo_18 : decode cX10_undo 18 = .ok (.getfield 128, 3) := by decide +kernel
theorem dX10_undo_21 : decode cX10_undo 21 = .ok (.goto 5, 3) := by decide +kernel
theorem dX10_undo_24 : decode cX10_undo 24 = .ok (.bipush (-2), 2) := by decide +kernel
theorem dX10_undo_26 : decode cX10_undo 26 = .ok (.ireturn, 1) := by decide +kernel
theorem dX10_said_0 : decode cX10_said 0 = .ok (.iload_n 1, 1) := by decide +kernel
theorem dX10_said_1 : decode cX10_said 1 = .ok (.iconst 0, 1) := by decide +kernel
theorem dX10_said_2 : decode cX10_said 2 = .ok (.ldc 131, 2) := by decide +kernel
theorem dX10_said_4 : decode cX10_said 4 = .ok (.invokestatic 100, 3) := by decide +kernel
theorem dX10_said_7 : decode cX10_said 7 = .ok (.ifCond .ne 5, 3) := by decide +kernel
theorem dX10_said_10 : decode cX10_said 10 = .ok (.iconst (-1), 1) := by decide +kernel
theorem dX10_said_11 : decode cX10_said 11 = .ok (.ireturn, 1) := by decide +kernel
theorem dX10_said_12 : decode cX10_said 12 = .ok (.aload_n 0, 1) := by decide +kernel
theorem dX10_said_13 : decode cX10_said 13 = .ok (.getfield 19, 3) := by decide +kernel
theorem dX10_said_16 : decode cX10_said 16 = .ok (.getfield 117, 3) := by decide +kernel
theorem dX10_said_19 : decode cX10_said 19 = .ok (.iload_n 1, 1) := by decide +kernel
theorem dX10_said_20 : decode cX10_said 20 = .ok (.invokestatic 132, 3) := by decide +kernel
theorem dX10_said_23 : decode cX10_said 23 = .ok (.ifCond .eq 7, 3) := by decide +kernel
theorem dX10_said_26 : decode cX10_said 26 = .ok (.iconst 1, 1) := by decide +kernel
theorem dX10_said_27 : decode cX10_said 27 = .ok (.goto 4, 3) := by decide +kernel
theorem dX10_said_30 : decode cX10_said 30 = .ok (.iconst 0, 1) := by decide +kernel
theorem dX10_said_31 : decode cX10_said 31 = .ok (.ireturn, 1) := by decide +kernel
theorem dX10_next_0 : decode cX10_next 0 = .ok (.iload_n 1, 1) := by decide +kernel
theorem dX10_next_1 : decode cX10_next 1 = .ok (.iconst 0, 1) := by decide +kernel
theorem dX10_next_2 : decode cX10_next 2 = .ok (.ldc 131, 2) := by decide +kernel
theorem dX10_next_4 : decode cX10_next 4 = .ok (.invokestatic 100, 3) := by decide +kernel
theorem dX10_next_7 : decode cX10_next 7 = .ok (.ifCond .ne 5, 3) := by decide +kernel
theorem dX10_next_10 : decode cX10_next 10 = .ok (.iconst (-1), 1) := by decide +kernel
theorem dX10_next_11 : decode cX10_next 11 = .ok (.ireturn, 1) := by decide +kernel
theorem dX10_next_12 : decode cX10_next 12 = .ok (.aload_n 0, 1) := by decide +kernel
theorem dX10_next_13 : decode cX10_next 13 = .ok (.getfield 19, 3) := by decide +kernel
theorem dX10_next_16 : decode cX10_next 16 = .ok (.getfield 117, 3) := by decide +kernel
theorem dX10_next_19 : decode cX10_next 19 = .ok (.aload_n 0, 1) := by decide +kernel
theorem dX10_next_20 : decode cX10_next 20 = .ok (.getfield 19, 3) := by decide +kernel
theorem dX10_next_23 : decode cX10_next 23 = .ok (.getfield 117, 3) := by decide +kernel
theorem dX10_next_26 : decode cX10_next 26 = .ok (.iload_n 1, 1) := by decide +kernel
theorem dX10_next_27 : decode cX10_next 27 = .ok (.invokestatic 138, 3) := by decide +kernel
theorem dX10_next_30 : decode cX10_next 30 = .ok (.invokestatic 142, 3) := by decide +kernel
theorem dX10_next_33 : decode cX10_next 33 = .ok (.ireturn, 1) := by decide +kernel
theorem dX10_rank_0 : decode cX10_rank 0 = .ok (.iload_n 1, 1) := by decide +kernel
theorem dX10_rank_1 : decode cX10_rank 1 = .ok (.iconst 0, 1) := by decide +kernel
theorem dX10_rank_2 : decode cX10_rank 2 = .ok (.ldc 131, 2) := by decide +kernel
theorem dX10_rank_4 : decode cX10_rank 4 = .ok (.invokestatic 100, 3) := by decide +kernel
theorem dX10_rank_7 : decode cX10_rank 7 = .ok (.ifCond .eq 17, 3) := by decide +kernel
theorem dX10_rank_10 : decode cX10_rank 10 = .ok (.aload_n 0, 1) := by decide +kernel
theorem dX10_rank_11 : decode cX10_rank 11 = .ok (.getfield 19, 3) := by decide +kernel
theorem dX10_rank_14 : decode cX10_rank 14 = .ok (.getfield 117, 3) := by decide +kernel
theorem dX10_rank_17 : decode cX10_rank 17 = .ok (.iload_n 1, 1) := by decide +kernel
theorem dX10_rank_18 : decode cX10_rank 18 = .ok (.invokestatic 138, 3) := by decide +kernel
theorem dX10_rank_21 : decode cX10_rank 21 = .ok (.goto 4, 3) := by decide +kernel
theorem dX10_rank_24 : decode cX10_rank 24 = .ok (.iconst (-1), 1) := by decide +kernel
theorem dX10_rank_25 : decode cX10_rank 25 = .ok (.ireturn, 1) := by decide +kernel
theorem dX10_kth_0 : decode cX10_kth 0 = .ok (.iload_n 1, 1) := by decide +kernel
theorem dX10_kth_1 : decode cX10_kth 1 = .ok (.iconst 0, 1) := by decide +kernel
theorem dX10_kth_2 : decode cX10_kth 2 = .ok (.ldc 131, 2) := by decide +kernel
theorem dX10_kth_4 : decode cX10_kth 4 = .ok (.invokestatic 100, 3) := by decide +kernel
theorem dX10_kth_7 : decode cX10_kth 7 = .ok (.ifCond .eq 17, 3) := by decide +kernel
theorem dX10_kth_10 : decode cX10_kth 10 = .ok (.aload_n 0, 1) := by decide +kernel
theorem dX10_kth_11 : decode cX10_kth 11 = .ok (.getfield 19, 3) := by decide +kernel
theorem dX10_kth_14 : decode cX10_kth 14 = .ok (.getfield 117, 3) := by decide +kernel
theorem dX10_kth_17 : decode cX10_kth 17 = .ok (.iload_n 1, 1) := by decide +kernel
theorem dX10_kth_18 : decode cX10_kth 18 = .ok (.invokestatic 142, 3) := by decide +kernel
theorem dX10_kth_21 : decode cX10_kth 21 = .ok (.goto 4, 3) := by decide +kernel
theorem dX10_kth_24 : decode cX10_kth 24 = .ok (.iconst (-1), 1) := by decide +kernel
theorem dX10_kth_25 : decode cX10_kth 25 = .ok (.ireturn, 1) := by decide +kernel
theorem dX10_sum_0 : decode cX10_sum 0 = .ok (.iload_n 1, 1) := by decide +kernel
theorem dX10_sum_1 : decode cX10_sum 1 = .ok (.tableswitch 82 0 2 #[27, 46, 71], 27) := by decide +kernel
theorem dX10_sum_28 : decode cX10_sum 28 = .ok (.aload_n 0, 1) := by decide +kernel
theorem dX10_sum_29 : decode cX10_sum 29 = .ok (.getfield 61, 3) := by decide +kernel
theorem dX10_sum_32 : decode cX10_sum 32 = .ok (.getfield 145, 3) := by decide +kernel
theorem dX10_sum_35 : decode cX10_sum 35 = .ok (.iconst 0, 1) := by decide +kernel
theorem dX10_sum_36 : decode cX10_sum 36 = .ok (.aload_n 0, 1) := by decide +kernel
theorem dX10_sum_37 : decode cX10_sum 37 = .ok (.getfield 19, 3) := by decide +kernel
theorem dX10_sum_40 : decode cX10_sum 40 = .ok (.getfield 107, 3) := by decide +kernel
theorem dX10_sum_43 : decode cX10_sum 43 = .ok (.invokevirtual 149, 3) := by decide +kernel
theorem dX10_sum_46 : decode cX10_sum 46 = .ok (.ireturn, 1) := by decide +kernel
theorem dX10_sum_47 : decode cX10_sum 47 = .ok (.aload_n 0, 1) := by decide +kernel
theorem dX10_sum_48 : decode cX10_sum 48 = .ok (.getfield 61, 3) := by decide +kernel
theorem dX10_sum_51 : decode cX10_sum 51 = .ok (.getfield 145, 3) := by decide +kernel
theorem dX10_sum_54 : decode cX10_sum 54 = .ok (.aload_n 0, 1) := by decide +kernel
theorem dX10_sum_55 : decode cX10_sum 55 = .ok (.getfield 19, 3) := by decide +kernel
theorem dX10_sum_58 : decode cX10_sum 58 = .ok (.getfield 117, 3) := by decide +kernel
theorem dX10_sum_61 : decode cX10_sum 61 = .ok (.aload_n 0, 1) := by decide +kernel
theorem dX10_sum_62 : decode cX10_sum 62 = .ok (.getfield 19, 3) := by decide +kernel
theorem dX10_sum_65 : decode cX10_sum 65 = .ok (.getfield 107, 3) := by decide +kernel
theorem dX10_sum_68 : decode cX10_sum 68 = .ok (.invokevirtual 149, 3) := by decide +kernel
theorem dX10_sum_71 : decode cX10_sum 71 = .ok (.ireturn, 1) := by decide +kernel
theorem dX10_sum_72 : decode cX10_sum 72 = .ok (.aload_n 0, 1) := by decide +kernel
theorem dX10_sum_73 : decode cX10_sum 73 = .ok (.getfield 61, 3) := by decide +kernel
theorem dX10_sum_76 : decode cX10_sum 76 = .ok (.getfield 145, 3) := by decide +kernel
theorem dX10_sum_79 : decode cX10_sum 79 = .ok (.invokevirtual 155, 3) := by decide +kernel
theorem dX10_sum_82 : decode cX10_sum 82 = .ok (.ireturn, 1) := by decide +kernel
theorem dX10_sum_83 : decode cX10_sum 83 = .ok (.iconst (-1), 1) := by decide +kernel
theorem dX10_sum_84 : decode cX10_sum 84 = .ok (.ireturn, 1) := by decide +kernel
theorem dX10_ways_0 : decode cX10_ways 0 = .ok (.iload_n 1, 1) := by decide +kernel
theorem dX10_ways_1 : decode cX10_ways 1 = .ok (.iconst 0, 1) := by decide +kernel
theorem dX10_ways_2 : decode cX10_ways 2 = .ok (.sipush 999, 3) := by decide +kernel
theorem dX10_ways_5 : decode cX10_ways 5 = .ok (.invokestatic 100, 3) := by decide +kernel
theorem dX10_ways_8 : decode cX10_ways 8 = .ok (.ifCond .ne 5, 3) := by decide +kernel
theorem dX10_ways_11 : decode cX10_ways 11 = .ok (.iconst (-1), 1) := by decide +kernel
theorem dX10_ways_12 : decode cX10_ways 12 = .ok (.ireturn, 1) := by decide +kernel
theorem dX10_ways_13 : decode cX10_ways 13 = .ok (.aload_n 0, 1) := by decide +kernel
theorem dX10_ways_14 : decode cX10_ways 14 = .ok (.getfield 47, 3) := by decide +kernel
theorem dX10_ways_17 : decode cX10_ways 17 = .ok (.iload_n 1, 1) := by decide +kernel
theorem dX10_ways_18 : decode cX10_ways 18 = .ok (.aload_n 0, 1) := by decide +kernel
theorem dX10_ways_19 : decode cX10_ways 19 = .ok (.getfield 19, 3) := by decide +kernel
theorem dX10_ways_22 : decode cX10_ways 22 = .ok (.getfield 117, 3) := by decide +kernel
theorem dX10_ways_25 : decode cX10_ways 25 = .ok (.invokevirtual 158, 3) := by decide +kernel
theorem dX10_ways_28 : decode cX10_ways 28 = .ok (.aload_n 0, 1) := by decide +kernel
theorem dX10_ways_29 : decode cX10_ways 29 = .ok (.getfield 47, 3) := by decide +kernel
theorem dX10_ways_32 : decode cX10_ways 32 = .ok (.getfield 161, 3) := by decide +kernel
theorem dX10_ways_35 : decode cX10_ways 35 = .ok (.ireturn, 1) := by decide +kernel
theorem dX10_shortest_0 : decode cX10_shortest 0 = .ok (.iload_n 1, 1) := by decide +kernel
theorem dX10_shortest_1 : decode cX10_shortest 1 = .ok (.iconst 0, 1) := by decide +kernel
theorem dX10_shortest_2 : decode cX10_shortest 2 = .ok (.sipush 999, 3) := by decide +kernel
theorem dX10_shortest_5 : decode cX10_shortest 5 = .ok (.invokestatic 100, 3) := by decide +kernel
theorem dX10_shortest_8 : decode cX10_shortest 8 = .ok (.ifCond .eq 12, 3) := by decide +kernel
theorem dX10_shortest_11 : decode cX10_shortest 11 = .ok (.iload_n 2, 1) := by decide +kernel
theorem dX10_shortest_12 : decode cX10_shortest 12 = .ok (.iconst 0, 1) := by decide +kernel
theorem dX10_shortest_13 : decode cX10_shortest 13 = .ok (.iconst 3, 1) := by decide +kernel
theorem dX10_shortest_14 : decode cX10_shortest 14 = .ok (.invokestatic 100, 3) := by decide +kernel
theorem dX10_shortest_17 : decode cX10_shortest 17 = .ok (.ifCond .ne 5, 3) := by decide +kernel
theorem dX10_shortest_20 : decode cX10_shortest 20 = .ok (.iconst (-1), 1) := by decide +kernel
theorem dX10_shortest_21 : decode cX10_shortest 21 = .ok (.ireturn, 1) := by decide +kernel
theorem dX10_shortest_22 : decode cX10_shortest 22 = .ok (.aload_n 0, 1) := by decide +kernel
theorem dX10_shortest_23 : decode cX10_shortest 23 = .ok (.getfield 47, 3) := by decide +kernel
theorem dX10_shortest_26 : decode cX10_shortest 26 = .ok (.iload_n 1, 1) := by decide +kernel
theorem dX10_shortest_27 : decode cX10_shortest 27 = .ok (.aload_n 0, 1) := by decide +kernel
theorem dX10_shortest_28 : decode cX10_shortest 28 = .ok (.getfield 19, 3) := by decide +kernel
theorem dX10_shortest_31 : decode cX10_shortest 31 = .ok (.getfield 117, 3) := by decide +kernel
theorem dX10_shortest_34 : decode cX10_shortest 34 = .ok (.invokevirtual 158, 3) := by decide +kernel
theorem dX10_shortest_37 : decode cX10_shortest 37 = .ok (.aload_n 0, 1) := by decide +kernel
theorem dX10_shortest_38 : decode cX10_shortest 38 = .ok (.getfield 47, 3) := by decide +kernel
theorem dX10_shortest_41 : decode cX10_shortest 41 = .ok (.getfield 161, 3) := by decide +kernel
theorem dX10_shortest_44 : decode cX10_shortest 44 = .ok (.ifCond .ne 6, 3) := by decide +kernel
theorem dX10_shortest_47 : decode cX10_shortest 47 = .ok (.bipush (-4), 2) := by decide +kernel
theorem dX10_shortest_49 : decode cX10_shortest 49 = .ok (.ireturn, 1) := by decide +kernel
theorem dX10_shortest_50 : decode cX10_shortest 50 = .ok (.iload_n 2, 1) := by decide +kernel
theorem dX10_shortest_51 : decode cX10_shortest 51 = .ok (.tableswitch 49 0 2 #[25, 33, 41], 25) := by decide +kernel
theorem dX10_shortest_76 : decode cX10_shortest 76 = .ok (.aload_n 0, 1) := by decide +kernel
theorem dX10_shortest_77 : decode cX10_shortest 77 = .ok (.getfield 47, 3) := by decide +kernel
theorem dX10_shortest_80 : decode cX10_shortest 80 = .ok (.getfield 164, 3) := by decide +kernel
theorem dX10_shortest_83 : decode cX10_shortest 83 = .ok (.ireturn, 1) := by decide +kernel
theorem dX10_shortest_84 : decode cX10_shortest 84 = .ok (.aload_n 0, 1) := by decide +kernel
theorem dX10_shortest_85 : decode cX10_shortest 85 = .ok (.getfield 47, 3) := by decide +kernel
theorem dX10_shortest_88 : decode cX10_shortest 88 = .ok (.getfield 167, 3) := by decide +kernel
theorem dX10_shortest_91 : decode cX10_shortest 91 = .ok (.ireturn, 1) := by decide +kernel
theorem dX10_shortest_92 : decode cX10_shortest 92 = .ok (.aload_n 0, 1) := by decide +kernel
theorem dX10_shortest_93 : decode cX10_shortest 93 = .ok (.getfield 47, 3) := by decide +kernel
theorem dX10_shortest_96 : decode cX10_shortest 96 = .ok (.getfield 170, 3) := by decide +kernel
theorem dX10_shortest_99 : decode cX10_shortest 99 = .ok (.ireturn, 1) := by decide +kernel
theorem dX10_shortest_100 : decode cX10_shortest 100 = .ok (.aload_n 0, 1) := by decide +kernel
theorem dX10_shortest_101 : decode cX10_shortest 101 = .ok (.getfield 47, 3) := by decide +kernel
theorem dX10_shortest_104 : decode cX10_shortest 104 = .ok (.getfield 173, 3) := by decide +kernel
theorem dX10_shortest_107 : decode cX10_shortest 107 = .ok (.ireturn, 1) := by decide +kernel
theorem dX10_change_0 : decode cX10_change 0 = .ok (.iload_n 1, 1) := by decide +kernel
theorem dX10_change_1 : decode cX10_change 1 = .ok (.iconst 0, 1) := by decide +kernel
theorem dX10_change_2 : decode cX10_change 2 = .ok (.sipush 200, 3) := by decide +kernel
theorem dX10_change_5 : decode cX10_change 5 = .ok (.invokestatic 100, 3) := by decide +kernel
theorem dX10_change_8 : decode cX10_change 8 = .ok (.ifCond .ne 5, 3) := by decide +kernel
theorem dX10_change_11 : decode cX10_change 11 = .ok (.iconst (-1), 1) := by decide +kernel
theorem dX10_change_12 : decode cX10_change 12 = .ok (.ireturn, 1) := by decide +kernel
theorem dX10_change_13 : decode cX10_change 13 = .ok (.aload_n 0, 1) := by decide +kernel
theorem dX10_change_14 : decode cX10_change 14 = .ok (.getfield 54, 3) := by decide +kernel
theorem dX10_change_17 : decode cX10_change 17 = .ok (.aload_n 0, 1) := by decide +kernel
theorem dX10_change_18 : decode cX10_change 18 = .ok (.getfield 61, 3) := by decide +kernel
theorem dX10_change_21 : decode cX10_change 21 = .ok (.aload_n 0, 1) := by decide +kernel
theorem dX10_change_22 : decode cX10_change 22 = .ok (.getfield 19, 3) := by decide +kernel
theorem dX10_change_25 : decode cX10_change 25 = .ok (.getfield 117, 3) := by decide +kernel
theorem dX10_change_28 : decode cX10_change 28 = .ok (.invokevirtual 176, 3) := by decide +kernel
theorem dX10_change_31 : decode cX10_change 31 = .ok (.aload_n 0, 1) := by decide +kernel
theorem dX10_change_32 : decode cX10_change 32 = .ok (.getfield 54, 3) := by decide +kernel
theorem dX10_change_35 : decode cX10_change 35 = .ok (.iload_n 1, 1) := by decide +kernel
theorem dX10_change_36 : decode cX10_change 36 = .ok (.invokevirtual 180, 3) := by decide +kernel
theorem dX10_change_39 : decode cX10_change 39 = .ok (.ifCond .eq 15, 3) := by decide +kernel
theorem dX10_change_42 : decode cX10_change 42 = .ok (.aload_n 0, 1) := by decide +kernel
theorem dX10_change_43 : decode cX10_change 43 = .ok (.getfield 54, 3) := by decide +kernel
theorem dX10_change_46 : decode cX10_change 46 = .ok (.getfield 183, 3) := by decide +kernel
theorem dX10_change_49 : decode cX10_change 49 = .ok (.iload_n 1, 1) := by decide +kernel
theorem dX10_change_50 : decode cX10_change 50 = .ok (.iaload, 1) := by decide +kernel
theorem dX10_change_51 : decode cX10_change 51 = .ok (.goto 5, 3) := by decide +kernel
theorem dX10_change_54 : decode cX10_change 54 = .ok (.bipush (-4), 2) := by decide +kernel
theorem dX10_change_56 : decode cX10_change 56 = .ok (.ireturn, 1) := by decide +kernel
theorem dX10_never_0 : decode cX10_never 0 = .ok (.aload_n 0, 1) := by decide +kernel
theorem dX10_never_1 : decode cX10_never 1 = .ok (.getfield 54, 3) := by decide +kernel
theorem dX10_never_4 : decode cX10_never 4 = .ok (.aload_n 0, 1) := by decide +kernel
theorem dX10_never_5 : decode cX10_never 5 = .ok (.getfield 61, 3) := by decide +kernel
theorem dX10_never_8 : decode cX10_never 8 = .ok (.aload_n 0, 1) := by decide +kernel
theorem dX10_never_9 : decode cX10_never 9 = .ok (.getfield 19, 3) := by decide +kernel
theorem dX10_never_12 : decode cX10_never 12 = .ok (.getfield 117, 3) := by decide +kernel
theorem dX10_never_15 : decode cX10_never 15 = .ok (.invokevirtual 176, 3) := by decide +kernel
theorem dX10_never_18 : decode cX10_never 18 = .ok (.sipush 200, 3) := by decide +kernel
theorem dX10_never_21 : decode cX10_never 21 = .ok (.istore_n 1, 1) := by decide +kernel
theorem dX10_never_22 : decode cX10_never 22 = .ok (.iload_n 1, 1) := by decide +kernel
theorem dX10_never_23 : decode cX10_never 23 = .ok (.iconst 1, 1) := by decide +kernel
theorem dX10_never_24 : decode cX10_never 24 = .ok (.if_icmp .lt 22, 3) := by decide +kernel
theorem dX10_never_27 : decode cX10_never 27 = .ok (.aload_n 0, 1) := by decide +kernel
theorem dX10_never_28 : decode cX10_never 28 = .ok (.getfield 54, 3) := by decide +kernel
theorem dX10_never_31 : decode cX10_never 31 = .ok (.iload_n 1, 1) := by decide +kernel
theorem dX10_never_32 : decode cX10_never 32 = .ok (.invokevirtual 180, 3) := by decide +kernel
theorem dX10_never_35 : decode cX10_never 35 = .ok (.ifCond .ne 5, 3) := by decide +kernel
theorem dX10_never_38 : decode cX10_never 38 = .ok (.iload_n 1, 1) := by decide +kernel
theorem dX10_never_39 : decode cX10_never 39 = .ok (.ireturn, 1) := by decide +kernel
theorem dX10_never_40 : decode cX10_never 40 = .ok (.iinc 1 (-1), 3) := by decide +kernel
theorem dX10_never_43 : decode cX10_never 43 = .ok (.goto (-21), 3) := by decide +kernel
theorem dX10_never_46 : decode cX10_never 46 = .ok (.bipush (-4), 2) := by decide +kernel
theorem dX10_never_48 : decode cX10_never 48 = .ok (.ireturn, 1) := by decide +kernel
theorem dX10_pays_0 : decode cX10_pays 0 = .ok (.iload_n 1, 1) := by decide +kernel
theorem dX10_pays_1 : decode cX10_pays 1 = .ok (.iconst 0, 1) := by decide +kernel
theorem dX10_pays_2 : decode cX10_pays 2 = .ok (.sipush 200, 3) := by decide +kernel
theorem dX10_pays_5 : decode cX10_pays 5 = .ok (.invokestatic 100, 3) := by decide +kernel
theorem dX10_pays_8 : decode cX10_pays 8 = .ok (.ifCond .ne 5, 3) := by decide +kernel
theorem dX10_pays_11 : decode cX10_pays 11 = .ok (.iconst (-1), 1) := by decide +kernel
theorem dX10_pays_12 : decode cX10_pays 12 = .ok (.ireturn, 1) := by decide +kernel
theorem dX10_pays_13 : decode cX10_pays 13 = .ok (.aload_n 0, 1) := by decide +kernel
theorem dX10_pays_14 : decode cX10_pays 14 = .ok (.getfield 54, 3) := by decide +kernel
theorem dX10_pays_17 : decode cX10_pays 17 = .ok (.aload_n 0, 1) := by decide +kernel
theorem dX10_pays_18 : decode cX10_pays 18 = .ok (.getfield 61, 3) := by decide +kernel
theorem dX10_pays_21 : decode cX10_pays 21 = .ok (.aload_n 0, 1) := by decide +kernel
theorem dX10_pays_22 : decode cX10_pays 22 = .ok (.getfield 19, 3) := by decide +kernel
theorem dX10_pays_25 : decode cX10_pays 25 = .ok (.getfield 117, 3) := by decide +kernel
theorem dX10_pays_28 : decode cX10_pays 28 = .ok (.invokevirtual 186, 3) := by decide +kernel
theorem dX10_pays_31 : decode cX10_pays 31 = .ok (.aload_n 0, 1) := by decide +kernel
theorem dX10_pays_32 : decode cX10_pays 32 = .ok (.getfield 54, 3) := by decide +kernel
theorem dX10_pays_35 : decode cX10_pays 35 = .ok (.getfield 183, 3) := by decide +kernel
theorem dX10_pays_38 : decode cX10_pays 38 = .ok (.iload_n 1, 1) := by decide +kernel
theorem dX10_pays_39 : decode cX10_pays 39 = .ok (.iaload, 1) := by decide +kernel
theorem dX10_pays_40 : decode cX10_pays 40 = .ok (.ireturn, 1) := by decide +kernel
theorem dX10_day_0 : decode cX10_day 0 = .ok (.iload_n 1, 1) := by decide +kernel
theorem dX10_day_1 : decode cX10_day 1 = .ok (.iconst 0, 1) := by decide +kernel
theorem dX10_day_2 : decode cX10_day 2 = .ok (.sipush 9999, 3) := by decide +kernel
theorem dX10_day_5 : decode cX10_day 5 = .ok (.invokestatic 100, 3) := by decide +kernel
theorem dX10_day_8 : decode cX10_day 8 = .ok (.ifCond .ne 5, 3) := by decide +kernel
theorem dX10_day_11 : decode cX10_day 11 = .ok (.iconst (-1), 1) := by decide +kernel
theorem dX10_day_12 : decode cX10_day 12 = .ok (.ireturn, 1) := by decide +kernel
theorem dX10_day_13 : decode cX10_day 13 = .ok (.aload_n 0, 1) := by decide +kernel
theorem dX10_day_14 : decode cX10_day 14 = .ok (.invokevirtual 189, 3) := by decide +kernel
theorem dX10_day_17 : decode cX10_day 17 = .ok (.istore_n 2, 1) := by decide +kernel
theorem dX10_day_18 : decode cX10_day 18 = .ok (.iload_n 2, 1) := by decide +kernel
theorem dX10_day_19 : decode cX10_day 19 = .ok (.ifCond .gt 6, 3) := by decide +kernel
theorem dX10_day_22 : decode cX10_day 22 = .ok (.bipush (-4), 2) := by decide +kernel
theorem dX10_day_24 : decode cX10_day 24 = .ok (.ireturn, 1) := by decide +kernel
theorem dX10_day_25 : decode cX10_day 25 = .ok (.iload_n 1, 1) := by decide +kernel
theorem dX10_day_26 : decode cX10_day 26 = .ok (.iload_n 2, 1) := by decide +kernel
theorem dX10_day_27 : decode cX10_day 27 = .ok (.irem, 1) := by decide +kernel
theorem dX10_day_28 : decode cX10_day 28 = .ok (.istore_n 3, 1) := by decide +kernel
theorem dX10_day_29 : decode cX10_day 29 = .ok (.iconst 1, 1) := by decide +kernel
theorem dX10_day_30 : decode cX10_day 30 = .ok (.istore 4, 2) := by decide +kernel
theorem dX10_day_32 : decode cX10_day 32 = .ok (.iload 4, 2) := by decide +kernel
theorem dX10_day_34 : decode cX10_day 34 = .ok (.aload_n 0, 1) := by decide +kernel
theorem dX10_day_35 : decode cX10_day 35 = .ok (.getfield 61, 3) := by decide +kernel
theorem dX10_day_38 : decode cX10_day 38 = .ok (.getfield 192, 3) := by decide +kernel
theorem dX10_day_41 : decode cX10_day 41 = .ok (.if_icmp .gt 31, 3) := by decide +kernel
theorem dX10_day_44 : decode cX10_day 44 = .ok (.aload_n 0, 1) := by decide +kernel
theorem dX10_day_45 : decode cX10_day 45 = .ok (.getfield 19, 3) := by decide +kernel
theorem dX10_day_48 : decode cX10_day 48 = .ok (.iload 4, 2) := by decide +kernel
theorem dX10_day_50 : decode cX10_day 50 = .ok (.invokevirtual 104, 3) := by decide +kernel
theorem dX10_day_53 : decode cX10_day 53 = .ok (.ifCond .ne 13, 3) := by decide +kernel
theorem dX10_day_56 : decode cX10_day 56 = .ok (.iload_n 3, 1) := by decide +kernel
theorem dX10_day_57 : decode cX10_day 57 = .ok (.ifCond .ne 6, 3) := by decide +kernel
theorem dX10_day_60 : decode cX10_day 60 = .ok (.iload 4, 2) := by decide +kernel
theorem dX10_day_62 : decode cX10_day 62 = .ok (.ireturn, 1) := by decide +kernel
theorem dX10_day_63 : decode cX10_day 63 = .ok (.iinc 3 (-1), 3) := by decide +kernel
theorem dX10_day_66 : decode cX10_day 66 = .ok (.iinc 4 1, 3) := by decide +kernel
theorem dX10_day_69 : decode cX10_day 69 = .ok (.goto (-37), 3) := by decide +kernel
theorem dX10_day_72 : decode cX10_day 72 = .ok (.bipush (-4), 2) := by decide +kernel
theorem dX10_day_74 : decode cX10_day 74 = .ok (.ireturn, 1) := by decide +kernel
theorem dX10_agree_0 : decode cX10_agree 0 = .ok (.aload_n 0, 1) := by decide +kernel
theorem dX10_agree_1 : decode cX10_agree 1 = .ok (.invokevirtual 189, 3) := by decide +kernel
theorem dX10_agree_4 : decode cX10_agree 4 = .ok (.istore_n 1, 1) := by decide +kernel
theorem dX10_agree_5 : decode cX10_agree 5 = .ok (.iload_n 1, 1) := by decide +kernel
theorem dX10_agree_6 : decode cX10_agree 6 = .ok (.ifCond .gt 6, 3) := by decide +kernel
theorem dX10_agree_9 : decode cX10_agree 9 = .ok (.bipush (-4), 2) := by decide +kernel
theorem dX10_agree_11 : decode cX10_agree 11 = .ok (.ireturn, 1) := by decide +kernel
theorem dX10_agree_12 : decode cX10_agree 12 = .ok (.aload_n 0, 1) := by decide +kernel
theorem dX10_agree_13 : decode cX10_agree 13 = .ok (.getfield 61, 3) := by decide +kernel
theorem dX10_agree_16 : decode cX10_agree 16 = .ok (.getfield 192, 3) := by decide +kernel
theorem dX10_agree_19 : decode cX10_agree 19 = .ok (.iload_n 1, 1) := by decide +kernel
theorem dX10_agree_20 : decode cX10_agree 20 = .ok (.imul, 1) := by decide +kernel
theorem dX10_agree_21 : decode cX10_agree 21 = .ok (.aload_n 0, 1) := by decide +kernel
theorem dX10_agree_22 : decode cX10_agree 22 = .ok (.getfield 61, 3) := by decide +kernel
theorem dX10_agree_25 : decode cX10_agree 25 = .ok (.getfield 192, 3) := by decide +kernel
theorem dX10_agree_28 : decode cX10_agree 28 = .ok (.iload_n 1, 1) := by decide +kernel
theorem dX10_agree_29 : decode cX10_agree 29 = .ok (.invokestatic 195, 3) := by decide +kernel
theorem dX10_agree_32 : decode cX10_agree 32 = .ok (.idiv, 1) := by decide +kernel
theorem dX10_agree_33 : decode cX10_agree 33 = .ok (.ireturn, 1) := by decide +kernel
theorem dX10_odds_0 : decode cX10_odds 0 = .ok (.iload_n 1, 1) := by decide +kernel
theorem dX10_odds_1 : decode cX10_odds 1 = .ok (.iconst 0, 1) := by decide +kernel
theorem dX10_odds_2 : decode cX10_odds 2 = .ok (.bipush 18, 2) := by decide +kernel
theorem dX10_odds_4 : decode cX10_odds 4 = .ok (.invokestatic 100, 3) := by decide +kernel
theorem dX10_odds_7 : decode cX10_odds 7 = .ok (.ifCond .eq 12, 3) := by decide +kernel
theorem dX10_odds_10 : decode cX10_odds 10 = .ok (.iload_n 2, 1) := by decide +kernel
theorem dX10_odds_11 : decode cX10_odds 11 = .ok (.iconst 0, 1) := by decide +kernel
theorem dX10_odds_12 : decode cX10_odds 12 = .ok (.iconst 1, 1) := by decide +kernel
theorem dX10_odds_13 : decode cX10_odds 13 = .ok (.invokestatic 100, 3) := by decide +kernel
theorem dX10_odds_16 : decode cX10_odds 16 = .ok (.ifCond .ne 5, 3) := by decide +kernel
theorem dX10_odds_19 : decode cX10_odds 19 = .ok (.iconst (-1), 1) := by decide +kernel
theorem dX10_odds_20 : decode cX10_odds 20 = .ok (.ireturn, 1) := by decide +kernel
theorem dX10_odds_21 : decode cX10_odds 21 = .ok (.iconst 0, 1) := by decide +kernel
theorem dX10_odds_22 : decode cX10_odds 22 = .ok (.istore_n 3, 1) := by decide +kernel
theorem dX10_odds_23 : decode cX10_odds 23 = .ok (.iconst 1, 1) := by decide +kernel
theorem dX10_odds_24 : decode cX10_odds 24 = .ok (.istore 4, 2) := by decide +kernel
theorem dX10_odds_26 : decode cX10_odds 26 = .ok (.iload 4, 2) := by decide +kernel
theorem dX10_odds_28 : decode cX10_odds 28 = .ok (.aload_n 0, 1) := by decide +kernel
theorem dX10_odds_29 : decode cX10_odds 29 = .ok (.getfield 61, 3) := by decide +kernel
theorem dX10_odds_32 : decode cX10_odds 32 = .ok (.getfield 198, 3) := by decide +kernel
theorem dX10_odds_35 : decode cX10_odds 35 = .ok (.if_icmp .gt 50, 3) := by decide +kernel
theorem dX10_odds_38 : decode cX10_odds 38 = .ok (.iconst 1, 1) := by decide +kernel
theorem dX10_odds_39 : decode cX10_odds 39 = .ok (.istore 5, 2) := by decide +kernel
theorem dX10_odds_41 : decode cX10_odds 41 = .ok (.iload 5, 2) := by decide +kernel
theorem dX10_odds_43 : decode cX10_odds 43 = .ok (.aload_n 0, 1) := by decide +kernel
theorem dX10_odds_44 : decode cX10_odds 44 = .ok (.getfield 61, 3) := by decide +kernel
theorem dX10_odds_47 : decode cX10_odds 47 = .ok (.getfield 198, 3) := by decide +kernel
theorem dX10_odds_50 : decode cX10_odds 50 = .ok (.if_icmp .gt 29, 3) := by decide +kernel
theorem dX10_odds_53 : decode cX10_odds 53 = .ok (.aload_n 0, 1) := by decide +kernel
theorem dX10_odds_54 : decode cX10_odds 54 = .ok (.iload 4, 2) := by decide +kernel
theorem dX10_odds_56 : decode cX10_odds 56 = .ok (.invokevirtual 201, 3) := by decide +kernel
theorem dX10_odds_59 : decode cX10_odds 59 = .ok (.aload_n 0, 1) := by decide +kernel
theorem dX10_odds_60 : decode cX10_odds 60 = .ok (.iload 5, 2) := by decide +kernel
theorem dX10_odds_62 : decode cX10_odds 62 = .ok (.invokevirtual 201, 3) := by decide +kernel
theorem dX10_odds_65 : decode cX10_odds 65 = .ok (.iadd, 1) := by decide +kernel
theorem dX10_odds_66 : decode cX10_odds 66 = .ok (.iload_n 1, 1) := by decide +kernel
theorem dX10_odds_67 : decode cX10_odds 67 = .ok (.if_icmp .ne 6, 3) := by decide +kernel
theorem dX10_odds_70 : decode cX10_odds 70 = .ok (.iinc 3 1, 3) := by decide +kernel
theorem dX10_odds_73 : decode cX10_odds 73 = .ok (.iinc 5 1, 3) := by decide +kernel
theorem dX10_odds_76 : decode cX10_odds 76 = .ok (.goto (-35), 3) := by decide +kernel
theorem dX10_odds_79 : decode cX10_odds 79 = .ok (.iinc 4 1, 3) := by decide +kernel
theorem dX10_odds_82 : decode cX10_odds 82 = .ok (.goto (-56), 3) := by decide +kernel
theorem dX10_odds_85 : decode cX10_odds 85 = .ok (.iload_n 3, 1) := by decide +kernel
theorem dX10_odds_86 : decode cX10_odds 86 = .ok (.aload_n 0, 1) := by decide +kernel
theorem dX10_odds_87 : decode cX10_odds 87 = .ok (.getfield 61, 3) := by decide +kernel
theorem dX10_odds_90 : decode cX10_odds 90 = .ok (.getfield 198, 3) := by decide +kernel
theorem dX10_odds_93 : decode cX10_odds 93 = .ok (.aload_n 0, 1) := by decide +kernel
theorem dX10_odds_94 : decode cX10_odds 94 = .ok (.getfield 61, 3) := by decide +kernel
theorem dX10_odds_97 : decode cX10_odds 97 = .ok (.getfield 198, 3) := by decide +kernel
theorem dX10_odds_100 : decode cX10_odds 100 = .ok (.imul, 1) := by decide +kernel
theorem dX10_odds_101 : decode cX10_odds 101 = .ok (.iload_n 2, 1) := by decide +kernel
theorem dX10_odds_102 : decode cX10_odds 102 = .ok (.invokestatic 205, 3) := by decide +kernel
theorem dX10_odds_105 : decode cX10_odds 105 = .ok (.ireturn, 1) := by decide +kernel
theorem dX10_mean_0 : decode cX10_mean 0 = .ok (.iload_n 1, 1) := by decide +kernel
theorem dX10_mean_1 : decode cX10_mean 1 = .ok (.iconst 0, 1) := by decide +kernel
theorem dX10_mean_2 : decode cX10_mean 2 = .ok (.iconst 1, 1) := by decide +kernel
theorem dX10_mean_3 : decode cX10_mean 3 = .ok (.invokestatic 100, 3) := by decide +kernel
theorem dX10_mean_6 : decode cX10_mean 6 = .ok (.ifCond .ne 5, 3) := by decide +kernel
theorem dX10_mean_9 : decode cX10_mean 9 = .ok (.iconst (-1), 1) := by decide +kernel
theorem dX10_mean_10 : decode cX10_mean 10 = .ok (.ireturn, 1) := by decide +kernel
theorem dX10_mean_11 : decode cX10_mean 11 = .ok (.iconst 0, 1) := by decide +kernel
theorem dX10_mean_12 : decode cX10_mean 12 = .ok (.istore_n 2, 1) := by decide +kernel
theorem dX10_mean_13 : decode cX10_mean 13 = .ok (.iconst 1, 1) := by decide +kernel
theorem dX10_mean_14 : decode cX10_mean 14 = .ok (.istore_n 3, 1) := by decide +kernel
theorem dX10_mean_15 : decode cX10_mean 15 = .ok (.iload_n 3, 1) := by decide +kernel
theorem dX10_mean_16 : decode cX10_mean 16 = .ok (.aload_n 0, 1) := by decide +kernel
theorem dX10_mean_17 : decode cX10_mean 17 = .ok (.getfield 61, 3) := by decide +kernel
theorem dX10_mean_20 : decode cX10_mean 20 = .ok (.getfield 198, 3) := by decide +kernel
theorem dX10_mean_23 : decode cX10_mean 23 = .ok (.if_icmp .gt 17, 3) := by decide +kernel
theorem dX10_mean_26 : decode cX10_mean 26 = .ok (.iload_n 2, 1) := by decide +kernel
theorem dX10_mean_27 : decode cX10_mean 27 = .ok (.aload_n 0, 1) := by decide +kernel
theorem dX10_mean_28 : decode cX10_mean 28 = .ok (.iload_n 3, 1) := by decide +kernel
theorem dX10_mean_29 : decode cX10_mean 29 = .ok (.invokevirtual 201, 3) := by decide +kernel
theorem dX10_mean_32 : decode cX10_mean 32 = .ok (.iadd, 1) := by decide +kernel
theorem dX10_mean_33 : decode cX10_mean 33 = .ok (.istore_n 2, 1) := by decide +kernel
theorem dX10_mean_34 : decode cX10_mean 34 = .ok (.iinc 3 1, 3) := by decide +kernel
theorem dX10_mean_37 : decode cX10_mean 37 = .ok (.goto (-22), 3) := by decide +kernel
theorem dX10_mean_40 : decode cX10_mean 40 = .ok (.iload_n 2, 1) := by decide +kernel
theorem dX10_mean_41 : decode cX10_mean 41 = .ok (.aload_n 0, 1) := by decide +kernel
theorem dX10_mean_42 : decode cX10_mean 42 = .ok (.getfield 61, 3) := by decide +kernel
theorem dX10_mean_45 : decode cX10_mean 45 = .ok (.getfield 198, 3) := by decide +kernel
theorem dX10_mean_48 : decode cX10_mean 48 = .ok (.iload_n 1, 1) := by decide +kernel
theorem dX10_mean_49 : decode cX10_mean 49 = .ok (.invokestatic 205, 3) := by decide +kernel
theorem dX10_mean_52 : decode cX10_mean 52 = .ok (.ireturn, 1) := by decide +kernel
theorem dX10_dark_0 : decode cX10_dark 0 = .ok (.iload_n 1, 1) := by decide +kernel
theorem dX10_dark_1 : decode cX10_dark 1 = .ok (.iconst 0, 1) := by decide +kernel
theorem dX10_dark_2 : decode cX10_dark 2 = .ok (.sipush 9999, 3) := by decide +kernel
theorem dX10_dark_5 : decode cX10_dark 5 = .ok (.invokestatic 100, 3) := by decide +kernel
theorem dX10_dark_8 : decode cX10_dark 8 = .ok (.ifCond .eq 25, 3) := by decide +kernel
theorem dX10_dark_11 : decode cX10_dark 11 = .ok (.iload_n 2, 1) := by decide +kernel
theorem dX10_dark_12 : decode cX10_dark 12 = .ok (.iconst 0, 1) := by decide +kernel
theorem dX10_dark_13 : decode cX10_dark 13 = .ok (.sipush 9999, 3) := by decide +kernel
theorem dX10_dark_16 : decode cX10_dark 16 = .ok (.invokestatic 100, 3) := by decide +kernel
theorem dX10_dark_19 : decode cX10_dark 19 = .ok (.ifCond .eq 14, 3) := by decide +kernel
theorem dX10_dark_22 : decode cX10_dark 22 = .ok (.iload_n 1, 1) := by decide +kernel
theorem dX10_dark_23 : decode cX10_dark 23 = .ok (.invokestatic 209, 3) := by decide +kernel
theorem dX10_dark_26 : decode cX10_dark 26 = .ok (.iload_n 2, 1) := by decide +kernel
theorem dX10_dark_27 : decode cX10_dark 27 = .ok (.invokestatic 209, 3) := by decide +kernel
theorem dX10_dark_30 : decode cX10_dark 30 = .ok (.if_icmp .eq 5, 3) := by decide +kernel
theorem dX10_dark_33 : decode cX10_dark 33 = .ok (.iconst (-1), 1) := by decide +kernel
theorem dX10_dark_34 : decode cX10_dark 34 = .ok (.ireturn, 1) := by decide +kernel
theorem dX10_dark_35 : decode cX10_dark 35 = .ok (.aload_n 0, 1) := by decide +kernel
theorem dX10_dark_36 : decode cX10_dark 36 = .ok (.getfield 40, 3) := by decide +kernel
theorem dX10_dark_39 : decode cX10_dark 39 = .ok (.iload_n 1, 1) := by decide +kernel
theorem dX10_dark_40 : decode cX10_dark 40 = .ok (.iload_n 2, 1) := by decide +kernel
theorem dX10_dark_41 : decode cX10_dark 41 = .ok (.invokevirtual 212, 3) := by decide +kernel
theorem dX10_dark_44 : decode cX10_dark 44 = .ok (.ifCond .eq 13, 3) := by decide +kernel
theorem dX10_dark_47 : decode cX10_dark 47 = .ok (.aload_n 0, 1) := by decide +kernel
theorem dX10_dark_48 : decode cX10_dark 48 = .ok (.getfield 40, 3) := by decide +kernel
theorem dX10_dark_51 : decode cX10_dark 51 = .ok (.getfield 215, 3) := by decide +kernel
theorem dX10_dark_54 : decode cX10_dark 54 = .ok (.goto 5, 3) := by decide +kernel
theorem dX10_dark_57 : decode cX10_dark 57 = .ok (.bipush (-3), 2) := by decide +kernel
theorem dX10_dark_59 : decode cX10_dark 59 = .ok (.ireturn, 1) := by decide +kernel
theorem dX10_forget_0 : decode cX10_forget 0 = .ok (.aload_n 0, 1) := by decide +kernel
theorem dX10_forget_1 : decode cX10_forget 1 = .ok (.getfield 40, 3) := by decide +kernel
theorem dX10_forget_4 : decode cX10_forget 4 = .ok (.getfield 215, 3) := by decide +kernel
theorem dX10_forget_7 : decode cX10_forget 7 = .ok (.istore_n 1, 1) := by decide +kernel
theorem dX10_forget_8 : decode cX10_forget 8 = .ok (.aload_n 0, 1) := by decide +kernel
theorem dX10_forget_9 : decode cX10_forget 9 = .ok (.getfield 40, 3) := by decide +kernel
theorem dX10_forget_12 : decode cX10_forget 12 = .ok (.iconst 0, 1) := by decide +kernel
theorem dX10_forget_13 : decode cX10_forget 13 = .ok (.putfield 215, 3) := by decide +kernel
theorem dX10_forget_16 : decode cX10_forget 16 = .ok (.iload_n 1, 1) := by decide +kernel
theorem dX10_forget_17 : decode cX10_forget 17 = .ok (.ireturn, 1) := by decide +kernel
theorem dX10_works_0 : decode cX10_works 0 = .ok (.aload_n 0, 1) := by decide +kernel
theorem dX10_works_1 : decode cX10_works 1 = .ok (.getfield 40, 3) := by decide +kernel
theorem dX10_works_4 : decode cX10_works 4 = .ok (.aload_n 0, 1) := by decide +kernel
theorem dX10_works_5 : decode cX10_works 5 = .ok (.getfield 19, 3) := by decide +kernel
theorem dX10_works_8 : decode cX10_works 8 = .ok (.getfield 117, 3) := by decide +kernel
theorem dX10_works_11 : decode cX10_works 11 = .ok (.aload_n 0, 1) := by decide +kernel
theorem dX10_works_12 : decode cX10_works 12 = .ok (.getfield 19, 3) := by decide +kernel
theorem dX10_works_15 : decode cX10_works 15 = .ok (.getfield 107, 3) := by decide +kernel
theorem dX10_works_18 : decode cX10_works 18 = .ok (.invokevirtual 216, 3) := by decide +kernel
theorem dX10_works_21 : decode cX10_works 21 = .ok (.ifCond .eq 9, 3) := by decide +kernel
theorem dX10_works_24 : decode cX10_works 24 = .ok (.sipush 1024, 3) := by decide +kernel
theorem dX10_works_27 : decode cX10_works 27 = .ok (.goto 4, 3) := by decide +kernel
theorem dX10_works_30 : decode cX10_works 30 = .ok (.iconst 0, 1) := by decide +kernel
theorem dX10_works_31 : decode cX10_works 31 = .ok (.istore_n 1, 1) := by decide +kernel
theorem dX10_works_32 : decode cX10_works 32 = .ok (.iconst 0, 1) := by decide +kernel
theorem dX10_works_33 : decode cX10_works 33 = .ok (.istore_n 2, 1) := by decide +kernel
theorem dX10_works_34 : decode cX10_works 34 = .ok (.iload_n 2, 1) := by decide +kernel
theorem dX10_works_35 : decode cX10_works 35 = .ok (.bipush 10, 2) := by decide +kernel
theorem dX10_works_37 : decode cX10_works 37 = .ok (.if_icmp .ge 45, 3) := by decide +kernel
theorem dX10_works_40 : decode cX10_works 40 = .ok (.aload_n 0, 1) := by decide +kernel
theorem dX10_works_41 : decode cX10_works 41 = .ok (.getfield 40, 3) := by decide +kernel
theorem dX10_works_44 : decode cX10_works 44 = .ok (.aload_n 0, 1) := by decide +kernel
theorem dX10_works_45 : decode cX10_works 45 = .ok (.getfield 19, 3) := by decide +kernel
theorem dX10_works_48 : decode cX10_works 48 = .ok (.getfield 117, 3) := by decide +kernel
theorem dX10_works_51 : decode cX10_works 51 = .ok (.iconst 1, 1) := by decide +kernel
theorem dX10_works_52 : decode cX10_works 52 = .ok (.iload_n 2, 1) := by decide +kernel
theorem dX10_works_53 : decode cX10_works 53 = .ok (.ishl, 1) := by decide +kernel
theorem dX10_works_54 : decode cX10_works 54 = .ok (.iconst (-1), 1) := by decide +kernel
theorem dX10_works_55 : decode cX10_works 55 = .ok (.ixor, 1) := by decide +kernel
theorem dX10_works_56 : decode cX10_works 56 = .ok (.iand, 1) := by decide +kernel
theorem dX10_works_57 : decode cX10_works 57 = .ok (.aload_n 0, 1) := by decide +kernel
theorem dX10_works_58 : decode cX10_works 58 = .ok (.getfield 19, 3) := by decide +kernel
theorem dX10_works_61 : decode cX10_works 61 = .ok (.getfield 107, 3) := by decide +kernel
theorem dX10_works_64 : decode cX10_works 64 = .ok (.invokevirtual 216, 3) := by decide +kernel
theorem dX10_works_67 : decode cX10_works 67 = .ok (.ifCond .eq 9, 3) := by decide +kernel
theorem dX10_works_70 : decode cX10_works 70 = .ok (.iload_n 1, 1) := by decide +kernel
theorem dX10_works_71 : decode cX10_works 71 = .ok (.iconst 1, 1) := by decide +kernel
theorem dX10_works_72 : decode cX10_works 72 = .ok (.iload_n 2, 1) := by decide +kernel
theorem dX10_works_73 : decode cX10_works 73 = .ok (.ishl, 1) := by decide +kernel
theorem dX10_works_74 : decode cX10_works 74 = .ok (.ior, 1) := by decide +kernel
theorem dX10_works_75 : decode cX10_works 75 = .ok (.istore_n 1, 1) := by decide +kernel
theorem dX10_works_76 : decode cX10_works 76 = .ok (.iinc 2 1, 3) := by decide +kernel
theorem dX10_works_79 : decode cX10_works 79 = .ok (.goto (-45), 3) := by decide +kernel
theorem dX10_works_82 : decode cX10_works 82 = .ok (.iload_n 1, 1) := by decide +kernel
theorem dX10_works_83 : decode cX10_works 83 = .ok (.ireturn, 1) := by decide +kernel
theorem dX10_costs_0 : decode cX10_costs 0 = .ok (.iload_n 1, 1) := by decide +kernel
theorem dX10_costs_1 : decode cX10_costs 1 = .ok (.invokestatic 97, 3) := by decide +kernel
theorem dX10_costs_4 : decode cX10_costs 4 = .ok (.ifCond .eq 14, 3) := by decide +kernel
theorem dX10_costs_7 : decode cX10_costs 7 = .ok (.iload_n 2, 1) := by decide +kernel
theorem dX10_costs_8 : decode cX10_costs 8 = .ok (.iconst 0, 1) := by decide +kernel
theorem dX10_costs_9 : decode cX10_costs 9 = .ok (.sipush 9999, 3) := by decide +kernel
theorem dX10_costs_12 : decode cX10_costs 12 = .ok (.invokestatic 100, 3) := by decide +kernel
theorem dX10_costs_15 : decode cX10_costs 15 = .ok (.ifCond .ne 5, 3) := by decide +kernel
theorem dX10_costs_18 : decode cX10_costs 18 = .ok (.iconst (-1), 1) := by decide +kernel
theorem dX10_costs_19 : decode cX10_costs 19 = .ok (.ireturn, 1) := by decide +kernel
theorem dX10_costs_20 : decode cX10_costs 20 = .ok (.aload_n 0, 1) := by decide +kernel
theorem dX10_costs_21 : decode cX10_costs 21 = .ok (.iload_n 1, 1) := by decide +kernel
theorem dX10_costs_22 : decode cX10_costs 22 = .ok (.iload_n 2, 1) := by decide +kernel
theorem dX10_costs_23 : decode cX10_costs 23 = .ok (.invokevirtual 220, 3) := by decide +kernel
theorem dX10_costs_26 : decode cX10_costs 26 = .ok (.ireturn, 1) := by decide +kernel
theorem dX10_dearest_0 : decode cX10_dearest 0 = .ok (.iload_n 1, 1) := by decide +kernel
theorem dX10_dearest_1 : decode cX10_dearest 1 = .ok (.iconst 0, 1) := by decide +kernel
theorem dX10_dearest_2 : decode cX10_dearest 2 = .ok (.sipush 9999, 3) := by decide +kernel
theorem dX10_dearest_5 : decode cX10_dearest 5 = .ok (.invokestatic 100, 3) := by decide +kernel
theorem dX10_dearest_8 : decode cX10_dearest 8 = .ok (.ifCond .eq 12, 3) := by decide +kernel
theorem dX10_dearest_11 : decode cX10_dearest 11 = .ok (.iload_n 2, 1) := by decide +kernel
theorem dX10_dearest_12 : decode cX10_dearest 12 = .ok (.iconst 0, 1) := by decide +kernel
theorem dX10_dearest_13 : decode cX10_dearest 13 = .ok (.iconst 1, 1) := by decide +kernel
theorem dX10_dearest_14 : decode cX10_dearest 14 = .ok (.invokestatic 100, 3) := by decide +kernel
theorem dX10_dearest_17 : decode cX10_dearest 17 = .ok (.ifCond .ne 5, 3) := by decide +kernel
theorem dX10_dearest_20 : decode cX10_dearest 20 = .ok (.iconst (-1), 1) := by decide +kernel
theorem dX10_dearest_21 : decode cX10_dearest 21 = .ok (.ireturn, 1) := by decide +kernel
theorem dX10_dearest_22 : decode cX10_dearest 22 = .ok (.iconst 0, 1) := by decide +kernel
theorem dX10_dearest_23 : decode cX10_dearest 23 = .ok (.istore_n 3, 1) := by decide +kernel
theorem dX10_dearest_24 : decode cX10_dearest 24 = .ok (.aload_n 0, 1) := by decide +kernel
theorem dX10_dearest_25 : decode cX10_dearest 25 = .ok (.iconst 0, 1) := by decide +kernel
theorem dX10_dearest_26 : decode cX10_dearest 26 = .ok (.iload_n 1, 1) := by decide +kernel
theorem dX10_dearest_27 : decode cX10_dearest 27 = .ok (.invokevirtual 220, 3) := by decide +kernel
theorem dX10_dearest_30 : decode cX10_dearest 30 = .ok (.istore 4, 2) := by decide +kernel
theorem dX10_dearest_32 : decode cX10_dearest 32 = .ok (.iconst 1, 1) := by decide +kernel
theorem dX10_dearest_33 : decode cX10_dearest 33 = .ok (.istore 5, 2) := by decide +kernel
theorem dX10_dearest_35 : decode cX10_dearest 35 = .ok (.iload 5, 2) := by decide +kernel
theorem dX10_dearest_37 : decode cX10_dearest 37 = .ok (.bipush 10, 2) := by decide +kernel
theorem dX10_dearest_39 : decode cX10_dearest 39 = .ok (.if_icmp .ge 32, 3) := by decide +kernel
theorem dX10_dearest_42 : decode cX10_dearest 42 = .ok (.aload_n 0, 1) := by decide +kernel
theorem dX10_dearest_43 : decode cX10_dearest 43 = .ok (.iload 5, 2) := by decide +kernel
theorem dX10_dearest_45 : decode cX10_dearest 45 = .ok (.iload_n 1, 1) := by decide +kernel
theorem dX10_dearest_46 : decode cX10_dearest 46 = .ok (.invokevirtual 220, 3) := by decide +kernel
theorem dX10_dearest_49 : decode cX10_dearest 49 = .ok (.istore 6, 2) := by decide +kernel
theorem dX10_dearest_51 : decode cX10_dearest 51 = .ok (.iload 6, 2) := by decide +kernel
theorem dX10_dearest_53 : decode cX10_dearest 53 = .ok (.iload 4, 2) := by decide +kernel
theorem dX10_dearest_55 : decode cX10_dearest 55 = .ok (.if_icmp .le 10, 3) := by decide +kernel
theorem dX10_dearest_58 : decode cX10_dearest 58 = .ok (.iload 5, 2) := by decide +kernel
theorem dX10_dearest_60 : decode cX10_dearest 60 = .ok (.istore_n 3, 1) := by decide +kernel
theorem dX10_dearest_61 : decode cX10_dearest 61 = .ok (.iload 6, 2) := by decide +kernel
theorem dX10_dearest_63 : decode cX10_dearest 63 = .ok (.istore 4, 2) := by decide +kernel
theorem dX10_dearest_65 : decode cX10_dearest 65 = .ok (.iinc 5 1, 3) := by decide +kernel
theorem dX10_dearest_68 : decode cX10_dearest 68 = .ok (.goto (-33), 3) := by decide +kernel
theorem dX10_dearest_71 : decode cX10_dearest 71 = .ok (.iload_n 2, 1) := by decide +kernel
theorem dX10_dearest_72 : decode cX10_dearest 72 = .ok (.ifCond .ne 7, 3) := by decide +kernel
theorem dX10_dearest_75 : decode cX10_dearest 75 = .ok (.iload_n 3, 1) := by decide +kernel
theorem dX10_dearest_76 : decode cX10_dearest 76 = .ok (.goto 5, 3) := by decide +kernel
theorem dX10_dearest_79 : decode cX10_dearest 79 = .ok (.iload 4, 2) := by decide +kernel
theorem dX10_dearest_81 : decode cX10_dearest 81 = .ok (.ireturn, 1) := by decide +kernel
theorem dX10_bargain_0 : decode cX10_bargain 0 = .ok (.iload_n 1, 1) := by decide +kernel
theorem dX10_bargain_1 : decode cX10_bargain 1 = .ok (.invokestatic 97, 3) := by decide +kernel
theorem dX10_bargain_4 : decode cX10_bargain 4 = .ok (.ifCond .eq 26, 3) := by decide +kernel
theorem dX10_bargain_7 : decode cX10_bargain 7 = .ok (.iload_n 2, 1) := by decide +kernel
theorem dX10_bargain_8 : decode cX10_bargain 8 = .ok (.invokestatic 97, 3) := by decide +kernel
theorem dX10_bargain_11 : decode cX10_bargain 11 = .ok (.ifCond .eq 19, 3) := by decide +kernel
theorem dX10_bargain_14 : decode cX10_bargain 14 = .ok (.iload_n 1, 1) := by decide +kernel
theorem dX10_bargain_15 : decode cX10_bargain 15 = .ok (.iload_n 2, 1) := by decide +kernel
theorem dX10_bargain_16 : decode cX10_bargain 16 = .ok (.if_icmp .eq 14, 3) := by decide +kernel
theorem dX10_bargain_19 : decode cX10_bargain 19 = .ok (.iload_n 3, 1) := by decide +kernel
theorem dX10_bargain_20 : decode cX10_bargain 20 = .ok (.iconst 0, 1) := by decide +kernel
theorem dX10_bargain_21 : decode cX10_bargain 21 = .ok (.sipush 9999, 3) := by decide +kernel
theorem dX10_bargain_24 : decode cX10_bargain 24 = .ok (.invokestatic 100, 3) := by decide +kernel
theorem dX10_bargain_27 : decode cX10_bargain 27 = .ok (.ifCond .ne 5, 3) := by decide +kernel
theorem dX10_bargain_30 : decode cX10_bargain 30 = .ok (.iconst (-1), 1) := by decide +kernel
theorem dX10_bargain_31 : decode cX10_bargain 31 = .ok (.ireturn, 1) := by decide +kernel
theorem dX10_bargain_32 : decode cX10_bargain 32 = .ok (.aload_n 0, 1) := by decide +kernel
theorem dX10_bargain_33 : decode cX10_bargain 33 = .ok (.getfield 19, 3) := by decide +kernel
theorem dX10_bargain_36 : decode cX10_bargain 36 = .ok (.getfield 117, 3) := by decide +kernel
theorem dX10_bargain_39 : decode cX10_bargain 39 = .ok (.iconst 1, 1) := by decide +kernel
theorem dX10_bargain_40 : decode cX10_bargain 40 = .ok (.iload_n 1, 1) := by decide +kernel
theorem dX10_bargain_41 : decode cX10_bargain 41 = .ok (.ishl, 1) := by decide +kernel
theorem dX10_bargain_42 : decode cX10_bargain 42 = .ok (.iconst (-1), 1) := by decide +kernel
theorem dX10_bargain_43 : decode cX10_bargain 43 = .ok (.ixor, 1) := by decide +kernel
theorem dX10_bargain_44 : decode cX10_bargain 44 = .ok (.iand, 1) := by decide +kernel
theorem dX10_bargain_45 : decode cX10_bargain 45 = .ok (.iconst 1, 1) := by decide +kernel
theorem dX10_bargain_46 : decode cX10_bargain 46 = .ok (.iload_n 2, 1) := by decide +kernel
theorem dX10_bargain_47 : decode cX10_bargain 47 = .ok (.ishl, 1) := by decide +kernel
theorem dX10_bargain_48 : decode cX10_bargain 48 = .ok (.iconst (-1), 1) := by decide +kernel
theorem dX10_bargain_49 : decode cX10_bargain 49 = .ok (.ixor, 1) := by decide +kernel
theorem dX10_bargain_50 : decode cX10_bargain 50 = .ok (.iand, 1) := by decide +kernel
theorem dX10_bargain_51 : decode cX10_bargain 51 = .ok (.istore 4, 2) := by decide +kernel
theorem dX10_bargain_53 : decode cX10_bargain 53 = .ok (.iload 4, 2) := by decide +kernel
theorem dX10_bargain_55 : decode cX10_bargain 55 = .ok (.iconst 1, 1) := by decide +kernel
theorem dX10_bargain_56 : decode cX10_bargain 56 = .ok (.iload_n 1, 1) := by decide +kernel
theorem dX10_bargain_57 : decode cX10_bargain 57 = .ok (.ishl, 1) := by decide +kernel
theorem dX10_bargain_58 : decode cX10_bargain 58 = .ok (.ior, 1) := by decide +kernel
theorem dX10_bargain_59 : decode cX10_bargain 59 = .ok (.iload_n 3, 1) := by decide +kernel
theorem dX10_bargain_60 : decode cX10_bargain 60 = .ok (.invokestatic 138, 3) := by decide +kernel
theorem dX10_bargain_63 : decode cX10_bargain 63 = .ok (.istore 5, 2) := by decide +kernel
theorem dX10_bargain_65 : decode cX10_bargain 65 = .ok (.iload 4, 2) := by decide +kernel
theorem dX10_bargain_67 : decode cX10_bargain 67 = .ok (.iconst 1, 1) := by decide +kernel
theorem dX10_bargain_68 : decode cX10_bargain 68 = .ok (.iload_n 2, 1) := by decide +kernel
theorem dX10_bargain_69 : decode cX10_bargain 69 = .ok (.ishl, 1) := by decide +kernel
theorem dX10_bargain_70 : decode cX10_bargain 70 = .ok (.ior, 1) := by decide +kernel
theorem dX10_bargain_71 : decode cX10_bargain 71 = .ok (.iload_n 3, 1) := by decide +kernel
theorem dX10_bargain_72 : decode cX10_bargain 72 = .ok (.invokestatic 138, 3) := by decide +kernel
theorem dX10_bargain_75 : decode cX10_bargain 75 = .ok (.istore 6, 2) := by decide +kernel
theorem dX10_bargain_77 : decode cX10_bargain 77 = .ok (.iload 6, 2) := by decide +kernel
theorem dX10_bargain_79 : decode cX10_bargain 79 = .ok (.iload 5, 2) := by decide +kernel
theorem dX10_bargain_81 : decode cX10_bargain 81 = .ok (.isub, 1) := by decide +kernel
theorem dX10_bargain_82 : decode cX10_bargain 82 = .ok (.sipush 10000, 3) := by decide +kernel
theorem dX10_bargain_85 : decode cX10_bargain 85 = .ok (.iadd, 1) := by decide +kernel
theorem dX10_bargain_86 : decode cX10_bargain 86 = .ok (.ireturn, 1) := by decide +kernel
theorem dX10_days_0 : decode cX10_days 0 = .ok (.iload_n 1, 1) := by decide +kernel
theorem dX10_days_1 : decode cX10_days 1 = .ok (.iconst 0, 1) := by decide +kernel
theorem dX10_days_2 : decode cX10_days 2 = .ok (.sipush 9999, 3) := by decide +kernel
theorem dX10_days_5 : decode cX10_days 5 = .ok (.invokestatic 100, 3) := by decide +kernel
theorem dX10_days_8 : decode cX10_days 8 = .ok (.ifCond .eq 22, 3) := by decide +kernel
theorem dX10_days_11 : decode cX10_days 11 = .ok (.iload_n 2, 1) := by decide +kernel
theorem dX10_days_12 : decode cX10_days 12 = .ok (.iconst 1, 1) := by decide +kernel
theorem dX10_days_13 : decode cX10_days 13 = .ok (.bipush 50, 2) := by decide +kernel
theorem dX10_days_15 : decode cX10_days 15 = .ok (.invokestatic 100, 3) := by decide +kernel
theorem dX10_days_18 : decode cX10_days 18 = .ok (.ifCond .eq 12, 3) := by decide +kernel
theorem dX10_days_21 : decode cX10_days 21 = .ok (.iload_n 3, 1) := by decide +kernel
theorem dX10_days_22 : decode cX10_days 22 = .ok (.iconst 0, 1) := by decide +kernel
theorem dX10_days_23 : decode cX10_days 23 = .ok (.iconst 1, 1) := by decide +kernel
theorem dX10_days_24 : decode cX10_days 24 = .ok (.invokestatic 100, 3) := by decide +kernel
theorem dX10_days_27 : decode cX10_days 27 = .ok (.ifCond .ne 5, 3) := by decide +kernel
theorem dX10_days_30 : decode cX10_days 30 = .ok (.iconst (-1), 1) := by decide +kernel
theorem dX10_days_31 : decode cX10_days 31 = .ok (.ireturn, 1) := by decide +kernel
theorem dX10_days_32 : decode cX10_days 32 = .ok (.aload_n 0, 1) := by decide +kernel
theorem dX10_days_33 : decode cX10_days 33 = .ok (.getfield 19, 3) := by decide +kernel
theorem dX10_days_36 : decode cX10_days 36 = .ok (.getfield 117, 3) := by decide +kernel
theorem dX10_days_39 : decode cX10_days 39 = .ok (.istore 4, 2) := by decide +kernel
theorem dX10_days_41 : decode cX10_days 41 = .ok (.iconst 0, 1) := by decide +kernel
theorem dX10_days_42 : decode cX10_days 42 = .ok (.istore 5, 2) := by decide +kernel
theorem dX10_days_44 : decode cX10_days 44 = .ok (.iconst 0, 1) := by decide +kernel
theorem dX10_days_45 : decode cX10_days 45 = .ok (.istore 6, 2) := by decide +kernel
theorem dX10_days_47 : decode cX10_days 47 = .ok (.iload 6, 2) := by decide +kernel
theorem dX10_days_49 : decode cX10_days 49 = .ok (.iload_n 2, 1) := by decide +kernel
theorem dX10_days_50 : decode cX10_days 50 = .ok (.if_icmp .ge 34, 3) := by decide +kernel
theorem dX10_days_53 : decode cX10_days 53 = .ok (.iload 4, 2) := by decide +kernel
theorem dX10_days_55 : decode cX10_days 55 = .ok (.iconst 1, 1) := by decide +kernel
theorem dX10_days_56 : decode cX10_days 56 = .ok (.iload_n 1, 1) := by decide +kernel
theorem dX10_days_57 : decode cX10_days 57 = .ok (.iload 6, 2) := by decide +kernel
theorem dX10_days_59 : decode cX10_days 59 = .ok (.invokestatic 223, 3) := by decide +kernel
theorem dX10_days_62 : decode cX10_days 62 = .ok (.ishl, 1) := by decide +kernel
theorem dX10_days_63 : decode cX10_days 63 = .ok (.ixor, 1) := by decide +kernel
theorem dX10_days_64 : decode cX10_days 64 = .ok (.istore 4, 2) := by decide +kernel
theorem dX10_days_66 : decode cX10_days 66 = .ok (.iload 5, 2) := by decide +kernel
theorem dX10_days_68 : decode cX10_days 68 = .ok (.iload 4, 2) := by decide +kernel
theorem dX10_days_70 : decode cX10_days 70 = .ok (.bipush 7, 2) := by decide +kernel
theorem dX10_days_72 : decode cX10_days 72 = .ok (.ishr, 1) := by decide +kernel
theorem dX10_days_73 : decode cX10_days 73 = .ok (.iconst 1, 1) := by decide +kernel
theorem dX10_days_74 : decode cX10_days 74 = .ok (.iand, 1) := by decide +kernel
theorem dX10_days_75 : decode cX10_days 75 = .ok (.iadd, 1) := by decide +kernel
theorem dX10_days_76 : decode cX10_days 76 = .ok (.istore 5, 2) := by decide +kernel
theorem dX10_days_78 : decode cX10_days 78 = .ok (.iinc 6 1, 3) := by decide +kernel
theorem dX10_days_81 : decode cX10_days 81 = .ok (.goto (-34), 3) := by decide +kernel
theorem dX10_days_84 : decode cX10_days 84 = .ok (.iload_n 3, 1) := by decide +kernel
theorem dX10_days_85 : decode cX10_days 85 = .ok (.ifCond .ne 14, 3) := by decide +kernel
theorem dX10_days_88 : decode cX10_days 88 = .ok (.iload 4, 2) := by decide +kernel
theorem dX10_days_90 : decode cX10_days 90 = .ok (.sipush 999, 3) := by decide +kernel
theorem dX10_days_93 : decode cX10_days 93 = .ok (.invokestatic 138, 3) := by decide +kernel
theorem dX10_days_96 : decode cX10_days 96 = .ok (.goto 5, 3) := by decide +kernel
theorem dX10_days_99 : decode cX10_days 99 = .ok (.iload 5, 2) := by decide +kernel
theorem dX10_days_101 : decode cX10_days 101 = .ok (.ireturn, 1) := by decide +kernel
theorem dX10_keep_0 : decode cX10_keep 0 = .ok (.aload_n 0, 1) := by decide +kernel
theorem dX10_keep_1 : decode cX10_keep 1 = .ok (.getfield 33, 3) := by decide +kernel
theorem dX10_keep_4 : decode cX10_keep 4 = .ok (.aload_n 0, 1) := by decide +kernel
theorem dX10_keep_5 : decode cX10_keep 5 = .ok (.getfield 19, 3) := by decide +kernel
theorem dX10_keep_8 : decode cX10_keep 8 = .ok (.invokevirtual 226, 3) := by decide +kernel
theorem dX10_keep_11 : decode cX10_keep 11 = .ok (.ifCond .eq 13, 3) := by decide +kernel
theorem dX10_keep_14 : decode cX10_keep 14 = .ok (.aload_n 0, 1) := by decide +kernel
theorem dX10_keep_15 : decode cX10_keep 15 = .ok (.getfield 33, 3) := by decide +kernel
theorem dX10_keep_18 : decode cX10_keep 18 = .ok (.getfield 229, 3) := by decide +kernel
theorem dX10_keep_21 : decode cX10_keep 21 = .ok (.goto 5, 3) := by decide +kernel
theorem dX10_keep_24 : decode cX10_keep 24 = .ok (.bipush (-3), 2) := by decide +kernel
theorem dX10_keep_26 : decode cX10_keep 26 = .ok (.ireturn, 1) := by decide +kernel
theorem dX10_back_0 : decode cX10_back 0 = .ok (.aload_n 0, 1) := by decide +kernel
theorem dX10_back_1 : decode cX10_back 1 = .ok (.getfield 33, 3) := by decide +kernel
theorem dX10_back_4 : decode cX10_back 4 = .ok (.aload_n 0, 1) := by decide +kernel
theorem dX10_back_5 : decode cX10_back 5 = .ok (.getfield 19, 3) := by decide +kernel
theorem dX10_back_8 : decode cX10_back 8 = .ok (.invokevirtual 230, 3) := by decide +kernel
theorem dX10_back_11 : decode cX10_back 11 = .ok (.ifCond .ne 6, 3) := by decide +kernel
theorem dX10_back_14 : decode cX10_back 14 = .ok (.bipush (-2), 2) := by decide +kernel
theorem dX10_back_16 : decode cX10_back 16 = .ok (.ireturn, 1) := by decide +kernel
theorem dX10_back_17 : decode cX10_back 17 = .ok (.aload_n 0, 1) := by decide +kernel
theorem dX10_back_18 : decode cX10_back 18 = .ok (.getfield 26, 3) := by decide +kernel
theorem dX10_back_21 : decode cX10_back 21 = .ok (.iconst 0, 1) := by decide +kernel
theorem dX10_back_22 : decode cX10_back 22 = .ok (.putfield 128, 3) := by decide +kernel
theorem dX10_back_25 : decode cX10_back 25 = .ok (.aload_n 0, 1) := by decide +kernel
theorem dX10_back_26 : decode cX10_back 26 = .ok (.getfield 33, 3) := by decide +kernel
theorem dX10_back_29 : decode cX10_back 29 = .ok (.getfield 229, 3) := by decide +kernel
theorem dX10_back_32 : decode cX10_back 32 = .ok (.ireturn, 1) := by decide +kernel
theorem dX10_count_0 : decode cX10_count 0 = .ok (.iload_n 1, 1) := by decide +kernel
theorem dX10_count_1 : decode cX10_count 1 = .ok (.tableswitch 111 0 7 #[47, 55, 63, 71, 79, 87, 95, 103], 47) := by decide +kernel
theorem dX10_count_48 : decode cX10_count 48 = .ok (.aload_n 0, 1) := by decide +kernel
theorem dX10_count_49 : decode cX10_count 49 = .ok (.getfield 19, 3) := by decide +kernel
theorem dX10_count_52 : decode cX10_count 52 = .ok (.invokevirtual 93, 3) := by decide +kernel
theorem dX10_count_55 : decode cX10_count 55 = .ok (.ireturn, 1) := by decide +kernel
theorem dX10_count_56 : decode cX10_count 56 = .ok (.aload_n 0, 1) := by decide +kernel
theorem dX10_count_57 : decode cX10_count 57 = .ok (.getfield 61, 3) := by decide +kernel
theorem dX10_count_60 : decode cX10_count 60 = .ok (.getfield 111, 3) := by decide +kernel
theorem dX10_count_63 : decode cX10_count 63 = .ok (.ireturn, 1) := by decide +kernel
theorem dX10_count_64 : decode cX10_count 64 = .ok (.aload_n 0, 1) := by decide +kernel
theorem dX10_count_65 : decode cX10_count 65 = .ok (.getfield 61, 3) := by decide +kernel
theorem dX10_count_68 : decode cX10_count 68 = .ok (.getfield 198, 3) := by decide +kernel
theorem dX10_count_71 : decode cX10_count 71 = .ok (.ireturn, 1) := by decide +kernel
theorem dX10_count_72 : decode cX10_count 72 = .ok (.aload_n 0, 1) := by decide +kernel
theorem dX10_count_73 : decode cX10_count 73 = .ok (.getfield 61, 3) := by decide +kernel
theorem dX10_count_76 : decode cX10_count 76 = .ok (.getfield 192, 3) := by decide +kernel
theorem dX10_count_79 : decode cX10_count 79 = .ok (.ireturn, 1) := by decide +kernel
theorem dX10_count_80 : decode cX10_count 80 = .ok (.aload_n 0, 1) := by decide +kernel
theorem dX10_count_81 : decode cX10_count 81 = .ok (.getfield 40, 3) := by decide +kernel
theorem dX10_count_84 : decode cX10_count 84 = .ok (.getfield 215, 3) := by decide +kernel
theorem dX10_count_87 : decode cX10_count 87 = .ok (.ireturn, 1) := by decide +kernel
theorem dX10_count_88 : decode cX10_count 88 = .ok (.aload_n 0, 1) := by decide +kernel
theorem dX10_count_89 : decode cX10_count 89 = .ok (.getfield 26, 3) := by decide +kernel
theorem dX10_count_92 : decode cX10_count 92 = .ok (.getfield 128, 3) := by decide +kernel
theorem dX10_count_95 : decode cX10_count 95 = .ok (.ireturn, 1) := by decide +kernel
theorem dX10_count_96 : decode cX10_count 96 = .ok (.aload_n 0, 1) := by decide +kernel
theorem dX10_count_97 : decode cX10_count 97 = .ok (.getfield 33, 3) := by decide +kernel
theorem dX10_count_100 : decode cX10_count 100 = .ok (.getfield 229, 3) := by decide +kernel
theorem dX10_count_103 : decode cX10_count 103 = .ok (.ireturn, 1) := by decide +kernel
theorem dX10_count_104 : decode cX10_count 104 = .ok (.aload_n 0, 1) := by decide +kernel
theorem dX10_count_105 : decode cX10_count 105 = .ok (.getfield 10, 3) := by decide +kernel
theorem dX10_count_108 : decode cX10_count 108 = .ok (.getfield 85, 3) := by decide +kernel
theorem dX10_count_111 : decode cX10_count 111 = .ok (.ireturn, 1) := by decide +kernel
theorem dX10_count_112 : decode cX10_count 112 = .ok (.iconst (-1), 1) := by decide +kernel
theorem dX10_count_113 : decode cX10_count 113 = .ok (.ireturn, 1) := by decide +kernel
theorem dX10_isWithin_0 : decode cX10_isWithin 0 = .ok (.iload_n 0, 1) := by decide +kernel
theorem dX10_isWithin_1 : decode cX10_isWithin 1 = .ok (.iload_n 1, 1) := by decide +kernel
theorem dX10_isWithin_2 : decode cX10_isWithin 2 = .ok (.if_icmp .lt 12, 3) := by decide +kernel
theorem dX10_isWithin_5 : decode cX10_isWithin 5 = .ok (.iload_n 0, 1) := by decide +kernel
theorem dX10_isWithin_6 : decode cX10_isWithin 6 = .ok (.iload_n 2, 1) := by decide +kernel
theorem dX10_isWithin_7 : decode cX10_isWithin 7 = .ok (.if_icmp .gt 7, 3) := by decide +kernel
theorem dX10_isWithin_10 : decode cX10_isWithin 10 = .ok (.iconst 1, 1) := by decide +kernel
theorem dX10_isWithin_11 : decode cX10_isWithin 11 = .ok (.goto 4, 3) := by decide +kernel
theorem dX10_isWithin_14 : decode cX10_isWithin 14 = .ok (.iconst 0, 1) := by decide +kernel
theorem dX10_isWithin_15 : decode cX10_isWithin 15 = .ok (.ireturn, 1) := by decide +kernel
theorem dX10_isFigure_0 : decode cX10_isFigure 0 = .ok (.iload_n 0, 1) := by decide +kernel
theorem dX10_isFigure_1 : decode cX10_isFigure 1 = .ok (.iconst 0, 1) := by decide +kernel
theorem dX10_isFigure_2 : decode cX10_isFigure 2 = .ok (.bipush 9, 2) := by decide +kernel
theorem dX10_isFigure_4 : decode cX10_isFigure 4 = .ok (.invokestatic 100, 3) := by decide +kernel
theorem dX10_isFigure_7 : decode cX10_isFigure 7 = .ok (.ireturn, 1) := by decide +kernel
theorem dX10_layText_0 : decode cX10_layText 0 = .ok (.aload_n 0, 1) := by decide +kernel
theorem dX10_layText_1 : decode cX10_layText 1 = .ok (.getfield 65, 3) := by decide +kernel
theorem dX10_layText_4 : decode cX10_layText 4 = .ok (.aload_n 0, 1) := by decide +kernel
theorem dX10_layText_5 : decode cX10_layText 5 = .ok (.getfield 10, 3) := by decide +kernel
theorem dX10_layText_8 : decode cX10_layText 8 = .ok (.invokevirtual 89, 3) := by decide +kernel
theorem dX10_layText_11 : decode cX10_layText 11 = .ok (.bipush (-4), 2) := by decide +kernel
theorem dX10_layText_13 : decode cX10_layText 13 = .ok (.if_icmp .eq 5, 3) := by decide +kernel
theorem dX10_layText_16 : decode cX10_layText 16 = .ok (.iconst 0, 1) := by decide +kernel
theorem dX10_layText_17 : decode cX10_layText 17 = .ok (.ireturn, 1) := by decide +kernel
theorem dX10_layText_18 : decode cX10_layText 18 = .ok (.aload_n 0, 1) := by decide +kernel
theorem dX10_layText_19 : decode cX10_layText 19 = .ok (.getfield 61, 3) := by decide +kernel
theorem dX10_layText_22 : decode cX10_layText 22 = .ok (.astore_n 1, 1) := by decide +kernel
theorem dX10_layText_23 : decode cX10_layText 23 = .ok (.aload_n 0, 1) := by decide +kernel
theorem dX10_layText_24 : decode cX10_layText 24 = .ok (.aload_n 0, 1) := by decide +kernel
theorem dX10_layText_25 : decode cX10_layText 25 = .ok (.getfield 65, 3) := by decide +kernel
theorem dX10_layText_28 : decode cX10_layText 28 = .ok (.putfield 61, 3) := by decide +kernel
theorem dX10_layText_31 : decode cX10_layText 31 = .ok (.aload_n 0, 1) := by decide +kernel
theorem dX10_layText_32 : decode cX10_layText 32 = .ok (.aload_n 1, 1) := by decide +kernel
theorem dX10_layText_33 : decode cX10_layText 33 = .ok (.putfield 65, 3) := by decide +kernel
theorem dX10_layText_36 : decode cX10_layText 36 = .ok (.aload_n 0, 1) := by decide +kernel
theorem dX10_layText_37 : decode cX10_layText 37 = .ok (.getfield 19, 3) := by decide +kernel
theorem dX10_layText_40 : decode cX10_layText 40 = .ok (.aload_n 0, 1) := by decide +kernel
theorem dX10_layText_41 : decode cX10_layText 41 = .ok (.getfield 61, 3) := by decide +kernel
theorem dX10_layText_44 : decode cX10_layText 44 = .ok (.getfield 233, 3) := by decide +kernel
theorem dX10_layText_47 : decode cX10_layText 47 = .ok (.invokevirtual 234, 3) := by decide +kernel
theorem dX10_layText_50 : decode cX10_layText 50 = .ok (.aload_n 0, 1) := by decide +kernel
theorem dX10_layText_51 : decode cX10_layText 51 = .ok (.getfield 40, 3) := by decide +kernel
theorem dX10_layText_54 : decode cX10_layText 54 = .ok (.iconst 0, 1) := by decide +kernel
theorem dX10_layText_55 : decode cX10_layText 55 = .ok (.putfield 215, 3) := by decide +kernel
theorem dX10_layText_58 : decode cX10_layText 58 = .ok (.aload_n 0, 1) := by decide +kernel
theorem dX10_layText_59 : decode cX10_layText 59 = .ok (.getfield 26, 3) := by decide +kernel
theorem dX10_layText_62 : decode cX10_layText 62 = .ok (.iconst 0, 1) := by decide +kernel
theorem dX10_layText_63 : decode cX10_layText 63 = .ok (.putfield 128, 3) := by decide +kernel
theorem dX10_layText_66 : decode cX10_layText 66 = .ok (.aload_n 0, 1) := by decide +kernel
theorem dX10_layText_67 : decode cX10_layText 67 = .ok (.getfield 33, 3) := by decide +kernel
theorem dX10_layText_70 : decode cX10_layText 70 = .ok (.iconst 0, 1) := by decide +kernel
theorem dX10_layText_71 : decode cX10_layText 71 = .ok (.putfield 229, 3) := by decide +kernel
theorem dX10_layText_74 : decode cX10_layText 74 = .ok (.iconst 1, 1) := by decide +kernel
theorem dX10_layText_75 : decode cX10_layText 75 = .ok (.ireturn, 1) := by decide +kernel
theorem dX10_workingDays_0 : decode cX10_workingDays 0 = .ok (.iconst 0, 1) := by decide +kernel
theorem dX10_workingDays_1 : decode cX10_workingDays 1 = .ok (.istore_n 1, 1) := by decide +kernel
theorem dX10_workingDays_2 : decode cX10_workingDays 2 = .ok (.iconst 1, 1) := by decide +kernel
theorem dX10_workingDays_3 : decode cX10_workingDays 3 = .ok (.istore_n 2, 1) := by decide +kernel
theorem dX10_workingDays_4 : decode cX10_workingDays 4 = .ok (.iload_n 2, 1) := by decide +kernel
theorem dX10_workingDays_5 : decode cX10_workingDays 5 = .ok (.aload_n 0, 1) := by decide +kernel
theorem dX10_workingDays_6 : decode cX10_workingDays 6 = .ok (.getfield 61, 3) := by decide +kernel
theorem dX10_workingDays_9 : decode cX10_workingDays 9 = .ok (.getfield 192, 3) := by decide +kernel
theorem dX10_workingDays_12 : decode cX10_workingDays 12 = .ok (.if_icmp .gt 23, 3) := by decide +kernel
theorem dX10_workingDays_15 : decode cX10_workingDays 15 = .ok (.aload_n 0, 1) := by decide +kernel
theorem dX10_workingDays_16 : decode cX10_workingDays 16 = .ok (.getfield 19, 3) := by decide +kernel
theorem dX10_workingDays_19 : decode cX10_workingDays 19 = .ok (.iload_n 2, 1) := by decide +kernel
theorem dX10_workingDays_20 : decode cX10_workingDays 20 = .ok (.invokevirtual 104, 3) := by decide +kernel
theorem dX10_workingDays_23 : decode cX10_workingDays 23 = .ok (.ifCond .ne 6, 3) := by decide +kernel
theorem dX10_workingDays_26 : decode cX10_workingDays 26 = .ok (.iinc 1 1, 3) := by decide +kernel
theorem dX10_workingDays_29 : decode cX10_workingDays 29 = .ok (.iinc 2 1, 3) := by decide +kernel
theorem dX10_workingDays_32 : decode cX10_workingDays 32 = .ok (.goto (-28), 3) := by decide +kernel
theorem dX10_workingDays_35 : decode cX10_workingDays 35 = .ok (.iload_n 1, 1) := by decide +kernel
theorem dX10_workingDays_36 : decode cX10_workingDays 36 = .ok (.ireturn, 1) := by decide +kernel
theorem dX10_shownBy_0 : decode cX10_shownBy 0 = .ok (.aload_n 0, 1) := by decide +kernel
theorem dX10_shownBy_1 : decode cX10_shownBy 1 = .ok (.getfield 19, 3) := by decide +kernel
theorem dX10_shownBy_4 : decode cX10_shownBy 4 = .ok (.iload_n 1, 1) := by decide +kernel
theorem dX10_shownBy_5 : decode cX10_shownBy 5 = .ok (.invokevirtual 104, 3) := by decide +kernel
theorem dX10_shownBy_8 : decode cX10_shownBy 8 = .ok (.ifCond .eq 7, 3) := by decide +kernel
theorem dX10_shownBy_11 : decode cX10_shownBy 11 = .ok (.iconst 0, 1) := by decide +kernel
theorem dX10_shownBy_12 : decode cX10_shownBy 12 = .ok (.goto 4, 3) := by decide +kernel
theorem dX10_shownBy_15 : decode cX10_shownBy 15 = .ok (.iload_n 1, 1) := by decide +kernel
theorem dX10_shownBy_16 : decode cX10_shownBy 16 = .ok (.ireturn, 1) := by decide +kernel
theorem dX10_costOf_0 : decode cX10_costOf 0 = .ok (.aload_n 0, 1) := by decide +kernel
theorem dX10_costOf_1 : decode cX10_costOf 1 = .ok (.getfield 19, 3) := by decide +kernel
theorem dX10_costOf_4 : decode cX10_costOf 4 = .ok (.getfield 117, 3) := by decide +kernel
theorem dX10_costOf_7 : decode cX10_costOf 7 = .ok (.iconst 1, 1) := by decide +kernel
theorem dX10_costOf_8 : decode cX10_costOf 8 = .ok (.iload_n 1, 1) := by decide +kernel
theorem dX10_costOf_9 : decode cX10_costOf 9 = .ok (.ishl, 1) := by decide +kernel
theorem dX10_costOf_10 : decode cX10_costOf 10 = .ok (.iconst (-1), 1) := by decide +kernel
theorem dX10_costOf_11 : decode cX10_costOf 11 = .ok (.ixor, 1) := by decide +kernel
theorem dX10_costOf_12 : decode cX10_costOf 12 = .ok (.iand, 1) := by decide +kernel
theorem dX10_costOf_13 : decode cX10_costOf 13 = .ok (.istore_n 3, 1) := by decide +kernel
theorem dX10_costOf_14 : decode cX10_costOf 14 = .ok (.iload_n 3, 1) := by decide +kernel
theorem dX10_costOf_15 : decode cX10_costOf 15 = .ok (.iload_n 2, 1) := by decide +kernel
theorem dX10_costOf_16 : decode cX10_costOf 16 = .ok (.invokestatic 138, 3) := by decide +kernel
theorem dX10_costOf_19 : decode cX10_costOf 19 = .ok (.aload_n 0, 1) := by decide +kernel
theorem dX10_costOf_20 : decode cX10_costOf 20 = .ok (.getfield 19, 3) := by decide +kernel
theorem dX10_costOf_23 : decode cX10_costOf 23 = .ok (.getfield 117, 3) := by decide +kernel
theorem dX10_costOf_26 : decode cX10_costOf 26 = .ok (.iload_n 2, 1) := by decide +kernel
theorem dX10_costOf_27 : decode cX10_costOf 27 = .ok (.invokestatic 138, 3) := by decide +kernel
theorem dX10_costOf_30 : decode cX10_costOf 30 = .ok (.isub, 1) := by decide +kernel
theorem dX10_costOf_31 : decode cX10_costOf 31 = .ok (.ireturn, 1) := by decide +kernel
theorem dX10_drawnFigure_0 : decode cX10_drawnFigure 0 = .ok (.ldc2_w 237, 3) := by decide +kernel
theorem dX10_drawnFigure_3 : decode cX10_drawnFigure 3 = .ok (.iload_n 0, 1) := by decide +kernel
theorem dX10_drawnFigure_4 : decode cX10_drawnFigure 4 = .ok (.i2l, 1) := by decide +kernel
theorem dX10_drawnFigure_5 : decode cX10_drawnFigure 5 = .ok (.lmul, 1) := by decide +kernel
theorem dX10_drawnFigure_6 : decode cX10_drawnFigure 6 = .ok (.ldc2_w 239, 3) := by decide +kernel
theorem dX10_drawnFigure_9 : decode cX10_drawnFigure 9 = .ok (.iload_n 1, 1) := by decide +kernel
theorem dX10_drawnFigure_10 : decode cX10_drawnFigure 10 = .ok (.i2l, 1) := by decide +kernel
theorem dX10_drawnFigure_11 : decode cX10_drawnFigure 11 = .ok (.lmul, 1) := by decide +kernel
theorem dX10_drawnFigure_12 : decode cX10_drawnFigure 12 = .ok (.ladd, 1) := by decide +kernel
theorem dX10_drawnFigure_13 : decode cX10_drawnFigure 13 = .ok (.lconst 1, 1) := by decide +kernel
theorem dX10_drawnFigure_14 : decode cX10_drawnFigure 14 = .ok (.ladd, 1) := by decide +kernel
theorem dX10_drawnFigure_15 : decode cX10_drawnFigure 15 = .ok (.lstore_n 2, 1) := by decide +kernel
theorem dX10_drawnFigure_16 : decode cX10_drawnFigure 16 = .ok (.lload_n 2, 1) := by decide +kernel
theorem dX10_drawnFigure_17 : decode cX10_drawnFigure 17 = .ok (.lload_n 2, 1) := by decide +kernel
theorem dX10_drawnFigure_18 : decode cX10_drawnFigure 18 = .ok (.lmul, 1) := by decide +kernel
theorem dX10_drawnFigure_19 : decode cX10_drawnFigure 19 = .ok (.ldc2_w 241, 3) := by decide +kernel
theorem dX10_drawnFigure_22 : decode cX10_drawnFigure 22 = .ok (.lrem, 1) := by decide +kernel
theorem dX10_drawnFigure_23 : decode cX10_drawnFigure 23 = .ok (.ldc2_w 243, 3) := by decide +kernel
theorem dX10_drawnFigure_26 : decode cX10_drawnFigure 26 = .ok (.ldiv, 1) := by decide +kernel
theorem dX10_drawnFigure_27 : decode cX10_drawnFigure 27 = .ok (.ldc2_w 245, 3) := by decide +kernel
theorem dX10_drawnFigure_30 : decode cX10_drawnFigure 30 = .ok (.lrem, 1) := by decide +kernel
theorem dX10_drawnFigure_31 : decode cX10_drawnFigure 31 = .ok (.l2i, 1) := by decide +kernel
theorem dX10_drawnFigure_32 : decode cX10_drawnFigure 32 = .ok (.ireturn, 1) := by decide +kernel
end
section
theorem dX11_init_0 : decode cX11_init 0 = .ok (.aload_n 0, 1) := by decide +kernel
theorem dX11_init_1 : decode cX11_init 1 = .ok (.invokespecial 1, 3) := by decide +kernel
theorem dX11_init_4 : decode cX11_init 4 = .ok (.aload_n 0, 1) := by decide +kernel
theorem dX11_init_5 : decode cX11_init 5 = .ok (.sipush 200, 3) := by decide +kernel
theorem dX11_init_8 : decode cX11_init 8 = .ok (.newarray .int, 2) := by decide +kernel
theorem dX11_init_10 : decode cX11_init 10 = .ok (.putfield 7, 3) := by decide +kernel
theorem dX11_init_13 : decode cX11_init 13 = .ok (.aload_n 0, 1) := by decide +kernel
theorem dX11_init_14 : decode cX11_init 14 = .ok (.bipush 40, 2) := by decide +kernel
theorem dX11_init_16 : decode cX11_init 16 = .ok (.newarray .int, 2) := by decide +kernel
theorem dX11_init_18 : decode cX11_init 18 = .ok (.putfield 13, 3) := by decide +kernel
theorem dX11_init_21 : decode cX11_init 21 = .ok (.aload_n 0, 1) := by decide +kernel
theorem dX11_init_22 : decode cX11_init 22 = .ok (.bipush 12, 2) := by decide +kernel
theorem dX11_init_24 : decode cX11_init 24 = .ok (.newarray .int, 2) := by decide +kernel
theorem dX11_init_26 : decode cX11_init 26 = .ok (.putfield 16, 3) := by decide +kernel
theorem dX11_init_29 : decode cX11_init 29 = .ok (.aload_n 0, 1) := by decide +kernel
theorem dX11_init_30 : decode cX11_init 30 = .ok (.iconst 2, 1) := by decide +kernel
theorem dX11_init_31 : decode cX11_init 31 = .ok (.newarray .int, 2) := by decide +kernel
theorem dX11_init_33 : decode cX11_init 33 = .ok (.putfield 19, 3) := by decide +kernel
theorem dX11_init_36 : decode cX11_init 36 = .ok (.aload_n 0, 1) := by decide +kernel
theorem dX11_init_37 : decode cX11_init 37 = .ok (.iconst 2, 1) := by decide +kernel
theorem dX11_init_38 : decode cX11_init 38 = .ok (.newarray .int, 2) := by decide +kernel
theorem dX11_init_40 : decode cX11_init 40 = .ok (.putfield 22, 3) := by decide +kernel
theorem dX11_init_43 : decode cX11_init 43 = .ok (.aload_n 0, 1) := by decide +kernel
theorem dX11_init_44 : decode cX11_init 44 = .ok (.iconst 2, 1) := by decide +kernel
theorem dX11_init_45 : decode cX11_init 45 = .ok (.newarray .int, 2) := by decide +kernel
theorem dX11_init_47 : decode cX11_init 47 = .ok (.putfield 25, 3) := by decide +kernel
theorem dX11_init_50 : decode cX11_init 50 = .ok (.aload_n 0, 1) := by decide +kernel
theorem dX11_init_51 : decode cX11_init 51 = .ok (.bipush 40, 2) := by decide +kernel
theorem dX11_init_53 : decode cX11_init 53 = .ok (.newarray .int, 2) := by decide +kernel
theorem dX11_init_55 : decode cX11_init 55 = .ok (.putfield 28, 3) := by decide +kernel
theorem dX11_init_58 : decode cX11_init 58 = .ok (.aload_n 0, 1) := by decide +kernel
theorem dX11_init_59 : decode cX11_init 59 = .ok (.iconst 2, 1) := by decide +kernel
theorem dX11_init_60 : decode cX11_init 60 = .ok (.newarray .int, 2) := by decide +kernel
theorem dX11_init_62 : decode cX11_init 62 = .ok (.putfield 31, 3) := by decide +kernel
theorem dX11_init_65 : decode cX11_init 65 = .ok (.aload_n 0, 1) := by decide +kernel
theorem dX11_init_66 : decode cX11_init 66 = .ok (.bipush 20, 2) := by decide +kernel
theorem dX11_init_68 : decode cX11_init 68 = .ok (.newarray .int, 2) := by decide +kernel
theorem dX11_init_70 : decode cX11_init 70 = .ok (.putfield 34, 3) := by decide +kernel
theorem dX11_init_73 : decode cX11_init 73 = .ok (.aload_n 0, 1) := by decide +kernel
theorem dX11_init_74 : decode cX11_init 74 = .ok (.sipush 160, 3) := by decide +kernel
theorem dX11_init_77 : decode cX11_init 77 = .ok (.newarray .int, 2) := by decide +kernel
theorem dX11_init_79 : decode cX11_init 79 = .ok (.putfield 37, 3) := by decide +kernel
theorem dX11_init_82 : decode cX11_init 82 = .ok (.aload_n 0, 1) := by decide +kernel
theorem dX11_init_83 : decode cX11_init 83 = .ok (.bipush 40, 2) := by decide +kernel
theorem dX11_init_85 : decode cX11_init 85 = .ok (.newarray .int, 2) := by decide +kernel
theorem dX11_init_87 : decode cX11_init 87 = .ok (.putfield 40, 3) := by decide +kernel
theorem dX11_init_90 : decode cX11_init 90 = .ok (.aload_n 0, 1) := by decide +kernel
theorem dX11_init_91 : decode cX11_init 91 = .ok (.bipush 8, 2) := by decide +kernel
theorem dX11_init_93 : decode cX11_init 93 = .ok (.newarray .int, 2) := by decide +kernel
theorem dX11_init_95 : decode cX11_init 95 = .ok (.putfield 43, 3) := by decide +kernel
theorem dX11_init_98 : decode cX11_init 98 = .ok (.aload_n 0, 1) := by decide +kernel
theorem dX11_init_99 : decode cX11_init 99 = .ok (.bipush 8, 2) := by decide +kernel
theorem dX11_init_101 : decode cX11_init 101 = .ok (.newarray .int, 2) := by decide +kernel
theorem dX11_init_103 : decode cX11_init 103 = .ok (.putfield 46, 3) := by decide +kernel
theorem dX11_init_106 : decode cX11_init 106 = .ok (.aload_n 0, 1) := by decide +kernel
theorem dX11_init_107 : decode cX11_init 107 = .ok (.iconst 2, 1) := by decide +kernel
theorem dX11_init_108 : decode cX11_init 108 = .ok (.newarray .int, 2) := by decide +kernel
theorem dX11_init_110 : decode cX11_init 110 = .ok (.putfield 49, 3) := by decide +kernel
theorem dX11_init_113 : decode cX11_init 113 = .ok (.aload_n 0, 1) := by decide +kernel
theorem dX11_init_114 : decode cX11_init 114 = .ok (.sipush 201, 3) := by decide +kernel
theorem dX11_init_117 : decode cX11_init 117 = .ok (.newarray .int, 2) := by decide +kernel
theorem dX11_init_119 : decode cX11_init 119 = .ok (.putfield 52, 3) := by decide +kernel
theorem dX11_init_122 : decode cX11_init 122 = .ok (.aload_n 0, 1) := by decide +kernel
theorem dX11_init_123 : decode cX11_init 123 = .ok (.sipush 201, 3) := by decide +kernel
theorem dX11_init_126 : decode cX11_init 126 = .ok (.newarray .int, 2) := by decide +kernel
theorem dX11_init_128 : decode cX11_init 128 = .ok (.putfield 55, 3) := by decide +kernel
theorem dX11_init_131 : decode cX11_init 131 = .ok (.aload_n 0, 1) := by decide +kernel
theorem dX11_init_132 : decode cX11_init 132 = .ok (.bipush 10, 2) := by decide +kernel
theorem dX11_init_134 : decode cX11_init 134 = .ok (.newarray .int, 2) := by decide +kernel
theorem dX11_init_136 : decode cX11_init 136 = .ok (.putfield 58, 3) := by decide +kernel
theorem dX11_init_139 : decode cX11_init 139 = .ok (.aload_n 0, 1) := by decide +kernel
theorem dX11_init_140 : decode cX11_init 140 = .ok (.iconst 0, 1) := by decide +kernel
theorem dX11_init_141 : decode cX11_init 141 = .ok (.invokevirtual 61, 3) := by decide +kernel
theorem dX11_init_144 : decode cX11_init 144 = .ok (.aload_n 0, 1) := by decide +kernel
theorem dX11_init_145 : decode cX11_init 145 = .ok (.getfield 13, 3) := by decide +kernel
theorem dX11_init_148 : decode cX11_init 148 = .ok (.bipush 7, 2) := by decide +kernel
theorem dX11_init_150 : decode cX11_init 150 = .ok (.iconst 1, 1) := by decide +kernel
theorem dX11_init_151 : decode cX11_init 151 = .ok (.iastore, 1) := by decide +kernel
theorem dX11_init_152 : decode cX11_init 152 = .ok (.aload_n 0, 1) := by decide +kernel
theorem dX11_init_153 : decode cX11_init 153 = .ok (.getfield 13, 3) := by decide +kernel
theorem dX11_init_156 : decode cX11_init 156 = .ok (.bipush 17, 2) := by decide +kernel
theorem dX11_init_158 : decode cX11_init 158 = .ok (.bipush 6, 2) := by decide +kernel
theorem dX11_init_160 : decode cX11_init 160 = .ok (.iastore, 1) := by decide +kernel
theorem dX11_init_161 : decode cX11_init 161 = .ok (.aload_n 0, 1) := by decide +kernel
theorem dX11_init_162 : decode cX11_init 162 = .ok (.getfield 16, 3) := by decide +kernel
theorem dX11_init_165 : decode cX11_init 165 = .ok (.iconst 0, 1) := by decide +kernel
theorem dX11_init_166 : decode cX11_init 166 = .ok (.iconst 5, 1) := by decide +kernel
theorem dX11_init_167 : decode cX11_init 167 = .ok (.iastore, 1) := by decide +kernel
theorem dX11_init_168 : decode cX11_init 168 = .ok (.aload_n 0, 1) := by decide +kernel
theorem dX11_init_169 : decode cX11_init 169 = .ok (.getfield 16, 3) := by decide +kernel
theorem dX11_init_172 : decode cX11_init 172 = .ok (.iconst 1, 1) := by decide +kernel
theorem dX11_init_173 : decode cX11_init 173 = .ok (.bipush 10, 2) := by decide +kernel
theorem dX11_init_175 : decode cX11_init 175 = .ok (.iastore, 1) := by decide +kernel
theorem dX11_init_176 : decode cX11_init 176 = .ok (.aload_n 0, 1) := by decide +kernel
theorem dX11_init_177 : decode cX11_init 177 = .ok (.getfield 16, 3) := by decide +kernel
theorem dX11_init_180 : decode cX11_init 180 = .ok (.iconst 2, 1) := by decide +kernel
theorem dX11_init_181 : decode cX11_init 181 = .ok (.bipush 27, 2) := by decide +kernel
theorem dX11_init_183 : decode cX11_init 183 = .ok (.iastore, 1) := by decide +kernel
theorem dX11_init_184 : decode cX11_init 184 = .ok (.aload_n 0, 1) := by decide +kernel
theorem dX11_init_185 : decode cX11_init 185 = .ok (.getfield 16, 3) := by decide +kernel
theorem dX11_init_188 : decode cX11_init 188 = .ok (.iconst 3, 1) := by decide +kernel
theorem dX11_init_189 : decode cX11_init 189 = .ok (.bipush 50, 2) := by decide +kernel
theorem dX11_init_191 : decode cX11_init 191 = .ok (.iastore, 1) := by decide +kernel
theorem dX11_init_192 : decode cX11_init 192 = .ok (.aload_n 0, 1) := by decide +kernel
theorem dX11_init_193 : decode cX11_init 193 = .ok (.getfield 19, 3) := by decide +kernel
theorem dX11_init_196 : decode cX11_init 196 = .ok (.iconst 0, 1) := by decide +kernel
theorem dX11_init_197 : decode cX11_init 197 = .ok (.iconst 4, 1) := by decide +kernel
theorem dX11_init_198 : decode cX11_init 198 = .ok (.iastore, 1) := by decide +kernel
theorem dX11_init_199 : decode cX11_init 199 = .ok (.aload_n 0, 1) := by decide +kernel
theorem dX11_init_200 : decode cX11_init 200 = .ok (.getfield 28, 3) := by decide +kernel
theorem dX11_init_203 : decode cX11_init 203 = .ok (.iconst 0, 1) := by decide +kernel
theorem dX11_init_204 : decode cX11_init 204 = .ok (.bipush 53, 2) := by decide +kernel
theorem dX11_init_206 : decode cX11_init 206 = .ok (.iastore, 1) := by decide +kernel
theorem dX11_init_207 : decode cX11_init 207 = .ok (.aload_n 0, 1) := by decide +kernel
theorem dX11_init_208 : decode cX11_init 208 = .ok (.getfield 28, 3) := by decide +kernel
theorem dX11_init_211 : decode cX11_init 211 = .ok (.iconst 1, 1) := by decide +kernel
theorem dX11_init_212 : decode cX11_init 212 = .ok (.bipush 54, 2) := by decide +kernel
theorem dX11_init_214 : decode cX11_init 214 = .ok (.iastore, 1) := by decide +kernel
theorem dX11_init_215 : decode cX11_init 215 = .ok (.aload_n 0, 1) := by decide +kernel
theorem dX11_init_216 : decode cX11_init 216 = .ok (.getfield 28, 3) := by decide +kernel
theorem dX11_init_219 : decode cX11_init 219 = .ok (.iconst 2, 1) := by decide +kernel
theorem dX11_init_220 : decode cX11_init 220 = .ok (.bipush 43, 2) := by decide +kernel
theorem dX11_init_222 : decode cX11_init 222 = .ok (.iastore, 1) := by decide +kernel
theorem dX11_init_223 : decode cX11_init 223 = .ok (.aload_n 0, 1) := by decide +kernel
theorem dX11_init_224 : decode cX11_init 224 = .ok (.getfield 28, 3) := by decide +kernel
theorem dX11_init_227 : decode cX11_init 227 = .ok (.iconst 3, 1) := by decide +kernel
theorem dX11_init_228 : decode cX11_init 228 = .ok (.bipush 55, 2) := by decide +kernel
theorem dX11_init_230 : decode cX11_init 230 = .ok (.iastore, 1) := by decide +kernel
theorem dX11_init_231 : decode cX11_init 231 = .ok (.aload_n 0, 1) := by decide +kernel
theorem dX11_init_232 : decode cX11_init 232 = .ok (.getfield 28, 3) := by decide +kernel
theorem dX11_init_235 : decode cX11_init 235 = .ok (.iconst 4, 1) := by decide +kernel
theorem dX11_init_236 : decode cX11_init 236 = .ok (.bipush 42, 2) := by decide +kernel
theorem dX11_init_238 : decode cX11_init 238 = .ok (.iastore, 1) := by decide +kernel
theorem dX11_init_239 : decode cX11_init 239 = .ok (.aload_n 0, 1) := by decide +kernel
theorem dX11_init_240 : decode cX11_init 240 = .ok (.getfield 28, 3) := by decide +kernel
theorem dX11_init_243 : decode cX11_init 243 = .ok (.iconst 5, 1) := by decide +kernel
theorem dX11_init_244 : decode cX11_init 244 = .ok (.bipush 56, 2) := by decide +kernel
theorem dX11_init_246 : decode cX11_init 246 = .ok (.iastore, 1) := by decide +kernel
theorem dX11_init_247 : decode cX11_init 247 = .ok (.aload_n 0, 1) := by decide +kernel
theorem dX11_init_248 : decode cX11_init 248 = .ok (.getfield 28, 3) := by decide +kernel
theorem dX11_init_251 : decode cX11_init 251 = .ok (.bipush 6, 2) := by decide +kernel
theorem dX11_init_253 : decode cX11_init 253 = .ok (.bipush 45, 2) := by decide +kernel
theorem dX11_init_255 : decode cX11_init 255 = .ok (.iastore, 1) := by decide +kernel
theorem dX11_init_256 : decode cX11_init 256 = .ok (.aload_n 0, 1) := by decide +kernel
theorem dX11_init_257 : decode cX11_init 257 = .ok (.getfield 28, 3) := by decide +kernel
theorem dX11_init_260 : decode cX11_init 260 = .ok (.bipush 7, 2) := by decide +kernel
theorem dX11_init_262 : decode cX11_init 262 = .ok (.bipush 49, 2) := by decide +kernel
theorem dX11_init_264 : decode cX11_init 264 = .ok (.iastore, 1) := by decide +kernel
theorem dX11_init_265 : decode cX11_init 265 = .ok (.aload_n 0, 1) := by decide +kernel
theorem dX11_init_266 : decode cX11_init 266 = .ok (.getfield 28, 3) := by decide +kernel
theorem dX11_init_269 : decode cX11_init 269 = .ok (.bipush 8, 2) := by decide +kernel
theorem dX11_init_271 : decode cX11_init 271 = .ok (.bipush 55, 2) := by decide +kernel
theorem dX11_init_273 : decode cX11_init 273 = .ok (.iastore, 1) := by decide +kernel
theorem dX11_init_274 : decode cX11_init 274 = .ok (.aload_n 0, 1) := by decide +kernel
theorem dX11_init_275 : decode cX11_init 275 = .ok (.getfield 31, 3) := by decide +kernel
theorem dX11_init_278 : decode cX11_init 278 = .ok (.iconst 0, 1) := by decide +kernel
theorem dX11_init_279 : decode cX11_init 279 = .ok (.bipush 9, 2) := by decide +kernel
theorem dX11_init_281 : decode cX11_init 281 = .ok (.iastore, 1) := by decide +kernel
theorem dX11_init_282 : decode cX11_init 282 = .ok (.aload_n 0, 1) := by decide +kernel
theorem dX11_init_283 : decode cX11_init 283 = .ok (.invokevirtual 65, 3) := by decide +kernel
theorem dX11_init_286 : decode cX11_init 286 = .ok (.return_, 1) := by decide +kernel
theorem dX11_in_0 : decode cX11_in 0 = .ok (.lload_n 0, 1) := by decide +kernel
theorem dX11_in_1 : decode cX11_in 1 = .ok (.lload_n 2, 1) := by decide +kernel
theorem dX11_in_2 : decode cX11_in 2 = .ok (.lcmp, 1) := by decide +kernel
theorem dX11_in_3 : decode cX11_in 3 = .ok (.ifCond .lt 14, 3) := by decide +kernel
theorem dX11_in_6 : decode cX11_in 6 = .ok (.lload_n 0, 1) := by decide +kernel
theorem dX11_in_7 : decode cX11_in 7 = .ok (.lload 4, 2) := by decide +kernel
theorem dX11_in_9 : decode cX11_in 9 = .ok (.lcmp, 1) := by decide +kernel
theorem dX11_in_10 : decode cX11_in 10 = .ok (.ifCond .gt 7, 3) := by decide +kernel
theorem dX11_in_13 : decode cX11_in 13 = .ok (.iconst 1, 1) := by decide +kernel
theorem dX11_in_14 : decode cX11_in 14 = .ok (.goto 4, 3) := by decide +kernel
theorem dX11_in_17 : decode cX11_in 17 = .ok (.iconst 0, 1) := by decide +kernel
theorem dX11_in_18 : decode cX11_in 18 = .ok (.ireturn, 1) := by decide +kernel
theorem dX11_nothing_0 : decode cX11_nothing 0 = .ok (.iconst 0, 1) := by decide +kernel
theorem dX11_nothing_1 : decode cX11_nothing 1 = .ok (.istore_n 2, 1) := by decide +kernel
theorem dX11_nothing_2 : decode cX11_nothing 2 = .ok (.iload_n 2, 1) := by decide +kernel
theorem dX11_nothing_3 : decode cX11_nothing 3 = .ok (.bipush 10, 2) := by decide +kernel
theorem dX11_nothing_5 : decode cX11_nothing 5 = .ok (.if_icmp .ge 36, 3) := by decide +kernel
theorem dX11_nothing_8 : decode cX11_nothing 8 = .ok (.aload_n 0, 1) := by decide +kernel
theorem dX11_nothing_9 : decode cX11_nothing 9 = .ok (.getfield 13, 3) := by decide +kernel
theorem dX11_nothing_12 : decode cX11_nothing 12 = .ok (.bipush 20, 2) := by decide +kernel
theorem dX11_nothing_14 : decode cX11_nothing 14 = .ok (.iload_n 1, 1) := by decide +kernel
theorem dX11_nothing_15 : decode cX11_nothing 15 = .ok (.imul, 1) := by decide +kernel
theorem dX11_nothing_16 : decode cX11_nothing 16 = .ok (.iload_n 2, 1) := by decide +kernel
theorem dX11_nothing_17 : decode cX11_nothing 17 = .ok (.iadd, 1) := by decide +kernel
theorem dX11_nothing_18 : decode cX11_nothing 18 = .ok (.iconst 0, 1) := by decide +kernel
theorem dX11_nothing_19 : decode cX11_nothing 19 = .ok (.iastore, 1) := by decide +kernel
theorem dX11_nothing_20 : decode cX11_nothing 20 = .ok (.aload_n 0, 1) := by decide +kernel
theorem dX11_nothing_21 : decode cX11_nothing 21 = .ok (.getfield 13, 3) := by decide +kernel
theorem dX11_nothing_24 : decode cX11_nothing 24 = .ok (.bipush 20, 2) := by decide +kernel
theorem dX11_nothing_26 : decode cX11_nothing 26 = .ok (.iload_n 1, 1) := by decide +kernel
theorem dX11_nothing_27 : decode cX11_nothing 27 = .ok (.imul, 1) := by decide +kernel
theorem dX11_nothing_28 : decode cX11_nothing 28 = .ok (.bipush 10, 2) := by decide +kernel
theorem dX11_nothing_30 : decode cX11_nothing 30 = .ok (.iadd, 1) := by decide +kernel
theorem dX11_nothing_31 : decode cX11_nothing 31 = .ok (.iload_n 2, 1) := by decide +kernel
theorem dX11_nothing_32 : decode cX11_nothing 32 = .ok (.iadd, 1) := by decide +kernel
theorem dX11_nothing_33 : decode cX11_nothing 33 = .ok (.iload_n 2, 1) := by decide +kernel
theorem dX11_nothing_34 : decode cX11_nothing 34 = .ok (.iastore, 1) := by decide +kernel
theorem dX11_nothing_35 : decode cX11_nothing 35 = .ok (.iinc 2 1, 3) := by decide +kernel
theorem dX11_nothing_38 : decode cX11_nothing 38 = .ok (.goto (-36), 3) := by decide +kernel
theorem dX11_nothing_41 : decode cX11_nothing 41 = .ok (.aload_n 0, 1) := by decide +kernel
theorem dX11_nothing_42 : decode cX11_nothing 42 = .ok (.getfield 19, 3) := by decide +kernel
theorem dX11_nothing_45 : decode cX11_nothing 45 = .ok (.iload_n 1, 1) := by decide +kernel
theorem dX11_nothing_46 : decode cX11_nothing 46 = .ok (.iconst 0, 1) := by decide +kernel
theorem dX11_nothing_47 : decode cX11_nothing 47 = .ok (.iastore, 1) := by decide +kernel
theorem dX11_nothing_48 : decode cX11_nothing 48 = .ok (.aload_n 0, 1) := by decide +kernel
theorem dX11_nothing_49 : decode cX11_nothing 49 = .ok (.getfield 22, 3) := by decide +kernel
theorem dX11_nothing_52 : decode cX11_nothing 52 = .ok (.iload_n 1, 1) := by decide +kernel
theorem dX11_nothing_53 : decode cX11_nothing 53 = .ok (.bipush 6, 2) := by decide +kernel
theorem dX11_nothing_55 : decode cX11_nothing 55 = .ok (.iastore, 1) := by decide +kernel
theorem dX11_nothing_56 : decode cX11_nothing 56 = .ok (.aload_n 0, 1) := by decide +kernel
theorem dX11_nothing_57 : decode cX11_nothing 57 = .ok (.getfield 25, 3) := by decide +kernel
theorem dX11_nothing_60 : decode cX11_nothing 60 = .ok (.iload_n 1, 1) := by decide +kernel
theorem dX11_nothing_61 : decode cX11_nothing 61 = .ok (.bipush 7, 2) := by decide +kernel
theorem dX11_nothing_63 : decode cX11_nothing 63 = .ok (.iastore, 1) := by decide +kernel
theorem dX11_nothing_64 : decode cX11_nothing 64 = .ok (.aload_n 0, 1) := by decide +kernel
theorem dX11_nothing_65 : decode cX11_nothing 65 = .ok (.getfield 31, 3) := by decide +kernel
theorem dX11_nothing_68 : decode cX11_nothing 68 = .ok (.iload_n 1, 1) := by decide +kernel
theorem dX11_nothing_69 : decode cX11_nothing 69 = .ok (.iconst 0, 1) := by decide +kernel
theorem dX11_nothing_70 : decode cX11_nothing 70 = .ok (.iastore, 1) := by decide +kernel
theorem dX11_nothing_71 : decode cX11_nothing 71 = .ok (.return_, 1) := by decide +kernel
theorem dX11_write_0 : decode cX11_write 0 = .ok (.iload_n 1, 1) := by decide +kernel
theorem dX11_write_1 : decode cX11_write 1 = .ok (.i2l, 1) := by decide +kernel
theorem dX11_write_2 : decode cX11_write 2 = .ok (.ldc2_w 68, 3) := by decide +kernel
theorem dX11_write_5 : decode cX11_write 5 = .ok (.ldc2_w 70, 3) := by decide +kernel
theorem dX11_write_8 : decode cX11_write 8 = .ok (.invokestatic 72, 3) := by decide +kernel
theorem dX11_write_11 : decode cX11_write 11 = .ok (.ifCond .ne 5, 3) := by decide +kernel
theorem dX11_write_14 : decode cX11_write 14 = .ok (.iconst (-1), 1) := by decide +kernel
theorem dX11_write_15 : decode cX11_write 15 = .ok (.ireturn, 1) := by decide +kernel
theorem dX11_write_16 : decode cX11_write 16 = .ok (.aload_n 0, 1) := by decide +kernel
theorem dX11_write_17 : decode cX11_write 17 = .ok (.getfield 76, 3) := by decide +kernel
theorem dX11_write_20 : decode cX11_write 20 = .ok (.sipush 200, 3) := by decide +kernel
theorem dX11_write_23 : decode cX11_write 23 = .ok (.if_icmp .ne 6, 3) := by decide +kernel
theorem dX11_write_26 : decode cX11_write 26 = .ok (.bipush (-3), 2) := by decide +kernel
theorem dX11_write_28 : decode cX11_write 28 = .ok (.ireturn, 1) := by decide +kernel
theorem dX11_write_29 : decode cX11_write 29 = .ok (.aload_n 0, 1) := by decide +kernel
theorem dX11_write_30 : decode cX11_write 30 = .ok (.getfield 7, 3) := by decide +kernel
theorem dX11_write_33 : decode cX11_write 33 = .ok (.aload_n 0, 1) := by decide +kernel
theorem dX11_write_34 : decode cX11_write 34 = .ok (.getfield 76, 3) := by decide +kernel
theorem dX11_write_37 : decode cX11_write 37 = .ok (.iload_n 1, 1) := by decide +kernel
theorem dX11_write_38 : decode cX11_write 38 = .ok (.iastore, 1) := by decide +kernel
theorem dX11_write_39 : decode cX11_write 39 = .ok (.aload_n 0, 1) := by decide +kernel
theorem dX11_write_40 : decode cX11_write 40 = .ok (.dup, 1) := by decide +kernel
theorem dX11_write_41 : decode cX11_write 41 = .ok (.getfield 76, 3) := by decide +kernel
theorem dX11_write_44 : decode cX11_write 44 = .ok (.iconst 1, 1) := by decide +kernel
theorem dX11_write_45 : decode cX11_write 45 = .ok (.iadd, 1) := by decide +kernel
theorem dX11_write_46 : decode cX11_write 46 = .ok (.putfield 76, 3) := by decide +kernel
theorem dX11_write_49 : decode cX11_write 49 = .ok (.aload_n 0, 1) := by decide +kernel
theorem dX11_write_50 : decode cX11_write 50 = .ok (.getfield 76, 3) := by decide +kernel
theorem dX11_write_53 : decode cX11_write 53 = .ok (.ireturn, 1) := by decide +kernel
theorem dX11_wipe_0 : decode cX11_wipe 0 = .ok (.aload_n 0, 1) := by decide +kernel
theorem dX11_wipe_1 : decode cX11_wipe 1 = .ok (.getfield 76, 3) := by decide +kernel
theorem dX11_wipe_4 : decode cX11_wipe 4 = .ok (.istore_n 1, 1) := by decide +kernel
theorem dX11_wipe_5 : decode cX11_wipe 5 = .ok (.aload_n 0, 1) := by decide +kernel
theorem dX11_wipe_6 : decode cX11_wipe 6 = .ok (.iconst 0, 1) := by decide +kernel
theorem dX11_wipe_7 : decode cX11_wipe 7 = .ok (.putfield 76, 3) := by decide +kernel
theorem dX11_wipe_10 : decode cX11_wipe 10 = .ok (.iload_n 1, 1) := by decide +kernel
theorem dX11_wipe_11 : decode cX11_wipe 11 = .ok (.ireturn, 1) := by decide +kernel
theorem dX11_letterAt_0 : decode cX11_letterAt 0 = .ok (.iload_n 1, 1) := by decide +kernel
theorem dX11_letterAt_1 : decode cX11_letterAt 1 = .ok (.aload_n 0, 1) := by decide +kernel
theorem dX11_letterAt_2 : decode cX11_letterAt 2 = .ok (.getfield 76, 3) := by decide +kernel
theorem dX11_letterAt_5 : decode cX11_letterAt 5 = .ok (.if_icmp .ge 12, 3) := by decide +kernel
theorem dX11_letterAt_8 : decode cX11_letterAt 8 = .ok (.aload_n 0, 1) := by decide +kernel
theorem dX11_letterAt_9 : decode cX11_letterAt 9 = .ok (.getfield 7, 3) := by decide +kernel
theorem dX11_letterAt_12 : decode cX11_letterAt 12 = .ok (.iload_n 1, 1) := by decide +kernel
theorem dX11_letterAt_13 : decode cX11_letterAt 13 = .ok (.iaload, 1) := by decide +kernel
theorem dX11_letterAt_14 : decode cX11_letterAt 14 = .ok (.goto 4, 3) := by decide +kernel
theorem dX11_letterAt_17 : decode cX11_letterAt 17 = .ok (.iconst 0, 1) := by decide +kernel
theorem dX11_letterAt_18 : decode cX11_letterAt 18 = .ok (.ireturn, 1) := by decide +kernel
theorem dX11_figures_0 : decode cX11_figures 0 = .ok (.iconst 0, 1) := by decide +kernel
theorem dX11_figures_1 : decode cX11_figures 1 = .ok (.istore_n 2, 1) := by decide +kernel
theorem dX11_figures_2 : decode cX11_figures 2 = .ok (.iload_n 2, 1) := by decide +kernel
theorem dX11_figures_3 : decode cX11_figures 3 = .ok (.iload_n 1, 1) := by decide +kernel
theorem dX11_figures_4 : decode cX11_figures 4 = .ok (.if_icmp .ge 132, 3) := by decide +kernel
theorem dX11_figures_7 : decode cX11_figures 7 = .ok (.iconst 0, 1) := by decide +kernel
theorem dX11_figures_8 : decode cX11_figures 8 = .ok (.istore_n 3, 1) := by decide +kernel
theorem dX11_figures_9 : decode cX11_figures 9 = .ok (.iconst 0, 1) := by decide +kernel
theorem dX11_figures_10 : decode cX11_figures 10 = .ok (.istore 4, 2) := by decide +kernel
theorem dX11_figures_12 : decode cX11_figures 12 = .ok (.aload_n 0, 1) := by decide +kernel
theorem dX11_figures_13 : decode cX11_figures 13 = .ok (.aload_n 0, 1) := by decide +kernel
theorem dX11_figures_14 : decode cX11_figures 14 = .ok (.getfield 80, 3) := by decide +kernel
theorem dX11_figures_17 : decode cX11_figures 17 = .ok (.invokevirtual 83, 3) := by decide +kernel
theorem dX11_figures_20 : decode cX11_figures 20 = .ok (.i2l, 1) := by decide +kernel
theorem dX11_figures_21 : decode cX11_figures 21 = .ok (.ldc2_w 87, 3) := by decide +kernel
theorem dX11_figures_24 : decode cX11_figures 24 = .ok (.ldc2_w 89, 3) := by decide +kernel
theorem dX11_figures_27 : decode cX11_figures 27 = .ok (.invokestatic 72, 3) := by decide +kernel
theorem dX11_figures_30 : decode cX11_figures 30 = .ok (.ifCond .eq 43, 3) := by decide +kernel
theorem dX11_figures_33 : decode cX11_figures 33 = .ok (.iload_n 3, 1) := by decide +kernel
theorem dX11_figures_34 : decode cX11_figures 34 = .ok (.iconst 3, 1) := by decide +kernel
theorem dX11_figures_35 : decode cX11_figures 35 = .ok (.if_icmp .ge 38, 3) := by decide +kernel
theorem dX11_figures_38 : decode cX11_figures 38 = .ok (.bipush 10, 2) := by decide +kernel
theorem dX11_figures_40 : decode cX11_figures 40 = .ok (.iload 4, 2) := by decide +kernel
theorem dX11_figures_42 : decode cX11_figures 42 = .ok (.imul, 1) := by decide +kernel
theorem dX11_figures_43 : decode cX11_figures 43 = .ok (.aload_n 0, 1) := by decide +kernel
theorem dX11_figures_44 : decode cX11_figures 44 = .ok (.aload_n 0, 1) := by decide +kernel
theorem dX11_figures_45 : decode cX11_figures 45 = .ok (.getfield 80, 3) := by decide +kernel
theorem dX11_figures_48 : decode cX11_figures 48 = .ok (.invokevirtual 83, 3) := by decide +kernel
theorem dX11_figures_51 : decode cX11_figures 51 = .ok (.iadd, 1) := by decide +kernel
theorem dX11_figures_52 : decode cX11_figures 52 = .ok (.bipush 48, 2) := by decide +kernel
theorem dX11_figures_54 : decode cX11_figures 54 = .ok (.isub, 1) := by decide +kernel
theorem dX11_figures_55 : decode cX11_figures 55 = .ok (.istore 4, 2) := by decide +kernel
theorem dX11_figures_57 : decode cX11_figures 57 = .ok (.iinc 3 1, 3) := by decide +kernel
theorem dX11_figures_60 : decode cX11_figures 60 = .ok (.aload_n 0, 1) := by decide +kernel
theorem dX11_figures_61 : decode cX11_figures 61 = .ok (.dup, 1) := by decide +kernel
theorem dX11_figures_62 : decode cX11_figures 62 = .ok (.getfield 80, 3) := by decide +kernel
theorem dX11_figures_65 : decode cX11_figures 65 = .ok (.iconst 1, 1) := by decide +kernel
theorem dX11_figures_66 : decode cX11_figures 66 = .ok (.iadd, 1) := by decide +kernel
theorem dX11_figures_67 : decode cX11_figures 67 = .ok (.putfield 80, 3) := by decide +kernel
theorem dX11_figures_70 : decode cX11_figures 70 = .ok (.goto (-58), 3) := by decide +kernel
theorem dX11_figures_73 : decode cX11_figures 73 = .ok (.iload_n 3, 1) := by decide +kernel
theorem dX11_figures_74 : decode cX11_figures 74 = .ok (.i2l, 1) := by decide +kernel
theorem dX11_figures_75 : decode cX11_figures 75 = .ok (.lconst 1, 1) := by decide +kernel
theorem dX11_figures_76 : decode cX11_figures 76 = .ok (.ldc2_w 91, 3) := by decide +kernel
theorem dX11_figures_79 : decode cX11_figures 79 = .ok (.invokestatic 72, 3) := by decide +kernel
theorem dX11_figures_82 : decode cX11_figures 82 = .ok (.ifCond .eq 28, 3) := by decide +kernel
theorem dX11_figures_85 : decode cX11_figures 85 = .ok (.aload_n 0, 1) := by decide +kernel
theorem dX11_figures_86 : decode cX11_figures 86 = .ok (.aload_n 0, 1) := by decide +kernel
theorem dX11_figures_87 : decode cX11_figures 87 = .ok (.getfield 80, 3) := by decide +kernel
theorem dX11_figures_90 : decode cX11_figures 90 = .ok (.invokevirtual 83, 3) := by decide +kernel
theorem dX11_figures_93 : decode cX11_figures 93 = .ok (.iload_n 2, 1) := by decide +kernel
theorem dX11_figures_94 : decode cX11_figures 94 = .ok (.iload_n 1, 1) := by decide +kernel
theorem dX11_figures_95 : decode cX11_figures 95 = .ok (.iconst 1, 1) := by decide +kernel
theorem dX11_figures_96 : decode cX11_figures 96 = .ok (.isub, 1) := by decide +kernel
theorem dX11_figures_97 : decode cX11_figures 97 = .ok (.if_icmp .ge 8, 3) := by decide +kernel
theorem dX11_figures_100 : decode cX11_figures 100 = .ok (.bipush 44, 2) := by decide +kernel
theorem dX11_figures_102 : decode cX11_figures 102 = .ok (.goto 5, 3) := by decide +kernel
theorem dX11_figures_105 : decode cX11_figures 105 = .ok (.bipush 59, 2) := by decide +kernel
theorem dX11_figures_107 : decode cX11_figures 107 = .ok (.if_icmp .eq 5, 3) := by decide +kernel
theorem dX11_figures_110 : decode cX11_figures 110 = .ok (.iconst 0, 1) := by decide +kernel
theorem dX11_figures_111 : decode cX11_figures 111 = .ok (.ireturn, 1) := by decide +kernel
theorem dX11_figures_112 : decode cX11_figures 112 = .ok (.aload_n 0, 1) := by decide +kernel
theorem dX11_figures_113 : decode cX11_figures 113 = .ok (.getfield 49, 3) := by decide +kernel
theorem dX11_figures_116 : decode cX11_figures 116 = .ok (.iload_n 2, 1) := by decide +kernel
theorem dX11_figures_117 : decode cX11_figures 117 = .ok (.iload 4, 2) := by decide +kernel
theorem dX11_figures_119 : decode cX11_figures 119 = .ok (.iastore, 1) := by decide +kernel
theorem dX11_figures_120 : decode cX11_figures 120 = .ok (.aload_n 0, 1) := by decide +kernel
theorem dX11_figures_121 : decode cX11_figures 121 = .ok (.dup, 1) := by decide +kernel
theorem dX11_figures_122 : decode cX11_figures 122 = .ok (.getfield 80, 3) := by decide +kernel
theorem dX11_figures_125 : decode cX11_figures 125 = .ok (.iconst 1, 1) := by decide +kernel
theorem dX11_figures_126 : decode cX11_figures 126 = .ok (.iadd, 1) := by decide +kernel
theorem dX11_figures_127 : decode cX11_figures 127 = .ok (.putfield 80, 3) := by decide +kernel
theorem dX11_figures_130 : decode cX11_figures 130 = .ok (.iinc 2 1, 3) := by decide +kernel
theorem dX11_figures_133 : decode cX11_figures 133 = .ok (.goto (-131), 3) := by decide +kernel
theorem dX11_figures_136 : decode cX11_figures 136 = .ok (.iconst 1, 1) := by decide +kernel
theorem dX11_figures_137 : decode cX11_figures 137 = .ok (.ireturn, 1) := by decide +kernel
theorem dX11_coinItem_0 : decode cX11_coinItem 0 = .ok (.aload_n 0, 1) := by decide +kernel
theorem dX11_coinItem_1 : decode cX11_coinItem 1 = .ok (.iconst 1, 1) := by decide +kernel
theorem dX11_coinItem_2 : decode cX11_coinItem 2 = .ok (.invokevirtual 93, 3) := by decide +kernel
theorem dX11_coinItem_5 : decode cX11_coinItem 5 = .ok (.ifCond .eq 27, 3) := by decide +kernel
theorem dX11_coinItem_8 : decode cX11_coinItem 8 = .ok (.aload_n 0, 1) := by decide +kernel
theorem dX11_coinItem_9 : decode cX11_coinItem 9 = .ok (.getfield 49, 3) := by decide +kernel
theorem dX11_coinItem_12 : decode cX11_coinItem 12 = .ok (.iconst 0, 1) := by decide +kernel
theorem dX11_coinItem_13 : decode cX11_coinItem 13 = .ok (.iaload, 1) := by decide +kernel
theorem dX11_coinItem_14 : decode cX11_coinItem 14 = .ok (.ifCond .le 18, 3) := by decide +kernel
theorem dX11_coinItem_17 : decode cX11_coinItem 17 = .ok (.aload_n 0, 1) := by decide +kernel
theorem dX11_coinItem_18 : decode cX11_coinItem 18 = .ok (.getfield 19, 3) := by decide +kernel
theorem dX11_coinItem_21 : decode cX11_coinItem 21 = .ok (.iconst 1, 1) := by decide +kernel
theorem dX11_coinItem_22 : decode cX11_coinItem 22 = .ok (.iaload, 1) := by decide +kernel
theorem dX11_coinItem_23 : decode cX11_coinItem 23 = .ok (.bipush 6, 2) := by decide +kernel
theorem dX11_coinItem_25 : decode cX11_coinItem 25 = .ok (.if_icmp .ge 7, 3) := by decide +kernel
theorem dX11_coinItem_28 : decode cX11_coinItem 28 = .ok (.iconst 1, 1) := by decide +kernel
theorem dX11_coinItem_29 : decode cX11_coinItem 29 = .ok (.goto 4, 3) := by decide +kernel
theorem dX11_coinItem_32 : decode cX11_coinItem 32 = .ok (.iconst 0, 1) := by decide +kernel
theorem dX11_coinItem_33 : decode cX11_coinItem 33 = .ok (.istore_n 1, 1) := by decide +kernel
theorem dX11_coinItem_34 : decode cX11_coinItem 34 = .ok (.iconst 0, 1) := by decide +kernel
theorem dX11_coinItem_35 : decode cX11_coinItem 35 = .ok (.istore_n 2, 1) := by decide +kernel
theorem dX11_coinItem_36 : decode cX11_coinItem 36 = .ok (.iload_n 2, 1) := by decide +kernel
theorem dX11_coinItem_37 : decode cX11_coinItem 37 = .ok (.aload_n 0, 1) := by decide +kernel
theorem dX11_coinItem_38 : decode cX11_coinItem 38 = .ok (.getfield 19, 3) := by decide +kernel
theorem dX11_coinItem_41 : decode cX11_coinItem 41 = .ok (.iconst 1, 1) := by decide +kernel
theorem dX11_coinItem_42 : decode cX11_coinItem 42 = .ok (.iaload, 1) := by decide +kernel
theorem dX11_coinItem_43 : decode cX11_coinItem 43 = .ok (.if_icmp .ge 37, 3) := by decide +kernel
theorem dX11_coinItem_46 : decode cX11_coinItem 46 = .ok (.iload_n 1, 1) := by decide +kernel
theorem dX11_coinItem_47 : decode cX11_coinItem 47 = .ok (.ifCond .eq 33, 3) := by decide +kernel
theorem dX11_coinItem_50 : decode cX11_coinItem 50 = .ok (.aload_n 0, 1) := by decide +kernel
theorem dX11_coinItem_51 : decode cX11_coinItem 51 = .ok (.getfield 16, 3) := by decide +kernel
theorem dX11_coinItem_54 : decode cX11_coinItem 54 = .ok (.bipush 6, 2) := by decide +kernel
theorem dX11_coinItem_56 : decode cX11_coinItem 56 = .ok (.iload_n 2, 1) := by decide +kernel
theorem dX11_coinItem_57 : decode cX11_coinItem 57 = .ok (.iadd, 1) := by decide +kernel
theorem dX11_coinItem_58 : decode cX11_coinItem 58 = .ok (.iaload, 1) := by decide +kernel
theorem dX11_coinItem_59 : decode cX11_coinItem 59 = .ok (.aload_n 0, 1) := by decide +kernel
theorem dX11_coinItem_60 : decode cX11_coinItem 60 = .ok (.getfield 49, 3) := by decide +kernel
theorem dX11_coinItem_63 : decode cX11_coinItem 63 = .ok (.iconst 0, 1) := by decide +kernel
theorem dX11_coinItem_64 : decode cX11_coinItem 64 = .ok (.iaload, 1) := by decide +kernel
theorem dX11_coinItem_65 : decode cX11_coinItem 65 = .ok (.if_icmp .eq 7, 3) := by decide +kernel
theorem dX11_coinItem_68 : decode cX11_coinItem 68 = .ok (.iconst 1, 1) := by decide +kernel
theorem dX11_coinItem_69 : decode cX11_coinItem 69 = .ok (.goto 4, 3) := by decide +kernel
theorem dX11_coinItem_72 : decode cX11_coinItem 72 = .ok (.iconst 0, 1) := by decide +kernel
theorem dX11_coinItem_73 : decode cX11_coinItem 73 = .ok (.istore_n 1, 1) := by decide +kernel
theorem dX11_coinItem_74 : decode cX11_coinItem 74 = .ok (.iinc 2 1, 3) := by decide +kernel
theorem dX11_coinItem_77 : decode cX11_coinItem 77 = .ok (.goto (-41), 3) := by decide +kernel
theorem dX11_coinItem_80 : decode cX11_coinItem 80 = .ok (.iload_n 1, 1) := by decide +kernel
theorem dX11_coinItem_81 : decode cX11_coinItem 81 = .ok (.ifCond .eq 33, 3) := by decide +kernel
theorem dX11_coinItem_84 : decode cX11_coinItem 84 = .ok (.aload_n 0, 1) := by decide +kernel
theorem dX11_coinItem_85 : decode cX11_coinItem 85 = .ok (.getfield 16, 3) := by decide +kernel
theorem dX11_coinItem_88 : decode cX11_coinItem 88 = .ok (.bipush 6, 2) := by decide +kernel
theorem dX11_coinItem_90 : decode cX11_coinItem 90 = .ok (.aload_n 0, 1) := by decide +kernel
theorem dX11_coinItem_91 : decode cX11_coinItem 91 = .ok (.getfield 19, 3) := by decide +kernel
theorem dX11_coinItem_94 : decode cX11_coinItem 94 = .ok (.iconst 1, 1) := by decide +kernel
theorem dX11_coinItem_95 : decode cX11_coinItem 95 = .ok (.iaload, 1) := by decide +kernel
theorem dX11_coinItem_96 : decode cX11_coinItem 96 = .ok (.iadd, 1) := by decide +kernel
theorem dX11_coinItem_97 : decode cX11_coinItem 97 = .ok (.aload_n 0, 1) := by decide +kernel
theorem dX11_coinItem_98 : decode cX11_coinItem 98 = .ok (.getfield 49, 3) := by decide +kernel
theorem dX11_coinItem_101 : decode cX11_coinItem 101 = .ok (.iconst 0, 1) := by decide +kernel
theorem dX11_coinItem_102 : decode cX11_coinItem 102 = .ok (.iaload, 1) := by decide +kernel
theorem dX11_coinItem_103 : decode cX11_coinItem 103 = .ok (.iastore, 1) := by decide +kernel
theorem dX11_coinItem_104 : decode cX11_coinItem 104 = .ok (.aload_n 0, 1) := by decide +kernel
theorem dX11_coinItem_105 : decode cX11_coinItem 105 = .ok (.getfield 19, 3) := by decide +kernel
theorem dX11_coinItem_108 : decode cX11_coinItem 108 = .ok (.iconst 1, 1) := by decide +kernel
theorem dX11_coinItem_109 : decode cX11_coinItem 109 = .ok (.dup2, 1) := by decide +kernel
theorem dX11_coinItem_110 : decode cX11_coinItem 110 = .ok (.iaload, 1) := by decide +kernel
theorem dX11_coinItem_111 : decode cX11_coinItem 111 = .ok (.iconst 1, 1) := by decide +kernel
theorem dX11_coinItem_112 : decode cX11_coinItem 112 = .ok (.iadd, 1) := by decide +kernel
theorem dX11_coinItem_113 : decode cX11_coinItem 113 = .ok (.iastore, 1) := by decide +kernel
theorem dX11_coinItem_114 : decode cX11_coinItem 114 = .ok (.iload_n 1, 1) := by decide +kernel
theorem dX11_coinItem_115 : decode cX11_coinItem 115 = .ok (.ireturn, 1) := by decide +kernel
theorem dX11_isSign_0 : decode cX11_isSign 0 = .ok (.iload_n 0, 1) := by decide +kernel
theorem dX11_isSign_1 : decode cX11_isSign 1 = .ok (.bipush 43, 2) := by decide +kernel
theorem dX11_isSign_3 : decode cX11_isSign 3 = .ok (.if_icmp .eq 15, 3) := by decide +kernel
theorem dX11_isSign_6 : decode cX11_isSign 6 = .ok (.iload_n 0, 1) := by decide +kernel
theorem dX11_isSign_7 : decode cX11_isSign 7 = .ok (.bipush 45, 2) := by decide +kernel
theorem dX11_isSign_9 : decode cX11_isSign 9 = .ok (.if_icmp .eq 9, 3) := by decide +kernel
theorem dX11_isSign_12 : decode cX11_isSign 12 = .ok (.iload_n 0, 1) := by decide +kernel
theorem dX11_isSign_13 : decode cX11_isSign 13 = .ok (.bipush 42, 2) := by decide +kernel
theorem dX11_isSign_15 : decode cX11_isSign 15 = .ok (.if_icmp .ne 7, 3) := by decide +kernel
theorem dX11_isSign_18 : decode cX11_isSign 18 = .ok (.iconst 1, 1) := by decide +kernel
theorem dX11_isSign_19 : decode cX11_isSign 19 = .ok (.goto 4, 3) := by decide +kernel
theorem dX11_isSign_22 : decode cX11_isSign 22 = .ok (.iconst 0, 1) := by decide +kernel
theorem dX11_isSign_23 : decode cX11_isSign 23 = .ok (.ireturn, 1) := by decide +kernel
theorem dX11_sumItem_0 : decode cX11_sumItem 0 = .ok (.iconst 0, 1) := by decide +kernel
theorem dX11_sumItem_1 : decode cX11_sumItem 1 = .ok (.istore_n 1, 1) := by decide +kernel
theorem dX11_sumItem_2 : decode cX11_sumItem 2 = .ok (.iconst 0, 1) := by decide +kernel
theorem dX11_sumItem_3 : decode cX11_sumItem 3 = .ok (.istore_n 2, 1) := by decide +kernel
theorem dX11_sumItem_4 : decode cX11_sumItem 4 = .ok (.iconst 1, 1) := by decide +kernel
theorem dX11_sumItem_5 : decode cX11_sumItem 5 = .ok (.istore_n 3, 1) := by decide +kernel
theorem dX11_sumItem_6 : decode cX11_sumItem 6 = .ok (.iload_n 3, 1) := by decide +kernel
theorem dX11_sumItem_7 : decode cX11_sumItem 7 = .ok (.ifCond .eq 133, 3) := by decide +kernel
theorem dX11_sumItem_10 : decode cX11_sumItem 10 = .ok (.aload_n 0, 1) := by decide +kernel
theorem dX11_sumItem_11 : decode cX11_sumItem 11 = .ok (.aload_n 0, 1) := by decide +kernel
theorem dX11_sumItem_12 : decode cX11_sumItem 12 = .ok (.getfield 80, 3) := by decide +kernel
theorem dX11_sumItem_15 : decode cX11_sumItem 15 = .ok (.invokevirtual 83, 3) := by decide +kernel
theorem dX11_sumItem_18 : decode cX11_sumItem 18 = .ok (.bipush 59, 2) := by decide +kernel
theorem dX11_sumItem_20 : decode cX11_sumItem 20 = .ok (.if_icmp .eq 120, 3) := by decide +kernel
theorem dX11_sumItem_23 : decode cX11_sumItem 23 = .ok (.aload_n 0, 1) := by decide +kernel
theorem dX11_sumItem_24 : decode cX11_sumItem 24 = .ok (.aload_n 0, 1) := by decide +kernel
theorem dX11_sumItem_25 : decode cX11_sumItem 25 = .ok (.getfield 80, 3) := by decide +kernel
theorem dX11_sumItem_28 : decode cX11_sumItem 28 = .ok (.invokevirtual 83, 3) := by decide +kernel
theorem dX11_sumItem_31 : decode cX11_sumItem 31 = .ok (.istore 4, 2) := by decide +kernel
theorem dX11_sumItem_33 : decode cX11_sumItem 33 = .ok (.iload 4, 2) := by decide +kernel
theorem dX11_sumItem_35 : decode cX11_sumItem 35 = .ok (.i2l, 1) := by decide +kernel
theorem dX11_sumItem_36 : decode cX11_sumItem 36 = .ok (.ldc2_w 87, 3) := by decide +kernel
theorem dX11_sumItem_39 : decode cX11_sumItem 39 = .ok (.ldc2_w 89, 3) := by decide +kernel
theorem dX11_sumItem_42 : decode cX11_sumItem 42 = .ok (.invokestatic 72, 3) := by decide +kernel
theorem dX11_sumItem_45 : decode cX11_sumItem 45 = .ok (.istore 5, 2) := by decide +kernel
theorem dX11_sumItem_47 : decode cX11_sumItem 47 = .ok (.iload 5, 2) := by decide +kernel
theorem dX11_sumItem_49 : decode cX11_sumItem 49 = .ok (.ifCond .eq 9, 3) := by decide +kernel
theorem dX11_sumItem_52 : decode cX11_sumItem 52 = .ok (.iload_n 2, 1) := by decide +kernel
theorem dX11_sumItem_53 : decode cX11_sumItem 53 = .ok (.iconst 1, 1) := by decide +kernel
theorem dX11_sumItem_54 : decode cX11_sumItem 54 = .ok (.iadd, 1) := by decide +kernel
theorem dX11_sumItem_55 : decode cX11_sumItem 55 = .ok (.goto 4, 3) := by decide +kernel
theorem dX11_sumItem_58 : decode cX11_sumItem 58 = .ok (.iconst 0, 1) := by decide +kernel
theorem dX11_sumItem_59 : decode cX11_sumItem 59 = .ok (.istore_n 2, 1) := by decide +kernel
theorem dX11_sumItem_60 : decode cX11_sumItem 60 = .ok (.iload_n 1, 1) := by decide +kernel
theorem dX11_sumItem_61 : decode cX11_sumItem 61 = .ok (.bipush 20, 2) := by decide +kernel
theorem dX11_sumItem_63 : decode cX11_sumItem 63 = .ok (.if_icmp .ge 44, 3) := by decide +kernel
theorem dX11_sumItem_66 : decode cX11_sumItem 66 = .ok (.iload_n 2, 1) := by decide +kernel
theorem dX11_sumItem_67 : decode cX11_sumItem 67 = .ok (.iconst 4, 1) := by decide +kernel
theorem dX11_sumItem_68 : decode cX11_sumItem 68 = .ok (.if_icmp .gt 39, 3) := by decide +kernel
theorem dX11_sumItem_71 : decode cX11_sumItem 71 = .ok (.iload 5, 2) := by decide +kernel
theorem dX11_sumItem_73 : decode cX11_sumItem 73 = .ok (.ifCond .ne 30, 3) := by decide +kernel
theorem dX11_sumItem_76 : decode cX11_sumItem 76 = .ok (.iload 4, 2) := by decide +kernel
theorem dX11_sumItem_78 : decode cX11_sumItem 78 = .ok (.invokestatic 97, 3) := by decide +kernel
theorem dX11_sumItem_81 : decode cX11_sumItem 81 = .ok (.ifCond .eq 26, 3) := by decide +kernel
theorem dX11_sumItem_84 : decode cX11_sumItem 84 = .ok (.iload_n 1, 1) := by decide +kernel
theorem dX11_sumItem_85 : decode cX11_sumItem 85 = .ok (.ifCond .le 22, 3) := by decide +kernel
theorem dX11_sumItem_88 : decode cX11_sumItem 88 = .ok (.aload_n 0, 1) := by decide +kernel
theorem dX11_sumItem_89 : decode cX11_sumItem 89 = .ok (.getfield 28, 3) := by decide +kernel
theorem dX11_sumItem_92 : decode cX11_sumItem 92 = .ok (.bipush 19, 2) := by decide +kernel
theorem dX11_sumItem_94 : decode cX11_sumItem 94 = .ok (.iload_n 1, 1) := by decide +kernel
theorem dX11_sumItem_95 : decode cX11_sumItem 95 = .ok (.iadd, 1) := by decide +kernel
theorem dX11_sumItem_96 : decode cX11_sumItem 96 = .ok (.iaload, 1) := by decide +kernel
theorem dX11_sumItem_97 : decode cX11_sumItem 97 = .ok (.invokestatic 97, 3) := by decide +kernel
theorem dX11_sumItem_100 : decode cX11_sumItem 100 = .ok (.ifCond .ne 7, 3) := by decide +kernel
theorem dX11_sumItem_103 : decode cX11_sumItem 103 = .ok (.iconst 1, 1) := by decide +kernel
theorem dX11_sumItem_104 : decode cX11_sumItem 104 = .ok (.goto 4, 3) := by decide +kernel
theorem dX11_sumItem_107 : decode cX11_sumItem 107 = .ok (.iconst 0, 1) := by decide +kernel
theorem dX11_sumItem_108 : decode cX11_sumItem 108 = .ok (.istore_n 3, 1) := by decide +kernel
theorem dX11_sumItem_109 : decode cX11_sumItem 109 = .ok (.iload_n 3, 1) := by decide +kernel
theorem dX11_sumItem_110 : decode cX11_sumItem 110 = .ok (.ifCond .eq 27, 3) := by decide +kernel
theorem dX11_sumItem_113 : decode cX11_sumItem 113 = .ok (.aload_n 0, 1) := by decide +kernel
theorem dX11_sumItem_114 : decode cX11_sumItem 114 = .ok (.getfield 28, 3) := by decide +kernel
theorem dX11_sumItem_117 : decode cX11_sumItem 117 = .ok (.bipush 20, 2) := by decide +kernel
theorem dX11_sumItem_119 : decode cX11_sumItem 119 = .ok (.iload_n 1, 1) := by decide +kernel
theorem dX11_sumItem_120 : decode cX11_sumItem 120 = .ok (.iadd, 1) := by decide +kernel
theorem dX11_sumItem_121 : decode cX11_sumItem 121 = .ok (.iload 4, 2) := by decide +kernel
theorem dX11_sumItem_123 : decode cX11_sumItem 123 = .ok (.iastore, 1) := by decide +kernel
theorem dX11_sumItem_124 : decode cX11_sumItem 124 = .ok (.iinc 1 1, 3) := by decide +kernel
theorem dX11_sumItem_127 : decode cX11_sumItem 127 = .ok (.aload_n 0, 1) := by decide +kernel
theorem dX11_sumItem_128 : decode cX11_sumItem 128 = .ok (.dup, 1) := by decide +kernel
theorem dX11_sumItem_129 : decode cX11_sumItem 129 = .ok (.getfield 80, 3) := by decide +kernel
theorem dX11_sumItem_132 : decode cX11_sumItem 132 = .ok (.iconst 1, 1) := by decide +kernel
theorem dX11_sumItem_133 : decode cX11_sumItem 133 = .ok (.iadd, 1) := by decide +kernel
theorem dX11_sumItem_134 : decode cX11_sumItem 134 = .ok (.putfield 80, 3) := by decide +kernel
theorem dX11_sumItem_137 : decode cX11_sumItem 137 = .ok (.goto (-131), 3) := by decide +kernel
theorem dX11_sumItem_140 : decode cX11_sumItem 140 = .ok (.aload_n 0, 1) := by decide +kernel
theorem dX11_sumItem_141 : decode cX11_sumItem 141 = .ok (.dup, 1) := by decide +kernel
theorem dX11_sumItem_142 : decode cX11_sumItem 142 = .ok (.getfield 80, 3) := by decide +kernel
theorem dX11_sumItem_145 : decode cX11_sumItem 145 = .ok (.iconst 1, 1) := by decide +kernel
theorem dX11_sumItem_146 : decode cX11_sumItem 146 = .ok (.iadd, 1) := by decide +kernel
theorem dX11_sumItem_147 : decode cX11_sumItem 147 = .ok (.putfield 80, 3) := by decide +kernel
theorem dX11_sumItem_150 : decode cX11_sumItem 150 = .ok (.aload_n 0, 1) := by decide +kernel
theorem dX11_sumItem_151 : decode cX11_sumItem 151 = .ok (.getfield 31, 3) := by decide +kernel
theorem dX11_sumItem_154 : decode cX11_sumItem 154 = .ok (.iconst 1, 1) := by decide +kernel
theorem dX11_sumItem_155 : decode cX11_sumItem 155 = .ok (.iload_n 1, 1) := by decide +kernel
theorem dX11_sumItem_156 : decode cX11_sumItem 156 = .ok (.iastore, 1) := by decide +kernel
theorem dX11_sumItem_157 : decode cX11_sumItem 157 = .ok (.iload_n 3, 1) := by decide +kernel
theorem dX11_sumItem_158 : decode cX11_sumItem 158 = .ok (.ifCond .eq 15, 3) := by decide +kernel
theorem dX11_sumItem_161 : decode cX11_sumItem 161 = .ok (.iload_n 1, 1) := by decide +kernel
theorem dX11_sumItem_162 : decode cX11_sumItem 162 = .ok (.ifCond .le 11, 3) := by decide +kernel
theorem dX11_sumItem_165 : decode cX11_sumItem 165 = .ok (.iload_n 2, 1) := by decide +kernel
theorem dX11_sumItem_166 : decode cX11_sumItem 166 = .ok (.ifCond .le 7, 3) := by decide +kernel
theorem dX11_sumItem_169 : decode cX11_sumItem 169 = .ok (.iconst 1, 1) := by decide +kernel
theorem dX11_sumItem_170 : decode cX11_sumItem 170 = .ok (.goto 4, 3) := by decide +kernel
theorem dX11_sumItem_173 : decode cX11_sumItem 173 = .ok (.iconst 0, 1) := by decide +kernel
theorem dX11_sumItem_174 : decode cX11_sumItem 174 = .ok (.ireturn, 1) := by decide +kernel
theorem dX11_item_0 : decode cX11_item 0 = .ok (.aload_n 0, 1) := by decide +kernel
theorem dX11_item_1 : decode cX11_item 1 = .ok (.aload_n 0, 1) := by decide +kernel
theorem dX11_item_2 : decode cX11_item 2 = .ok (.getfield 80, 3) := by decide +kernel
theorem dX11_item_5 : decode cX11_item 5 = .ok (.invokevirtual 83, 3) := by decide +kernel
theorem dX11_item_8 : decode cX11_item 8 = .ok (.istore_n 1, 1) := by decide +kernel
theorem dX11_item_9 : decode cX11_item 9 = .ok (.aload_n 0, 1) := by decide +kernel
theorem dX11_item_10 : decode cX11_item 10 = .ok (.dup, 1) := by decide +kernel
theorem dX11_item_11 : decode cX11_item 11 = .ok (.getfield 80, 3) := by decide +kernel
theorem dX11_item_14 : decode cX11_item 14 = .ok (.iconst 1, 1) := by decide +kernel
theorem dX11_item_15 : decode cX11_item 15 = .ok (.iadd, 1) := by decide +kernel
theorem dX11_item_16 : decode cX11_item 16 = .ok (.putfield 80, 3) := by decide +kernel
theorem dX11_item_19 : decode cX11_item 19 = .ok (.iload_n 1, 1) := by decide +kernel
theorem dX11_item_20 : decode cX11_item 20 = .ok (.lookupswitch 246 #[(99, 152), (100, 157), (101, 241), (102, 98), (119, 200), (120, 60)], 60) := by decide +kernel
theorem dX11_item_80 : decode cX11_item 80 = .ok (.aload_n 0, 1) := by decide +kernel
theorem dX11_item_81 : decode cX11_item 81 = .ok (.iconst 1, 1) := by decide +kernel
theorem dX11_item_82 : decode cX11_item 82 = .ok (.invokevirtual 93, 3) := by decide +kernel
theorem dX11_item_85 : decode cX11_item 85 = .ok (.ifCond .eq 14, 3) := by decide +kernel
theorem dX11_item_88 : decode cX11_item 88 = .ok (.aload_n 0, 1) := by decide +kernel
theorem dX11_item_89 : decode cX11_item 89 = .ok (.getfield 49, 3) := by decide +kernel
theorem dX11_item_92 : decode cX11_item 92 = .ok (.iconst 0, 1) := by decide +kernel
theorem dX11_item_93 : decode cX11_item 93 = .ok (.iaload, 1) := by decide +kernel
theorem dX11_item_94 : decode cX11_item 94 = .ok (.bipush 9, 2) := by decide +kernel
theorem dX11_item_96 : decode cX11_item 96 = .ok (.if_icmp .le 5, 3) := by decide +kernel
theorem dX11_item_99 : decode cX11_item 99 = .ok (.iconst 0, 1) := by decide +kernel
theorem dX11_item_100 : decode cX11_item 100 = .ok (.ireturn, 1) := by decide +kernel
theorem dX11_item_101 : decode cX11_item 101 = .ok (.aload_n 0, 1) := by decide +kernel
theorem dX11_item_102 : decode cX11_item 102 = .ok (.getfield 13, 3) := by decide +kernel
theorem dX11_item_105 : decode cX11_item 105 = .ok (.bipush 20, 2) := by decide +kernel
theorem dX11_item_107 : decode cX11_item 107 = .ok (.aload_n 0, 1) := by decide +kernel
theorem dX11_item_108 : decode cX11_item 108 = .ok (.getfield 49, 3) := by decide +kernel
theorem dX11_item_111 : decode cX11_item 111 = .ok (.iconst 0, 1) := by decide +kernel
theorem dX11_item_112 : decode cX11_item 112 = .ok (.iaload, 1) := by decide +kernel
theorem dX11_item_113 : decode cX11_item 113 = .ok (.iadd, 1) := by decide +kernel
theorem dX11_item_114 : decode cX11_item 114 = .ok (.iconst 1, 1) := by decide +kernel
theorem dX11_item_115 : decode cX11_item 115 = .ok (.iastore, 1) := by decide +kernel
theorem dX11_item_116 : decode cX11_item 116 = .ok (.iconst 1, 1) := by decide +kernel
theorem dX11_item_117 : decode cX11_item 117 = .ok (.ireturn, 1) := by decide +kernel
theorem dX11_item_118 : decode cX11_item 118 = .ok (.aload_n 0, 1) := by decide +kernel
theorem dX11_item_119 : decode cX11_item 119 = .ok (.iconst 2, 1) := by decide +kernel
theorem dX11_item_120 : decode cX11_item 120 = .ok (.invokevirtual 93, 3) := by decide +kernel
theorem dX11_item_123 : decode cX11_item 123 = .ok (.ifCond .eq 25, 3) := by decide +kernel
theorem dX11_item_126 : decode cX11_item 126 = .ok (.aload_n 0, 1) := by decide +kernel
theorem dX11_item_127 : decode cX11_item 127 = .ok (.getfield 49, 3) := by decide +kernel
theorem dX11_item_130 : decode cX11_item 130 = .ok (.iconst 0, 1) := by decide +kernel
theorem dX11_item_131 : decode cX11_item 131 = .ok (.iaload, 1) := by decide +kernel
theorem dX11_item_132 : decode cX11_item 132 = .ok (.bipush 9, 2) := by decide +kernel
theorem dX11_item_134 : decode cX11_item 134 = .ok (.if_icmp .gt 14, 3) := by decide +kernel
theorem dX11_item_137 : decode cX11_item 137 = .ok (.aload_n 0, 1) := by decide +kernel
theorem dX11_item_138 : decode cX11_item 138 = .ok (.getfield 49, 3) := by decide +kernel
theorem dX11_item_141 : decode cX11_item 141 = .ok (.iconst 1, 1) := by decide +kernel
theorem dX11_item_142 : decode cX11_item 142 = .ok (.iaload, 1) := by decide +kernel
theorem dX11_item_143 : decode cX11_item 143 = .ok (.bipush 9, 2) := by decide +kernel
theorem dX11_item_145 : decode cX11_item 145 = .ok (.if_icmp .le 5, 3) := by decide +kernel
theorem dX11_item_148 : decode cX11_item 148 = .ok (.iconst 0, 1) := by decide +kernel
theorem dX11_item_149 : decode cX11_item 149 = .ok (.ireturn, 1) := by decide +kernel
theorem dX11_item_150 : decode cX11_item 150 = .ok (.aload_n 0, 1) := by decide +kernel
theorem dX11_item_151 : decode cX11_item 151 = .ok (.getfield 13, 3) := by decide +kernel
theorem dX11_item_154 : decode cX11_item 154 = .ok (.bipush 30, 2) := by decide +kernel
theorem dX11_item_156 : decode cX11_item 156 = .ok (.aload_n 0, 1) := by decide +kernel
theorem dX11_item_157 : decode cX11_item 157 = .ok (.getfield 49, 3) := by decide +kernel
theorem dX11_item_160 : decode cX11_item 160 = .ok (.iconst 0, 1) := by decide +kernel
theorem dX11_item_161 : decode cX11_item 161 = .ok (.iaload, 1) := by decide +kernel
theorem dX11_item_162 : decode cX11_item 162 = .ok (.iadd, 1) := by decide +kernel
theorem dX11_item_163 : decode cX11_item 163 = .ok (.aload_n 0, 1) := by decide +kernel
theorem dX11_item_164 : decode cX11_item 164 = .ok (.getfield 49, 3) := by decide +kernel
theorem dX11_item_167 : decode cX11_item 167 = .ok (.iconst 1, 1) := by decide +kernel
theorem dX11_item_168 : decode cX11_item 168 = .ok (.iaload, 1) := by decide +kernel
theorem dX11_item_169 : decode cX11_item 169 = .ok (.iastore, 1) := by decide +kernel
theorem dX11_item_170 : decode cX11_item 170 = .ok (.iconst 1, 1) := by decide +kernel
theorem dX11_item_171 : decode cX11_item 171 = .ok (.ireturn, 1) := by decide +kernel
theorem dX11_item_172 : decode cX11_item 172 = .ok (.aload_n 0, 1) := by decide +kernel
theorem dX11_item_173 : decode cX11_item 173 = .ok (.invokevirtual 100, 3) := by decide +kernel
theorem dX11_item_176 : decode cX11_item 176 = .ok (.ireturn, 1) := by decide +kernel
theorem dX11_item_177 : decode cX11_item 177 = .ok (.aload_n 0, 1) := by decide +kernel
theorem dX11_item_178 : decode cX11_item 178 = .ok (.iconst 1, 1) := by decide +kernel
theorem dX11_item_179 : decode cX11_item 179 = .ok (.invokevirtual 93, 3) := by decide +kernel
theorem dX11_item_182 : decode cX11_item 182 = .ok (.ifCond .eq 22, 3) := by decide +kernel
theorem dX11_item_185 : decode cX11_item 185 = .ok (.aload_n 0, 1) := by decide +kernel
theorem dX11_item_186 : decode cX11_item 186 = .ok (.getfield 49, 3) := by decide +kernel
theorem dX11_item_189 : decode cX11_item 189 = .ok (.iconst 0, 1) := by decide +kernel
theorem dX11_item_190 : decode cX11_item 190 = .ok (.iaload, 1) := by decide +kernel
theorem dX11_item_191 : decode cX11_item 191 = .ok (.i2l, 1) := by decide +kernel
theorem dX11_item_192 : decode cX11_item 192 = .ok (.ldc2_w 91, 3) := by decide +kernel
theorem dX11_item_195 : decode cX11_item 195 = .ok (.ldc2_w 104, 3) := by decide +kernel
theorem dX11_item_198 : decode cX11_item 198 = .ok (.invokestatic 72, 3) := by decide +kernel
theorem dX11_item_201 : decode cX11_item 201 = .ok (.ifCond .ne 5, 3) := by decide +kernel
theorem dX11_item_204 : decode cX11_item 204 = .ok (.iconst 0, 1) := by decide +kernel
theorem dX11_item_205 : decode cX11_item 205 = .ok (.ireturn, 1) := by decide +kernel
theorem dX11_item_206 : decode cX11_item 206 = .ok (.aload_n 0, 1) := by decide +kernel
theorem dX11_item_207 : decode cX11_item 207 = .ok (.getfield 22, 3) := by decide +kernel
theorem dX11_item_210 : decode cX11_item 210 = .ok (.iconst 1, 1) := by decide +kernel
theorem dX11_item_211 : decode cX11_item 211 = .ok (.aload_n 0, 1) := by decide +kernel
theorem dX11_item_212 : decode cX11_item 212 = .ok (.getfield 49, 3) := by decide +kernel
theorem dX11_item_215 : decode cX11_item 215 = .ok (.iconst 0, 1) := by decide +kernel
theorem dX11_item_216 : decode cX11_item 216 = .ok (.iaload, 1) := by decide +kernel
theorem dX11_item_217 : decode cX11_item 217 = .ok (.iastore, 1) := by decide +kernel
theorem dX11_item_218 : decode cX11_item 218 = .ok (.iconst 1, 1) := by decide +kernel
theorem dX11_item_219 : decode cX11_item 219 = .ok (.ireturn, 1) := by decide +kernel
theorem dX11_item_220 : decode cX11_item 220 = .ok (.aload_n 0, 1) := by decide +kernel
theorem dX11_item_221 : decode cX11_item 221 = .ok (.iconst 1, 1) := by decide +kernel
theorem dX11_item_222 : decode cX11_item 222 = .ok (.invokevirtual 93, 3) := by decide +kernel
theorem dX11_item_225 : decode cX11_item 225 = .ok (.ifCond .eq 20, 3) := by decide +kernel
theorem dX11_item_228 : decode cX11_item 228 = .ok (.aload_n 0, 1) := by decide +kernel
theorem dX11_item_229 : decode cX11_item 229 = .ok (.getfield 49, 3) := by decide +kernel
theorem dX11_item_232 : decode cX11_item 232 = .ok (.iconst 0, 1) := by decide +kernel
theorem dX11_item_233 : decode cX11_item 233 = .ok (.iaload, 1) := by decide +kernel
theorem dX11_item_234 : decode cX11_item 234 = .ok (.i2l, 1) := by decide +kernel
theorem dX11_item_235 : decode cX11_item 235 = .ok (.lconst 1, 1) := by decide +kernel
theorem dX11_item_236 : decode cX11_item 236 = .ok (.ldc2_w 104, 3) := by decide +kernel
theorem dX11_item_239 : decode cX11_item 239 = .ok (.invokestatic 72, 3) := by decide +kernel
theorem dX11_item_242 : decode cX11_item 242 = .ok (.ifCond .ne 5, 3) := by decide +kernel
theorem dX11_item_245 : decode cX11_item 245 = .ok (.iconst 0, 1) := by decide +kernel
theorem dX11_item_246 : decode cX11_item 246 = .ok (.ireturn, 1) := by decide +kernel
theorem dX11_item_247 : decode cX11_item 247 = .ok (.aload_n 0, 1) := by decide +kernel
theorem dX11_item_248 : decode cX11_item 248 = .ok (.getfield 25, 3) := by decide +kernel
theorem dX11_item_251 : decode cX11_item 251 = .ok (.iconst 1, 1) := by decide +kernel
theorem dX11_item_252 : decode cX11_item 252 = .ok (.aload_n 0, 1) := by decide +kernel
theorem dX11_item_253 : decode cX11_item 253 = .ok (.getfield 49, 3) := by decide +kernel
theorem dX11_item_256 : decode cX11_item 256 = .ok (.iconst 0, 1) := by decide +kernel
theorem dX11_item_257 : decode cX11_item 257 = .ok (.iaload, 1) := by decide +kernel
theorem dX11_item_258 : decode cX11_item 258 = .ok (.iastore, 1) := by decide +kernel
theorem dX11_item_259 : decode cX11_item 259 = .ok (.iconst 1, 1) := by decide +kernel
theorem dX11_item_260 : decode cX11_item 260 = .ok (.ireturn, 1) := by decide +kernel
theorem dX11_item_261 : decode cX11_item 261 = .ok (.aload_n 0, 1) := by decide +kernel
theorem dX11_item_262 : decode cX11_item 262 = .ok (.invokevirtual 106, 3) := by decide +kernel
theorem dX11_item_265 : decode cX11_item 265 = .ok (.ireturn, 1) := by decide +kernel
theorem dX11_item_266 : decode cX11_item 266 = .ok (.iconst 0, 1) := by decide +kernel
theorem dX11_item_267 : decode cX11_item 267 = .ok (.ireturn, 1) := by decide +kernel
theorem dX11_readAll_0 : decode cX11_readAll 0 = .ok (.aload_n 0, 1) := by decide +kernel
theorem dX11_readAll_1 : decode cX11_readAll 1 = .ok (.iconst 1, 1) := by decide +kernel
theorem dX11_readAll_2 : decode cX11_readAll 2 = .ok (.invokevirtual 61, 3) := by decide +kernel
theorem dX11_readAll_5 : decode cX11_readAll 5 = .ok (.aload_n 0, 1) := by decide +kernel
theorem dX11_readAll_6 : decode cX11_readAll 6 = .ok (.iconst 0, 1) := by decide +kernel
theorem dX11_readAll_7 : decode cX11_readAll 7 = .ok (.putfield 80, 3) := by decide +kernel
theorem dX11_readAll_10 : decode cX11_readAll 10 = .ok (.aload_n 0, 1) := by decide +kernel
theorem dX11_readAll_11 : decode cX11_readAll 11 = .ok (.getfield 80, 3) := by decide +kernel
theorem dX11_readAll_14 : decode cX11_readAll 14 = .ok (.aload_n 0, 1) := by decide +kernel
theorem dX11_readAll_15 : decode cX11_readAll 15 = .ok (.getfield 76, 3) := by decide +kernel
theorem dX11_readAll_18 : decode cX11_readAll 18 = .ok (.if_icmp .ge 20, 3) := by decide +kernel
theorem dX11_readAll_21 : decode cX11_readAll 21 = .ok (.aload_n 0, 1) := by decide +kernel
theorem dX11_readAll_22 : decode cX11_readAll 22 = .ok (.getfield 80, 3) := by decide +kernel
theorem dX11_readAll_25 : decode cX11_readAll 25 = .ok (.istore_n 1, 1) := by decide +kernel
theorem dX11_readAll_26 : decode cX11_readAll 26 = .ok (.aload_n 0, 1) := by decide +kernel
theorem dX11_readAll_27 : decode cX11_readAll 27 = .ok (.invokevirtual 109, 3) := by decide +kernel
theorem dX11_readAll_30 : decode cX11_readAll 30 = .ok (.ifCond .ne 5, 3) := by decide +kernel
theorem dX11_readAll_33 : decode cX11_readAll 33 = .ok (.iload_n 1, 1) := by decide +kernel
theorem dX11_readAll_34 : decode cX11_readAll 34 = .ok (.ireturn, 1) := by decide +kernel
theorem dX11_readAll_35 : decode cX11_readAll 35 = .ok (.goto (-25), 3) := by decide +kernel
theorem dX11_readAll_38 : decode cX11_readAll 38 = .ok (.bipush (-4), 2) := by decide +kernel
theorem dX11_readAll_40 : decode cX11_readAll 40 = .ok (.ireturn, 1) := by decide +kernel
theorem dX11_fault_0 : decode cX11_fault 0 = .ok (.aload_n 0, 1) := by decide +kernel
theorem dX11_fault_1 : decode cX11_fault 1 = .ok (.invokevirtual 112, 3) := by decide +kernel
theorem dX11_fault_4 : decode cX11_fault 4 = .ok (.ireturn, 1) := by decide +kernel
theorem dX11_lay_0 : decode cX11_lay 0 = .ok (.aload_n 0, 1) := by decide +kernel
theorem dX11_lay_1 : decode cX11_lay 1 = .ok (.invokevirtual 112, 3) := by decide +kernel
theorem dX11_lay_4 : decode cX11_lay 4 = .ok (.bipush (-4), 2) := by decide +kernel
theorem dX11_lay_6 : decode cX11_lay 6 = .ok (.if_icmp .eq 6, 3) := by decide +kernel
theorem dX11_lay_9 : decode cX11_lay 9 = .ok (.bipush (-2), 2) := by decide +kernel
theorem dX11_lay_11 : decode cX11_lay 11 = .ok (.ireturn, 1) := by decide +kernel
theorem dX11_lay_12 : decode cX11_lay 12 = .ok (.iconst 0, 1) := by decide +kernel
theorem dX11_lay_13 : decode cX11_lay 13 = .ok (.istore_n 1, 1) := by decide +kernel
theorem dX11_lay_14 : decode cX11_lay 14 = .ok (.iload_n 1, 1) := by decide +kernel
theorem dX11_lay_15 : decode cX11_lay 15 = .ok (.bipush 20, 2) := by decide +kernel
theorem dX11_lay_17 : decode cX11_lay 17 = .ok (.if_icmp .ge 39, 3) := by decide +kernel
theorem dX11_lay_20 : decode cX11_lay 20 = .ok (.aload_n 0, 1) := by decide +kernel
theorem dX11_lay_21 : decode cX11_lay 21 = .ok (.getfield 13, 3) := by decide +kernel
theorem dX11_lay_24 : decode cX11_lay 24 = .ok (.iload_n 1, 1) := by decide +kernel
theorem dX11_lay_25 : decode cX11_lay 25 = .ok (.aload_n 0, 1) := by decide +kernel
theorem dX11_lay_26 : decode cX11_lay 26 = .ok (.getfield 13, 3) := by decide +kernel
theorem dX11_lay_29 : decode cX11_lay 29 = .ok (.bipush 20, 2) := by decide +kernel
theorem dX11_lay_31 : decode cX11_lay 31 = .ok (.iload_n 1, 1) := by decide +kernel
theorem dX11_lay_32 : decode cX11_lay 32 = .ok (.iadd, 1) := by decide +kernel
theorem dX11_lay_33 : decode cX11_lay 33 = .ok (.iaload, 1) := by decide +kernel
theorem dX11_lay_34 : decode cX11_lay 34 = .ok (.iastore, 1) := by decide +kernel
theorem dX11_lay_35 : decode cX11_lay 35 = .ok (.aload_n 0, 1) := by decide +kernel
theorem dX11_lay_36 : decode cX11_lay 36 = .ok (.getfield 28, 3) := by decide +kernel
theorem dX11_lay_39 : decode cX11_lay 39 = .ok (.iload_n 1, 1) := by decide +kernel
theorem dX11_lay_40 : decode cX11_lay 40 = .ok (.aload_n 0, 1) := by decide +kernel
theorem dX11_lay_41 : decode cX11_lay 41 = .ok (.getfield 28, 3) := by decide +kernel
theorem dX11_lay_44 : decode cX11_lay 44 = .ok (.bipush 20, 2) := by decide +kernel
theorem dX11_lay_46 : decode cX11_lay 46 = .ok (.iload_n 1, 1) := by decide +kernel
theorem dX11_lay_47 : decode cX11_lay 47 = .ok (.iadd, 1) := by decide +kernel
theorem dX11_lay_48 : decode cX11_lay 48 = .ok (.iaload, 1) := by decide +kernel
theorem dX11_lay_49 : decode cX11_lay 49 = .ok (.iastore, 1) := by decide +kernel
theorem dX11_lay_50 : decode cX11_lay 50 = .ok (.iinc 1 1, 3) := by decide +kernel
theorem dX11_lay_53 : decode cX11_lay 53 = .ok (.goto (-39), 3) := by decide +kernel
theorem dX11_lay_56 : decode cX11_lay 56 = .ok (.iconst 0, 1) := by decide +kernel
theorem dX11_lay_57 : decode cX11_lay 57 = .ok (.istore_n 1, 1) := by decide +kernel
theorem dX11_lay_58 : decode cX11_lay 58 = .ok (.iload_n 1, 1) := by decide +kernel
theorem dX11_lay_59 : decode cX11_lay 59 = .ok (.bipush 6, 2) := by decide +kernel
theorem dX11_lay_61 : decode cX11_lay 61 = .ok (.if_icmp .ge 24, 3) := by decide +kernel
theorem dX11_lay_64 : decode cX11_lay 64 = .ok (.aload_n 0, 1) := by decide +kernel
theorem dX11_lay_65 : decode cX11_lay 65 = .ok (.getfield 16, 3) := by decide +kernel
theorem dX11_lay_68 : decode cX11_lay 68 = .ok (.iload_n 1, 1) := by decide +kernel
theorem dX11_lay_69 : decode cX11_lay 69 = .ok (.aload_n 0, 1) := by decide +kernel
theorem dX11_lay_70 : decode cX11_lay 70 = .ok (.getfield 16, 3) := by decide +kernel
theorem dX11_lay_73 : decode cX11_lay 73 = .ok (.bipush 6, 2) := by decide +kernel
theorem dX11_lay_75 : decode cX11_lay 75 = .ok (.iload_n 1, 1) := by decide +kernel
theorem dX11_lay_76 : decode cX11_lay 76 = .ok (.iadd, 1) := by decide +kernel
theorem dX11_lay_77 : decode cX11_lay 77 = .ok (.iaload, 1) := by decide +kernel
theorem dX11_lay_78 : decode cX11_lay 78 = .ok (.iastore, 1) := by decide +kernel
theorem dX11_lay_79 : decode cX11_lay 79 = .ok (.iinc 1 1, 3) := by decide +kernel
theorem dX11_lay_82 : decode cX11_lay 82 = .ok (.goto (-24), 3) := by decide +kernel
theorem dX11_lay_85 : decode cX11_lay 85 = .ok (.aload_n 0, 1) := by decide +kernel
theorem dX11_lay_86 : decode cX11_lay 86 = .ok (.getfield 19, 3) := by decide +kernel
theorem dX11_lay_89 : decode cX11_lay 89 = .ok (.iconst 0, 1) := by decide +kernel
theorem dX11_lay_90 : decode cX11_lay 90 = .ok (.aload_n 0, 1) := by decide +kernel
theorem dX11_lay_91 : decode cX11_lay 91 = .ok (.getfield 19, 3) := by decide +kernel
theorem dX11_lay_94 : decode cX11_lay 94 = .ok (.iconst 1, 1) := by decide +kernel
theorem dX11_lay_95 : decode cX11_lay 95 = .ok (.iaload, 1) := by decide +kernel
theorem dX11_lay_96 : decode cX11_lay 96 = .ok (.iastore, 1) := by decide +kernel
theorem dX11_lay_97 : decode cX11_lay 97 = .ok (.aload_n 0, 1) := by decide +kernel
theorem dX11_lay_98 : decode cX11_lay 98 = .ok (.getfield 22, 3) := by decide +kernel
theorem dX11_lay_101 : decode cX11_lay 101 = .ok (.iconst 0, 1) := by decide +kernel
theorem dX11_lay_102 : decode cX11_lay 102 = .ok (.aload_n 0, 1) := by decide +kernel
theorem dX11_lay_103 : decode cX11_lay 103 = .ok (.getfield 22, 3) := by decide +kernel
theorem dX11_lay_106 : decode cX11_lay 106 = .ok (.iconst 1, 1) := by decide +kernel
theorem dX11_lay_107 : decode cX11_lay 107 = .ok (.iaload, 1) := by decide +kernel
theorem dX11_lay_108 : decode cX11_lay 108 = .ok (.iastore, 1) := by decide +kernel
theorem dX11_lay_109 : decode cX11_lay 109 = .ok (.aload_n 0, 1) := by decide +kernel
theorem dX11_lay_110 : decode cX11_lay 110 = .ok (.getfield 25, 3) := by decide +kernel
theorem dX11_lay_113 : decode cX11_lay 113 = .ok (.iconst 0, 1) := by decide +kernel
theorem dX11_lay_114 : decode cX11_lay 114 = .ok (.aload_n 0, 1) := by decide +kernel
theorem dX11_lay_115 : decode cX11_lay 115 = .ok (.getfield 25, 3) := by decide +kernel
theorem dX11_lay_118 : decode cX11_lay 118 = .ok (.iconst 1, 1) := by decide +kernel
theorem dX11_lay_119 : decode cX11_lay 119 = .ok (.iaload, 1) := by decide +kernel
theorem dX11_lay_120 : decode cX11_lay 120 = .ok (.iastore, 1) := by decide +kernel
theorem dX11_lay_121 : decode cX11_lay 121 = .ok (.aload_n 0, 1) := by decide +kernel
theorem dX11_lay_122 : decode cX11_lay 122 = .ok (.getfield 31, 3) := by decide +kernel
theorem dX11_lay_125 : decode cX11_lay 125 = .ok (.iconst 0, 1) := by decide +kernel
theorem dX11_lay_126 : decode cX11_lay 126 = .ok (.aload_n 0, 1) := by decide +kernel
theorem dX11_lay_127 : decode cX11_lay 127 = .ok (.getfield 31, 3) := by decide +kernel
theorem dX11_lay_130 : decode cX11_lay 130 = .ok (.iconst 1, 1) := by decide +kernel
theorem dX11_lay_131 : decode cX11_lay 131 = .ok (.iaload, 1) := by decide +kernel
theorem dX11_lay_132 : decode cX11_lay 132 = .ok (.iastore, 1) := by decide +kernel
theorem dX11_lay_133 : decode cX11_lay 133 = .ok (.aload_n 0, 1) := by decide +kernel
theorem dX11_lay_134 : decode cX11_lay 134 = .ok (.invokevirtual 65, 3) := by decide +kernel
theorem dX11_lay_137 : decode cX11_lay 137 = .ok (.aload_n 0, 1) := by decide +kernel
theorem dX11_lay_138 : decode cX11_lay 138 = .ok (.invokevirtual 116, 3) := by decide +kernel
theorem dX11_lay_141 : decode cX11_lay 141 = .ok (.ireturn, 1) := by decide +kernel
theorem dX11_begin_0 : decode cX11_begin 0 = .ok (.iconst 0, 1) := by decide +kernel
theorem dX11_begin_1 : decode cX11_begin 1 = .ok (.istore_n 1, 1) := by decide +kernel
theorem dX11_begin_2 : decode cX11_begin 2 = .ok (.iload_n 1, 1) := by decide +kernel
theorem dX11_begin_3 : decode cX11_begin 3 = .ok (.bipush 20, 2) := by decide +kernel
theorem dX11_begin_5 : decode cX11_begin 5 = .ok (.if_icmp .ge 21, 3) := by decide +kernel
theorem dX11_begin_8 : decode cX11_begin 8 = .ok (.aload_n 0, 1) := by decide +kernel
theorem dX11_begin_9 : decode cX11_begin 9 = .ok (.getfield 34, 3) := by decide +kernel
theorem dX11_begin_12 : decode cX11_begin 12 = .ok (.iload_n 1, 1) := by decide +kernel
theorem dX11_begin_13 : decode cX11_begin 13 = .ok (.aload_n 0, 1) := by decide +kernel
theorem dX11_begin_14 : decode cX11_begin 14 = .ok (.getfield 13, 3) := by decide +kernel
theorem dX11_begin_17 : decode cX11_begin 17 = .ok (.iload_n 1, 1) := by decide +kernel
theorem dX11_begin_18 : decode cX11_begin 18 = .ok (.iaload, 1) := by decide +kernel
theorem dX11_begin_19 : decode cX11_begin 19 = .ok (.iastore, 1) := by decide +kernel
theorem dX11_begin_20 : decode cX11_begin 20 = .ok (.iinc 1 1, 3) := by decide +kernel
theorem dX11_begin_23 : decode cX11_begin 23 = .ok (.goto (-21), 3) := by decide +kernel
theorem dX11_begin_26 : decode cX11_begin 26 = .ok (.aload_n 0, 1) := by decide +kernel
theorem dX11_begin_27 : decode cX11_begin 27 = .ok (.iconst 0, 1) := by decide +kernel
theorem dX11_begin_28 : decode cX11_begin 28 = .ok (.putfield 119, 3) := by decide +kernel
theorem dX11_begin_31 : decode cX11_begin 31 = .ok (.aload_n 0, 1) := by decide +kernel
theorem dX11_begin_32 : decode cX11_begin 32 = .ok (.iconst 0, 1) := by decide +kernel
theorem dX11_begin_33 : decode cX11_begin 33 = .ok (.putfield 122, 3) := by decide +kernel
theorem dX11_begin_36 : decode cX11_begin 36 = .ok (.aload_n 0, 1) := by decide +kernel
theorem dX11_begin_37 : decode cX11_begin 37 = .ok (.iconst 0, 1) := by decide +kernel
theorem dX11_begin_38 : decode cX11_begin 38 = .ok (.putfield 125, 3) := by decide +kernel
theorem dX11_begin_41 : decode cX11_begin 41 = .ok (.return_, 1) := by decide +kernel
theorem dX11_isFigure_0 : decode cX11_isFigure 0 = .ok (.iload_n 0, 1) := by decide +kernel
theorem dX11_isFigure_1 : decode cX11_isFigure 1 = .ok (.i2l, 1) := by decide +kernel
theorem dX11_isFigure_2 : decode cX11_isFigure 2 = .ok (.lconst 0, 1) := by decide +kernel
theorem dX11_isFigure_3 : decode cX11_isFigure 3 = .ok (.ldc2_w 104, 3) := by decide +kernel
theorem dX11_isFigure_6 : decode cX11_isFigure 6 = .ok (.invokestatic 72, 3) := by decide +kernel
theorem dX11_isFigure_9 : decode cX11_isFigure 9 = .ok (.ireturn, 1) := by decide +kernel
theorem dX11_strikers_0 : decode cX11_strikers 0 = .ok (.iconst 0, 1) := by decide +kernel
theorem dX11_strikers_1 : decode cX11_strikers 1 = .ok (.istore_n 1, 1) := by decide +kernel
theorem dX11_strikers_2 : decode cX11_strikers 2 = .ok (.iconst 0, 1) := by decide +kernel
theorem dX11_strikers_3 : decode cX11_strikers 3 = .ok (.istore_n 2, 1) := by decide +kernel
theorem dX11_strikers_4 : decode cX11_strikers 4 = .ok (.iload_n 2, 1) := by decide +kernel
theorem dX11_strikers_5 : decode cX11_strikers 5 = .ok (.bipush 10, 2) := by decide +kernel
theorem dX11_strikers_7 : decode cX11_strikers 7 = .ok (.if_icmp .ge 18, 3) := by decide +kernel
theorem dX11_strikers_10 : decode cX11_strikers 10 = .ok (.iload_n 1, 1) := by decide +kernel
theorem dX11_strikers_11 : decode cX11_strikers 11 = .ok (.aload_n 0, 1) := by decide +kernel
theorem dX11_strikers_12 : decode cX11_strikers 12 = .ok (.getfield 34, 3) := by decide +kernel
theorem dX11_strikers_15 : decode cX11_strikers 15 = .ok (.iload_n 2, 1) := by decide +kernel
theorem dX11_strikers_16 : decode cX11_strikers 16 = .ok (.iaload, 1) := by decide +kernel
theorem dX11_strikers_17 : decode cX11_strikers 17 = .ok (.iadd, 1) := by decide +kernel
theorem dX11_strikers_18 : decode cX11_strikers 18 = .ok (.istore_n 1, 1) := by decide +kernel
theorem dX11_strikers_19 : decode cX11_strikers 19 = .ok (.iinc 2 1, 3) := by decide +kernel
theorem dX11_strikers_22 : decode cX11_strikers 22 = .ok (.goto (-18), 3) := by decide +kernel
theorem dX11_strikers_25 : decode cX11_strikers 25 = .ok (.iload_n 1, 1) := by decide +kernel
theorem dX11_strikers_26 : decode cX11_strikers 26 = .ok (.ireturn, 1) := by decide +kernel
theorem dX11_figure_0 : decode cX11_figure 0 = .ok (.iload_n 1, 1) := by decide +kernel
theorem dX11_figure_1 : decode cX11_figure 1 = .ok (.invokestatic 128, 3) := by decide +kernel
theorem dX11_figure_4 : decode cX11_figure 4 = .ok (.ifCond .eq 13, 3) := by decide +kernel
theorem dX11_figure_7 : decode cX11_figure 7 = .ok (.iload_n 2, 1) := by decide +kernel
theorem dX11_figure_8 : decode cX11_figure 8 = .ok (.i2l, 1) := by decide +kernel
theorem dX11_figure_9 : decode cX11_figure 9 = .ok (.lconst 0, 1) := by decide +kernel
theorem dX11_figure_10 : decode cX11_figure 10 = .ok (.lconst 1, 1) := by decide +kernel
theorem dX11_figure_11 : decode cX11_figure 11 = .ok (.invokestatic 72, 3) := by decide +kernel
theorem dX11_figure_14 : decode cX11_figure 14 = .ok (.ifCond .ne 7, 3) := by decide +kernel
theorem dX11_figure_17 : decode cX11_figure 17 = .ok (.iconst (-1), 1) := by decide +kernel
theorem dX11_figure_18 : decode cX11_figure 18 = .ok (.goto 14, 3) := by decide +kernel
theorem dX11_figure_21 : decode cX11_figure 21 = .ok (.aload_n 0, 1) := by decide +kernel
theorem dX11_figure_22 : decode cX11_figure 22 = .ok (.getfield 34, 3) := by decide +kernel
theorem dX11_figure_25 : decode cX11_figure 25 = .ok (.bipush 10, 2) := by decide +kernel
theorem dX11_figure_27 : decode cX11_figure 27 = .ok (.iload_n 2, 1) := by decide +kernel
theorem dX11_figure_28 : decode cX11_figure 28 = .ok (.imul, 1) := by decide +kernel
theorem dX11_figure_29 : decode cX11_figure 29 = .ok (.iload_n 1, 1) := by decide +kernel
theorem dX11_figure_30 : decode cX11_figure 30 = .ok (.iadd, 1) := by decide +kernel
theorem dX11_figure_31 : decode cX11_figure 31 = .ok (.iaload, 1) := by decide +kernel
theorem dX11_figure_32 : decode cX11_figure 32 = .ok (.ireturn, 1) := by decide +kernel
theorem dX11_coin_0 : decode cX11_coin 0 = .ok (.iload_n 1, 1) := by decide +kernel
theorem dX11_coin_1 : decode cX11_coin 1 = .ok (.i2l, 1) := by decide +kernel
theorem dX11_coin_2 : decode cX11_coin 2 = .ok (.lconst 0, 1) := by decide +kernel
theorem dX11_coin_3 : decode cX11_coin 3 = .ok (.aload_n 0, 1) := by decide +kernel
theorem dX11_coin_4 : decode cX11_coin 4 = .ok (.getfield 19, 3) := by decide +kernel
theorem dX11_coin_7 : decode cX11_coin 7 = .ok (.iconst 0, 1) := by decide +kernel
theorem dX11_coin_8 : decode cX11_coin 8 = .ok (.iaload, 1) := by decide +kernel
theorem dX11_coin_9 : decode cX11_coin 9 = .ok (.iconst 1, 1) := by decide +kernel
theorem dX11_coin_10 : decode cX11_coin 10 = .ok (.isub, 1) := by decide +kernel
theorem dX11_coin_11 : decode cX11_coin 11 = .ok (.i2l, 1) := by decide +kernel
theorem dX11_coin_12 : decode cX11_coin 12 = .ok (.invokestatic 72, 3) := by decide +kernel
theorem dX11_coin_15 : decode cX11_coin 15 = .ok (.ifCond .eq 12, 3) := by decide +kernel
theorem dX11_coin_18 : decode cX11_coin 18 = .ok (.aload_n 0, 1) := by decide +kernel
theorem dX11_coin_19 : decode cX11_coin 19 = .ok (.getfield 16, 3) := by decide +kernel
theorem dX11_coin_22 : decode cX11_coin 22 = .ok (.iload_n 1, 1) := by decide +kernel
theorem dX11_coin_23 : decode cX11_coin 23 = .ok (.iaload, 1) := by decide +kernel
theorem dX11_coin_24 : decode cX11_coin 24 = .ok (.goto 4, 3) := by decide +kernel
theorem dX11_coin_27 : decode cX11_coin 27 = .ok (.iconst (-1), 1) := by decide +kernel
theorem dX11_coin_28 : decode cX11_coin 28 = .ok (.ireturn, 1) := by decide +kernel
theorem dX11_note_0 : decode cX11_note 0 = .ok (.aload_n 0, 1) := by decide +kernel
theorem dX11_note_1 : decode cX11_note 1 = .ok (.getfield 119, 3) := by decide +kernel
theorem dX11_note_4 : decode cX11_note 4 = .ok (.bipush 8, 2) := by decide +kernel
theorem dX11_note_6 : decode cX11_note 6 = .ok (.if_icmp .ne 43, 3) := by decide +kernel
theorem dX11_note_9 : decode cX11_note 9 = .ok (.iconst 0, 1) := by decide +kernel
theorem dX11_note_10 : decode cX11_note 10 = .ok (.istore_n 1, 1) := by decide +kernel
theorem dX11_note_11 : decode cX11_note 11 = .ok (.iload_n 1, 1) := by decide +kernel
theorem dX11_note_12 : decode cX11_note 12 = .ok (.sipush 140, 3) := by decide +kernel
theorem dX11_note_15 : decode cX11_note 15 = .ok (.if_icmp .ge 24, 3) := by decide +kernel
theorem dX11_note_18 : decode cX11_note 18 = .ok (.aload_n 0, 1) := by decide +kernel
theorem dX11_note_19 : decode cX11_note 19 = .ok (.getfield 37, 3) := by decide +kernel
theorem dX11_note_22 : decode cX11_note 22 = .ok (.iload_n 1, 1) := by decide +kernel
theorem dX11_note_23 : decode cX11_note 23 = .ok (.aload_n 0, 1) := by decide +kernel
theorem dX11_note_24 : decode cX11_note 24 = .ok (.getfield 37, 3) := by decide +kernel
theorem dX11_note_27 : decode cX11_note 27 = .ok (.bipush 20, 2) := by decide +kernel
theorem dX11_note_29 : decode cX11_note 29 = .ok (.iload_n 1, 1) := by decide +kernel
theorem dX11_note_30 : decode cX11_note 30 = .ok (.iadd, 1) := by decide +kernel
theorem dX11_note_31 : decode cX11_note 31 = .ok (.iaload, 1) := by decide +kernel
theorem dX11_note_32 : decode cX11_note 32 = .ok (.iastore, 1) := by decide +kernel
theorem dX11_note_33 : decode cX11_note 33 = .ok (.iinc 1 1, 3) := by decide +kernel
theorem dX11_note_36 : decode cX11_note 36 = .ok (.goto (-25), 3) := by decide +kernel
theorem dX11_note_39 : decode cX11_note 39 = .ok (.aload_n 0, 1) := by decide +kernel
theorem dX11_note_40 : decode cX11_note 40 = .ok (.dup, 1) := by decide +kernel
theorem dX11_note_41 : decode cX11_note 41 = .ok (.getfield 119, 3) := by decide +kernel
theorem dX11_note_44 : decode cX11_note 44 = .ok (.iconst 1, 1) := by decide +kernel
theorem dX11_note_45 : decode cX11_note 45 = .ok (.isub, 1) := by decide +kernel
theorem dX11_note_46 : decode cX11_note 46 = .ok (.putfield 119, 3) := by decide +kernel
theorem dX11_note_49 : decode cX11_note 49 = .ok (.iconst 0, 1) := by decide +kernel
theorem dX11_note_50 : decode cX11_note 50 = .ok (.istore_n 1, 1) := by decide +kernel
theorem dX11_note_51 : decode cX11_note 51 = .ok (.iload_n 1, 1) := by decide +kernel
theorem dX11_note_52 : decode cX11_note 52 = .ok (.bipush 20, 2) := by decide +kernel
theorem dX11_note_54 : decode cX11_note 54 = .ok (.if_icmp .ge 29, 3) := by decide +kernel
theorem dX11_note_57 : decode cX11_note 57 = .ok (.aload_n 0, 1) := by decide +kernel
theorem dX11_note_58 : decode cX11_note 58 = .ok (.getfield 37, 3) := by decide +kernel
theorem dX11_note_61 : decode cX11_note 61 = .ok (.bipush 20, 2) := by decide +kernel
theorem dX11_note_63 : decode cX11_note 63 = .ok (.aload_n 0, 1) := by decide +kernel
theorem dX11_note_64 : decode cX11_note 64 = .ok (.getfield 119, 3) := by decide +kernel
theorem dX11_note_67 : decode cX11_note 67 = .ok (.imul, 1) := by decide +kernel
theorem dX11_note_68 : decode cX11_note 68 = .ok (.iload_n 1, 1) := by decide +kernel
theorem dX11_note_69 : decode cX11_note 69 = .ok (.iadd, 1) := by decide +kernel
theorem dX11_note_70 : decode cX11_note 70 = .ok (.aload_n 0, 1) := by decide +kernel
theorem dX11_note_71 : decode cX11_note 71 = .ok (.getfield 34, 3) := by decide +kernel
theorem dX11_note_74 : decode cX11_note 74 = .ok (.iload_n 1, 1) := by decide +kernel
theorem dX11_note_75 : decode cX11_note 75 = .ok (.iaload, 1) := by decide +kernel
theorem dX11_note_76 : decode cX11_note 76 = .ok (.iastore, 1) := by decide +kernel
theorem dX11_note_77 : decode cX11_note 77 = .ok (.iinc 1 1, 3) := by decide +kernel
theorem dX11_note_80 : decode cX11_note 80 = .ok (.goto (-29), 3) := by decide +kernel
theorem dX11_note_83 : decode cX11_note 83 = .ok (.aload_n 0, 1) := by decide +kernel
theorem dX11_note_84 : decode cX11_note 84 = .ok (.dup, 1) := by decide +kernel
theorem dX11_note_85 : decode cX11_note 85 = .ok (.getfield 119, 3) := by decide +kernel
theorem dX11_note_88 : decode cX11_note 88 = .ok (.iconst 1, 1) := by decide +kernel
theorem dX11_note_89 : decode cX11_note 89 = .ok (.iadd, 1) := by decide +kernel
theorem dX11_note_90 : decode cX11_note 90 = .ok (.putfield 119, 3) := by decide +kernel
theorem dX11_note_93 : decode cX11_note 93 = .ok (.return_, 1) := by decide +kernel
theorem dX11_strike_0 : decode cX11_strike 0 = .ok (.iload_n 1, 1) := by decide +kernel
theorem dX11_strike_1 : decode cX11_strike 1 = .ok (.invokestatic 128, 3) := by decide +kernel
theorem dX11_strike_4 : decode cX11_strike 4 = .ok (.ifCond .eq 13, 3) := by decide +kernel
theorem dX11_strike_7 : decode cX11_strike 7 = .ok (.iload_n 2, 1) := by decide +kernel
theorem dX11_strike_8 : decode cX11_strike 8 = .ok (.i2l, 1) := by decide +kernel
theorem dX11_strike_9 : decode cX11_strike 9 = .ok (.lconst 0, 1) := by decide +kernel
theorem dX11_strike_10 : decode cX11_strike 10 = .ok (.lconst 1, 1) := by decide +kernel
theorem dX11_strike_11 : decode cX11_strike 11 = .ok (.invokestatic 72, 3) := by decide +kernel
theorem dX11_strike_14 : decode cX11_strike 14 = .ok (.ifCond .ne 5, 3) := by decide +kernel
theorem dX11_strike_17 : decode cX11_strike 17 = .ok (.iconst (-1), 1) := by decide +kernel
theorem dX11_strike_18 : decode cX11_strike 18 = .ok (.ireturn, 1) := by decide +kernel
theorem dX11_strike_19 : decode cX11_strike 19 = .ok (.aload_n 0, 1) := by decide +kernel
theorem dX11_strike_20 : decode cX11_strike 20 = .ok (.getfield 34, 3) := by decide +kernel
theorem dX11_strike_23 : decode cX11_strike 23 = .ok (.iload_n 1, 1) := by decide +kernel
theorem dX11_strike_24 : decode cX11_strike 24 = .ok (.iaload, 1) := by decide +kernel
theorem dX11_strike_25 : decode cX11_strike 25 = .ok (.iload_n 2, 1) := by decide +kernel
theorem dX11_strike_26 : decode cX11_strike 26 = .ok (.if_icmp .ne 6, 3) := by decide +kernel
theorem dX11_strike_29 : decode cX11_strike 29 = .ok (.bipush (-2), 2) := by decide +kernel
theorem dX11_strike_31 : decode cX11_strike 31 = .ok (.ireturn, 1) := by decide +kernel
theorem dX11_strike_32 : decode cX11_strike 32 = .ok (.aload_n 0, 1) := by decide +kernel
theorem dX11_strike_33 : decode cX11_strike 33 = .ok (.invokevirtual 131, 3) := by decide +kernel
theorem dX11_strike_36 : decode cX11_strike 36 = .ok (.aload_n 0, 1) := by decide +kernel
theorem dX11_strike_37 : decode cX11_strike 37 = .ok (.getfield 34, 3) := by decide +kernel
theorem dX11_strike_40 : decode cX11_strike 40 = .ok (.iload_n 1, 1) := by decide +kernel
theorem dX11_strike_41 : decode cX11_strike 41 = .ok (.iload_n 2, 1) := by decide +kernel
theorem dX11_strike_42 : decode cX11_strike 42 = .ok (.iastore, 1) := by decide +kernel
theorem dX11_strike_43 : decode cX11_strike 43 = .ok (.aload_n 0, 1) := by decide +kernel
theorem dX11_strike_44 : decode cX11_strike 44 = .ok (.invokevirtual 116, 3) := by decide +kernel
theorem dX11_strike_47 : decode cX11_strike 47 = .ok (.ireturn, 1) := by decide +kernel
theorem dX11_standIn_0 : decode cX11_standIn 0 = .ok (.iload_n 1, 1) := by decide +kernel
theorem dX11_standIn_1 : decode cX11_standIn 1 = .ok (.invokestatic 128, 3) := by decide +kernel
theorem dX11_standIn_4 : decode cX11_standIn 4 = .ok (.ifCond .eq 10, 3) := by decide +kernel
theorem dX11_standIn_7 : decode cX11_standIn 7 = .ok (.iload_n 2, 1) := by decide +kernel
theorem dX11_standIn_8 : decode cX11_standIn 8 = .ok (.invokestatic 128, 3) := by decide +kernel
theorem dX11_standIn_11 : decode cX11_standIn 11 = .ok (.ifCond .ne 5, 3) := by decide +kernel
theorem dX11_standIn_14 : decode cX11_standIn 14 = .ok (.iconst (-1), 1) := by decide +kernel
theorem dX11_standIn_15 : decode cX11_standIn 15 = .ok (.ireturn, 1) := by decide +kernel
theorem dX11_standIn_16 : decode cX11_standIn 16 = .ok (.aload_n 0, 1) := by decide +kernel
theorem dX11_standIn_17 : decode cX11_standIn 17 = .ok (.invokevirtual 131, 3) := by decide +kernel
theorem dX11_standIn_20 : decode cX11_standIn 20 = .ok (.aload_n 0, 1) := by decide +kernel
theorem dX11_standIn_21 : decode cX11_standIn 21 = .ok (.getfield 34, 3) := by decide +kernel
theorem dX11_standIn_24 : decode cX11_standIn 24 = .ok (.bipush 10, 2) := by decide +kernel
theorem dX11_standIn_26 : decode cX11_standIn 26 = .ok (.iload_n 1, 1) := by decide +kernel
theorem dX11_standIn_27 : decode cX11_standIn 27 = .ok (.iadd, 1) := by decide +kernel
theorem dX11_standIn_28 : decode cX11_standIn 28 = .ok (.iaload, 1) := by decide +kernel
theorem dX11_standIn_29 : decode cX11_standIn 29 = .ok (.istore_n 3, 1) := by decide +kernel
theorem dX11_standIn_30 : decode cX11_standIn 30 = .ok (.aload_n 0, 1) := by decide +kernel
theorem dX11_standIn_31 : decode cX11_standIn 31 = .ok (.getfield 34, 3) := by decide +kernel
theorem dX11_standIn_34 : decode cX11_standIn 34 = .ok (.bipush 10, 2) := by decide +kernel
theorem dX11_standIn_36 : decode cX11_standIn 36 = .ok (.iload_n 1, 1) := by decide +kernel
theorem dX11_standIn_37 : decode cX11_standIn 37 = .ok (.iadd, 1) := by decide +kernel
theorem dX11_standIn_38 : decode cX11_standIn 38 = .ok (.iload_n 2, 1) := by decide +kernel
theorem dX11_standIn_39 : decode cX11_standIn 39 = .ok (.iastore, 1) := by decide +kernel
theorem dX11_standIn_40 : decode cX11_standIn 40 = .ok (.iload_n 3, 1) := by decide +kernel
theorem dX11_standIn_41 : decode cX11_standIn 41 = .ok (.ireturn, 1) := by decide +kernel
theorem dX11_undo_0 : decode cX11_undo 0 = .ok (.aload_n 0, 1) := by decide +kernel
theorem dX11_undo_1 : decode cX11_undo 1 = .ok (.getfield 119, 3) := by decide +kernel
theorem dX11_undo_4 : decode cX11_undo 4 = .ok (.ifCond .ne 6, 3) := by decide +kernel
theorem dX11_undo_7 : decode cX11_undo 7 = .ok (.bipush (-2), 2) := by decide +kernel
theorem dX11_undo_9 : decode cX11_undo 9 = .ok (.ireturn, 1) := by decide +kernel
theorem dX11_undo_10 : decode cX11_undo 10 = .ok (.aload_n 0, 1) := by decide +kernel
theorem dX11_undo_11 : decode cX11_undo 11 = .ok (.dup, 1) := by decide +kernel
theorem dX11_undo_12 : decode cX11_undo 12 = .ok (.getfield 119, 3) := by decide +kernel
theorem dX11_undo_15 : decode cX11_undo 15 = .ok (.iconst 1, 1) := by decide +kernel
theorem dX11_undo_16 : decode cX11_undo 16 = .ok (.isub, 1) := by decide +kernel
theorem dX11_undo_17 : decode cX11_undo 17 = .ok (.putfield 119, 3) := by decide +kernel
theorem dX11_undo_20 : decode cX11_undo 20 = .ok (.iconst 0, 1) := by decide +kernel
theorem dX11_undo_21 : decode cX11_undo 21 = .ok (.istore_n 1, 1) := by decide +kernel
theorem dX11_undo_22 : decode cX11_undo 22 = .ok (.iload_n 1, 1) := by decide +kernel
theorem dX11_undo_23 : decode cX11_undo 23 = .ok (.bipush 20, 2) := by decide +kernel
theorem dX11_undo_25 : decode cX11_undo 25 = .ok (.if_icmp .ge 29, 3) := by decide +kernel
theorem dX11_undo_28 : decode cX11_undo 28 = .ok (.aload_n 0, 1) := by decide +kernel
theorem dX11_undo_29 : decode cX11_undo 29 = .ok (.getfield 34, 3) := by decide +kernel
theorem dX11_undo_32 : decode cX11_undo 32 = .ok (.iload_n 1, 1) := by decide +kernel
theorem dX11_undo_33 : decode cX11_undo 33 = .ok (.aload_n 0, 1) := by decide +kernel
theorem dX11_undo_34 : decode cX11_undo 34 = .ok (.getfield 37, 3) := by decide +kernel
theorem dX11_undo_37 : decode cX11_undo 37 = .ok (.bipush 20, 2) := by decide +kernel
theorem dX11_undo_39 : decode cX11_undo 39 = .ok (.aload_n 0, 1) := by decide +kernel
theorem dX11_undo_40 : decode cX11_undo 40 = .ok (.getfield 119, 3) := by decide +kernel
theorem dX11_undo_43 : decode cX11_undo 43 = .ok (.imul, 1) := by decide +kernel
theorem dX11_undo_44 : decode cX11_undo 44 = .ok (.iload_n 1, 1) := by decide +kernel
theorem dX11_undo_45 : decode cX11_undo 45 = .ok (.iadd, 1) := by decide +kernel
theorem dX11_undo_46 : decode cX11_undo 46 = .ok (.iaload, 1) := by decide +kernel
theorem dX11_undo_47 : decode cX11_undo 47 = .ok (.iastore, 1) := by decide +kernel
theorem dX11_undo_48 : decode cX11_undo 48 = .ok (.iinc 1 1, 3) := by decide +kernel
theorem dX11_undo_51 : decode cX11_undo 51 = .ok (.goto (-29), 3) := by decide +kernel
theorem dX11_undo_54 : decode cX11_undo 54 = .ok (.aload_n 0, 1) := by decide +kernel
theorem dX11_undo_55 : decode cX11_undo 55 = .ok (.getfield 119, 3) := by decide +kernel
theorem dX11_undo_58 : decode cX11_undo 58 = .ok (.ireturn, 1) := by decide +kernel
theorem dX11_canSay_0 : decode cX11_canSay 0 = .ok (.iload_n 1, 1) := by decide +kernel
theorem dX11_canSay_1 : decode cX11_canSay 1 = .ok (.bipush 10, 2) := by decide +kernel
theorem dX11_canSay_3 : decode cX11_canSay 3 = .ok (.idiv, 1) := by decide +kernel
theorem dX11_canSay_4 : decode cX11_canSay 4 = .ok (.istore_n 2, 1) := by decide +kernel
theorem dX11_canSay_5 : decode cX11_canSay 5 = .ok (.aload_n 0, 1) := by decide +kernel
theorem dX11_canSay_6 : decode cX11_canSay 6 = .ok (.getfield 34, 3) := by decide +kernel
theorem dX11_canSay_9 : decode cX11_canSay 9 = .ok (.iload_n 1, 1) := by decide +kernel
theorem dX11_canSay_10 : decode cX11_canSay 10 = .ok (.bipush 10, 2) := by decide +kernel
theorem dX11_canSay_12 : decode cX11_canSay 12 = .ok (.irem, 1) := by decide +kernel
theorem dX11_canSay_13 : decode cX11_canSay 13 = .ok (.iaload, 1) := by decide +kernel
theorem dX11_canSay_14 : decode cX11_canSay 14 = .ok (.ifCond .ne 7, 3) := by decide +kernel
theorem dX11_canSay_17 : decode cX11_canSay 17 = .ok (.iconst 1, 1) := by decide +kernel
theorem dX11_canSay_18 : decode cX11_canSay 18 = .ok (.goto 4, 3) := by decide +kernel
theorem dX11_canSay_21 : decode cX11_canSay 21 = .ok (.iconst 0, 1) := by decide +kernel
theorem dX11_canSay_22 : decode cX11_canSay 22 = .ok (.istore_n 3, 1) := by decide +kernel
theorem dX11_canSay_23 : decode cX11_canSay 23 = .ok (.iload_n 2, 1) := by decide +kernel
theorem dX11_canSay_24 : decode cX11_canSay 24 = .ok (.ifCond .le 33, 3) := by decide +kernel
theorem dX11_canSay_27 : decode cX11_canSay 27 = .ok (.iload_n 3, 1) := by decide +kernel
theorem dX11_canSay_28 : decode cX11_canSay 28 = .ok (.ifCond .eq 29, 3) := by decide +kernel
theorem dX11_canSay_31 : decode cX11_canSay 31 = .ok (.aload_n 0, 1) := by decide +kernel
theorem dX11_canSay_32 : decode cX11_canSay 32 = .ok (.getfield 34, 3) := by decide +kernel
theorem dX11_canSay_35 : decode cX11_canSay 35 = .ok (.iload_n 2, 1) := by decide +kernel
theorem dX11_canSay_36 : decode cX11_canSay 36 = .ok (.bipush 10, 2) := by decide +kernel
theorem dX11_canSay_38 : decode cX11_canSay 38 = .ok (.irem, 1) := by decide +kernel
theorem dX11_canSay_39 : decode cX11_canSay 39 = .ok (.iaload, 1) := by decide +kernel
theorem dX11_canSay_40 : decode cX11_canSay 40 = .ok (.ifCond .ne 7, 3) := by decide +kernel
theorem dX11_canSay_43 : decode cX11_canSay 43 = .ok (.iconst 1, 1) := by decide +kernel
theorem dX11_canSay_44 : decode cX11_canSay 44 = .ok (.goto 4, 3) := by decide +kernel
theorem dX11_canSay_47 : decode cX11_canSay 47 = .ok (.iconst 0, 1) := by decide +kernel
theorem dX11_canSay_48 : decode cX11_canSay 48 = .ok (.istore_n 3, 1) := by decide +kernel
theorem dX11_canSay_49 : decode cX11_canSay 49 = .ok (.iload_n 2, 1) := by decide +kernel
theorem dX11_canSay_50 : decode cX11_canSay 50 = .ok (.bipush 10, 2) := by decide +kernel
theorem dX11_canSay_52 : decode cX11_canSay 52 = .ok (.idiv, 1) := by decide +kernel
theorem dX11_canSay_53 : decode cX11_canSay 53 = .ok (.istore_n 2, 1) := by decide +kernel
theorem dX11_canSay_54 : decode cX11_canSay 54 = .ok (.goto (-31), 3) := by decide +kernel
theorem dX11_canSay_57 : decode cX11_canSay 57 = .ok (.iload_n 3, 1) := by decide +kernel
theorem dX11_canSay_58 : decode cX11_canSay 58 = .ok (.ireturn, 1) := by decide +kernel
theorem dX11_sayable_0 : decode cX11_sayable 0 = .ok (.iconst 0, 1) := by decide +kernel
theorem dX11_sayable_1 : decode cX11_sayable 1 = .ok (.istore_n 2, 1) := by decide +kernel
theorem dX11_sayable_2 : decode cX11_sayable 2 = .ok (.iconst 0, 1) := by decide +kernel
theorem dX11_sayable_3 : decode cX11_sayable 3 = .ok (.istore_n 3, 1) := by decide +kernel
theorem dX11_sayable_4 : decode cX11_sayable 4 = .ok (.iload_n 3, 1) := by decide +kernel
theorem dX11_sayable_5 : decode cX11_sayable 5 = .ok (.iload_n 1, 1) := by decide +kernel
theorem dX11_sayable_6 : decode cX11_sayable 6 = .ok (.if_icmp .gt 25, 3) := by decide +kernel
theorem dX11_sayable_9 : decode cX11_sayable 9 = .ok (.iload_n 2, 1) := by decide +kernel
theorem dX11_sayable_10 : decode cX11_sayable 10 = .ok (.aload_n 0, 1) := by decide +kernel
theorem dX11_sayable_11 : decode cX11_sayable 11 = .ok (.iload_n 3, 1) := by decide +kernel
theorem dX11_sayable_12 : decode cX11_sayable 12 = .ok (.invokevirtual 134, 3) := by decide +kernel
theorem dX11_sayable_15 : decode cX11_sayable 15 = .ok (.ifCond .eq 7, 3) := by decide +kernel
theorem dX11_sayable_18 : decode cX11_sayable 18 = .ok (.iconst 1, 1) := by decide +kernel
theorem dX11_sayable_19 : decode cX11_sayable 19 = .ok (.goto 4, 3) := by decide +kernel
theorem dX11_sayable_22 : decode cX11_sayable 22 = .ok (.iconst 0, 1) := by decide +kernel
theorem dX11_sayable_23 : decode cX11_sayable 23 = .ok (.iadd, 1) := by decide +kernel
theorem dX11_sayable_24 : decode cX11_sayable 24 = .ok (.istore_n 2, 1) := by decide +kernel
theorem dX11_sayable_25 : decode cX11_sayable 25 = .ok (.iinc 3 1, 3) := by decide +kernel
theorem dX11_sayable_28 : decode cX11_sayable 28 = .ok (.goto (-24), 3) := by decide +kernel
theorem dX11_sayable_31 : decode cX11_sayable 31 = .ok (.iload_n 2, 1) := by decide +kernel
theorem dX11_sayable_32 : decode cX11_sayable 32 = .ok (.ireturn, 1) := by decide +kernel
theorem dX11_said_0 : decode cX11_said 0 = .ok (.iload_n 1, 1) := by decide +kernel
theorem dX11_said_1 : decode cX11_said 1 = .ok (.i2l, 1) := by decide +kernel
theorem dX11_said_2 : decode cX11_said 2 = .ok (.lconst 0, 1) := by decide +kernel
theorem dX11_said_3 : decode cX11_said 3 = .ok (.ldc2_w 137, 3) := by decide +kernel
theorem dX11_said_6 : decode cX11_said 6 = .ok (.invokestatic 72, 3) := by decide +kernel
theorem dX11_said_9 : decode cX11_said 9 = .ok (.ifCond .ne 7, 3) := by decide +kernel
theorem dX11_said_12 : decode cX11_said 12 = .ok (.iconst (-1), 1) := by decide +kernel
theorem dX11_said_13 : decode cX11_said 13 = .ok (.goto 16, 3) := by decide +kernel
theorem dX11_said_16 : decode cX11_said 16 = .ok (.aload_n 0, 1) := by decide +kernel
theorem dX11_said_17 : decode cX11_said 17 = .ok (.iload_n 1, 1) := by decide +kernel
theorem dX11_said_18 : decode cX11_said 18 = .ok (.invokevirtual 134, 3) := by decide +kernel
theorem dX11_said_21 : decode cX11_said 21 = .ok (.ifCond .eq 7, 3) := by decide +kernel
theorem dX11_said_24 : decode cX11_said 24 = .ok (.iconst 1, 1) := by decide +kernel
theorem dX11_said_25 : decode cX11_said 25 = .ok (.goto 4, 3) := by decide +kernel
theorem dX11_said_28 : decode cX11_said 28 = .ok (.iconst 0, 1) := by decide +kernel
theorem dX11_said_29 : decode cX11_said 29 = .ok (.ireturn, 1) := by decide +kernel
theorem dX11_next_0 : decode cX11_next 0 = .ok (.iload_n 1, 1) := by decide +kernel
theorem dX11_next_1 : decode cX11_next 1 = .ok (.i2l, 1) := by decide +kernel
theorem dX11_next_2 : decode cX11_next 2 = .ok (.lconst 0, 1) := by decide +kernel
theorem dX11_next_3 : decode cX11_next 3 = .ok (.ldc2_w 137, 3) := by decide +kernel
theorem dX11_next_6 : decode cX11_next 6 = .ok (.invokestatic 72, 3) := by decide +kernel
theorem dX11_next_9 : decode cX11_next 9 = .ok (.ifCond .ne 5, 3) := by decide +kernel
theorem dX11_next_12 : decode cX11_next 12 = .ok (.iconst (-1), 1) := by decide +kernel
theorem dX11_next_13 : decode cX11_next 13 = .ok (.ireturn, 1) := by decide +kernel
theorem dX11_next_14 : decode cX11_next 14 = .ok (.iload_n 1, 1) := by decide +kernel
theorem dX11_next_15 : decode cX11_next 15 = .ok (.iconst 1, 1) := by decide +kernel
theorem dX11_next_16 : decode cX11_next 16 = .ok (.iadd, 1) := by decide +kernel
theorem dX11_next_17 : decode cX11_next 17 = .ok (.istore_n 2, 1) := by decide +kernel
theorem dX11_next_18 : decode cX11_next 18 = .ok (.iload_n 2, 1) := by decide +kernel
theorem dX11_next_19 : decode cX11_next 19 = .ok (.ldc 139, 2) := by decide +kernel
theorem dX11_next_21 : decode cX11_next 21 = .ok (.if_icmp .gt 17, 3) := by decide +kernel
theorem dX11_next_24 : decode cX11_next 24 = .ok (.aload_n 0, 1) := by decide +kernel
theorem dX11_next_25 : decode cX11_next 25 = .ok (.iload_n 2, 1) := by decide +kernel
theorem dX11_next_26 : decode cX11_next 26 = .ok (.invokevirtual 134, 3) := by decide +kernel
theorem dX11_next_29 : decode cX11_next 29 = .ok (.ifCond .ne 9, 3) := by decide +kernel
theorem dX11_next_32 : decode cX11_next 32 = .ok (.iinc 2 1, 3) := by decide +kernel
theorem dX11_next_35 : decode cX11_next 35 = .ok (.goto (-17), 3) := by decide +kernel
theorem dX11_next_38 : decode cX11_next 38 = .ok (.iload_n 2, 1) := by decide +kernel
theorem dX11_next_39 : decode cX11_next 39 = .ok (.ldc 139, 2) := by decide +kernel
theorem dX11_next_41 : decode cX11_next 41 = .ok (.if_icmp .gt 7, 3) := by decide +kernel
theorem dX11_next_44 : decode cX11_next 44 = .ok (.iload_n 2, 1) := by decide +kernel
theorem dX11_next_45 : decode cX11_next 45 = .ok (.goto 5, 3) := by decide +kernel
theorem dX11_next_48 : decode cX11_next 48 = .ok (.bipush (-4), 2) := by decide +kernel
theorem dX11_next_50 : decode cX11_next 50 = .ok (.ireturn, 1) := by decide +kernel
theorem dX11_rank_0 : decode cX11_rank 0 = .ok (.iload_n 1, 1) := by decide +kernel
theorem dX11_rank_1 : decode cX11_rank 1 = .ok (.i2l, 1) := by decide +kernel
theorem dX11_rank_2 : decode cX11_rank 2 = .ok (.lconst 0, 1) := by decide +kernel
theorem dX11_rank_3 : decode cX11_rank 3 = .ok (.ldc2_w 137, 3) := by decide +kernel
theorem dX11_rank_6 : decode cX11_rank 6 = .ok (.invokestatic 72, 3) := by decide +kernel
theorem dX11_rank_9 : decode cX11_rank 9 = .ok (.ifCond .eq 11, 3) := by decide +kernel
theorem dX11_rank_12 : decode cX11_rank 12 = .ok (.aload_n 0, 1) := by decide +kernel
theorem dX11_rank_13 : decode cX11_rank 13 = .ok (.iload_n 1, 1) := by decide +kernel
theorem dX11_rank_14 : decode cX11_rank 14 = .ok (.invokevirtual 140, 3) := by decide +kernel
theorem dX11_rank_17 : decode cX11_rank 17 = .ok (.goto 4, 3) := by decide +kernel
theorem dX11_rank_20 : decode cX11_rank 20 = .ok (.iconst (-1), 1) := by decide +kernel
theorem dX11_rank_21 : decode cX11_rank 21 = .ok (.ireturn, 1) := by decide +kernel
theorem dX11_kth_0 : decode cX11_kth 0 = .ok (.iload_n 1, 1) := by decide +kernel
theorem dX11_kth_1 : decode cX11_kth 1 = .ok (.i2l, 1) := by decide +kernel
theorem dX11_kth_2 : decode cX11_kth 2 = .ok (.lconst 0, 1) := by decide +kernel
theorem dX11_kth_3 : decode cX11_kth 3 = .ok (.ldc2_w 137, 3) := by decide +kernel
theorem dX11_kth_6 : decode cX11_kth 6 = .ok (.invokestatic 72, 3) := by decide +kernel
theorem dX11_kth_9 : decode cX11_kth 9 = .ok (.ifCond .ne 5, 3) := by decide +kernel
theorem dX11_kth_12 : decode cX11_kth 12 = .ok (.iconst (-1), 1) := by decide +kernel
theorem dX11_kth_13 : decode cX11_kth 13 = .ok (.ireturn, 1) := by decide +kernel
theorem dX11_kth_14 : decode cX11_kth 14 = .ok (.iconst 0, 1) := by decide +kernel
theorem dX11_kth_15 : decode cX11_kth 15 = .ok (.istore_n 2, 1) := by decide +kernel
theorem dX11_kth_16 : decode cX11_kth 16 = .ok (.iconst 0, 1) := by decide +kernel
theorem dX11_kth_17 : decode cX11_kth 17 = .ok (.istore_n 3, 1) := by decide +kernel
theorem dX11_kth_18 : decode cX11_kth 18 = .ok (.iload_n 3, 1) := by decide +kernel
theorem dX11_kth_19 : decode cX11_kth 19 = .ok (.ldc 139, 2) := by decide +kernel
theorem dX11_kth_21 : decode cX11_kth 21 = .ok (.if_icmp .gt 27, 3) := by decide +kernel
theorem dX11_kth_24 : decode cX11_kth 24 = .ok (.aload_n 0, 1) := by decide +kernel
theorem dX11_kth_25 : decode cX11_kth 25 = .ok (.iload_n 3, 1) := by decide +kernel
theorem dX11_kth_26 : decode cX11_kth 26 = .ok (.invokevirtual 134, 3) := by decide +kernel
theorem dX11_kth_29 : decode cX11_kth 29 = .ok (.ifCond .eq 13, 3) := by decide +kernel
theorem dX11_kth_32 : decode cX11_kth 32 = .ok (.iload_n 2, 1) := by decide +kernel
theorem dX11_kth_33 : decode cX11_kth 33 = .ok (.iload_n 1, 1) := by decide +kernel
theorem dX11_kth_34 : decode cX11_kth 34 = .ok (.if_icmp .ne 5, 3) := by decide +kernel
theorem dX11_kth_37 : decode cX11_kth 37 = .ok (.iload_n 3, 1) := by decide +kernel
theorem dX11_kth_38 : decode cX11_kth 38 = .ok (.ireturn, 1) := by decide +kernel
theorem dX11_kth_39 : decode cX11_kth 39 = .ok (.iinc 2 1, 3) := by decide +kernel
theorem dX11_kth_42 : decode cX11_kth 42 = .ok (.iinc 3 1, 3) := by decide +kernel
theorem dX11_kth_45 : decode cX11_kth 45 = .ok (.goto (-27), 3) := by decide +kernel
theorem dX11_kth_48 : decode cX11_kth 48 = .ok (.bipush (-4), 2) := by decide +kernel
theorem dX11_kth_50 : decode cX11_kth 50 = .ok (.ireturn, 1) := by decide +kernel
theorem dX11_within_0 : decode cX11_within 0 = .ok (.lload_n 0, 1) := by decide +kernel
theorem dX11_within_1 : decode cX11_within 1 = .ok (.ldc2_w 143, 3) := by decide +kernel
theorem dX11_within_4 : decode cX11_within 4 = .ok (.lcmp, 1) := by decide +kernel
theorem dX11_within_5 : decode cX11_within 5 = .ok (.ifCond .le 9, 3) := by decide +kernel
theorem dX11_within_8 : decode cX11_within 8 = .ok (.ldc2_w 143, 3) := by decide +kernel
theorem dX11_within_11 : decode cX11_within 11 = .ok (.goto 18, 3) := by decide +kernel
theorem dX11_within_14 : decode cX11_within 14 = .ok (.lload_n 0, 1) := by decide +kernel
theorem dX11_within_15 : decode cX11_within 15 = .ok (.ldc2_w 145, 3) := by decide +kernel
theorem dX11_within_18 : decode cX11_within 18 = .ok (.lcmp, 1) := by decide +kernel
theorem dX11_within_19 : decode cX11_within 19 = .ok (.ifCond .ge 9, 3) := by decide +kernel
theorem dX11_within_22 : decode cX11_within 22 = .ok (.ldc2_w 145, 3) := by decide +kernel
theorem dX11_within_25 : decode cX11_within 25 = .ok (.goto 4, 3) := by decide +kernel
theorem dX11_within_28 : decode cX11_within 28 = .ok (.lload_n 0, 1) := by decide +kernel
theorem dX11_within_29 : decode cX11_within 29 = .ok (.lreturn, 1) := by decide +kernel
theorem dX11_numberOf_0 : decode cX11_numberOf 0 = .ok (.lconst 0, 1) := by decide +kernel
theorem dX11_numberOf_1 : decode cX11_numberOf 1 = .ok (.lstore_n 2, 1) := by decide +kernel
theorem dX11_numberOf_2 : decode cX11_numberOf 2 = .ok (.aload_n 0, 1) := by decide +kernel
theorem dX11_numberOf_3 : decode cX11_numberOf 3 = .ok (.getfield 147, 3) := by decide +kernel
theorem dX11_numberOf_6 : decode cX11_numberOf 6 = .ok (.aload_n 0, 1) := by decide +kernel
theorem dX11_numberOf_7 : decode cX11_numberOf 7 = .ok (.getfield 31, 3) := by decide +kernel
theorem dX11_numberOf_10 : decode cX11_numberOf 10 = .ok (.iconst 0, 1) := by decide +kernel
theorem dX11_numberOf_11 : decode cX11_numberOf 11 = .ok (.iaload, 1) := by decide +kernel
theorem dX11_numberOf_12 : decode cX11_numberOf 12 = .ok (.if_icmp .ge 83, 3) := by decide +kernel
theorem dX11_numberOf_15 : decode cX11_numberOf 15 = .ok (.aload_n 0, 1) := by decide +kernel
theorem dX11_numberOf_16 : decode cX11_numberOf 16 = .ok (.getfield 28, 3) := by decide +kernel
theorem dX11_numberOf_19 : decode cX11_numberOf 19 = .ok (.aload_n 0, 1) := by decide +kernel
theorem dX11_numberOf_20 : decode cX11_numberOf 20 = .ok (.getfield 147, 3) := by decide +kernel
theorem dX11_numberOf_23 : decode cX11_numberOf 23 = .ok (.iaload, 1) := by decide +kernel
theorem dX11_numberOf_24 : decode cX11_numberOf 24 = .ok (.invokestatic 97, 3) := by decide +kernel
theorem dX11_numberOf_27 : decode cX11_numberOf 27 = .ok (.ifCond .ne 68, 3) := by decide +kernel
theorem dX11_numberOf_30 : decode cX11_numberOf 30 = .ok (.aload_n 0, 1) := by decide +kernel
theorem dX11_numberOf_31 : decode cX11_numberOf 31 = .ok (.getfield 28, 3) := by decide +kernel
theorem dX11_numberOf_34 : decode cX11_numberOf 34 = .ok (.aload_n 0, 1) := by decide +kernel
theorem dX11_numberOf_35 : decode cX11_numberOf 35 = .ok (.getfield 147, 3) := by decide +kernel
theorem dX11_numberOf_38 : decode cX11_numberOf 38 = .ok (.iaload, 1) := by decide +kernel
theorem dX11_numberOf_39 : decode cX11_numberOf 39 = .ok (.bipush 48, 2) := by decide +kernel
theorem dX11_numberOf_41 : decode cX11_numberOf 41 = .ok (.isub, 1) := by decide +kernel
theorem dX11_numberOf_42 : decode cX11_numberOf 42 = .ok (.istore 4, 2) := by decide +kernel
theorem dX11_numberOf_44 : decode cX11_numberOf 44 = .ok (.ldc2_w 150, 3) := by decide +kernel
theorem dX11_numberOf_47 : decode cX11_numberOf 47 = .ok (.lload_n 2, 1) := by decide +kernel
theorem dX11_numberOf_48 : decode cX11_numberOf 48 = .ok (.lmul, 1) := by decide +kernel
theorem dX11_numberOf_49 : decode cX11_numberOf 49 = .ok (.iload_n 1, 1) := by decide +kernel
theorem dX11_numberOf_50 : decode cX11_numberOf 50 = .ok (.ifCond .eq 27, 3) := by decide +kernel
theorem dX11_numberOf_53 : decode cX11_numberOf 53 = .ok (.aload_n 0, 1) := by decide +kernel
theorem dX11_numberOf_54 : decode cX11_numberOf 54 = .ok (.getfield 34, 3) := by decide +kernel
theorem dX11_numberOf_57 : decode cX11_numberOf 57 = .ok (.iload 4, 2) := by decide +kernel
theorem dX11_numberOf_59 : decode cX11_numberOf 59 = .ok (.iaload, 1) := by decide +kernel
theorem dX11_numberOf_60 : decode cX11_numberOf 60 = .ok (.iconst 1, 1) := by decide +kernel
theorem dX11_numberOf_61 : decode cX11_numberOf 61 = .ok (.if_icmp .ne 16, 3) := by decide +kernel
theorem dX11_numberOf_64 : decode cX11_numberOf 64 = .ok (.aload_n 0, 1) := by decide +kernel
theorem dX11_numberOf_65 : decode cX11_numberOf 65 = .ok (.getfield 34, 3) := by decide +kernel
theorem dX11_numberOf_68 : decode cX11_numberOf 68 = .ok (.bipush 10, 2) := by decide +kernel
theorem dX11_numberOf_70 : decode cX11_numberOf 70 = .ok (.iload 4, 2) := by decide +kernel
theorem dX11_numberOf_72 : decode cX11_numberOf 72 = .ok (.iadd, 1) := by decide +kernel
theorem dX11_numberOf_73 : decode cX11_numberOf 73 = .ok (.iaload, 1) := by decide +kernel
theorem dX11_numberOf_74 : decode cX11_numberOf 74 = .ok (.goto 5, 3) := by decide +kernel
theorem dX11_numberOf_77 : decode cX11_numberOf 77 = .ok (.iload 4, 2) := by decide +kernel
theorem dX11_numberOf_79 : decode cX11_numberOf 79 = .ok (.i2l, 1) := by decide +kernel
theorem dX11_numberOf_80 : decode cX11_numberOf 80 = .ok (.ladd, 1) := by decide +kernel
theorem dX11_numberOf_81 : decode cX11_numberOf 81 = .ok (.lstore_n 2, 1) := by decide +kernel
theorem dX11_numberOf_82 : decode cX11_numberOf 82 = .ok (.aload_n 0, 1) := by decide +kernel
theorem dX11_numberOf_83 : decode cX11_numberOf 83 = .ok (.dup, 1) := by decide +kernel
theorem dX11_numberOf_84 : decode cX11_numberOf 84 = .ok (.getfield 147, 3) := by decide +kernel
theorem dX11_numberOf_87 : decode cX11_numberOf 87 = .ok (.iconst 1, 1) := by decide +kernel
theorem dX11_numberOf_88 : decode cX11_numberOf 88 = .ok (.iadd, 1) := by decide +kernel
theorem dX11_numberOf_89 : decode cX11_numberOf 89 = .ok (.putfield 147, 3) := by decide +kernel
theorem dX11_numberOf_92 : decode cX11_numberOf 92 = .ok (.goto (-90), 3) := by decide +kernel
theorem dX11_numberOf_95 : decode cX11_numberOf 95 = .ok (.lload_n 2, 1) := by decide +kernel
theorem dX11_numberOf_96 : decode cX11_numberOf 96 = .ok (.lreturn, 1) := by decide +kernel
theorem dX11_productOf_0 : decode cX11_productOf 0 = .ok (.aload_n 0, 1) := by decide +kernel
theorem dX11_productOf_1 : decode cX11_productOf 1 = .ok (.iload_n 1, 1) := by decide +kernel
theorem dX11_productOf_2 : decode cX11_productOf 2 = .ok (.invokevirtual 152, 3) := by decide +kernel
theorem dX11_productOf_5 : decode cX11_productOf 5 = .ok (.lstore_n 2, 1) := by decide +kernel
theorem dX11_productOf_6 : decode cX11_productOf 6 = .ok (.aload_n 0, 1) := by decide +kernel
theorem dX11_productOf_7 : decode cX11_productOf 7 = .ok (.getfield 147, 3) := by decide +kernel
theorem dX11_productOf_10 : decode cX11_productOf 10 = .ok (.aload_n 0, 1) := by decide +kernel
theorem dX11_productOf_11 : decode cX11_productOf 11 = .ok (.getfield 31, 3) := by decide +kernel
theorem dX11_productOf_14 : decode cX11_productOf 14 = .ok (.iconst 0, 1) := by decide +kernel
theorem dX11_productOf_15 : decode cX11_productOf 15 = .ok (.iaload, 1) := by decide +kernel
theorem dX11_productOf_16 : decode cX11_productOf 16 = .ok (.if_icmp .ge 41, 3) := by decide +kernel
theorem dX11_productOf_19 : decode cX11_productOf 19 = .ok (.aload_n 0, 1) := by decide +kernel
theorem dX11_productOf_20 : decode cX11_productOf 20 = .ok (.getfield 28, 3) := by decide +kernel
theorem dX11_productOf_23 : decode cX11_productOf 23 = .ok (.aload_n 0, 1) := by decide +kernel
theorem dX11_productOf_24 : decode cX11_productOf 24 = .ok (.getfield 147, 3) := by decide +kernel
theorem dX11_productOf_27 : decode cX11_productOf 27 = .ok (.iaload, 1) := by decide +kernel
theorem dX11_productOf_28 : decode cX11_productOf 28 = .ok (.bipush 42, 2) := by decide +kernel
theorem dX11_productOf_30 : decode cX11_productOf 30 = .ok (.if_icmp .ne 27, 3) := by decide +kernel
theorem dX11_productOf_33 : decode cX11_productOf 33 = .ok (.aload_n 0, 1) := by decide +kernel
theorem dX11_productOf_34 : decode cX11_productOf 34 = .ok (.dup, 1) := by decide +kernel
theorem dX11_productOf_35 : decode cX11_productOf 35 = .ok (.getfield 147, 3) := by decide +kernel
theorem dX11_productOf_38 : decode cX11_productOf 38 = .ok (.iconst 1, 1) := by decide +kernel
theorem dX11_productOf_39 : decode cX11_productOf 39 = .ok (.iadd, 1) := by decide +kernel
theorem dX11_productOf_40 : decode cX11_productOf 40 = .ok (.putfield 147, 3) := by decide +kernel
theorem dX11_productOf_43 : decode cX11_productOf 43 = .ok (.lload_n 2, 1) := by decide +kernel
theorem dX11_productOf_44 : decode cX11_productOf 44 = .ok (.aload_n 0, 1) := by decide +kernel
theorem dX11_productOf_45 : decode cX11_productOf 45 = .ok (.iload_n 1, 1) := by decide +kernel
theorem dX11_productOf_46 : decode cX11_productOf 46 = .ok (.invokevirtual 152, 3) := by decide +kernel
theorem dX11_productOf_49 : decode cX11_productOf 49 = .ok (.lmul, 1) := by decide +kernel
theorem dX11_productOf_50 : decode cX11_productOf 50 = .ok (.invokestatic 156, 3) := by decide +kernel
theorem dX11_productOf_53 : decode cX11_productOf 53 = .ok (.lstore_n 2, 1) := by decide +kernel
theorem dX11_productOf_54 : decode cX11_productOf 54 = .ok (.goto (-48), 3) := by decide +kernel
theorem dX11_productOf_57 : decode cX11_productOf 57 = .ok (.lload_n 2, 1) := by decide +kernel
theorem dX11_productOf_58 : decode cX11_productOf 58 = .ok (.lreturn, 1) := by decide +kernel
theorem dX11_worth_0 : decode cX11_worth 0 = .ok (.aload_n 0, 1) := by decide +kernel
theorem dX11_worth_1 : decode cX11_worth 1 = .ok (.iconst 0, 1) := by decide +kernel
theorem dX11_worth_2 : decode cX11_worth 2 = .ok (.putfield 147, 3) := by decide +kernel
theorem dX11_worth_5 : decode cX11_worth 5 = .ok (.aload_n 0, 1) := by decide +kernel
theorem dX11_worth_6 : decode cX11_worth 6 = .ok (.iload_n 1, 1) := by decide +kernel
theorem dX11_worth_7 : decode cX11_worth 7 = .ok (.invokevirtual 160, 3) := by decide +kernel
theorem dX11_worth_10 : decode cX11_worth 10 = .ok (.lstore_n 2, 1) := by decide +kernel
theorem dX11_worth_11 : decode cX11_worth 11 = .ok (.aload_n 0, 1) := by decide +kernel
theorem dX11_worth_12 : decode cX11_worth 12 = .ok (.getfield 147, 3) := by decide +kernel
theorem dX11_worth_15 : decode cX11_worth 15 = .ok (.aload_n 0, 1) := by decide +kernel
theorem dX11_worth_16 : decode cX11_worth 16 = .ok (.getfield 31, 3) := by decide +kernel
theorem dX11_worth_19 : decode cX11_worth 19 = .ok (.iconst 0, 1) := by decide +kernel
theorem dX11_worth_20 : decode cX11_worth 20 = .ok (.iaload, 1) := by decide +kernel
theorem dX11_worth_21 : decode cX11_worth 21 = .ok (.if_icmp .ge 56, 3) := by decide +kernel
theorem dX11_worth_24 : decode cX11_worth 24 = .ok (.aload_n 0, 1) := by decide +kernel
theorem dX11_worth_25 : decode cX11_worth 25 = .ok (.getfield 28, 3) := by decide +kernel
theorem dX11_worth_28 : decode cX11_worth 28 = .ok (.aload_n 0, 1) := by decide +kernel
theorem dX11_worth_29 : decode cX11_worth 29 = .ok (.getfield 147, 3) := by decide +kernel
theorem dX11_worth_32 : decode cX11_worth 32 = .ok (.iaload, 1) := by decide +kernel
theorem dX11_worth_33 : decode cX11_worth 33 = .ok (.istore 4, 2) := by decide +kernel
theorem dX11_worth_35 : decode cX11_worth 35 = .ok (.aload_n 0, 1) := by decide +kernel
theorem dX11_worth_36 : decode cX11_worth 36 = .ok (.dup, 1) := by decide +kernel
theorem dX11_worth_37 : decode cX11_worth 37 = .ok (.getfield 147, 3) := by decide +kernel
theorem dX11_worth_40 : decode cX11_worth 40 = .ok (.iconst 1, 1) := by decide +kernel
theorem dX11_worth_41 : decode cX11_worth 41 = .ok (.iadd, 1) := by decide +kernel
theorem dX11_worth_42 : decode cX11_worth 42 = .ok (.putfield 147, 3) := by decide +kernel
theorem dX11_worth_45 : decode cX11_worth 45 = .ok (.aload_n 0, 1) := by decide +kernel
theorem dX11_worth_46 : decode cX11_worth 46 = .ok (.iload_n 1, 1) := by decide +kernel
theorem dX11_worth_47 : decode cX11_worth 47 = .ok (.invokevirtual 160, 3) := by decide +kernel
theorem dX11_worth_50 : decode cX11_worth 50 = .ok (.lstore 5, 2) := by decide +kernel
theorem dX11_worth_52 : decode cX11_worth 52 = .ok (.iload 4, 2) := by decide +kernel
theorem dX11_worth_54 : decode cX11_worth 54 = .ok (.bipush 43, 2) := by decide +kernel
theorem dX11_worth_56 : decode cX11_worth 56 = .ok (.if_icmp .ne 10, 3) := by decide +kernel
theorem dX11_worth_59 : decode cX11_worth 59 = .ok (.lload_n 2, 1) := by decide +kernel
theorem dX11_worth_60 : decode cX11_worth 60 = .ok (.lload 5, 2) := by decide +kernel
theorem dX11_worth_62 : decode cX11_worth 62 = .ok (.ladd, 1) := by decide +kernel
theorem dX11_worth_63 : decode cX11_worth 63 = .ok (.goto 7, 3) := by decide +kernel
theorem dX11_worth_66 : decode cX11_worth 66 = .ok (.lload_n 2, 1) := by decide +kernel
theorem dX11_worth_67 : decode cX11_worth 67 = .ok (.lload 5, 2) := by decide +kernel
theorem dX11_worth_69 : decode cX11_worth 69 = .ok (.lsub, 1) := by decide +kernel
theorem dX11_worth_70 : decode cX11_worth 70 = .ok (.invokestatic 156, 3) := by decide +kernel
theorem dX11_worth_73 : decode cX11_worth 73 = .ok (.lstore_n 2, 1) := by decide +kernel
theorem dX11_worth_74 : decode cX11_worth 74 = .ok (.goto (-63), 3) := by decide +kernel
theorem dX11_worth_77 : decode cX11_worth 77 = .ok (.lload_n 2, 1) := by decide +kernel
theorem dX11_worth_78 : decode cX11_worth 78 = .ok (.l2i, 1) := by decide +kernel
theorem dX11_worth_79 : decode cX11_worth 79 = .ok (.ireturn, 1) := by decide +kernel
theorem dX11_sum_0 : decode cX11_sum 0 = .ok (.iload_n 1, 1) := by decide +kernel
theorem dX11_sum_1 : decode cX11_sum 1 = .ok (.i2l, 1) := by decide +kernel
theorem dX11_sum_2 : decode cX11_sum 2 = .ok (.lconst 0, 1) := by decide +kernel
theorem dX11_sum_3 : decode cX11_sum 3 = .ok (.ldc2_w 91, 3) := by decide +kernel
theorem dX11_sum_6 : decode cX11_sum 6 = .ok (.invokestatic 72, 3) := by decide +kernel
theorem dX11_sum_9 : decode cX11_sum 9 = .ok (.ifCond .ne 5, 3) := by decide +kernel
theorem dX11_sum_12 : decode cX11_sum 12 = .ok (.iconst (-1), 1) := by decide +kernel
theorem dX11_sum_13 : decode cX11_sum 13 = .ok (.ireturn, 1) := by decide +kernel
theorem dX11_sum_14 : decode cX11_sum 14 = .ok (.aload_n 0, 1) := by decide +kernel
theorem dX11_sum_15 : decode cX11_sum 15 = .ok (.getfield 31, 3) := by decide +kernel
theorem dX11_sum_18 : decode cX11_sum 18 = .ok (.iconst 0, 1) := by decide +kernel
theorem dX11_sum_19 : decode cX11_sum 19 = .ok (.iaload, 1) := by decide +kernel
theorem dX11_sum_20 : decode cX11_sum 20 = .ok (.ifCond .le 7, 3) := by decide +kernel
theorem dX11_sum_23 : decode cX11_sum 23 = .ok (.iconst 1, 1) := by decide +kernel
theorem dX11_sum_24 : decode cX11_sum 24 = .ok (.goto 4, 3) := by decide +kernel
theorem dX11_sum_27 : decode cX11_sum 27 = .ok (.iconst 0, 1) := by decide +kernel
theorem dX11_sum_28 : decode cX11_sum 28 = .ok (.istore_n 2, 1) := by decide +kernel
theorem dX11_sum_29 : decode cX11_sum 29 = .ok (.iconst 0, 1) := by decide +kernel
theorem dX11_sum_30 : decode cX11_sum 30 = .ok (.istore_n 3, 1) := by decide +kernel
theorem dX11_sum_31 : decode cX11_sum 31 = .ok (.iload_n 3, 1) := by decide +kernel
theorem dX11_sum_32 : decode cX11_sum 32 = .ok (.aload_n 0, 1) := by decide +kernel
theorem dX11_sum_33 : decode cX11_sum 33 = .ok (.getfield 31, 3) := by decide +kernel
theorem dX11_sum_36 : decode cX11_sum 36 = .ok (.iconst 0, 1) := by decide +kernel
theorem dX11_sum_37 : decode cX11_sum 37 = .ok (.iaload, 1) := by decide +kernel
theorem dX11_sum_38 : decode cX11_sum 38 = .ok (.if_icmp .ge 29, 3) := by decide +kernel
theorem dX11_sum_41 : decode cX11_sum 41 = .ok (.iload_n 2, 1) := by decide +kernel
theorem dX11_sum_42 : decode cX11_sum 42 = .ok (.aload_n 0, 1) := by decide +kernel
theorem dX11_sum_43 : decode cX11_sum 43 = .ok (.getfield 28, 3) := by decide +kernel
theorem dX11_sum_46 : decode cX11_sum 46 = .ok (.iload_n 3, 1) := by decide +kernel
theorem dX11_sum_47 : decode cX11_sum 47 = .ok (.iaload, 1) := by decide +kernel
theorem dX11_sum_48 : decode cX11_sum 48 = .ok (.invokestatic 97, 3) := by decide +kernel
theorem dX11_sum_51 : decode cX11_sum 51 = .ok (.ifCond .eq 7, 3) := by decide +kernel
theorem dX11_sum_54 : decode cX11_sum 54 = .ok (.iconst 1, 1) := by decide +kernel
theorem dX11_sum_55 : decode cX11_sum 55 = .ok (.goto 4, 3) := by decide +kernel
theorem dX11_sum_58 : decode cX11_sum 58 = .ok (.iconst 0, 1) := by decide +kernel
theorem dX11_sum_59 : decode cX11_sum 59 = .ok (.iadd, 1) := by decide +kernel
theorem dX11_sum_60 : decode cX11_sum 60 = .ok (.istore_n 2, 1) := by decide +kernel
theorem dX11_sum_61 : decode cX11_sum 61 = .ok (.iinc 3 1, 3) := by decide +kernel
theorem dX11_sum_64 : decode cX11_sum 64 = .ok (.goto (-33), 3) := by decide +kernel
theorem dX11_sum_67 : decode cX11_sum 67 = .ok (.iload_n 1, 1) := by decide +kernel
theorem dX11_sum_68 : decode cX11_sum 68 = .ok (.iconst 2, 1) := by decide +kernel
theorem dX11_sum_69 : decode cX11_sum 69 = .ok (.if_icmp .ne 7, 3) := by decide +kernel
theorem dX11_sum_72 : decode cX11_sum 72 = .ok (.iload_n 2, 1) := by decide +kernel
theorem dX11_sum_73 : decode cX11_sum 73 = .ok (.goto 17, 3) := by decide +kernel
theorem dX11_sum_76 : decode cX11_sum 76 = .ok (.aload_n 0, 1) := by decide +kernel
theorem dX11_sum_77 : decode cX11_sum 77 = .ok (.iload_n 1, 1) := by decide +kernel
theorem dX11_sum_78 : decode cX11_sum 78 = .ok (.iconst 1, 1) := by decide +kernel
theorem dX11_sum_79 : decode cX11_sum 79 = .ok (.if_icmp .ne 7, 3) := by decide +kernel
theorem dX11_sum_82 : decode cX11_sum 82 = .ok (.iconst 1, 1) := by decide +kernel
theorem dX11_sum_83 : decode cX11_sum 83 = .ok (.goto 4, 3) := by decide +kernel
theorem dX11_sum_86 : decode cX11_sum 86 = .ok (.iconst 0, 1) := by decide +kernel
theorem dX11_sum_87 : decode cX11_sum 87 = .ok (.invokevirtual 163, 3) := by decide +kernel
theorem dX11_sum_90 : decode cX11_sum 90 = .ok (.ireturn, 1) := by decide +kernel
theorem dX11_lettersOf_0 : decode cX11_lettersOf 0 = .ok (.iconst 1, 1) := by decide +kernel
theorem dX11_lettersOf_1 : decode cX11_lettersOf 1 = .ok (.istore_n 1, 1) := by decide +kernel
theorem dX11_lettersOf_2 : decode cX11_lettersOf 2 = .ok (.iload_n 0, 1) := by decide +kernel
theorem dX11_lettersOf_3 : decode cX11_lettersOf 3 = .ok (.bipush 10, 2) := by decide +kernel
theorem dX11_lettersOf_5 : decode cX11_lettersOf 5 = .ok (.idiv, 1) := by decide +kernel
theorem dX11_lettersOf_6 : decode cX11_lettersOf 6 = .ok (.istore_n 2, 1) := by decide +kernel
theorem dX11_lettersOf_7 : decode cX11_lettersOf 7 = .ok (.iload_n 2, 1) := by decide +kernel
theorem dX11_lettersOf_8 : decode cX11_lettersOf 8 = .ok (.ifCond .le 14, 3) := by decide +kernel
theorem dX11_lettersOf_11 : decode cX11_lettersOf 11 = .ok (.iinc 1 1, 3) := by decide +kernel
theorem dX11_lettersOf_14 : decode cX11_lettersOf 14 = .ok (.iload_n 2, 1) := by decide +kernel
theorem dX11_lettersOf_15 : decode cX11_lettersOf 15 = .ok (.bipush 10, 2) := by decide +kernel
theorem dX11_lettersOf_17 : decode cX11_lettersOf 17 = .ok (.idiv, 1) := by decide +kernel
theorem dX11_lettersOf_18 : decode cX11_lettersOf 18 = .ok (.istore_n 2, 1) := by decide +kernel
theorem dX11_lettersOf_19 : decode cX11_lettersOf 19 = .ok (.goto (-12), 3) := by decide +kernel
theorem dX11_lettersOf_22 : decode cX11_lettersOf 22 = .ok (.iload_n 1, 1) := by decide +kernel
theorem dX11_lettersOf_23 : decode cX11_lettersOf 23 = .ok (.ireturn, 1) := by decide +kernel
theorem dX11_noteWay_0 : decode cX11_noteWay 0 = .ok (.aload_n 0, 1) := by decide +kernel
theorem dX11_noteWay_1 : decode cX11_noteWay 1 = .ok (.iload_n 3, 1) := by decide +kernel
theorem dX11_noteWay_2 : decode cX11_noteWay 2 = .ok (.invokevirtual 134, 3) := by decide +kernel
theorem dX11_noteWay_5 : decode cX11_noteWay 5 = .ok (.ifCond .eq 16, 3) := by decide +kernel
theorem dX11_noteWay_8 : decode cX11_noteWay 8 = .ok (.iload_n 2, 1) := by decide +kernel
theorem dX11_noteWay_9 : decode cX11_noteWay 9 = .ok (.ifCond .le 13, 3) := by decide +kernel
theorem dX11_noteWay_12 : decode cX11_noteWay 12 = .ok (.aload_n 0, 1) := by decide +kernel
theorem dX11_noteWay_13 : decode cX11_noteWay 13 = .ok (.iload 4, 2) := by decide +kernel
theorem dX11_noteWay_15 : decode cX11_noteWay 15 = .ok (.invokevirtual 134, 3) := by decide +kernel
theorem dX11_noteWay_18 : decode cX11_noteWay 18 = .ok (.ifCond .ne 4, 3) := by decide +kernel
theorem dX11_noteWay_21 : decode cX11_noteWay 21 = .ok (.return_, 1) := by decide +kernel
theorem dX11_noteWay_22 : decode cX11_noteWay 22 = .ok (.iload_n 2, 1) := by decide +kernel
theorem dX11_noteWay_23 : decode cX11_noteWay 23 = .ok (.ifCond .ne 10, 3) := by decide +kernel
theorem dX11_noteWay_26 : decode cX11_noteWay 26 = .ok (.iload_n 1, 1) := by decide +kernel
theorem dX11_noteWay_27 : decode cX11_noteWay 27 = .ok (.invokestatic 167, 3) := by decide +kernel
theorem dX11_noteWay_30 : decode cX11_noteWay 30 = .ok (.goto 15, 3) := by decide +kernel
theorem dX11_noteWay_33 : decode cX11_noteWay 33 = .ok (.iload_n 3, 1) := by decide +kernel
theorem dX11_noteWay_34 : decode cX11_noteWay 34 = .ok (.invokestatic 167, 3) := by decide +kernel
theorem dX11_noteWay_37 : decode cX11_noteWay 37 = .ok (.iconst 1, 1) := by decide +kernel
theorem dX11_noteWay_38 : decode cX11_noteWay 38 = .ok (.iadd, 1) := by decide +kernel
theorem dX11_noteWay_39 : decode cX11_noteWay 39 = .ok (.iload 4, 2) := by decide +kernel
theorem dX11_noteWay_41 : decode cX11_noteWay 41 = .ok (.invokestatic 167, 3) := by decide +kernel
theorem dX11_noteWay_44 : decode cX11_noteWay 44 = .ok (.iadd, 1) := by decide +kernel
theorem dX11_noteWay_45 : decode cX11_noteWay 45 = .ok (.istore 5, 2) := by decide +kernel
theorem dX11_noteWay_47 : decode cX11_noteWay 47 = .ok (.aload_n 0, 1) := by decide +kernel
theorem dX11_noteWay_48 : decode cX11_noteWay 48 = .ok (.getfield 170, 3) := by decide +kernel
theorem dX11_noteWay_51 : decode cX11_noteWay 51 = .ok (.ifCond .eq 12, 3) := by decide +kernel
theorem dX11_noteWay_54 : decode cX11_noteWay 54 = .ok (.iload 5, 2) := by decide +kernel
theorem dX11_noteWay_56 : decode cX11_noteWay 56 = .ok (.aload_n 0, 1) := by decide +kernel
theorem dX11_noteWay_57 : decode cX11_noteWay 57 = .ok (.getfield 173, 3) := by decide +kernel
theorem dX11_noteWay_60 : decode cX11_noteWay 60 = .ok (.if_icmp .ge 25, 3) := by decide +kernel
theorem dX11_noteWay_63 : decode cX11_noteWay 63 = .ok (.aload_n 0, 1) := by decide +kernel
theorem dX11_noteWay_64 : decode cX11_noteWay 64 = .ok (.iload 5, 2) := by decide +kernel
theorem dX11_noteWay_66 : decode cX11_noteWay 66 = .ok (.putfield 173, 3) := by decide +kernel
theorem dX11_noteWay_69 : decode cX11_noteWay 69 = .ok (.aload_n 0, 1) := by decide +kernel
theorem dX11_noteWay_70 : decode cX11_noteWay 70 = .ok (.iload_n 2, 1) := by decide +kernel
theorem dX11_noteWay_71 : decode cX11_noteWay 71 = .ok (.putfield 176, 3) := by decide +kernel
theorem dX11_noteWay_74 : decode cX11_noteWay 74 = .ok (.aload_n 0, 1) := by decide +kernel
theorem dX11_noteWay_75 : decode cX11_noteWay 75 = .ok (.iload_n 3, 1) := by decide +kernel
theorem dX11_noteWay_76 : decode cX11_noteWay 76 = .ok (.putfield 179, 3) := by decide +kernel
theorem dX11_noteWay_79 : decode cX11_noteWay 79 = .ok (.aload_n 0, 1) := by decide +kernel
theorem dX11_noteWay_80 : decode cX11_noteWay 80 = .ok (.iload 4, 2) := by decide +kernel
theorem dX11_noteWay_82 : decode cX11_noteWay 82 = .ok (.putfield 182, 3) := by decide +kernel
theorem dX11_noteWay_85 : decode cX11_noteWay 85 = .ok (.aload_n 0, 1) := by decide +kernel
theorem dX11_noteWay_86 : decode cX11_noteWay 86 = .ok (.dup, 1) := by decide +kernel
theorem dX11_noteWay_87 : decode cX11_noteWay 87 = .ok (.getfield 170, 3) := by decide +kernel
theorem dX11_noteWay_90 : decode cX11_noteWay 90 = .ok (.iconst 1, 1) := by decide +kernel
theorem dX11_noteWay_91 : decode cX11_noteWay 91 = .ok (.iadd, 1) := by decide +kernel
theorem dX11_noteWay_92 : decode cX11_noteWay 92 = .ok (.putfield 170, 3) := by decide +kernel
theorem dX11_noteWay_95 : decode cX11_noteWay 95 = .ok (.return_, 1) := by decide +kernel
theorem dX11_goWays_0 : decode cX11_goWays 0 = .ok (.aload_n 0, 1) := by decide +kernel
theorem dX11_goWays_1 : decode cX11_goWays 1 = .ok (.iconst 0, 1) := by decide +kernel
theorem dX11_goWays_2 : decode cX11_goWays 2 = .ok (.putfield 170, 3) := by decide +kernel
theorem dX11_goWays_5 : decode cX11_goWays 5 = .ok (.aload_n 0, 1) := by decide +kernel
theorem dX11_goWays_6 : decode cX11_goWays 6 = .ok (.iload_n 1, 1) := by decide +kernel
theorem dX11_goWays_7 : decode cX11_goWays 7 = .ok (.iconst 0, 1) := by decide +kernel
theorem dX11_goWays_8 : decode cX11_goWays 8 = .ok (.iload_n 1, 1) := by decide +kernel
theorem dX11_goWays_9 : decode cX11_goWays 9 = .ok (.iconst 0, 1) := by decide +kernel
theorem dX11_goWays_10 : decode cX11_goWays 10 = .ok (.invokevirtual 185, 3) := by decide +kernel
theorem dX11_goWays_13 : decode cX11_goWays 13 = .ok (.iconst 0, 1) := by decide +kernel
theorem dX11_goWays_14 : decode cX11_goWays 14 = .ok (.istore_n 2, 1) := by decide +kernel
theorem dX11_goWays_15 : decode cX11_goWays 15 = .ok (.iconst 2, 1) := by decide +kernel
theorem dX11_goWays_16 : decode cX11_goWays 16 = .ok (.iload_n 2, 1) := by decide +kernel
theorem dX11_goWays_17 : decode cX11_goWays 17 = .ok (.imul, 1) := by decide +kernel
theorem dX11_goWays_18 : decode cX11_goWays 18 = .ok (.iload_n 1, 1) := by decide +kernel
theorem dX11_goWays_19 : decode cX11_goWays 19 = .ok (.if_icmp .gt 19, 3) := by decide +kernel
theorem dX11_goWays_22 : decode cX11_goWays 22 = .ok (.aload_n 0, 1) := by decide +kernel
theorem dX11_goWays_23 : decode cX11_goWays 23 = .ok (.iload_n 1, 1) := by decide +kernel
theorem dX11_goWays_24 : decode cX11_goWays 24 = .ok (.iconst 1, 1) := by decide +kernel
theorem dX11_goWays_25 : decode cX11_goWays 25 = .ok (.iload_n 2, 1) := by decide +kernel
theorem dX11_goWays_26 : decode cX11_goWays 26 = .ok (.iload_n 1, 1) := by decide +kernel
theorem dX11_goWays_27 : decode cX11_goWays 27 = .ok (.iload_n 2, 1) := by decide +kernel
theorem dX11_goWays_28 : decode cX11_goWays 28 = .ok (.isub, 1) := by decide +kernel
theorem dX11_goWays_29 : decode cX11_goWays 29 = .ok (.invokevirtual 185, 3) := by decide +kernel
theorem dX11_goWays_32 : decode cX11_goWays 32 = .ok (.iinc 2 1, 3) := by decide +kernel
theorem dX11_goWays_35 : decode cX11_goWays 35 = .ok (.goto (-20), 3) := by decide +kernel
theorem dX11_goWays_38 : decode cX11_goWays 38 = .ok (.iload_n 1, 1) := by decide +kernel
theorem dX11_goWays_39 : decode cX11_goWays 39 = .ok (.iconst 1, 1) := by decide +kernel
theorem dX11_goWays_40 : decode cX11_goWays 40 = .ok (.iadd, 1) := by decide +kernel
theorem dX11_goWays_41 : decode cX11_goWays 41 = .ok (.istore_n 2, 1) := by decide +kernel
theorem dX11_goWays_42 : decode cX11_goWays 42 = .ok (.iload_n 2, 1) := by decide +kernel
theorem dX11_goWays_43 : decode cX11_goWays 43 = .ok (.sipush 999, 3) := by decide +kernel
theorem dX11_goWays_46 : decode cX11_goWays 46 = .ok (.if_icmp .gt 19, 3) := by decide +kernel
theorem dX11_goWays_49 : decode cX11_goWays 49 = .ok (.aload_n 0, 1) := by decide +kernel
theorem dX11_goWays_50 : decode cX11_goWays 50 = .ok (.iload_n 1, 1) := by decide +kernel
theorem dX11_goWays_51 : decode cX11_goWays 51 = .ok (.iconst 2, 1) := by decide +kernel
theorem dX11_goWays_52 : decode cX11_goWays 52 = .ok (.iload_n 2, 1) := by decide +kernel
theorem dX11_goWays_53 : decode cX11_goWays 53 = .ok (.iload_n 2, 1) := by decide +kernel
theorem dX11_goWays_54 : decode cX11_goWays 54 = .ok (.iload_n 1, 1) := by decide +kernel
theorem dX11_goWays_55 : decode cX11_goWays 55 = .ok (.isub, 1) := by decide +kernel
theorem dX11_goWays_56 : decode cX11_goWays 56 = .ok (.invokevirtual 185, 3) := by decide +kernel
theorem dX11_goWays_59 : decode cX11_goWays 59 = .ok (.iinc 2 1, 3) := by decide +kernel
theorem dX11_goWays_62 : decode cX11_goWays 62 = .ok (.goto (-20), 3) := by decide +kernel
theorem dX11_goWays_65 : decode cX11_goWays 65 = .ok (.iconst 0, 1) := by decide +kernel
theorem dX11_goWays_66 : decode cX11_goWays 66 = .ok (.istore_n 2, 1) := by decide +kernel
theorem dX11_goWays_67 : decode cX11_goWays 67 = .ok (.iload_n 2, 1) := by decide +kernel
theorem dX11_goWays_68 : decode cX11_goWays 68 = .ok (.iload_n 2, 1) := by decide +kernel
theorem dX11_goWays_69 : decode cX11_goWays 69 = .ok (.imul, 1) := by decide +kernel
theorem dX11_goWays_70 : decode cX11_goWays 70 = .ok (.iload_n 1, 1) := by decide +kernel
theorem dX11_goWays_71 : decode cX11_goWays 71 = .ok (.if_icmp .gt 46, 3) := by decide +kernel
theorem dX11_goWays_74 : decode cX11_goWays 74 = .ok (.iload_n 2, 1) := by decide +kernel
theorem dX11_goWays_75 : decode cX11_goWays 75 = .ok (.istore_n 3, 1) := by decide +kernel
theorem dX11_goWays_76 : decode cX11_goWays 76 = .ok (.iload_n 3, 1) := by decide +kernel
theorem dX11_goWays_77 : decode cX11_goWays 77 = .ok (.sipush 999, 3) := by decide +kernel
theorem dX11_goWays_80 : decode cX11_goWays 80 = .ok (.if_icmp .gt 31, 3) := by decide +kernel
theorem dX11_goWays_83 : decode cX11_goWays 83 = .ok (.iload_n 2, 1) := by decide +kernel
theorem dX11_goWays_84 : decode cX11_goWays 84 = .ok (.iload_n 3, 1) := by decide +kernel
theorem dX11_goWays_85 : decode cX11_goWays 85 = .ok (.imul, 1) := by decide +kernel
theorem dX11_goWays_86 : decode cX11_goWays 86 = .ok (.iload_n 1, 1) := by decide +kernel
theorem dX11_goWays_87 : decode cX11_goWays 87 = .ok (.if_icmp .gt 24, 3) := by decide +kernel
theorem dX11_goWays_90 : decode cX11_goWays 90 = .ok (.iload_n 2, 1) := by decide +kernel
theorem dX11_goWays_91 : decode cX11_goWays 91 = .ok (.iload_n 3, 1) := by decide +kernel
theorem dX11_goWays_92 : decode cX11_goWays 92 = .ok (.imul, 1) := by decide +kernel
theorem dX11_goWays_93 : decode cX11_goWays 93 = .ok (.iload_n 1, 1) := by decide +kernel
theorem dX11_goWays_94 : decode cX11_goWays 94 = .ok (.if_icmp .ne 11, 3) := by decide +kernel
theorem dX11_goWays_97 : decode cX11_goWays 97 = .ok (.aload_n 0, 1) := by decide +kernel
theorem dX11_goWays_98 : decode cX11_goWays 98 = .ok (.iload_n 1, 1) := by decide +kernel
theorem dX11_goWays_99 : decode cX11_goWays 99 = .ok (.iconst 3, 1) := by decide +kernel
theorem dX11_goWays_100 : decode cX11_goWays 100 = .ok (.iload_n 2, 1) := by decide +kernel
theorem dX11_goWays_101 : decode cX11_goWays 101 = .ok (.iload_n 3, 1) := by decide +kernel
theorem dX11_goWays_102 : decode cX11_goWays 102 = .ok (.invokevirtual 185, 3) := by decide +kernel
theorem dX11_goWays_105 : decode cX11_goWays 105 = .ok (.iinc 3 1, 3) := by decide +kernel
theorem dX11_goWays_108 : decode cX11_goWays 108 = .ok (.goto (-32), 3) := by decide +kernel
theorem dX11_goWays_111 : decode cX11_goWays 111 = .ok (.iinc 2 1, 3) := by decide +kernel
theorem dX11_goWays_114 : decode cX11_goWays 114 = .ok (.goto (-47), 3) := by decide +kernel
theorem dX11_goWays_117 : decode cX11_goWays 117 = .ok (.return_, 1) := by decide +kernel
theorem dX11_ways_0 : decode cX11_ways 0 = .ok (.iload_n 1, 1) := by decide +kernel
theorem dX11_ways_1 : decode cX11_ways 1 = .ok (.i2l, 1) := by decide +kernel
theorem dX11_ways_2 : decode cX11_ways 2 = .ok (.lconst 0, 1) := by decide +kernel
theorem dX11_ways_3 : decode cX11_ways 3 = .ok (.ldc2_w 189, 3) := by decide +kernel
theorem dX11_ways_6 : decode cX11_ways 6 = .ok (.invokestatic 72, 3) := by decide +kernel
theorem dX11_ways_9 : decode cX11_ways 9 = .ok (.ifCond .ne 5, 3) := by decide +kernel
theorem dX11_ways_12 : decode cX11_ways 12 = .ok (.iconst (-1), 1) := by decide +kernel
theorem dX11_ways_13 : decode cX11_ways 13 = .ok (.ireturn, 1) := by decide +kernel
theorem dX11_ways_14 : decode cX11_ways 14 = .ok (.aload_n 0, 1) := by decide +kernel
theorem dX11_ways_15 : decode cX11_ways 15 = .ok (.iload_n 1, 1) := by decide +kernel
theorem dX11_ways_16 : decode cX11_ways 16 = .ok (.invokevirtual 191, 3) := by decide +kernel
theorem dX11_ways_19 : decode cX11_ways 19 = .ok (.aload_n 0, 1) := by decide +kernel
theorem dX11_ways_20 : decode cX11_ways 20 = .ok (.getfield 170, 3) := by decide +kernel
theorem dX11_ways_23 : decode cX11_ways 23 = .ok (.ireturn, 1) := by decide +kernel
theorem dX11_shortest_0 : decode cX11_shortest 0 = .ok (.iload_n 1, 1) := by decide +kernel
theorem dX11_shortest_1 : decode cX11_shortest 1 = .ok (.i2l, 1) := by decide +kernel
theorem dX11_shortest_2 : decode cX11_shortest 2 = .ok (.lconst 0, 1) := by decide +kernel
theorem dX11_shortest_3 : decode cX11_shortest 3 = .ok (.ldc2_w 189, 3) := by decide +kernel
theorem dX11_shortest_6 : decode cX11_shortest 6 = .ok (.invokestatic 72, 3) := by decide +kernel
theorem dX11_shortest_9 : decode cX11_shortest 9 = .ok (.ifCond .eq 15, 3) := by decide +kernel
theorem dX11_shortest_12 : decode cX11_shortest 12 = .ok (.iload_n 2, 1) := by decide +kernel
theorem dX11_shortest_13 : decode cX11_shortest 13 = .ok (.i2l, 1) := by decide +kernel
theorem dX11_shortest_14 : decode cX11_shortest 14 = .ok (.lconst 0, 1) := by decide +kernel
theorem dX11_shortest_15 : decode cX11_shortest 15 = .ok (.ldc2_w 194, 3) := by decide +kernel
theorem dX11_shortest_18 : decode cX11_shortest 18 = .ok (.invokestatic 72, 3) := by decide +kernel
theorem dX11_shortest_21 : decode cX11_shortest 21 = .ok (.ifCond .ne 5, 3) := by decide +kernel
theorem dX11_shortest_24 : decode cX11_shortest 24 = .ok (.iconst (-1), 1) := by decide +kernel
theorem dX11_shortest_25 : decode cX11_shortest 25 = .ok (.ireturn, 1) := by decide +kernel
theorem dX11_shortest_26 : decode cX11_shortest 26 = .ok (.aload_n 0, 1) := by decide +kernel
theorem dX11_shortest_27 : decode cX11_shortest 27 = .ok (.iload_n 1, 1) := by decide +kernel
theorem dX11_shortest_28 : decode cX11_shortest 28 = .ok (.invokevirtual 191, 3) := by decide +kernel
theorem dX11_shortest_31 : decode cX11_shortest 31 = .ok (.aload_n 0, 1) := by decide +kernel
theorem dX11_shortest_32 : decode cX11_shortest 32 = .ok (.getfield 170, 3) := by decide +kernel
theorem dX11_shortest_35 : decode cX11_shortest 35 = .ok (.ifCond .ne 6, 3) := by decide +kernel
theorem dX11_shortest_38 : decode cX11_shortest 38 = .ok (.bipush (-4), 2) := by decide +kernel
theorem dX11_shortest_40 : decode cX11_shortest 40 = .ok (.ireturn, 1) := by decide +kernel
theorem dX11_shortest_41 : decode cX11_shortest 41 = .ok (.iload_n 2, 1) := by decide +kernel
theorem dX11_shortest_42 : decode cX11_shortest 42 = .ok (.ifCond .ne 10, 3) := by decide +kernel
theorem dX11_shortest_45 : decode cX11_shortest 45 = .ok (.aload_n 0, 1) := by decide +kernel
theorem dX11_shortest_46 : decode cX11_shortest 46 = .ok (.getfield 173, 3) := by decide +kernel
theorem dX11_shortest_49 : decode cX11_shortest 49 = .ok (.goto 31, 3) := by decide +kernel
theorem dX11_shortest_52 : decode cX11_shortest 52 = .ok (.iload_n 2, 1) := by decide +kernel
theorem dX11_shortest_53 : decode cX11_shortest 53 = .ok (.iconst 1, 1) := by decide +kernel
theorem dX11_shortest_54 : decode cX11_shortest 54 = .ok (.if_icmp .ne 10, 3) := by decide +kernel
theorem dX11_shortest_57 : decode cX11_shortest 57 = .ok (.aload_n 0, 1) := by decide +kernel
theorem dX11_shortest_58 : decode cX11_shortest 58 = .ok (.getfield 176, 3) := by decide +kernel
theorem dX11_shortest_61 : decode cX11_shortest 61 = .ok (.goto 19, 3) := by decide +kernel
theorem dX11_shortest_64 : decode cX11_shortest 64 = .ok (.iload_n 2, 1) := by decide +kernel
theorem dX11_shortest_65 : decode cX11_shortest 65 = .ok (.iconst 2, 1) := by decide +kernel
theorem dX11_shortest_66 : decode cX11_shortest 66 = .ok (.if_icmp .ne 10, 3) := by decide +kernel
theorem dX11_shortest_69 : decode cX11_shortest 69 = .ok (.aload_n 0, 1) := by decide +kernel
theorem dX11_shortest_70 : decode cX11_shortest 70 = .ok (.getfield 179, 3) := by decide +kernel
theorem dX11_shortest_73 : decode cX11_shortest 73 = .ok (.goto 7, 3) := by decide +kernel
theorem dX11_shortest_76 : decode cX11_shortest 76 = .ok (.aload_n 0, 1) := by decide +kernel
theorem dX11_shortest_77 : decode cX11_shortest 77 = .ok (.getfield 182, 3) := by decide +kernel
theorem dX11_shortest_80 : decode cX11_shortest 80 = .ok (.ireturn, 1) := by decide +kernel
theorem dX11_goCoins_0 : decode cX11_goCoins 0 = .ok (.iconst 0, 1) := by decide +kernel
theorem dX11_goCoins_1 : decode cX11_goCoins 1 = .ok (.istore_n 1, 1) := by decide +kernel
theorem dX11_goCoins_2 : decode cX11_goCoins 2 = .ok (.iload_n 1, 1) := by decide +kernel
theorem dX11_goCoins_3 : decode cX11_goCoins 3 = .ok (.sipush 200, 3) := by decide +kernel
theorem dX11_goCoins_6 : decode cX11_goCoins 6 = .ok (.if_icmp .gt 40, 3) := by decide +kernel
theorem dX11_goCoins_9 : decode cX11_goCoins 9 = .ok (.aload_n 0, 1) := by decide +kernel
theorem dX11_goCoins_10 : decode cX11_goCoins 10 = .ok (.getfield 52, 3) := by decide +kernel
theorem dX11_goCoins_13 : decode cX11_goCoins 13 = .ok (.iload_n 1, 1) := by decide +kernel
theorem dX11_goCoins_14 : decode cX11_goCoins 14 = .ok (.iload_n 1, 1) := by decide +kernel
theorem dX11_goCoins_15 : decode cX11_goCoins 15 = .ok (.ifCond .ne 7, 3) := by decide +kernel
theorem dX11_goCoins_18 : decode cX11_goCoins 18 = .ok (.iconst 0, 1) := by decide +kernel
theorem dX11_goCoins_19 : decode cX11_goCoins 19 = .ok (.goto 5, 3) := by decide +kernel
theorem dX11_goCoins_22 : decode cX11_goCoins 22 = .ok (.ldc 196, 2) := by decide +kernel
theorem dX11_goCoins_24 : decode cX11_goCoins 24 = .ok (.iastore, 1) := by decide +kernel
theorem dX11_goCoins_25 : decode cX11_goCoins 25 = .ok (.aload_n 0, 1) := by decide +kernel
theorem dX11_goCoins_26 : decode cX11_goCoins 26 = .ok (.getfield 55, 3) := by decide +kernel
theorem dX11_goCoins_29 : decode cX11_goCoins 29 = .ok (.iload_n 1, 1) := by decide +kernel
theorem dX11_goCoins_30 : decode cX11_goCoins 30 = .ok (.iload_n 1, 1) := by decide +kernel
theorem dX11_goCoins_31 : decode cX11_goCoins 31 = .ok (.ifCond .ne 7, 3) := by decide +kernel
theorem dX11_goCoins_34 : decode cX11_goCoins 34 = .ok (.iconst 1, 1) := by decide +kernel
theorem dX11_goCoins_35 : decode cX11_goCoins 35 = .ok (.goto 4, 3) := by decide +kernel
theorem dX11_goCoins_38 : decode cX11_goCoins 38 = .ok (.iconst 0, 1) := by decide +kernel
theorem dX11_goCoins_39 : decode cX11_goCoins 39 = .ok (.iastore, 1) := by decide +kernel
theorem dX11_goCoins_40 : decode cX11_goCoins 40 = .ok (.iinc 1 1, 3) := by decide +kernel
theorem dX11_goCoins_43 : decode cX11_goCoins 43 = .ok (.goto (-41), 3) := by decide +kernel
theorem dX11_goCoins_46 : decode cX11_goCoins 46 = .ok (.iconst 0, 1) := by decide +kernel
theorem dX11_goCoins_47 : decode cX11_goCoins 47 = .ok (.istore_n 1, 1) := by decide +kernel
theorem dX11_goCoins_48 : decode cX11_goCoins 48 = .ok (.iload_n 1, 1) := by decide +kernel
theorem dX11_goCoins_49 : decode cX11_goCoins 49 = .ok (.aload_n 0, 1) := by decide +kernel
theorem dX11_goCoins_50 : decode cX11_goCoins 50 = .ok (.getfield 19, 3) := by decide +kernel
theorem dX11_goCoins_53 : decode cX11_goCoins 53 = .ok (.iconst 0, 1) := by decide +kernel
theorem dX11_goCoins_54 : decode cX11_goCoins 54 = .ok (.iaload, 1) := by decide +kernel
theorem dX11_goCoins_55 : decode cX11_goCoins 55 = .ok (.if_icmp .ge 100, 3) := by decide +kernel
theorem dX11_goCoins_58 : decode cX11_goCoins 58 = .ok (.aload_n 0, 1) := by decide +kernel
theorem dX11_goCoins_59 : decode cX11_goCoins 59 = .ok (.getfield 16, 3) := by decide +kernel
theorem dX11_goCoins_62 : decode cX11_goCoins 62 = .ok (.iload_n 1, 1) := by decide +kernel
theorem dX11_goCoins_63 : decode cX11_goCoins 63 = .ok (.iaload, 1) := by decide +kernel
theorem dX11_goCoins_64 : decode cX11_goCoins 64 = .ok (.istore_n 2, 1) := by decide +kernel
theorem dX11_goCoins_65 : decode cX11_goCoins 65 = .ok (.iload_n 2, 1) := by decide +kernel
theorem dX11_goCoins_66 : decode cX11_goCoins 66 = .ok (.istore_n 3, 1) := by decide +kernel
theorem dX11_goCoins_67 : decode cX11_goCoins 67 = .ok (.iload_n 3, 1) := by decide +kernel
theorem dX11_goCoins_68 : decode cX11_goCoins 68 = .ok (.sipush 200, 3) := by decide +kernel
theorem dX11_goCoins_71 : decode cX11_goCoins 71 = .ok (.if_icmp .gt 78, 3) := by decide +kernel
theorem dX11_goCoins_74 : decode cX11_goCoins 74 = .ok (.aload_n 0, 1) := by decide +kernel
theorem dX11_goCoins_75 : decode cX11_goCoins 75 = .ok (.iload_n 2, 1) := by decide +kernel
theorem dX11_goCoins_76 : decode cX11_goCoins 76 = .ok (.invokevirtual 134, 3) := by decide +kernel
theorem dX11_goCoins_79 : decode cX11_goCoins 79 = .ok (.ifCond .eq 70, 3) := by decide +kernel
theorem dX11_goCoins_82 : decode cX11_goCoins 82 = .ok (.aload_n 0, 1) := by decide +kernel
theorem dX11_goCoins_83 : decode cX11_goCoins 83 = .ok (.getfield 52, 3) := by decide +kernel
theorem dX11_goCoins_86 : decode cX11_goCoins 86 = .ok (.iload_n 3, 1) := by decide +kernel
theorem dX11_goCoins_87 : decode cX11_goCoins 87 = .ok (.aload_n 0, 1) := by decide +kernel
theorem dX11_goCoins_88 : decode cX11_goCoins 88 = .ok (.getfield 52, 3) := by decide +kernel
theorem dX11_goCoins_91 : decode cX11_goCoins 91 = .ok (.iload_n 3, 1) := by decide +kernel
theorem dX11_goCoins_92 : decode cX11_goCoins 92 = .ok (.iload_n 2, 1) := by decide +kernel
theorem dX11_goCoins_93 : decode cX11_goCoins 93 = .ok (.isub, 1) := by decide +kernel
theorem dX11_goCoins_94 : decode cX11_goCoins 94 = .ok (.iaload, 1) := by decide +kernel
theorem dX11_goCoins_95 : decode cX11_goCoins 95 = .ok (.iconst 1, 1) := by decide +kernel
theorem dX11_goCoins_96 : decode cX11_goCoins 96 = .ok (.iadd, 1) := by decide +kernel
theorem dX11_goCoins_97 : decode cX11_goCoins 97 = .ok (.aload_n 0, 1) := by decide +kernel
theorem dX11_goCoins_98 : decode cX11_goCoins 98 = .ok (.getfield 52, 3) := by decide +kernel
theorem dX11_goCoins_101 : decode cX11_goCoins 101 = .ok (.iload_n 3, 1) := by decide +kernel
theorem dX11_goCoins_102 : decode cX11_goCoins 102 = .ok (.iaload, 1) := by decide +kernel
theorem dX11_goCoins_103 : decode cX11_goCoins 103 = .ok (.if_icmp .ge 16, 3) := by decide +kernel
theorem dX11_goCoins_106 : decode cX11_goCoins 106 = .ok (.aload_n 0, 1) := by decide +kernel
theorem dX11_goCoins_107 : decode cX11_goCoins 107 = .ok (.getfield 52, 3) := by decide +kernel
theorem dX11_goCoins_110 : decode cX11_goCoins 110 = .ok (.iload_n 3, 1) := by decide +kernel
theorem dX11_goCoins_111 : decode cX11_goCoins 111 = .ok (.iload_n 2, 1) := by decide +kernel
theorem dX11_goCoins_112 : decode cX11_goCoins 112 = .ok (.isub, 1) := by decide +kernel
theorem dX11_goCoins_113 : decode cX11_goCoins 113 = .ok (.iaload, 1) := by decide +kernel
theorem dX11_goCoins_114 : decode cX11_goCoins 114 = .ok (.iconst 1, 1) := by decide +kernel
theorem dX11_goCoins_115 : decode cX11_goCoins 115 = .ok (.iadd, 1) := by decide +kernel
theorem dX11_goCoins_116 : decode cX11_goCoins 116 = .ok (.goto 9, 3) := by decide +kernel
theorem dX11_goCoins_119 : decode cX11_goCoins 119 = .ok (.aload_n 0, 1) := by decide +kernel
theorem dX11_goCoins_120 : decode cX11_goCoins 120 = .ok (.getfield 52, 3) := by decide +kernel
theorem dX11_goCoins_123 : decode cX11_goCoins 123 = .ok (.iload_n 3, 1) := by decide +kernel
theorem dX11_goCoins_124 : decode cX11_goCoins 124 = .ok (.iaload, 1) := by decide +kernel
theorem dX11_goCoins_125 : decode cX11_goCoins 125 = .ok (.iastore, 1) := by decide +kernel
theorem dX11_goCoins_126 : decode cX11_goCoins 126 = .ok (.aload_n 0, 1) := by decide +kernel
theorem dX11_goCoins_127 : decode cX11_goCoins 127 = .ok (.getfield 55, 3) := by decide +kernel
theorem dX11_goCoins_130 : decode cX11_goCoins 130 = .ok (.iload_n 3, 1) := by decide +kernel
theorem dX11_goCoins_131 : decode cX11_goCoins 131 = .ok (.dup2, 1) := by decide +kernel
theorem dX11_goCoins_132 : decode cX11_goCoins 132 = .ok (.iaload, 1) := by decide +kernel
theorem dX11_goCoins_133 : decode cX11_goCoins 133 = .ok (.aload_n 0, 1) := by decide +kernel
theorem dX11_goCoins_134 : decode cX11_goCoins 134 = .ok (.getfield 55, 3) := by decide +kernel
theorem dX11_goCoins_137 : decode cX11_goCoins 137 = .ok (.iload_n 3, 1) := by decide +kernel
theorem dX11_goCoins_138 : decode cX11_goCoins 138 = .ok (.iload_n 2, 1) := by decide +kernel
theorem dX11_goCoins_139 : decode cX11_goCoins 139 = .ok (.isub, 1) := by decide +kernel
theorem dX11_goCoins_140 : decode cX11_goCoins 140 = .ok (.iaload, 1) := by decide +kernel
theorem dX11_goCoins_141 : decode cX11_goCoins 141 = .ok (.iadd, 1) := by decide +kernel
theorem dX11_goCoins_142 : decode cX11_goCoins 142 = .ok (.iastore, 1) := by decide +kernel
theorem dX11_goCoins_143 : decode cX11_goCoins 143 = .ok (.iinc 3 1, 3) := by decide +kernel
theorem dX11_goCoins_146 : decode cX11_goCoins 146 = .ok (.goto (-79), 3) := by decide +kernel
theorem dX11_goCoins_149 : decode cX11_goCoins 149 = .ok (.iinc 1 1, 3) := by decide +kernel
theorem dX11_goCoins_152 : decode cX11_goCoins 152 = .ok (.goto (-104), 3) := by decide +kernel
theorem dX11_goCoins_155 : decode cX11_goCoins 155 = .ok (.return_, 1) := by decide +kernel
theorem dX11_change_0 : decode cX11_change 0 = .ok (.iload_n 1, 1) := by decide +kernel
theorem dX11_change_1 : decode cX11_change 1 = .ok (.i2l, 1) := by decide +kernel
theorem dX11_change_2 : decode cX11_change 2 = .ok (.lconst 0, 1) := by decide +kernel
theorem dX11_change_3 : decode cX11_change 3 = .ok (.ldc2_w 197, 3) := by decide +kernel
theorem dX11_change_6 : decode cX11_change 6 = .ok (.invokestatic 72, 3) := by decide +kernel
theorem dX11_change_9 : decode cX11_change 9 = .ok (.ifCond .ne 5, 3) := by decide +kernel
theorem dX11_change_12 : decode cX11_change 12 = .ok (.iconst (-1), 1) := by decide +kernel
theorem dX11_change_13 : decode cX11_change 13 = .ok (.ireturn, 1) := by decide +kernel
theorem dX11_change_14 : decode cX11_change 14 = .ok (.aload_n 0, 1) := by decide +kernel
theorem dX11_change_15 : decode cX11_change 15 = .ok (.invokevirtual 199, 3) := by decide +kernel
theorem dX11_change_18 : decode cX11_change 18 = .ok (.aload_n 0, 1) := by decide +kernel
theorem dX11_change_19 : decode cX11_change 19 = .ok (.getfield 52, 3) := by decide +kernel
theorem dX11_change_22 : decode cX11_change 22 = .ok (.iload_n 1, 1) := by decide +kernel
theorem dX11_change_23 : decode cX11_change 23 = .ok (.iaload, 1) := by decide +kernel
theorem dX11_change_24 : decode cX11_change 24 = .ok (.ldc 196, 2) := by decide +kernel
theorem dX11_change_26 : decode cX11_change 26 = .ok (.if_icmp .ge 12, 3) := by decide +kernel
theorem dX11_change_29 : decode cX11_change 29 = .ok (.aload_n 0, 1) := by decide +kernel
theorem dX11_change_30 : decode cX11_change 30 = .ok (.getfield 52, 3) := by decide +kernel
theorem dX11_change_33 : decode cX11_change 33 = .ok (.iload_n 1, 1) := by decide +kernel
theorem dX11_change_34 : decode cX11_change 34 = .ok (.iaload, 1) := by decide +kernel
theorem dX11_change_35 : decode cX11_change 35 = .ok (.goto 5, 3) := by decide +kernel
theorem dX11_change_38 : decode cX11_change 38 = .ok (.bipush (-4), 2) := by decide +kernel
theorem dX11_change_40 : decode cX11_change 40 = .ok (.ireturn, 1) := by decide +kernel
theorem dX11_never_0 : decode cX11_never 0 = .ok (.aload_n 0, 1) := by decide +kernel
theorem dX11_never_1 : decode cX11_never 1 = .ok (.invokevirtual 199, 3) := by decide +kernel
theorem dX11_never_4 : decode cX11_never 4 = .ok (.bipush (-4), 2) := by decide +kernel
theorem dX11_never_6 : decode cX11_never 6 = .ok (.istore_n 1, 1) := by decide +kernel
theorem dX11_never_7 : decode cX11_never 7 = .ok (.iconst 1, 1) := by decide +kernel
theorem dX11_never_8 : decode cX11_never 8 = .ok (.istore_n 2, 1) := by decide +kernel
theorem dX11_never_9 : decode cX11_never 9 = .ok (.iload_n 2, 1) := by decide +kernel
theorem dX11_never_10 : decode cX11_never 10 = .ok (.sipush 200, 3) := by decide +kernel
theorem dX11_never_13 : decode cX11_never 13 = .ok (.if_icmp .gt 24, 3) := by decide +kernel
theorem dX11_never_16 : decode cX11_never 16 = .ok (.aload_n 0, 1) := by decide +kernel
theorem dX11_never_17 : decode cX11_never 17 = .ok (.getfield 55, 3) := by decide +kernel
theorem dX11_never_20 : decode cX11_never 20 = .ok (.iload_n 2, 1) := by decide +kernel
theorem dX11_never_21 : decode cX11_never 21 = .ok (.iaload, 1) := by decide +kernel
theorem dX11_never_22 : decode cX11_never 22 = .ok (.ifCond .ne 7, 3) := by decide +kernel
theorem dX11_never_25 : decode cX11_never 25 = .ok (.iload_n 2, 1) := by decide +kernel
theorem dX11_never_26 : decode cX11_never 26 = .ok (.goto 4, 3) := by decide +kernel
theorem dX11_never_29 : decode cX11_never 29 = .ok (.iload_n 1, 1) := by decide +kernel
theorem dX11_never_30 : decode cX11_never 30 = .ok (.istore_n 1, 1) := by decide +kernel
theorem dX11_never_31 : decode cX11_never 31 = .ok (.iinc 2 1, 3) := by decide +kernel
theorem dX11_never_34 : decode cX11_never 34 = .ok (.goto (-25), 3) := by decide +kernel
theorem dX11_never_37 : decode cX11_never 37 = .ok (.iload_n 1, 1) := by decide +kernel
theorem dX11_never_38 : decode cX11_never 38 = .ok (.ireturn, 1) := by decide +kernel
theorem dX11_pays_0 : decode cX11_pays 0 = .ok (.iload_n 1, 1) := by decide +kernel
theorem dX11_pays_1 : decode cX11_pays 1 = .ok (.i2l, 1) := by decide +kernel
theorem dX11_pays_2 : decode cX11_pays 2 = .ok (.lconst 0, 1) := by decide +kernel
theorem dX11_pays_3 : decode cX11_pays 3 = .ok (.ldc2_w 197, 3) := by decide +kernel
theorem dX11_pays_6 : decode cX11_pays 6 = .ok (.invokestatic 72, 3) := by decide +kernel
theorem dX11_pays_9 : decode cX11_pays 9 = .ok (.ifCond .ne 5, 3) := by decide +kernel
theorem dX11_pays_12 : decode cX11_pays 12 = .ok (.iconst (-1), 1) := by decide +kernel
theorem dX11_pays_13 : decode cX11_pays 13 = .ok (.ireturn, 1) := by decide +kernel
theorem dX11_pays_14 : decode cX11_pays 14 = .ok (.aload_n 0, 1) := by decide +kernel
theorem dX11_pays_15 : decode cX11_pays 15 = .ok (.invokevirtual 199, 3) := by decide +kernel
theorem dX11_pays_18 : decode cX11_pays 18 = .ok (.aload_n 0, 1) := by decide +kernel
theorem dX11_pays_19 : decode cX11_pays 19 = .ok (.getfield 55, 3) := by decide +kernel
theorem dX11_pays_22 : decode cX11_pays 22 = .ok (.iload_n 1, 1) := by decide +kernel
theorem dX11_pays_23 : decode cX11_pays 23 = .ok (.iaload, 1) := by decide +kernel
theorem dX11_pays_24 : decode cX11_pays 24 = .ok (.ireturn, 1) := by decide +kernel
theorem dX11_daysLeft_0 : decode cX11_daysLeft 0 = .ok (.iconst 0, 1) := by decide +kernel
theorem dX11_daysLeft_1 : decode cX11_daysLeft 1 = .ok (.istore_n 1, 1) := by decide +kernel
theorem dX11_daysLeft_2 : decode cX11_daysLeft 2 = .ok (.iconst 1, 1) := by decide +kernel
theorem dX11_daysLeft_3 : decode cX11_daysLeft 3 = .ok (.istore_n 2, 1) := by decide +kernel
theorem dX11_daysLeft_4 : decode cX11_daysLeft 4 = .ok (.iload_n 2, 1) := by decide +kernel
theorem dX11_daysLeft_5 : decode cX11_daysLeft 5 = .ok (.aload_n 0, 1) := by decide +kernel
theorem dX11_daysLeft_6 : decode cX11_daysLeft 6 = .ok (.getfield 25, 3) := by decide +kernel
theorem dX11_daysLeft_9 : decode cX11_daysLeft 9 = .ok (.iconst 0, 1) := by decide +kernel
theorem dX11_daysLeft_10 : decode cX11_daysLeft 10 = .ok (.iaload, 1) := by decide +kernel
theorem dX11_daysLeft_11 : decode cX11_daysLeft 11 = .ok (.if_icmp .gt 20, 3) := by decide +kernel
theorem dX11_daysLeft_14 : decode cX11_daysLeft 14 = .ok (.iload_n 1, 1) := by decide +kernel
theorem dX11_daysLeft_15 : decode cX11_daysLeft 15 = .ok (.iconst 1, 1) := by decide +kernel
theorem dX11_daysLeft_16 : decode cX11_daysLeft 16 = .ok (.aload_n 0, 1) := by decide +kernel
theorem dX11_daysLeft_17 : decode cX11_daysLeft 17 = .ok (.getfield 34, 3) := by decide +kernel
theorem dX11_daysLeft_20 : decode cX11_daysLeft 20 = .ok (.iload_n 2, 1) := by decide +kernel
theorem dX11_daysLeft_21 : decode cX11_daysLeft 21 = .ok (.iaload, 1) := by decide +kernel
theorem dX11_daysLeft_22 : decode cX11_daysLeft 22 = .ok (.isub, 1) := by decide +kernel
theorem dX11_daysLeft_23 : decode cX11_daysLeft 23 = .ok (.iadd, 1) := by decide +kernel
theorem dX11_daysLeft_24 : decode cX11_daysLeft 24 = .ok (.istore_n 1, 1) := by decide +kernel
theorem dX11_daysLeft_25 : decode cX11_daysLeft 25 = .ok (.iinc 2 1, 3) := by decide +kernel
theorem dX11_daysLeft_28 : decode cX11_daysLeft 28 = .ok (.goto (-24), 3) := by decide +kernel
theorem dX11_daysLeft_31 : decode cX11_daysLeft 31 = .ok (.iload_n 1, 1) := by decide +kernel
theorem dX11_daysLeft_32 : decode cX11_daysLeft 32 = .ok (.ireturn, 1) := by decide +kernel
theorem dX11_day_0 : decode cX11_day 0 = .ok (.iload_n 1, 1) := by decide +kernel
theorem dX11_day_1 : decode cX11_day 1 = .ok (.i2l, 1) := by decide +kernel
theorem dX11_day_2 : decode cX11_day 2 = .ok (.lconst 0, 1) := by decide +kernel
theorem dX11_day_3 : decode cX11_day 3 = .ok (.ldc2_w 202, 3) := by decide +kernel
theorem dX11_day_6 : decode cX11_day 6 = .ok (.invokestatic 72, 3) := by decide +kernel
theorem dX11_day_9 : decode cX11_day 9 = .ok (.ifCond .ne 5, 3) := by decide +kernel
theorem dX11_day_12 : decode cX11_day 12 = .ok (.iconst (-1), 1) := by decide +kernel
theorem dX11_day_13 : decode cX11_day 13 = .ok (.ireturn, 1) := by decide +kernel
theorem dX11_day_14 : decode cX11_day 14 = .ok (.aload_n 0, 1) := by decide +kernel
theorem dX11_day_15 : decode cX11_day 15 = .ok (.invokevirtual 204, 3) := by decide +kernel
theorem dX11_day_18 : decode cX11_day 18 = .ok (.istore_n 2, 1) := by decide +kernel
theorem dX11_day_19 : decode cX11_day 19 = .ok (.iload_n 2, 1) := by decide +kernel
theorem dX11_day_20 : decode cX11_day 20 = .ok (.ifCond .ne 6, 3) := by decide +kernel
theorem dX11_day_23 : decode cX11_day 23 = .ok (.bipush (-4), 2) := by decide +kernel
theorem dX11_day_25 : decode cX11_day 25 = .ok (.ireturn, 1) := by decide +kernel
theorem dX11_day_26 : decode cX11_day 26 = .ok (.iload_n 1, 1) := by decide +kernel
theorem dX11_day_27 : decode cX11_day 27 = .ok (.iload_n 2, 1) := by decide +kernel
theorem dX11_day_28 : decode cX11_day 28 = .ok (.irem, 1) := by decide +kernel
theorem dX11_day_29 : decode cX11_day 29 = .ok (.istore_n 3, 1) := by decide +kernel
theorem dX11_day_30 : decode cX11_day 30 = .ok (.iconst 1, 1) := by decide +kernel
theorem dX11_day_31 : decode cX11_day 31 = .ok (.istore 4, 2) := by decide +kernel
theorem dX11_day_33 : decode cX11_day 33 = .ok (.aload_n 0, 1) := by decide +kernel
theorem dX11_day_34 : decode cX11_day 34 = .ok (.getfield 34, 3) := by decide +kernel
theorem dX11_day_37 : decode cX11_day 37 = .ok (.iload 4, 2) := by decide +kernel
theorem dX11_day_39 : decode cX11_day 39 = .ok (.iaload, 1) := by decide +kernel
theorem dX11_day_40 : decode cX11_day 40 = .ok (.iconst 1, 1) := by decide +kernel
theorem dX11_day_41 : decode cX11_day 41 = .ok (.if_icmp .eq 7, 3) := by decide +kernel
theorem dX11_day_44 : decode cX11_day 44 = .ok (.iload_n 3, 1) := by decide +kernel
theorem dX11_day_45 : decode cX11_day 45 = .ok (.ifCond .le 21, 3) := by decide +kernel
theorem dX11_day_48 : decode cX11_day 48 = .ok (.iload_n 3, 1) := by decide +kernel
theorem dX11_day_49 : decode cX11_day 49 = .ok (.iconst 1, 1) := by decide +kernel
theorem dX11_day_50 : decode cX11_day 50 = .ok (.aload_n 0, 1) := by decide +kernel
theorem dX11_day_51 : decode cX11_day 51 = .ok (.getfield 34, 3) := by decide +kernel
theorem dX11_day_54 : decode cX11_day 54 = .ok (.iload 4, 2) := by decide +kernel
theorem dX11_day_56 : decode cX11_day 56 = .ok (.iaload, 1) := by decide +kernel
theorem dX11_day_57 : decode cX11_day 57 = .ok (.isub, 1) := by decide +kernel
theorem dX11_day_58 : decode cX11_day 58 = .ok (.isub, 1) := by decide +kernel
theorem dX11_day_59 : decode cX11_day 59 = .ok (.istore_n 3, 1) := by decide +kernel
theorem dX11_day_60 : decode cX11_day 60 = .ok (.iinc 4 1, 3) := by decide +kernel
theorem dX11_day_63 : decode cX11_day 63 = .ok (.goto (-30), 3) := by decide +kernel
theorem dX11_day_66 : decode cX11_day 66 = .ok (.iload 4, 2) := by decide +kernel
theorem dX11_day_68 : decode cX11_day 68 = .ok (.ireturn, 1) := by decide +kernel
theorem dX11_common_0 : decode cX11_common 0 = .ok (.iload_n 0, 1) := by decide +kernel
theorem dX11_common_1 : decode cX11_common 1 = .ok (.istore_n 2, 1) := by decide +kernel
theorem dX11_common_2 : decode cX11_common 2 = .ok (.iload_n 1, 1) := by decide +kernel
theorem dX11_common_3 : decode cX11_common 3 = .ok (.istore_n 3, 1) := by decide +kernel
theorem dX11_common_4 : decode cX11_common 4 = .ok (.iload_n 3, 1) := by decide +kernel
theorem dX11_common_5 : decode cX11_common 5 = .ok (.ifCond .eq 16, 3) := by decide +kernel
theorem dX11_common_8 : decode cX11_common 8 = .ok (.iload_n 2, 1) := by decide +kernel
theorem dX11_common_9 : decode cX11_common 9 = .ok (.iload_n 3, 1) := by decide +kernel
theorem dX11_common_10 : decode cX11_common 10 = .ok (.irem, 1) := by decide +kernel
theorem dX11_common_11 : decode cX11_common 11 = .ok (.istore 4, 2) := by decide +kernel
theorem dX11_common_13 : decode cX11_common 13 = .ok (.iload_n 3, 1) := by decide +kernel
theorem dX11_common_14 : decode cX11_common 14 = .ok (.istore_n 2, 1) := by decide +kernel
theorem dX11_common_15 : decode cX11_common 15 = .ok (.iload 4, 2) := by decide +kernel
theorem dX11_common_17 : decode cX11_common 17 = .ok (.istore_n 3, 1) := by decide +kernel
theorem dX11_common_18 : decode cX11_common 18 = .ok (.goto (-14), 3) := by decide +kernel
theorem dX11_common_21 : decode cX11_common 21 = .ok (.iload_n 2, 1) := by decide +kernel
theorem dX11_common_22 : decode cX11_common 22 = .ok (.ireturn, 1) := by decide +kernel
theorem dX11_agree_0 : decode cX11_agree 0 = .ok (.aload_n 0, 1) := by decide +kernel
theorem dX11_agree_1 : decode cX11_agree 1 = .ok (.invokevirtual 204, 3) := by decide +kernel
theorem dX11_agree_4 : decode cX11_agree 4 = .ok (.istore_n 1, 1) := by decide +kernel
theorem dX11_agree_5 : decode cX11_agree 5 = .ok (.iload_n 1, 1) := by decide +kernel
theorem dX11_agree_6 : decode cX11_agree 6 = .ok (.ifCond .ne 8, 3) := by decide +kernel
theorem dX11_agree_9 : decode cX11_agree 9 = .ok (.bipush (-4), 2) := by decide +kernel
theorem dX11_agree_11 : decode cX11_agree 11 = .ok (.goto 22, 3) := by decide +kernel
theorem dX11_agree_14 : decode cX11_agree 14 = .ok (.aload_n 0, 1) := by decide +kernel
theorem dX11_agree_15 : decode cX11_agree 15 = .ok (.getfield 25, 3) := by decide +kernel
theorem dX11_agree_18 : decode cX11_agree 18 = .ok (.iconst 0, 1) := by decide +kernel
theorem dX11_agree_19 : decode cX11_agree 19 = .ok (.iaload, 1) := by decide +kernel
theorem dX11_agree_20 : decode cX11_agree 20 = .ok (.aload_n 0, 1) := by decide +kernel
theorem dX11_agree_21 : decode cX11_agree 21 = .ok (.getfield 25, 3) := by decide +kernel
theorem dX11_agree_24 : decode cX11_agree 24 = .ok (.iconst 0, 1) := by decide +kernel
theorem dX11_agree_25 : decode cX11_agree 25 = .ok (.iaload, 1) := by decide +kernel
theorem dX11_agree_26 : decode cX11_agree 26 = .ok (.iload_n 1, 1) := by decide +kernel
theorem dX11_agree_27 : decode cX11_agree 27 = .ok (.invokestatic 207, 3) := by decide +kernel
theorem dX11_agree_30 : decode cX11_agree 30 = .ok (.idiv, 1) := by decide +kernel
theorem dX11_agree_31 : decode cX11_agree 31 = .ok (.iload_n 1, 1) := by decide +kernel
theorem dX11_agree_32 : decode cX11_agree 32 = .ok (.imul, 1) := by decide +kernel
theorem dX11_agree_33 : decode cX11_agree 33 = .ok (.ireturn, 1) := by decide +kernel
theorem dX11_faceOf_0 : decode cX11_faceOf 0 = .ok (.aload_n 0, 1) := by decide +kernel
theorem dX11_faceOf_1 : decode cX11_faceOf 1 = .ok (.getfield 34, 3) := by decide +kernel
theorem dX11_faceOf_4 : decode cX11_faceOf 4 = .ok (.iload_n 1, 1) := by decide +kernel
theorem dX11_faceOf_5 : decode cX11_faceOf 5 = .ok (.iaload, 1) := by decide +kernel
theorem dX11_faceOf_6 : decode cX11_faceOf 6 = .ok (.iconst 1, 1) := by decide +kernel
theorem dX11_faceOf_7 : decode cX11_faceOf 7 = .ok (.if_icmp .ne 7, 3) := by decide +kernel
theorem dX11_faceOf_10 : decode cX11_faceOf 10 = .ok (.iconst 0, 1) := by decide +kernel
theorem dX11_faceOf_11 : decode cX11_faceOf 11 = .ok (.goto 4, 3) := by decide +kernel
theorem dX11_faceOf_14 : decode cX11_faceOf 14 = .ok (.iload_n 1, 1) := by decide +kernel
theorem dX11_faceOf_15 : decode cX11_faceOf 15 = .ok (.ireturn, 1) := by decide +kernel
theorem dX11_odds_0 : decode cX11_odds 0 = .ok (.iload_n 1, 1) := by decide +kernel
theorem dX11_odds_1 : decode cX11_odds 1 = .ok (.i2l, 1) := by decide +kernel
theorem dX11_odds_2 : decode cX11_odds 2 = .ok (.lconst 0, 1) := by decide +kernel
theorem dX11_odds_3 : decode cX11_odds 3 = .ok (.ldc2_w 211, 3) := by decide +kernel
theorem dX11_odds_6 : decode cX11_odds 6 = .ok (.invokestatic 72, 3) := by decide +kernel
theorem dX11_odds_9 : decode cX11_odds 9 = .ok (.ifCond .eq 13, 3) := by decide +kernel
theorem dX11_odds_12 : decode cX11_odds 12 = .ok (.iload_n 2, 1) := by decide +kernel
theorem dX11_odds_13 : decode cX11_odds 13 = .ok (.i2l, 1) := by decide +kernel
theorem dX11_odds_14 : decode cX11_odds 14 = .ok (.lconst 0, 1) := by decide +kernel
theorem dX11_odds_15 : decode cX11_odds 15 = .ok (.lconst 1, 1) := by decide +kernel
theorem dX11_odds_16 : decode cX11_odds 16 = .ok (.invokestatic 72, 3) := by decide +kernel
theorem dX11_odds_19 : decode cX11_odds 19 = .ok (.ifCond .ne 5, 3) := by decide +kernel
theorem dX11_odds_22 : decode cX11_odds 22 = .ok (.iconst (-1), 1) := by decide +kernel
theorem dX11_odds_23 : decode cX11_odds 23 = .ok (.ireturn, 1) := by decide +kernel
theorem dX11_odds_24 : decode cX11_odds 24 = .ok (.iconst 0, 1) := by decide +kernel
theorem dX11_odds_25 : decode cX11_odds 25 = .ok (.istore_n 3, 1) := by decide +kernel
theorem dX11_odds_26 : decode cX11_odds 26 = .ok (.iconst 1, 1) := by decide +kernel
theorem dX11_odds_27 : decode cX11_odds 27 = .ok (.istore 4, 2) := by decide +kernel
theorem dX11_odds_29 : decode cX11_odds 29 = .ok (.iload 4, 2) := by decide +kernel
theorem dX11_odds_31 : decode cX11_odds 31 = .ok (.aload_n 0, 1) := by decide +kernel
theorem dX11_odds_32 : decode cX11_odds 32 = .ok (.getfield 22, 3) := by decide +kernel
theorem dX11_odds_35 : decode cX11_odds 35 = .ok (.iconst 0, 1) := by decide +kernel
theorem dX11_odds_36 : decode cX11_odds 36 = .ok (.iaload, 1) := by decide +kernel
theorem dX11_odds_37 : decode cX11_odds 37 = .ok (.if_icmp .gt 54, 3) := by decide +kernel
theorem dX11_odds_40 : decode cX11_odds 40 = .ok (.iconst 1, 1) := by decide +kernel
theorem dX11_odds_41 : decode cX11_odds 41 = .ok (.istore 5, 2) := by decide +kernel
theorem dX11_odds_43 : decode cX11_odds 43 = .ok (.iload 5, 2) := by decide +kernel
theorem dX11_odds_45 : decode cX11_odds 45 = .ok (.aload_n 0, 1) := by decide +kernel
theorem dX11_odds_46 : decode cX11_odds 46 = .ok (.getfield 22, 3) := by decide +kernel
theorem dX11_odds_49 : decode cX11_odds 49 = .ok (.iconst 0, 1) := by decide +kernel
theorem dX11_odds_50 : decode cX11_odds 50 = .ok (.iaload, 1) := by decide +kernel
theorem dX11_odds_51 : decode cX11_odds 51 = .ok (.if_icmp .gt 34, 3) := by decide +kernel
theorem dX11_odds_54 : decode cX11_odds 54 = .ok (.iload_n 3, 1) := by decide +kernel
theorem dX11_odds_55 : decode cX11_odds 55 = .ok (.aload_n 0, 1) := by decide +kernel
theorem dX11_odds_56 : decode cX11_odds 56 = .ok (.iload 4, 2) := by decide +kernel
theorem dX11_odds_58 : decode cX11_odds 58 = .ok (.invokevirtual 213, 3) := by decide +kernel
theorem dX11_odds_61 : decode cX11_odds 61 = .ok (.aload_n 0, 1) := by decide +kernel
theorem dX11_odds_62 : decode cX11_odds 62 = .ok (.iload 5, 2) := by decide +kernel
theorem dX11_odds_64 : decode cX11_odds 64 = .ok (.invokevirtual 213, 3) := by decide +kernel
theorem dX11_odds_67 : decode cX11_odds 67 = .ok (.iadd, 1) := by decide +kernel
theorem dX11_odds_68 : decode cX11_odds 68 = .ok (.iload_n 1, 1) := by decide +kernel
theorem dX11_odds_69 : decode cX11_odds 69 = .ok (.if_icmp .ne 7, 3) := by decide +kernel
theorem dX11_odds_72 : decode cX11_odds 72 = .ok (.iconst 1, 1) := by decide +kernel
theorem dX11_odds_73 : decode cX11_odds 73 = .ok (.goto 4, 3) := by decide +kernel
theorem dX11_odds_76 : decode cX11_odds 76 = .ok (.iconst 0, 1) := by decide +kernel
theorem dX11_odds_77 : decode cX11_odds 77 = .ok (.iadd, 1) := by decide +kernel
theorem dX11_odds_78 : decode cX11_odds 78 = .ok (.istore_n 3, 1) := by decide +kernel
theorem dX11_odds_79 : decode cX11_odds 79 = .ok (.iinc 5 1, 3) := by decide +kernel
theorem dX11_odds_82 : decode cX11_odds 82 = .ok (.goto (-39), 3) := by decide +kernel
theorem dX11_odds_85 : decode cX11_odds 85 = .ok (.iinc 4 1, 3) := by decide +kernel
theorem dX11_odds_88 : decode cX11_odds 88 = .ok (.goto (-59), 3) := by decide +kernel
theorem dX11_odds_91 : decode cX11_odds 91 = .ok (.aload_n 0, 1) := by decide +kernel
theorem dX11_odds_92 : decode cX11_odds 92 = .ok (.getfield 22, 3) := by decide +kernel
theorem dX11_odds_95 : decode cX11_odds 95 = .ok (.iconst 0, 1) := by decide +kernel
theorem dX11_odds_96 : decode cX11_odds 96 = .ok (.iaload, 1) := by decide +kernel
theorem dX11_odds_97 : decode cX11_odds 97 = .ok (.aload_n 0, 1) := by decide +kernel
theorem dX11_odds_98 : decode cX11_odds 98 = .ok (.getfield 22, 3) := by decide +kernel
theorem dX11_odds_101 : decode cX11_odds 101 = .ok (.iconst 0, 1) := by decide +kernel
theorem dX11_odds_102 : decode cX11_odds 102 = .ok (.iaload, 1) := by decide +kernel
theorem dX11_odds_103 : decode cX11_odds 103 = .ok (.imul, 1) := by decide +kernel
theorem dX11_odds_104 : decode cX11_odds 104 = .ok (.istore 4, 2) := by decide +kernel
theorem dX11_odds_106 : decode cX11_odds 106 = .ok (.iload_n 3, 1) := by decide +kernel
theorem dX11_odds_107 : decode cX11_odds 107 = .ok (.iload 4, 2) := by decide +kernel
theorem dX11_odds_109 : decode cX11_odds 109 = .ok (.invokestatic 207, 3) := by decide +kernel
theorem dX11_odds_112 : decode cX11_odds 112 = .ok (.istore 5, 2) := by decide +kernel
theorem dX11_odds_114 : decode cX11_odds 114 = .ok (.iload_n 2, 1) := by decide +kernel
theorem dX11_odds_115 : decode cX11_odds 115 = .ok (.ifCond .ne 10, 3) := by decide +kernel
theorem dX11_odds_118 : decode cX11_odds 118 = .ok (.iload_n 3, 1) := by decide +kernel
theorem dX11_odds_119 : decode cX11_odds 119 = .ok (.iload 5, 2) := by decide +kernel
theorem dX11_odds_121 : decode cX11_odds 121 = .ok (.idiv, 1) := by decide +kernel
theorem dX11_odds_122 : decode cX11_odds 122 = .ok (.goto 8, 3) := by decide +kernel
theorem dX11_odds_125 : decode cX11_odds 125 = .ok (.iload 4, 2) := by decide +kernel
theorem dX11_odds_127 : decode cX11_odds 127 = .ok (.iload 5, 2) := by decide +kernel
theorem dX11_odds_129 : decode cX11_odds 129 = .ok (.idiv, 1) := by decide +kernel
theorem dX11_odds_130 : decode cX11_odds 130 = .ok (.ireturn, 1) := by decide +kernel
theorem dX11_mean_0 : decode cX11_mean 0 = .ok (.iload_n 1, 1) := by decide +kernel
theorem dX11_mean_1 : decode cX11_mean 1 = .ok (.i2l, 1) := by decide +kernel
theorem dX11_mean_2 : decode cX11_mean 2 = .ok (.lconst 0, 1) := by decide +kernel
theorem dX11_mean_3 : decode cX11_mean 3 = .ok (.lconst 1, 1) := by decide +kernel
theorem dX11_mean_4 : decode cX11_mean 4 = .ok (.invokestatic 72, 3) := by decide +kernel
theorem dX11_mean_7 : decode cX11_mean 7 = .ok (.ifCond .ne 5, 3) := by decide +kernel
theorem dX11_mean_10 : decode cX11_mean 10 = .ok (.iconst (-1), 1) := by decide +kernel
theorem dX11_mean_11 : decode cX11_mean 11 = .ok (.ireturn, 1) := by decide +kernel
theorem dX11_mean_12 : decode cX11_mean 12 = .ok (.iconst 0, 1) := by decide +kernel
theorem dX11_mean_13 : decode cX11_mean 13 = .ok (.istore_n 2, 1) := by decide +kernel
theorem dX11_mean_14 : decode cX11_mean 14 = .ok (.iconst 1, 1) := by decide +kernel
theorem dX11_mean_15 : decode cX11_mean 15 = .ok (.istore_n 3, 1) := by decide +kernel
theorem dX11_mean_16 : decode cX11_mean 16 = .ok (.iload_n 3, 1) := by decide +kernel
theorem dX11_mean_17 : decode cX11_mean 17 = .ok (.aload_n 0, 1) := by decide +kernel
theorem dX11_mean_18 : decode cX11_mean 18 = .ok (.getfield 22, 3) := by decide +kernel
theorem dX11_mean_21 : decode cX11_mean 21 = .ok (.iconst 0, 1) := by decide +kernel
theorem dX11_mean_22 : decode cX11_mean 22 = .ok (.iaload, 1) := by decide +kernel
theorem dX11_mean_23 : decode cX11_mean 23 = .ok (.if_icmp .gt 17, 3) := by decide +kernel
theorem dX11_mean_26 : decode cX11_mean 26 = .ok (.iload_n 2, 1) := by decide +kernel
theorem dX11_mean_27 : decode cX11_mean 27 = .ok (.aload_n 0, 1) := by decide +kernel
theorem dX11_mean_28 : decode cX11_mean 28 = .ok (.iload_n 3, 1) := by decide +kernel
theorem dX11_mean_29 : decode cX11_mean 29 = .ok (.invokevirtual 213, 3) := by decide +kernel
theorem dX11_mean_32 : decode cX11_mean 32 = .ok (.iadd, 1) := by decide +kernel
theorem dX11_mean_33 : decode cX11_mean 33 = .ok (.istore_n 2, 1) := by decide +kernel
theorem dX11_mean_34 : decode cX11_mean 34 = .ok (.iinc 3 1, 3) := by decide +kernel
theorem dX11_mean_37 : decode cX11_mean 37 = .ok (.goto (-21), 3) := by decide +kernel
theorem dX11_mean_40 : decode cX11_mean 40 = .ok (.iload_n 2, 1) := by decide +kernel
theorem dX11_mean_41 : decode cX11_mean 41 = .ok (.aload_n 0, 1) := by decide +kernel
theorem dX11_mean_42 : decode cX11_mean 42 = .ok (.getfield 22, 3) := by decide +kernel
theorem dX11_mean_45 : decode cX11_mean 45 = .ok (.iconst 0, 1) := by decide +kernel
theorem dX11_mean_46 : decode cX11_mean 46 = .ok (.iaload, 1) := by decide +kernel
theorem dX11_mean_47 : decode cX11_mean 47 = .ok (.invokestatic 207, 3) := by decide +kernel
theorem dX11_mean_50 : decode cX11_mean 50 = .ok (.istore_n 3, 1) := by decide +kernel
theorem dX11_mean_51 : decode cX11_mean 51 = .ok (.iload_n 1, 1) := by decide +kernel
theorem dX11_mean_52 : decode cX11_mean 52 = .ok (.ifCond .ne 9, 3) := by decide +kernel
theorem dX11_mean_55 : decode cX11_mean 55 = .ok (.iload_n 2, 1) := by decide +kernel
theorem dX11_mean_56 : decode cX11_mean 56 = .ok (.iload_n 3, 1) := by decide +kernel
theorem dX11_mean_57 : decode cX11_mean 57 = .ok (.idiv, 1) := by decide +kernel
theorem dX11_mean_58 : decode cX11_mean 58 = .ok (.goto 11, 3) := by decide +kernel
theorem dX11_mean_61 : decode cX11_mean 61 = .ok (.aload_n 0, 1) := by decide +kernel
theorem dX11_mean_62 : decode cX11_mean 62 = .ok (.getfield 22, 3) := by decide +kernel
theorem dX11_mean_65 : decode cX11_mean 65 = .ok (.iconst 0, 1) := by decide +kernel
theorem dX11_mean_66 : decode cX11_mean 66 = .ok (.iaload, 1) := by decide +kernel
theorem dX11_mean_67 : decode cX11_mean 67 = .ok (.iload_n 3, 1) := by decide +kernel
theorem dX11_mean_68 : decode cX11_mean 68 = .ok (.idiv, 1) := by decide +kernel
theorem dX11_mean_69 : decode cX11_mean 69 = .ok (.ireturn, 1) := by decide +kernel
theorem dX11_dark_0 : decode cX11_dark 0 = .ok (.iload_n 1, 1) := by decide +kernel
theorem dX11_dark_1 : decode cX11_dark 1 = .ok (.i2l, 1) := by decide +kernel
theorem dX11_dark_2 : decode cX11_dark 2 = .ok (.lconst 0, 1) := by decide +kernel
theorem dX11_dark_3 : decode cX11_dark 3 = .ok (.ldc2_w 202, 3) := by decide +kernel
theorem dX11_dark_6 : decode cX11_dark 6 = .ok (.invokestatic 72, 3) := by decide +kernel
theorem dX11_dark_9 : decode cX11_dark 9 = .ok (.ifCond .eq 26, 3) := by decide +kernel
theorem dX11_dark_12 : decode cX11_dark 12 = .ok (.iload_n 2, 1) := by decide +kernel
theorem dX11_dark_13 : decode cX11_dark 13 = .ok (.i2l, 1) := by decide +kernel
theorem dX11_dark_14 : decode cX11_dark 14 = .ok (.lconst 0, 1) := by decide +kernel
theorem dX11_dark_15 : decode cX11_dark 15 = .ok (.ldc2_w 202, 3) := by decide +kernel
theorem dX11_dark_18 : decode cX11_dark 18 = .ok (.invokestatic 72, 3) := by decide +kernel
theorem dX11_dark_21 : decode cX11_dark 21 = .ok (.ifCond .eq 14, 3) := by decide +kernel
theorem dX11_dark_24 : decode cX11_dark 24 = .ok (.iload_n 1, 1) := by decide +kernel
theorem dX11_dark_25 : decode cX11_dark 25 = .ok (.invokestatic 167, 3) := by decide +kernel
theorem dX11_dark_28 : decode cX11_dark 28 = .ok (.iload_n 2, 1) := by decide +kernel
theorem dX11_dark_29 : decode cX11_dark 29 = .ok (.invokestatic 167, 3) := by decide +kernel
theorem dX11_dark_32 : decode cX11_dark 32 = .ok (.if_icmp .eq 5, 3) := by decide +kernel
theorem dX11_dark_35 : decode cX11_dark 35 = .ok (.iconst (-1), 1) := by decide +kernel
theorem dX11_dark_36 : decode cX11_dark 36 = .ok (.ireturn, 1) := by decide +kernel
theorem dX11_dark_37 : decode cX11_dark 37 = .ok (.aload_n 0, 1) := by decide +kernel
theorem dX11_dark_38 : decode cX11_dark 38 = .ok (.getfield 125, 3) := by decide +kernel
theorem dX11_dark_41 : decode cX11_dark 41 = .ok (.bipush 8, 2) := by decide +kernel
theorem dX11_dark_43 : decode cX11_dark 43 = .ok (.if_icmp .ne 6, 3) := by decide +kernel
theorem dX11_dark_46 : decode cX11_dark 46 = .ok (.bipush (-3), 2) := by decide +kernel
theorem dX11_dark_48 : decode cX11_dark 48 = .ok (.ireturn, 1) := by decide +kernel
theorem dX11_dark_49 : decode cX11_dark 49 = .ok (.aload_n 0, 1) := by decide +kernel
theorem dX11_dark_50 : decode cX11_dark 50 = .ok (.getfield 43, 3) := by decide +kernel
theorem dX11_dark_53 : decode cX11_dark 53 = .ok (.aload_n 0, 1) := by decide +kernel
theorem dX11_dark_54 : decode cX11_dark 54 = .ok (.getfield 125, 3) := by decide +kernel
theorem dX11_dark_57 : decode cX11_dark 57 = .ok (.iload_n 1, 1) := by decide +kernel
theorem dX11_dark_58 : decode cX11_dark 58 = .ok (.iastore, 1) := by decide +kernel
theorem dX11_dark_59 : decode cX11_dark 59 = .ok (.aload_n 0, 1) := by decide +kernel
theorem dX11_dark_60 : decode cX11_dark 60 = .ok (.getfield 46, 3) := by decide +kernel
theorem dX11_dark_63 : decode cX11_dark 63 = .ok (.aload_n 0, 1) := by decide +kernel
theorem dX11_dark_64 : decode cX11_dark 64 = .ok (.getfield 125, 3) := by decide +kernel
theorem dX11_dark_67 : decode cX11_dark 67 = .ok (.iload_n 2, 1) := by decide +kernel
theorem dX11_dark_68 : decode cX11_dark 68 = .ok (.iastore, 1) := by decide +kernel
theorem dX11_dark_69 : decode cX11_dark 69 = .ok (.aload_n 0, 1) := by decide +kernel
theorem dX11_dark_70 : decode cX11_dark 70 = .ok (.dup, 1) := by decide +kernel
theorem dX11_dark_71 : decode cX11_dark 71 = .ok (.getfield 125, 3) := by decide +kernel
theorem dX11_dark_74 : decode cX11_dark 74 = .ok (.iconst 1, 1) := by decide +kernel
theorem dX11_dark_75 : decode cX11_dark 75 = .ok (.iadd, 1) := by decide +kernel
theorem dX11_dark_76 : decode cX11_dark 76 = .ok (.putfield 125, 3) := by decide +kernel
theorem dX11_dark_79 : decode cX11_dark 79 = .ok (.aload_n 0, 1) := by decide +kernel
theorem dX11_dark_80 : decode cX11_dark 80 = .ok (.getfield 125, 3) := by decide +kernel
theorem dX11_dark_83 : decode cX11_dark 83 = .ok (.ireturn, 1) := by decide +kernel
theorem dX11_forget_0 : decode cX11_forget 0 = .ok (.aload_n 0, 1) := by decide +kernel
theorem dX11_forget_1 : decode cX11_forget 1 = .ok (.getfield 125, 3) := by decide +kernel
theorem dX11_forget_4 : decode cX11_forget 4 = .ok (.istore_n 1, 1) := by decide +kernel
theorem dX11_forget_5 : decode cX11_forget 5 = .ok (.aload_n 0, 1) := by decide +kernel
theorem dX11_forget_6 : decode cX11_forget 6 = .ok (.iconst 0, 1) := by decide +kernel
theorem dX11_forget_7 : decode cX11_forget 7 = .ok (.putfield 125, 3) := by decide +kernel
theorem dX11_forget_10 : decode cX11_forget 10 = .ok (.iload_n 1, 1) := by decide +kernel
theorem dX11_forget_11 : decode cX11_forget 11 = .ok (.ireturn, 1) := by decide +kernel
theorem dX11_isHeard_0 : decode cX11_isHeard 0 = .ok (.iconst 1, 1) := by decide +kernel
theorem dX11_isHeard_1 : decode cX11_isHeard 1 = .ok (.istore_n 1, 1) := by decide +kernel
theorem dX11_isHeard_2 : decode cX11_isHeard 2 = .ok (.iconst 0, 1) := by decide +kernel
theorem dX11_isHeard_3 : decode cX11_isHeard 3 = .ok (.istore_n 2, 1) := by decide +kernel
theorem dX11_isHeard_4 : decode cX11_isHeard 4 = .ok (.iload_n 2, 1) := by decide +kernel
theorem dX11_isHeard_5 : decode cX11_isHeard 5 = .ok (.aload_n 0, 1) := by decide +kernel
theorem dX11_isHeard_6 : decode cX11_isHeard 6 = .ok (.getfield 125, 3) := by decide +kernel
theorem dX11_isHeard_9 : decode cX11_isHeard 9 = .ok (.if_icmp .ge 108, 3) := by decide +kernel
theorem dX11_isHeard_12 : decode cX11_isHeard 12 = .ok (.aload_n 0, 1) := by decide +kernel
theorem dX11_isHeard_13 : decode cX11_isHeard 13 = .ok (.getfield 43, 3) := by decide +kernel
theorem dX11_isHeard_16 : decode cX11_isHeard 16 = .ok (.iload_n 2, 1) := by decide +kernel
theorem dX11_isHeard_17 : decode cX11_isHeard 17 = .ok (.iaload, 1) := by decide +kernel
theorem dX11_isHeard_18 : decode cX11_isHeard 18 = .ok (.istore_n 3, 1) := by decide +kernel
theorem dX11_isHeard_19 : decode cX11_isHeard 19 = .ok (.aload_n 0, 1) := by decide +kernel
theorem dX11_isHeard_20 : decode cX11_isHeard 20 = .ok (.getfield 46, 3) := by decide +kernel
theorem dX11_isHeard_23 : decode cX11_isHeard 23 = .ok (.iload_n 2, 1) := by decide +kernel
theorem dX11_isHeard_24 : decode cX11_isHeard 24 = .ok (.iaload, 1) := by decide +kernel
theorem dX11_isHeard_25 : decode cX11_isHeard 25 = .ok (.istore 4, 2) := by decide +kernel
theorem dX11_isHeard_27 : decode cX11_isHeard 27 = .ok (.iload_n 3, 1) := by decide +kernel
theorem dX11_isHeard_28 : decode cX11_isHeard 28 = .ok (.invokestatic 167, 3) := by decide +kernel
theorem dX11_isHeard_31 : decode cX11_isHeard 31 = .ok (.istore 5, 2) := by decide +kernel
theorem dX11_isHeard_33 : decode cX11_isHeard 33 = .ok (.iconst 0, 1) := by decide +kernel
theorem dX11_isHeard_34 : decode cX11_isHeard 34 = .ok (.istore 6, 2) := by decide +kernel
theorem dX11_isHeard_36 : decode cX11_isHeard 36 = .ok (.iload 6, 2) := by decide +kernel
theorem dX11_isHeard_38 : decode cX11_isHeard 38 = .ok (.iload 5, 2) := by decide +kernel
theorem dX11_isHeard_40 : decode cX11_isHeard 40 = .ok (.if_icmp .ge 71, 3) := by decide +kernel
theorem dX11_isHeard_43 : decode cX11_isHeard 43 = .ok (.iload_n 3, 1) := by decide +kernel
theorem dX11_isHeard_44 : decode cX11_isHeard 44 = .ok (.bipush 10, 2) := by decide +kernel
theorem dX11_isHeard_46 : decode cX11_isHeard 46 = .ok (.irem, 1) := by decide +kernel
theorem dX11_isHeard_47 : decode cX11_isHeard 47 = .ok (.istore 7, 2) := by decide +kernel
theorem dX11_isHeard_49 : decode cX11_isHeard 49 = .ok (.iload_n 1, 1) := by decide +kernel
theorem dX11_isHeard_50 : decode cX11_isHeard 50 = .ok (.ifCond .eq 41, 3) := by decide +kernel
theorem dX11_isHeard_53 : decode cX11_isHeard 53 = .ok (.aload_n 0, 1) := by decide +kernel
theorem dX11_isHeard_54 : decode cX11_isHeard 54 = .ok (.getfield 34, 3) := by decide +kernel
theorem dX11_isHeard_57 : decode cX11_isHeard 57 = .ok (.iload 7, 2) := by decide +kernel
theorem dX11_isHeard_59 : decode cX11_isHeard 59 = .ok (.iaload, 1) := by decide +kernel
theorem dX11_isHeard_60 : decode cX11_isHeard 60 = .ok (.iconst 1, 1) := by decide +kernel
theorem dX11_isHeard_61 : decode cX11_isHeard 61 = .ok (.if_icmp .ne 16, 3) := by decide +kernel
theorem dX11_isHeard_64 : decode cX11_isHeard 64 = .ok (.aload_n 0, 1) := by decide +kernel
theorem dX11_isHeard_65 : decode cX11_isHeard 65 = .ok (.getfield 34, 3) := by decide +kernel
theorem dX11_isHeard_68 : decode cX11_isHeard 68 = .ok (.bipush 10, 2) := by decide +kernel
theorem dX11_isHeard_70 : decode cX11_isHeard 70 = .ok (.iload 7, 2) := by decide +kernel
theorem dX11_isHeard_72 : decode cX11_isHeard 72 = .ok (.iadd, 1) := by decide +kernel
theorem dX11_isHeard_73 : decode cX11_isHeard 73 = .ok (.iaload, 1) := by decide +kernel
theorem dX11_isHeard_74 : decode cX11_isHeard 74 = .ok (.goto 5, 3) := by decide +kernel
theorem dX11_isHeard_77 : decode cX11_isHeard 77 = .ok (.iload 7, 2) := by decide +kernel
theorem dX11_isHeard_79 : decode cX11_isHeard 79 = .ok (.iload 4, 2) := by decide +kernel
theorem dX11_isHeard_81 : decode cX11_isHeard 81 = .ok (.bipush 10, 2) := by decide +kernel
theorem dX11_isHeard_83 : decode cX11_isHeard 83 = .ok (.irem, 1) := by decide +kernel
theorem dX11_isHeard_84 : decode cX11_isHeard 84 = .ok (.if_icmp .ne 7, 3) := by decide +kernel
theorem dX11_isHeard_87 : decode cX11_isHeard 87 = .ok (.iconst 1, 1) := by decide +kernel
theorem dX11_isHeard_88 : decode cX11_isHeard 88 = .ok (.goto 4, 3) := by decide +kernel
theorem dX11_isHeard_91 : decode cX11_isHeard 91 = .ok (.iconst 0, 1) := by decide +kernel
theorem dX11_isHeard_92 : decode cX11_isHeard 92 = .ok (.istore_n 1, 1) := by decide +kernel
theorem dX11_isHeard_93 : decode cX11_isHeard 93 = .ok (.iload_n 3, 1) := by decide +kernel
theorem dX11_isHeard_94 : decode cX11_isHeard 94 = .ok (.bipush 10, 2) := by decide +kernel
theorem dX11_isHeard_96 : decode cX11_isHeard 96 = .ok (.idiv, 1) := by decide +kernel
theorem dX11_isHeard_97 : decode cX11_isHeard 97 = .ok (.istore_n 3, 1) := by decide +kernel
theorem dX11_isHeard_98 : decode cX11_isHeard 98 = .ok (.iload 4, 2) := by decide +kernel
theorem dX11_isHeard_100 : decode cX11_isHeard 100 = .ok (.bipush 10, 2) := by decide +kernel
theorem dX11_isHeard_102 : decode cX11_isHeard 102 = .ok (.idiv, 1) := by decide +kernel
theorem dX11_isHeard_103 : decode cX11_isHeard 103 = .ok (.istore 4, 2) := by decide +kernel
theorem dX11_isHeard_105 : decode cX11_isHeard 105 = .ok (.iinc 6 1, 3) := by decide +kernel
theorem dX11_isHeard_108 : decode cX11_isHeard 108 = .ok (.goto (-72), 3) := by decide +kernel
theorem dX11_isHeard_111 : decode cX11_isHeard 111 = .ok (.iinc 2 1, 3) := by decide +kernel
theorem dX11_isHeard_114 : decode cX11_isHeard 114 = .ok (.goto (-110), 3) := by decide +kernel
theorem dX11_isHeard_117 : decode cX11_isHeard 117 = .ok (.iload_n 1, 1) := by decide +kernel
theorem dX11_isHeard_118 : decode cX11_isHeard 118 = .ok (.ireturn, 1) := by decide +kernel
theorem dX11_works_0 : decode cX11_works 0 = .ok (.aload_n 0, 1) := by decide +kernel
theorem dX11_works_1 : decode cX11_works 1 = .ok (.invokevirtual 216, 3) := by decide +kernel
theorem dX11_works_4 : decode cX11_works 4 = .ok (.ifCond .eq 9, 3) := by decide +kernel
theorem dX11_works_7 : decode cX11_works 7 = .ok (.sipush 1024, 3) := by decide +kernel
theorem dX11_works_10 : decode cX11_works 10 = .ok (.goto 4, 3) := by decide +kernel
theorem dX11_works_13 : decode cX11_works 13 = .ok (.iconst 0, 1) := by decide +kernel
theorem dX11_works_14 : decode cX11_works 14 = .ok (.istore_n 1, 1) := by decide +kernel
theorem dX11_works_15 : decode cX11_works 15 = .ok (.iconst 0, 1) := by decide +kernel
theorem dX11_works_16 : decode cX11_works 16 = .ok (.istore_n 2, 1) := by decide +kernel
theorem dX11_works_17 : decode cX11_works 17 = .ok (.iload_n 2, 1) := by decide +kernel
theorem dX11_works_18 : decode cX11_works 18 = .ok (.bipush 10, 2) := by decide +kernel
theorem dX11_works_20 : decode cX11_works 20 = .ok (.if_icmp .ge 47, 3) := by decide +kernel
theorem dX11_works_23 : decode cX11_works 23 = .ok (.aload_n 0, 1) := by decide +kernel
theorem dX11_works_24 : decode cX11_works 24 = .ok (.getfield 34, 3) := by decide +kernel
theorem dX11_works_27 : decode cX11_works 27 = .ok (.iload_n 2, 1) := by decide +kernel
theorem dX11_works_28 : decode cX11_works 28 = .ok (.iaload, 1) := by decide +kernel
theorem dX11_works_29 : decode cX11_works 29 = .ok (.istore_n 3, 1) := by decide +kernel
theorem dX11_works_30 : decode cX11_works 30 = .ok (.aload_n 0, 1) := by decide +kernel
theorem dX11_works_31 : decode cX11_works 31 = .ok (.getfield 34, 3) := by decide +kernel
theorem dX11_works_34 : decode cX11_works 34 = .ok (.iload_n 2, 1) := by decide +kernel
theorem dX11_works_35 : decode cX11_works 35 = .ok (.iconst 0, 1) := by decide +kernel
theorem dX11_works_36 : decode cX11_works 36 = .ok (.iastore, 1) := by decide +kernel
theorem dX11_works_37 : decode cX11_works 37 = .ok (.iload_n 1, 1) := by decide +kernel
theorem dX11_works_38 : decode cX11_works 38 = .ok (.aload_n 0, 1) := by decide +kernel
theorem dX11_works_39 : decode cX11_works 39 = .ok (.invokevirtual 216, 3) := by decide +kernel
theorem dX11_works_42 : decode cX11_works 42 = .ok (.ifCond .eq 9, 3) := by decide +kernel
theorem dX11_works_45 : decode cX11_works 45 = .ok (.iconst 1, 1) := by decide +kernel
theorem dX11_works_46 : decode cX11_works 46 = .ok (.iload_n 2, 1) := by decide +kernel
theorem dX11_works_47 : decode cX11_works 47 = .ok (.ishl, 1) := by decide +kernel
theorem dX11_works_48 : decode cX11_works 48 = .ok (.goto 4, 3) := by decide +kernel
theorem dX11_works_51 : decode cX11_works 51 = .ok (.iconst 0, 1) := by decide +kernel
theorem dX11_works_52 : decode cX11_works 52 = .ok (.ior, 1) := by decide +kernel
theorem dX11_works_53 : decode cX11_works 53 = .ok (.istore_n 1, 1) := by decide +kernel
theorem dX11_works_54 : decode cX11_works 54 = .ok (.aload_n 0, 1) := by decide +kernel
theorem dX11_works_55 : decode cX11_works 55 = .ok (.getfield 34, 3) := by decide +kernel
theorem dX11_works_58 : decode cX11_works 58 = .ok (.iload_n 2, 1) := by decide +kernel
theorem dX11_works_59 : decode cX11_works 59 = .ok (.iload_n 3, 1) := by decide +kernel
theorem dX11_works_60 : decode cX11_works 60 = .ok (.iastore, 1) := by decide +kernel
theorem dX11_works_61 : decode cX11_works 61 = .ok (.iinc 2 1, 3) := by decide +kernel
theorem dX11_works_64 : decode cX11_works 64 = .ok (.goto (-47), 3) := by decide +kernel
theorem dX11_works_67 : decode cX11_works 67 = .ok (.iload_n 1, 1) := by decide +kernel
theorem dX11_works_68 : decode cX11_works 68 = .ok (.ireturn, 1) := by decide +kernel
theorem dX11_sayableBy_0 : decode cX11_sayableBy 0 = .ok (.aload_n 0, 1) := by decide +kernel
theorem dX11_sayableBy_1 : decode cX11_sayableBy 1 = .ok (.getfield 34, 3) := by decide +kernel
theorem dX11_sayableBy_4 : decode cX11_sayableBy 4 = .ok (.iload_n 1, 1) := by decide +kernel
theorem dX11_sayableBy_5 : decode cX11_sayableBy 5 = .ok (.iaload, 1) := by decide +kernel
theorem dX11_sayableBy_6 : decode cX11_sayableBy 6 = .ok (.istore 4, 2) := by decide +kernel
theorem dX11_sayableBy_8 : decode cX11_sayableBy 8 = .ok (.aload_n 0, 1) := by decide +kernel
theorem dX11_sayableBy_9 : decode cX11_sayableBy 9 = .ok (.getfield 34, 3) := by decide +kernel
theorem dX11_sayableBy_12 : decode cX11_sayableBy 12 = .ok (.iload_n 1, 1) := by decide +kernel
theorem dX11_sayableBy_13 : decode cX11_sayableBy 13 = .ok (.iload_n 2, 1) := by decide +kernel
theorem dX11_sayableBy_14 : decode cX11_sayableBy 14 = .ok (.iastore, 1) := by decide +kernel
theorem dX11_sayableBy_15 : decode cX11_sayableBy 15 = .ok (.aload_n 0, 1) := by decide +kernel
theorem dX11_sayableBy_16 : decode cX11_sayableBy 16 = .ok (.iload_n 3, 1) := by decide +kernel
theorem dX11_sayableBy_17 : decode cX11_sayableBy 17 = .ok (.invokevirtual 140, 3) := by decide +kernel
theorem dX11_sayableBy_20 : decode cX11_sayableBy 20 = .ok (.istore 5, 2) := by decide +kernel
theorem dX11_sayableBy_22 : decode cX11_sayableBy 22 = .ok (.aload_n 0, 1) := by decide +kernel
theorem dX11_sayableBy_23 : decode cX11_sayableBy 23 = .ok (.getfield 34, 3) := by decide +kernel
theorem dX11_sayableBy_26 : decode cX11_sayableBy 26 = .ok (.iload_n 1, 1) := by decide +kernel
theorem dX11_sayableBy_27 : decode cX11_sayableBy 27 = .ok (.iload 4, 2) := by decide +kernel
theorem dX11_sayableBy_29 : decode cX11_sayableBy 29 = .ok (.iastore, 1) := by decide +kernel
theorem dX11_sayableBy_30 : decode cX11_sayableBy 30 = .ok (.iload 5, 2) := by decide +kernel
theorem dX11_sayableBy_32 : decode cX11_sayableBy 32 = .ok (.ireturn, 1) := by decide +kernel
theorem dX11_costs_0 : decode cX11_costs 0 = .ok (.iload_n 1, 1) := by decide +kernel
theorem dX11_costs_1 : decode cX11_costs 1 = .ok (.invokestatic 128, 3) := by decide +kernel
theorem dX11_costs_4 : decode cX11_costs 4 = .ok (.ifCond .eq 31, 3) := by decide +kernel
theorem dX11_costs_7 : decode cX11_costs 7 = .ok (.iload_n 2, 1) := by decide +kernel
theorem dX11_costs_8 : decode cX11_costs 8 = .ok (.i2l, 1) := by decide +kernel
theorem dX11_costs_9 : decode cX11_costs 9 = .ok (.lconst 0, 1) := by decide +kernel
theorem dX11_costs_10 : decode cX11_costs 10 = .ok (.ldc2_w 202, 3) := by decide +kernel
theorem dX11_costs_13 : decode cX11_costs 13 = .ok (.invokestatic 72, 3) := by decide +kernel
theorem dX11_costs_16 : decode cX11_costs 16 = .ok (.ifCond .eq 19, 3) := by decide +kernel
theorem dX11_costs_19 : decode cX11_costs 19 = .ok (.aload_n 0, 1) := by decide +kernel
theorem dX11_costs_20 : decode cX11_costs 20 = .ok (.iload_n 1, 1) := by decide +kernel
theorem dX11_costs_21 : decode cX11_costs 21 = .ok (.iconst 0, 1) := by decide +kernel
theorem dX11_costs_22 : decode cX11_costs 22 = .ok (.iload_n 2, 1) := by decide +kernel
theorem dX11_costs_23 : decode cX11_costs 23 = .ok (.invokevirtual 219, 3) := by decide +kernel
theorem dX11_costs_26 : decode cX11_costs 26 = .ok (.aload_n 0, 1) := by decide +kernel
theorem dX11_costs_27 : decode cX11_costs 27 = .ok (.iload_n 2, 1) := by decide +kernel
theorem dX11_costs_28 : decode cX11_costs 28 = .ok (.invokevirtual 140, 3) := by decide +kernel
theorem dX11_costs_31 : decode cX11_costs 31 = .ok (.isub, 1) := by decide +kernel
theorem dX11_costs_32 : decode cX11_costs 32 = .ok (.goto 4, 3) := by decide +kernel
theorem dX11_costs_35 : decode cX11_costs 35 = .ok (.iconst (-1), 1) := by decide +kernel
theorem dX11_costs_36 : decode cX11_costs 36 = .ok (.ireturn, 1) := by decide +kernel
theorem dX11_dearest_0 : decode cX11_dearest 0 = .ok (.iload_n 1, 1) := by decide +kernel
theorem dX11_dearest_1 : decode cX11_dearest 1 = .ok (.i2l, 1) := by decide +kernel
theorem dX11_dearest_2 : decode cX11_dearest 2 = .ok (.lconst 0, 1) := by decide +kernel
theorem dX11_dearest_3 : decode cX11_dearest 3 = .ok (.ldc2_w 202, 3) := by decide +kernel
theorem dX11_dearest_6 : decode cX11_dearest 6 = .ok (.invokestatic 72, 3) := by decide +kernel
theorem dX11_dearest_9 : decode cX11_dearest 9 = .ok (.ifCond .eq 13, 3) := by decide +kernel
theorem dX11_dearest_12 : decode cX11_dearest 12 = .ok (.iload_n 2, 1) := by decide +kernel
theorem dX11_dearest_13 : decode cX11_dearest 13 = .ok (.i2l, 1) := by decide +kernel
theorem dX11_dearest_14 : decode cX11_dearest 14 = .ok (.lconst 0, 1) := by decide +kernel
theorem dX11_dearest_15 : decode cX11_dearest 15 = .ok (.lconst 1, 1) := by decide +kernel
theorem dX11_dearest_16 : decode cX11_dearest 16 = .ok (.invokestatic 72, 3) := by decide +kernel
theorem dX11_dearest_19 : decode cX11_dearest 19 = .ok (.ifCond .ne 5, 3) := by decide +kernel
theorem dX11_dearest_22 : decode cX11_dearest 22 = .ok (.iconst (-1), 1) := by decide +kernel
theorem dX11_dearest_23 : decode cX11_dearest 23 = .ok (.ireturn, 1) := by decide +kernel
theorem dX11_dearest_24 : decode cX11_dearest 24 = .ok (.iconst 0, 1) := by decide +kernel
theorem dX11_dearest_25 : decode cX11_dearest 25 = .ok (.istore_n 3, 1) := by decide +kernel
theorem dX11_dearest_26 : decode cX11_dearest 26 = .ok (.aload_n 0, 1) := by decide +kernel
theorem dX11_dearest_27 : decode cX11_dearest 27 = .ok (.iconst 0, 1) := by decide +kernel
theorem dX11_dearest_28 : decode cX11_dearest 28 = .ok (.iload_n 1, 1) := by decide +kernel
theorem dX11_dearest_29 : decode cX11_dearest 29 = .ok (.invokevirtual 223, 3) := by decide +kernel
theorem dX11_dearest_32 : decode cX11_dearest 32 = .ok (.istore 4, 2) := by decide +kernel
theorem dX11_dearest_34 : decode cX11_dearest 34 = .ok (.iconst 1, 1) := by decide +kernel
theorem dX11_dearest_35 : decode cX11_dearest 35 = .ok (.istore 5, 2) := by decide +kernel
theorem dX11_dearest_37 : decode cX11_dearest 37 = .ok (.iload 5, 2) := by decide +kernel
theorem dX11_dearest_39 : decode cX11_dearest 39 = .ok (.bipush 10, 2) := by decide +kernel
theorem dX11_dearest_41 : decode cX11_dearest 41 = .ok (.if_icmp .ge 48, 3) := by decide +kernel
theorem dX11_dearest_44 : decode cX11_dearest 44 = .ok (.aload_n 0, 1) := by decide +kernel
theorem dX11_dearest_45 : decode cX11_dearest 45 = .ok (.iload 5, 2) := by decide +kernel
theorem dX11_dearest_47 : decode cX11_dearest 47 = .ok (.iload_n 1, 1) := by decide +kernel
theorem dX11_dearest_48 : decode cX11_dearest 48 = .ok (.invokevirtual 223, 3) := by decide +kernel
theorem dX11_dearest_51 : decode cX11_dearest 51 = .ok (.istore 6, 2) := by decide +kernel
theorem dX11_dearest_53 : decode cX11_dearest 53 = .ok (.iload 6, 2) := by decide +kernel
theorem dX11_dearest_55 : decode cX11_dearest 55 = .ok (.iload 4, 2) := by decide +kernel
theorem dX11_dearest_57 : decode cX11_dearest 57 = .ok (.if_icmp .le 8, 3) := by decide +kernel
theorem dX11_dearest_60 : decode cX11_dearest 60 = .ok (.iload 5, 2) := by decide +kernel
theorem dX11_dearest_62 : decode cX11_dearest 62 = .ok (.goto 4, 3) := by decide +kernel
theorem dX11_dearest_65 : decode cX11_dearest 65 = .ok (.iload_n 3, 1) := by decide +kernel
theorem dX11_dearest_66 : decode cX11_dearest 66 = .ok (.istore_n 3, 1) := by decide +kernel
theorem dX11_dearest_67 : decode cX11_dearest 67 = .ok (.iload 6, 2) := by decide +kernel
theorem dX11_dearest_69 : decode cX11_dearest 69 = .ok (.iload 4, 2) := by decide +kernel
theorem dX11_dearest_71 : decode cX11_dearest 71 = .ok (.if_icmp .le 8, 3) := by decide +kernel
theorem dX11_dearest_74 : decode cX11_dearest 74 = .ok (.iload 6, 2) := by decide +kernel
theorem dX11_dearest_76 : decode cX11_dearest 76 = .ok (.goto 5, 3) := by decide +kernel
theorem dX11_dearest_79 : decode cX11_dearest 79 = .ok (.iload 4, 2) := by decide +kernel
theorem dX11_dearest_81 : decode cX11_dearest 81 = .ok (.istore 4, 2) := by decide +kernel
theorem dX11_dearest_83 : decode cX11_dearest 83 = .ok (.iinc 5 1, 3) := by decide +kernel
theorem dX11_dearest_86 : decode cX11_dearest 86 = .ok (.goto (-49), 3) := by decide +kernel
theorem dX11_dearest_89 : decode cX11_dearest 89 = .ok (.iload_n 2, 1) := by decide +kernel
theorem dX11_dearest_90 : decode cX11_dearest 90 = .ok (.ifCond .ne 7, 3) := by decide +kernel
theorem dX11_dearest_93 : decode cX11_dearest 93 = .ok (.iload_n 3, 1) := by decide +kernel
theorem dX11_dearest_94 : decode cX11_dearest 94 = .ok (.goto 5, 3) := by decide +kernel
theorem dX11_dearest_97 : decode cX11_dearest 97 = .ok (.iload 4, 2) := by decide +kernel
theorem dX11_dearest_99 : decode cX11_dearest 99 = .ok (.ireturn, 1) := by decide +kernel
theorem dX11_sayableIf_0 : decode cX11_sayableIf 0 = .ok (.aload_n 0, 1) := by decide +kernel
theorem dX11_sayableIf_1 : decode cX11_sayableIf 1 = .ok (.getfield 34, 3) := by decide +kernel
theorem dX11_sayableIf_4 : decode cX11_sayableIf 4 = .ok (.iload_n 1, 1) := by decide +kernel
theorem dX11_sayableIf_5 : decode cX11_sayableIf 5 = .ok (.iaload, 1) := by decide +kernel
theorem dX11_sayableIf_6 : decode cX11_sayableIf 6 = .ok (.istore 4, 2) := by decide +kernel
theorem dX11_sayableIf_8 : decode cX11_sayableIf 8 = .ok (.aload_n 0, 1) := by decide +kernel
theorem dX11_sayableIf_9 : decode cX11_sayableIf 9 = .ok (.getfield 34, 3) := by decide +kernel
theorem dX11_sayableIf_12 : decode cX11_sayableIf 12 = .ok (.iload_n 1, 1) := by decide +kernel
theorem dX11_sayableIf_13 : decode cX11_sayableIf 13 = .ok (.iconst 1, 1) := by decide +kernel
theorem dX11_sayableIf_14 : decode cX11_sayableIf 14 = .ok (.iastore, 1) := by decide +kernel
theorem dX11_sayableIf_15 : decode cX11_sayableIf 15 = .ok (.aload_n 0, 1) := by decide +kernel
theorem dX11_sayableIf_16 : decode cX11_sayableIf 16 = .ok (.iload_n 2, 1) := by decide +kernel
theorem dX11_sayableIf_17 : decode cX11_sayableIf 17 = .ok (.iconst 0, 1) := by decide +kernel
theorem dX11_sayableIf_18 : decode cX11_sayableIf 18 = .ok (.iload_n 3, 1) := by decide +kernel
theorem dX11_sayableIf_19 : decode cX11_sayableIf 19 = .ok (.invokevirtual 219, 3) := by decide +kernel
theorem dX11_sayableIf_22 : decode cX11_sayableIf 22 = .ok (.istore 5, 2) := by decide +kernel
theorem dX11_sayableIf_24 : decode cX11_sayableIf 24 = .ok (.aload_n 0, 1) := by decide +kernel
theorem dX11_sayableIf_25 : decode cX11_sayableIf 25 = .ok (.getfield 34, 3) := by decide +kernel
theorem dX11_sayableIf_28 : decode cX11_sayableIf 28 = .ok (.iload_n 1, 1) := by decide +kernel
theorem dX11_sayableIf_29 : decode cX11_sayableIf 29 = .ok (.iload 4, 2) := by decide +kernel
theorem dX11_sayableIf_31 : decode cX11_sayableIf 31 = .ok (.iastore, 1) := by decide +kernel
theorem dX11_sayableIf_32 : decode cX11_sayableIf 32 = .ok (.iload 5, 2) := by decide +kernel
theorem dX11_sayableIf_34 : decode cX11_sayableIf 34 = .ok (.ireturn, 1) := by decide +kernel
theorem dX11_bargain_0 : decode cX11_bargain 0 = .ok (.iload_n 1, 1) := by decide +kernel
theorem dX11_bargain_1 : decode cX11_bargain 1 = .ok (.invokestatic 128, 3) := by decide +kernel
theorem dX11_bargain_4 : decode cX11_bargain 4 = .ok (.ifCond .eq 27, 3) := by decide +kernel
theorem dX11_bargain_7 : decode cX11_bargain 7 = .ok (.iload_n 2, 1) := by decide +kernel
theorem dX11_bargain_8 : decode cX11_bargain 8 = .ok (.invokestatic 128, 3) := by decide +kernel
theorem dX11_bargain_11 : decode cX11_bargain 11 = .ok (.ifCond .eq 20, 3) := by decide +kernel
theorem dX11_bargain_14 : decode cX11_bargain 14 = .ok (.iload_n 1, 1) := by decide +kernel
theorem dX11_bargain_15 : decode cX11_bargain 15 = .ok (.iload_n 2, 1) := by decide +kernel
theorem dX11_bargain_16 : decode cX11_bargain 16 = .ok (.if_icmp .eq 15, 3) := by decide +kernel
theorem dX11_bargain_19 : decode cX11_bargain 19 = .ok (.iload_n 3, 1) := by decide +kernel
theorem dX11_bargain_20 : decode cX11_bargain 20 = .ok (.i2l, 1) := by decide +kernel
theorem dX11_bargain_21 : decode cX11_bargain 21 = .ok (.lconst 0, 1) := by decide +kernel
theorem dX11_bargain_22 : decode cX11_bargain 22 = .ok (.ldc2_w 202, 3) := by decide +kernel
theorem dX11_bargain_25 : decode cX11_bargain 25 = .ok (.invokestatic 72, 3) := by decide +kernel
theorem dX11_bargain_28 : decode cX11_bargain 28 = .ok (.ifCond .ne 5, 3) := by decide +kernel
theorem dX11_bargain_31 : decode cX11_bargain 31 = .ok (.iconst (-1), 1) := by decide +kernel
theorem dX11_bargain_32 : decode cX11_bargain 32 = .ok (.ireturn, 1) := by decide +kernel
theorem dX11_bargain_33 : decode cX11_bargain 33 = .ok (.aload_n 0, 1) := by decide +kernel
theorem dX11_bargain_34 : decode cX11_bargain 34 = .ok (.iload_n 2, 1) := by decide +kernel
theorem dX11_bargain_35 : decode cX11_bargain 35 = .ok (.iload_n 1, 1) := by decide +kernel
theorem dX11_bargain_36 : decode cX11_bargain 36 = .ok (.iload_n 3, 1) := by decide +kernel
theorem dX11_bargain_37 : decode cX11_bargain 37 = .ok (.invokevirtual 226, 3) := by decide +kernel
theorem dX11_bargain_40 : decode cX11_bargain 40 = .ok (.aload_n 0, 1) := by decide +kernel
theorem dX11_bargain_41 : decode cX11_bargain 41 = .ok (.iload_n 1, 1) := by decide +kernel
theorem dX11_bargain_42 : decode cX11_bargain 42 = .ok (.iload_n 2, 1) := by decide +kernel
theorem dX11_bargain_43 : decode cX11_bargain 43 = .ok (.iload_n 3, 1) := by decide +kernel
theorem dX11_bargain_44 : decode cX11_bargain 44 = .ok (.invokevirtual 226, 3) := by decide +kernel
theorem dX11_bargain_47 : decode cX11_bargain 47 = .ok (.isub, 1) := by decide +kernel
theorem dX11_bargain_48 : decode cX11_bargain 48 = .ok (.sipush 10000, 3) := by decide +kernel
theorem dX11_bargain_51 : decode cX11_bargain 51 = .ok (.iadd, 1) := by decide +kernel
theorem dX11_bargain_52 : decode cX11_bargain 52 = .ok (.ireturn, 1) := by decide +kernel
theorem dX11_days_0 : decode cX11_days 0 = .ok (.iload_n 1, 1) := by decide +kernel
theorem dX11_days_1 : decode cX11_days 1 = .ok (.i2l, 1) := by decide +kernel
theorem dX11_days_2 : decode cX11_days 2 = .ok (.lconst 0, 1) := by decide +kernel
theorem dX11_days_3 : decode cX11_days 3 = .ok (.ldc2_w 202, 3) := by decide +kernel
theorem dX11_days_6 : decode cX11_days 6 = .ok (.invokestatic 72, 3) := by decide +kernel
theorem dX11_days_9 : decode cX11_days 9 = .ok (.ifCond .eq 25, 3) := by decide +kernel
theorem dX11_days_12 : decode cX11_days 12 = .ok (.iload_n 2, 1) := by decide +kernel
theorem dX11_days_13 : decode cX11_days 13 = .ok (.i2l, 1) := by decide +kernel
theorem dX11_days_14 : decode cX11_days 14 = .ok (.lconst 1, 1) := by decide +kernel
theorem dX11_days_15 : decode cX11_days 15 = .ok (.ldc2_w 229, 3) := by decide +kernel
theorem dX11_days_18 : decode cX11_days 18 = .ok (.invokestatic 72, 3) := by decide +kernel
theorem dX11_days_21 : decode cX11_days 21 = .ok (.ifCond .eq 13, 3) := by decide +kernel
theorem dX11_days_24 : decode cX11_days 24 = .ok (.iload_n 3, 1) := by decide +kernel
theorem dX11_days_25 : decode cX11_days 25 = .ok (.i2l, 1) := by decide +kernel
theorem dX11_days_26 : decode cX11_days 26 = .ok (.lconst 0, 1) := by decide +kernel
theorem dX11_days_27 : decode cX11_days 27 = .ok (.lconst 1, 1) := by decide +kernel
theorem dX11_days_28 : decode cX11_days 28 = .ok (.invokestatic 72, 3) := by decide +kernel
theorem dX11_days_31 : decode cX11_days 31 = .ok (.ifCond .ne 5, 3) := by decide +kernel
theorem dX11_days_34 : decode cX11_days 34 = .ok (.iconst (-1), 1) := by decide +kernel
theorem dX11_days_35 : decode cX11_days 35 = .ok (.ireturn, 1) := by decide +kernel
theorem dX11_days_36 : decode cX11_days 36 = .ok (.iconst 0, 1) := by decide +kernel
theorem dX11_days_37 : decode cX11_days 37 = .ok (.istore 4, 2) := by decide +kernel
theorem dX11_days_39 : decode cX11_days 39 = .ok (.iload 4, 2) := by decide +kernel
theorem dX11_days_41 : decode cX11_days 41 = .ok (.bipush 10, 2) := by decide +kernel
theorem dX11_days_43 : decode cX11_days 43 = .ok (.if_icmp .ge 23, 3) := by decide +kernel
theorem dX11_days_46 : decode cX11_days 46 = .ok (.aload_n 0, 1) := by decide +kernel
theorem dX11_days_47 : decode cX11_days 47 = .ok (.getfield 58, 3) := by decide +kernel
theorem dX11_days_50 : decode cX11_days 50 = .ok (.iload 4, 2) := by decide +kernel
theorem dX11_days_52 : decode cX11_days 52 = .ok (.aload_n 0, 1) := by decide +kernel
theorem dX11_days_53 : decode cX11_days 53 = .ok (.getfield 34, 3) := by decide +kernel
theorem dX11_days_56 : decode cX11_days 56 = .ok (.iload 4, 2) := by decide +kernel
theorem dX11_days_58 : decode cX11_days 58 = .ok (.iaload, 1) := by decide +kernel
theorem dX11_days_59 : decode cX11_days 59 = .ok (.iastore, 1) := by decide +kernel
theorem dX11_days_60 : decode cX11_days 60 = .ok (.iinc 4 1, 3) := by decide +kernel
theorem dX11_days_63 : decode cX11_days 63 = .ok (.goto (-24), 3) := by decide +kernel
theorem dX11_days_66 : decode cX11_days 66 = .ok (.iconst 0, 1) := by decide +kernel
theorem dX11_days_67 : decode cX11_days 67 = .ok (.istore 4, 2) := by decide +kernel
theorem dX11_days_69 : decode cX11_days 69 = .ok (.iconst 0, 1) := by decide +kernel
theorem dX11_days_70 : decode cX11_days 70 = .ok (.istore 5, 2) := by decide +kernel
theorem dX11_days_72 : decode cX11_days 72 = .ok (.iload 5, 2) := by decide +kernel
theorem dX11_days_74 : decode cX11_days 74 = .ok (.iload_n 2, 1) := by decide +kernel
theorem dX11_days_75 : decode cX11_days 75 = .ok (.if_icmp .ge 75, 3) := by decide +kernel
theorem dX11_days_78 : decode cX11_days 78 = .ok (.ldc2_w 231, 3) := by decide +kernel
theorem dX11_days_81 : decode cX11_days 81 = .ok (.iload_n 1, 1) := by decide +kernel
theorem dX11_days_82 : decode cX11_days 82 = .ok (.i2l, 1) := by decide +kernel
theorem dX11_days_83 : decode cX11_days 83 = .ok (.lmul, 1) := by decide +kernel
theorem dX11_days_84 : decode cX11_days 84 = .ok (.ldc2_w 233, 3) := by decide +kernel
theorem dX11_days_87 : decode cX11_days 87 = .ok (.iload 5, 2) := by decide +kernel
theorem dX11_days_89 : decode cX11_days 89 = .ok (.i2l, 1) := by decide +kernel
theorem dX11_days_90 : decode cX11_days 90 = .ok (.lmul, 1) := by decide +kernel
theorem dX11_days_91 : decode cX11_days 91 = .ok (.ladd, 1) := by decide +kernel
theorem dX11_days_92 : decode cX11_days 92 = .ok (.lconst 1, 1) := by decide +kernel
theorem dX11_days_93 : decode cX11_days 93 = .ok (.ladd, 1) := by decide +kernel
theorem dX11_days_94 : decode cX11_days 94 = .ok (.lstore 6, 2) := by decide +kernel
theorem dX11_days_96 : decode cX11_days 96 = .ok (.lload 6, 2) := by decide +kernel
theorem dX11_days_98 : decode cX11_days 98 = .ok (.lload 6, 2) := by decide +kernel
theorem dX11_days_100 : decode cX11_days 100 = .ok (.lmul, 1) := by decide +kernel
theorem dX11_days_101 : decode cX11_days 101 = .ok (.ldc2_w 235, 3) := by decide +kernel
theorem dX11_days_104 : decode cX11_days 104 = .ok (.lrem, 1) := by decide +kernel
theorem dX11_days_105 : decode cX11_days 105 = .ok (.ldc2_w 237, 3) := by decide +kernel
theorem dX11_days_108 : decode cX11_days 108 = .ok (.ldiv, 1) := by decide +kernel
theorem dX11_days_109 : decode cX11_days 109 = .ok (.ldc2_w 150, 3) := by decide +kernel
theorem dX11_days_112 : decode cX11_days 112 = .ok (.lrem, 1) := by decide +kernel
theorem dX11_days_113 : decode cX11_days 113 = .ok (.l2i, 1) := by decide +kernel
theorem dX11_days_114 : decode cX11_days 114 = .ok (.istore 8, 2) := by decide +kernel
theorem dX11_days_116 : decode cX11_days 116 = .ok (.aload_n 0, 1) := by decide +kernel
theorem dX11_days_117 : decode cX11_days 117 = .ok (.getfield 34, 3) := by decide +kernel
theorem dX11_days_120 : decode cX11_days 120 = .ok (.iload 8, 2) := by decide +kernel
theorem dX11_days_122 : decode cX11_days 122 = .ok (.iconst 1, 1) := by decide +kernel
theorem dX11_days_123 : decode cX11_days 123 = .ok (.aload_n 0, 1) := by decide +kernel
theorem dX11_days_124 : decode cX11_days 124 = .ok (.getfield 34, 3) := by decide +kernel
theorem dX11_days_127 : decode cX11_days 127 = .ok (.iload 8, 2) := by decide +kernel
theorem dX11_days_129 : decode cX11_days 129 = .ok (.iaload, 1) := by decide +kernel
theorem dX11_days_130 : decode cX11_days 130 = .ok (.isub, 1) := by decide +kernel
theorem dX11_days_131 : decode cX11_days 131 = .ok (.iastore, 1) := by decide +kernel
theorem dX11_days_132 : decode cX11_days 132 = .ok (.iload 4, 2) := by decide +kernel
theorem dX11_days_134 : decode cX11_days 134 = .ok (.aload_n 0, 1) := by decide +kernel
theorem dX11_days_135 : decode cX11_days 135 = .ok (.getfield 34, 3) := by decide +kernel
theorem dX11_days_138 : decode cX11_days 138 = .ok (.bipush 7, 2) := by decide +kernel
theorem dX11_days_140 : decode cX11_days 140 = .ok (.iaload, 1) := by decide +kernel
theorem dX11_days_141 : decode cX11_days 141 = .ok (.iadd, 1) := by decide +kernel
theorem dX11_days_142 : decode cX11_days 142 = .ok (.istore 4, 2) := by decide +kernel
theorem dX11_days_144 : decode cX11_days 144 = .ok (.iinc 5 1, 3) := by decide +kernel
theorem dX11_days_147 : decode cX11_days 147 = .ok (.goto (-75), 3) := by decide +kernel
theorem dX11_days_150 : decode cX11_days 150 = .ok (.aload_n 0, 1) := by decide +kernel
theorem dX11_days_151 : decode cX11_days 151 = .ok (.sipush 999, 3) := by decide +kernel
theorem dX11_days_154 : decode cX11_days 154 = .ok (.invokevirtual 140, 3) := by decide +kernel
theorem dX11_days_157 : decode cX11_days 157 = .ok (.istore 5, 2) := by decide +kernel
theorem dX11_days_159 : decode cX11_days 159 = .ok (.iconst 0, 1) := by decide +kernel
theorem dX11_days_160 : decode cX11_days 160 = .ok (.istore 6, 2) := by decide +kernel
theorem dX11_days_162 : decode cX11_days 162 = .ok (.iload 6, 2) := by decide +kernel
theorem dX11_days_164 : decode cX11_days 164 = .ok (.bipush 10, 2) := by decide +kernel
theorem dX11_days_166 : decode cX11_days 166 = .ok (.if_icmp .ge 23, 3) := by decide +kernel
theorem dX11_days_169 : decode cX11_days 169 = .ok (.aload_n 0, 1) := by decide +kernel
theorem dX11_days_170 : decode cX11_days 170 = .ok (.getfield 34, 3) := by decide +kernel
theorem dX11_days_173 : decode cX11_days 173 = .ok (.iload 6, 2) := by decide +kernel
theorem dX11_days_175 : decode cX11_days 175 = .ok (.aload_n 0, 1) := by decide +kernel
theorem dX11_days_176 : decode cX11_days 176 = .ok (.getfield 58, 3) := by decide +kernel
theorem dX11_days_179 : decode cX11_days 179 = .ok (.iload 6, 2) := by decide +kernel
theorem dX11_days_181 : decode cX11_days 181 = .ok (.iaload, 1) := by decide +kernel
theorem dX11_days_182 : decode cX11_days 182 = .ok (.iastore, 1) := by decide +kernel
theorem dX11_days_183 : decode cX11_days 183 = .ok (.iinc 6 1, 3) := by decide +kernel
theorem dX11_days_186 : decode cX11_days 186 = .ok (.goto (-24), 3) := by decide +kernel
theorem dX11_days_189 : decode cX11_days 189 = .ok (.iload_n 3, 1) := by decide +kernel
theorem dX11_days_190 : decode cX11_days 190 = .ok (.ifCond .ne 8, 3) := by decide +kernel
theorem dX11_days_193 : decode cX11_days 193 = .ok (.iload 5, 2) := by decide +kernel
theorem dX11_days_195 : decode cX11_days 195 = .ok (.goto 5, 3) := by decide +kernel
theorem dX11_days_198 : decode cX11_days 198 = .ok (.iload 4, 2) := by decide +kernel
theorem dX11_days_200 : decode cX11_days 200 = .ok (.ireturn, 1) := by decide +kernel
theorem dX11_keep_0 : decode cX11_keep 0 = .ok (.aload_n 0, 1) := by decide +kernel
theorem dX11_keep_1 : decode cX11_keep 1 = .ok (.getfield 122, 3) := by decide +kernel
theorem dX11_keep_4 : decode cX11_keep 4 = .ok (.iconst 2, 1) := by decide +kernel
theorem dX11_keep_5 : decode cX11_keep 5 = .ok (.if_icmp .ne 6, 3) := by decide +kernel
theorem dX11_keep_8 : decode cX11_keep 8 = .ok (.bipush (-3), 2) := by decide +kernel
theorem dX11_keep_10 : decode cX11_keep 10 = .ok (.ireturn, 1) := by decide +kernel
theorem dX11_keep_11 : decode cX11_keep 11 = .ok (.iconst 0, 1) := by decide +kernel
theorem dX11_keep_12 : decode cX11_keep 12 = .ok (.istore_n 1, 1) := by decide +kernel
theorem dX11_keep_13 : decode cX11_keep 13 = .ok (.iload_n 1, 1) := by decide +kernel
theorem dX11_keep_14 : decode cX11_keep 14 = .ok (.bipush 20, 2) := by decide +kernel
theorem dX11_keep_16 : decode cX11_keep 16 = .ok (.if_icmp .ge 29, 3) := by decide +kernel
theorem dX11_keep_19 : decode cX11_keep 19 = .ok (.aload_n 0, 1) := by decide +kernel
theorem dX11_keep_20 : decode cX11_keep 20 = .ok (.getfield 40, 3) := by decide +kernel
theorem dX11_keep_23 : decode cX11_keep 23 = .ok (.bipush 20, 2) := by decide +kernel
theorem dX11_keep_25 : decode cX11_keep 25 = .ok (.aload_n 0, 1) := by decide +kernel
theorem dX11_keep_26 : decode cX11_keep 26 = .ok (.getfield 122, 3) := by decide +kernel
theorem dX11_keep_29 : decode cX11_keep 29 = .ok (.imul, 1) := by decide +kernel
theorem dX11_keep_30 : decode cX11_keep 30 = .ok (.iload_n 1, 1) := by decide +kernel
theorem dX11_keep_31 : decode cX11_keep 31 = .ok (.iadd, 1) := by decide +kernel
theorem dX11_keep_32 : decode cX11_keep 32 = .ok (.aload_n 0, 1) := by decide +kernel
theorem dX11_keep_33 : decode cX11_keep 33 = .ok (.getfield 34, 3) := by decide +kernel
theorem dX11_keep_36 : decode cX11_keep 36 = .ok (.iload_n 1, 1) := by decide +kernel
theorem dX11_keep_37 : decode cX11_keep 37 = .ok (.iaload, 1) := by decide +kernel
theorem dX11_keep_38 : decode cX11_keep 38 = .ok (.iastore, 1) := by decide +kernel
theorem dX11_keep_39 : decode cX11_keep 39 = .ok (.iinc 1 1, 3) := by decide +kernel
theorem dX11_keep_42 : decode cX11_keep 42 = .ok (.goto (-29), 3) := by decide +kernel
theorem dX11_keep_45 : decode cX11_keep 45 = .ok (.aload_n 0, 1) := by decide +kernel
theorem dX11_keep_46 : decode cX11_keep 46 = .ok (.dup, 1) := by decide +kernel
theorem dX11_keep_47 : decode cX11_keep 47 = .ok (.getfield 122, 3) := by decide +kernel
theorem dX11_keep_50 : decode cX11_keep 50 = .ok (.iconst 1, 1) := by decide +kernel
theorem dX11_keep_51 : decode cX11_keep 51 = .ok (.iadd, 1) := by decide +kernel
theorem dX11_keep_52 : decode cX11_keep 52 = .ok (.putfield 122, 3) := by decide +kernel
theorem dX11_keep_55 : decode cX11_keep 55 = .ok (.aload_n 0, 1) := by decide +kernel
theorem dX11_keep_56 : decode cX11_keep 56 = .ok (.getfield 122, 3) := by decide +kernel
theorem dX11_keep_59 : decode cX11_keep 59 = .ok (.ireturn, 1) := by decide +kernel
theorem dX11_back_0 : decode cX11_back 0 = .ok (.aload_n 0, 1) := by decide +kernel
theorem dX11_back_1 : decode cX11_back 1 = .ok (.getfield 122, 3) := by decide +kernel
theorem dX11_back_4 : decode cX11_back 4 = .ok (.ifCond .ne 6, 3) := by decide +kernel
theorem dX11_back_7 : decode cX11_back 7 = .ok (.bipush (-2), 2) := by decide +kernel
theorem dX11_back_9 : decode cX11_back 9 = .ok (.ireturn, 1) := by decide +kernel
theorem dX11_back_10 : decode cX11_back 10 = .ok (.aload_n 0, 1) := by decide +kernel
theorem dX11_back_11 : decode cX11_back 11 = .ok (.dup, 1) := by decide +kernel
theorem dX11_back_12 : decode cX11_back 12 = .ok (.getfield 122, 3) := by decide +kernel
theorem dX11_back_15 : decode cX11_back 15 = .ok (.iconst 1, 1) := by decide +kernel
theorem dX11_back_16 : decode cX11_back 16 = .ok (.isub, 1) := by decide +kernel
theorem dX11_back_17 : decode cX11_back 17 = .ok (.putfield 122, 3) := by decide +kernel
theorem dX11_back_20 : decode cX11_back 20 = .ok (.iconst 0, 1) := by decide +kernel
theorem dX11_back_21 : decode cX11_back 21 = .ok (.istore_n 1, 1) := by decide +kernel
theorem dX11_back_22 : decode cX11_back 22 = .ok (.iload_n 1, 1) := by decide +kernel
theorem dX11_back_23 : decode cX11_back 23 = .ok (.bipush 20, 2) := by decide +kernel
theorem dX11_back_25 : decode cX11_back 25 = .ok (.if_icmp .ge 29, 3) := by decide +kernel
theorem dX11_back_28 : decode cX11_back 28 = .ok (.aload_n 0, 1) := by decide +kernel
theorem dX11_back_29 : decode cX11_back 29 = .ok (.getfield 34, 3) := by decide +kernel
theorem dX11_back_32 : decode cX11_back 32 = .ok (.iload_n 1, 1) := by decide +kernel
theorem dX11_back_33 : decode cX11_back 33 = .ok (.aload_n 0, 1) := by decide +kernel
theorem dX11_back_34 : decode cX11_back 34 = .ok (.getfield 40, 3) := by decide +kernel
theorem dX11_back_37 : decode cX11_back 37 = .ok (.bipush 20, 2) := by decide +kernel
theorem dX11_back_39 : decode cX11_back 39 = .ok (.aload_n 0, 1) := by decide +kernel
theorem dX11_back_40 : decode cX11_back 40 = .ok (.getfield 122, 3) := by decide +kernel
theorem dX11_back_43 : decode cX11_back 43 = .ok (.imul, 1) := by decide +kernel
theorem dX11_back_44 : decode cX11_back 44 = .ok (.iload_n 1, 1) := by decide +kernel
theorem dX11_back_45 : decode cX11_back 45 = .ok (.iadd, 1) := by decide +kernel
theorem dX11_back_46 : decode cX11_back 46 = .ok (.iaload, 1) := by decide +kernel
theorem dX11_back_47 : decode cX11_back 47 = .ok (.iastore, 1) := by decide +kernel
theorem dX11_back_48 : decode cX11_back 48 = .ok (.iinc 1 1, 3) := by decide +kernel
theorem dX11_back_51 : decode cX11_back 51 = .ok (.goto (-29), 3) := by decide +kernel
theorem dX11_back_54 : decode cX11_back 54 = .ok (.aload_n 0, 1) := by decide +kernel
theorem dX11_back_55 : decode cX11_back 55 = .ok (.iconst 0, 1) := by decide +kernel
theorem dX11_back_56 : decode cX11_back 56 = .ok (.putfield 119, 3) := by decide +kernel
theorem dX11_back_59 : decode cX11_back 59 = .ok (.aload_n 0, 1) := by decide +kernel
theorem dX11_back_60 : decode cX11_back 60 = .ok (.getfield 122, 3) := by decide +kernel
theorem dX11_back_63 : decode cX11_back 63 = .ok (.ireturn, 1) := by decide +kernel
theorem dX11_count_0 : decode cX11_count 0 = .ok (.iload_n 1, 1) := by decide +kernel
theorem dX11_count_1 : decode cX11_count 1 = .ok (.tableswitch 93 0 7 #[47, 52, 59, 66, 73, 78, 83, 88], 47) := by decide +kernel
theorem dX11_count_48 : decode cX11_count 48 = .ok (.aload_n 0, 1) := by decide +kernel
theorem dX11_count_49 : decode cX11_count 49 = .ok (.invokevirtual 116, 3) := by decide +kernel
theorem dX11_count_52 : decode cX11_count 52 = .ok (.ireturn, 1) := by decide +kernel
theorem dX11_count_53 : decode cX11_count 53 = .ok (.aload_n 0, 1) := by decide +kernel
theorem dX11_count_54 : decode cX11_count 54 = .ok (.getfield 19, 3) := by decide +kernel
theorem dX11_count_57 : decode cX11_count 57 = .ok (.iconst 0, 1) := by decide +kernel
theorem dX11_count_58 : decode cX11_count 58 = .ok (.iaload, 1) := by decide +kernel
theorem dX11_count_59 : decode cX11_count 59 = .ok (.ireturn, 1) := by decide +kernel
theorem dX11_count_60 : decode cX11_count 60 = .ok (.aload_n 0, 1) := by decide +kernel
theorem dX11_count_61 : decode cX11_count 61 = .ok (.getfield 22, 3) := by decide +kernel
theorem dX11_count_64 : decode cX11_count 64 = .ok (.iconst 0, 1) := by decide +kernel
theorem dX11_count_65 : decode cX11_count 65 = .ok (.iaload, 1) := by decide +kernel
theorem dX11_count_66 : decode cX11_count 66 = .ok (.ireturn, 1) := by decide +kernel
theorem dX11_count_67 : decode cX11_count 67 = .ok (.aload_n 0, 1) := by decide +kernel
theorem dX11_count_68 : decode cX11_count 68 = .ok (.getfield 25, 3) := by decide +kernel
theorem dX11_count_71 : decode cX11_count 71 = .ok (.iconst 0, 1) := by decide +kernel
theorem dX11_count_72 : decode cX11_count 72 = .ok (.iaload, 1) := by decide +kernel
theorem dX11_count_73 : decode cX11_count 73 = .ok (.ireturn, 1) := by decide +kernel
theorem dX11_count_74 : decode cX11_count 74 = .ok (.aload_n 0, 1) := by decide +kernel
theorem dX11_count_75 : decode cX11_count 75 = .ok (.getfield 125, 3) := by decide +kernel
theorem dX11_count_78 : decode cX11_count 78 = .ok (.ireturn, 1) := by decide +kernel
theorem dX11_count_79 : decode cX11_count 79 = .ok (.aload_n 0, 1) := by decide +kernel
theorem dX11_count_80 : decode cX11_count 80 = .ok (.getfield 119, 3) := by decide +kernel
theorem dX11_count_83 : decode cX11_count 83 = .ok (.ireturn, 1) := by decide +kernel
theorem dX11_count_84 : decode cX11_count 84 = .ok (.aload_n 0, 1) := by decide +kernel
theorem dX11_count_85 : decode cX11_count 85 = .ok (.getfield 122, 3) := by decide +kernel
theorem dX11_count_88 : decode cX11_count 88 = .ok (.ireturn, 1) := by decide +kernel
theorem dX11_count_89 : decode cX11_count 89 = .ok (.aload_n 0, 1) := by decide +kernel
theorem dX11_count_90 : decode cX11_count 90 = .ok (.getfield 76, 3) := by decide +kernel
theorem dX11_count_93 : decode cX11_count 93 = .ok (.ireturn, 1) := by decide +kernel
theorem dX11_count_94 : decode cX11_count 94 = .ok (.iconst (-1), 1) := by decide +kernel
theorem dX11_count_95 : decode cX11_count 95 = .ok (.ireturn, 1) := by decide +kernel
end
section
theorem dL_law_0 : decode cL_law 0 = .ok (.new 7, 3) := by decide +kernel
theorem dL_law_3 : decode cL_law 3 = .ok (.dup, 1) := by decide +kernel
theorem dL_law_4 : decode cL_law 4 = .ok (.invokespecial 9, 3) := by decide +kernel
theorem dL_law_7 : decode cL_law 7 = .ok (.astore_n 1, 1) := by decide +kernel
theorem dL_law_8 : decode cL_law 8 = .ok (.new 10, 3) := by decide +kernel
theorem dL_law_11 : decode cL_law 11 = .ok (.dup, 1) := by decide +kernel
theorem dL_law_12 : decode cL_law 12 = .ok (.invokespecial 12, 3) := by decide +kernel
theorem dL_law_15 : decode cL_law 15 = .ok (.astore_n 2, 1) := by decide +kernel
theorem dL_law_16 : decode cL_law 16 = .ok (.iconst 0, 1) := by decide +kernel
theorem dL_law_17 : decode cL_law 17 = .ok (.istore_n 3, 1) := by decide +kernel
theorem dL_law_18 : decode cL_law 18 = .ok (.iload_n 3, 1) := by decide +kernel
theorem dL_law_19 : decode cL_law 19 = .ok (.aload_n 0, 1) := by decide +kernel
theorem dL_law_20 : decode cL_law 20 = .ok (.arraylength, 1) := by decide +kernel
theorem dL_law_21 : decode cL_law 21 = .ok (.iconst 4, 1) := by decide +kernel
theorem dL_law_22 : decode cL_law 22 = .ok (.isub, 1) := by decide +kernel
theorem dL_law_23 : decode cL_law 23 = .ok (.if_icmp .gt 942, 3) := by decide +kernel
theorem dL_law_26 : decode cL_law 26 = .ok (.aload_n 0, 1) := by decide +kernel
theorem dL_law_27 : decode cL_law 27 = .ok (.iload_n 3, 1) := by decide +kernel
theorem dL_law_28 : decode cL_law 28 = .ok (.iaload, 1) := by decide +kernel
theorem dL_law_29 : decode cL_law 29 = .ok (.bipush 63, 2) := by decide +kernel
theorem dL_law_31 : decode cL_law 31 = .ok (.iand, 1) := by decide +kernel
theorem dL_law_32 : decode cL_law 32 = .ok (.tableswitch 927 0 32 #[148, 171, 184, 197, 210, 243, 266, 299, 332, 345, 368, 391, 414, 437, 460, 483, 516, 539, 552, 575, 598, 611, 644, 667, 700, 713, 726, 759, 792, 835, 878, 891, 904], 148) := by decide +kernel
theorem dL_law_180 : decode cL_law 180 = .ok (.aload_n 1, 1) := by decide +kernel
theorem dL_law_181 : decode cL_law 181 = .ok (.aload_n 0, 1) := by decide +kernel
theorem dL_law_182 : decode cL_law 182 = .ok (.iload_n 3, 1) := by decide +kernel
theorem dL_law_183 : decode cL_law 183 = .ok (.iconst 1, 1) := by decide +kernel
theorem dL_law_184 : decode cL_law 184 = .ok (.iadd, 1) := by decide +kernel
theorem dL_law_185 : decode cL_law 185 = .ok (.iaload, 1) := by decide +kernel
theorem dL_law_186 : decode cL_law 186 = .ok (.invokevirtual 13, 3) := by decide +kernel
theorem dL_law_189 : decode cL_law 189 = .ok (.aload_n 2, 1) := by decide +kernel
theorem dL_law_190 : decode cL_law 190 = .ok (.aload_n 0, 1) := by decide +kernel
theorem dL_law_191 : decode cL_law 191 = .ok (.iload_n 3, 1) := by decide +kernel
theorem dL_law_192 : decode cL_law 192 = .ok (.iconst 1, 1) := by decide +kernel
theorem dL_law_193 : decode cL_law 193 = .ok (.iadd, 1) := by decide +kernel
theorem dL_law_194 : decode cL_law 194 = .ok (.iaload, 1) := by decide +kernel
theorem dL_law_195 : decode cL_law 195 = .ok (.invokevirtual 17, 3) := by decide +kernel
theorem dL_law_198 : decode cL_law 198 = .ok (.if_icmp .eq 761, 3) := by decide +kernel
theorem dL_law_201 : decode cL_law 201 = .ok (.iconst 0, 1) := by decide +kernel
theorem dL_law_202 : decode cL_law 202 = .ok (.ireturn, 1) := by decide +kernel
theorem dL_law_203 : decode cL_law 203 = .ok (.aload_n 1, 1) := by decide +kernel
theorem dL_law_204 : decode cL_law 204 = .ok (.invokevirtual 18, 3) := by decide +kernel
theorem dL_law_207 : decode cL_law 207 = .ok (.aload_n 2, 1) := by decide +kernel
theorem dL_law_208 : decode cL_law 208 = .ok (.invokevirtual 22, 3) := by decide +kernel
theorem dL_law_211 : decode cL_law 211 = .ok (.if_icmp .eq 748, 3) := by decide +kernel
theorem dL_law_214 : decode cL_law 214 = .ok (.iconst 0, 1) := by decide +kernel
theorem dL_law_215 : decode cL_law 215 = .ok (.ireturn, 1) := by decide +kernel
theorem dL_law_216 : decode cL_law 216 = .ok (.aload_n 1, 1) := by decide +kernel
theorem dL_law_217 : decode cL_law 217 = .ok (.invokevirtual 23, 3) := by decide +kernel
theorem dL_law_220 : decode cL_law 220 = .ok (.aload_n 2, 1) := by decide +kernel
theorem dL_law_221 : decode cL_law 221 = .ok (.invokevirtual 26, 3) := by decide +kernel
theorem dL_law_224 : decode cL_law 224 = .ok (.if_icmp .eq 735, 3) := by decide +kernel
theorem dL_law_227 : decode cL_law 227 = .ok (.iconst 0, 1) := by decide +kernel
theorem dL_law_228 : decode cL_law 228 = .ok (.ireturn, 1) := by decide +kernel
theorem dL_law_229 : decode cL_law 229 = .ok (.aload_n 1, 1) := by decide +kernel
theorem dL_law_230 : decode cL_law 230 = .ok (.invokevirtual 27, 3) := by decide +kernel
theorem dL_law_233 : decode cL_law 233 = .ok (.aload_n 2, 1) := by decide +kernel
theorem dL_law_234 : decode cL_law 234 = .ok (.invokevirtual 30, 3) := by decide +kernel
theorem dL_law_237 : decode cL_law 237 = .ok (.if_icmp .eq 722, 3) := by decide +kernel
theorem dL_law_240 : decode cL_law 240 = .ok (.iconst 0, 1) := by decide +kernel
theorem dL_law_241 : decode cL_law 241 = .ok (.ireturn, 1) := by decide +kernel
theorem dL_law_242 : decode cL_law 242 = .ok (.aload_n 1, 1) := by decide +kernel
theorem dL_law_243 : decode cL_law 243 = .ok (.aload_n 0, 1) := by decide +kernel
theorem dL_law_244 : decode cL_law 244 = .ok (.iload_n 3, 1) := by decide +kernel
theorem dL_law_245 : decode cL_law 245 = .ok (.iconst 1, 1) := by decide +kernel
theorem dL_law_246 : decode cL_law 246 = .ok (.iadd, 1) := by decide +kernel
theorem dL_law_247 : decode cL_law 247 = .ok (.iaload, 1) := by decide +kernel
theorem dL_law_248 : decode cL_law 248 = .ok (.aload_n 0, 1) := by decide +kernel
theorem dL_law_249 : decode cL_law 249 = .ok (.iload_n 3, 1) := by decide +kernel
theorem dL_law_250 : decode cL_law 250 = .ok (.iconst 2, 1) := by decide +kernel
theorem dL_law_251 : decode cL_law 251 = .ok (.iadd, 1) := by decide +kernel
theorem dL_law_252 : decode cL_law 252 = .ok (.iaload, 1) := by decide +kernel
theorem dL_law_253 : decode cL_law 253 = .ok (.invokevirtual 31, 3) := by decide +kernel
theorem dL_law_256 : decode cL_law 256 = .ok (.aload_n 2, 1) := by decide +kernel
theorem dL_law_257 : decode cL_law 257 = .ok (.aload_n 0, 1) := by decide +kernel
theorem dL_law_258 : decode cL_law 258 = .ok (.iload_n 3, 1) := by decide +kernel
theorem dL_law_259 : decode cL_law 259 = .ok (.iconst 1, 1) := by decide +kernel
theorem dL_law_260 : decode cL_law 260 = .ok (.iadd, 1) := by decide +kernel
theorem dL_law_261 : decode cL_law 261 = .ok (.iaload, 1) := by decide +kernel
theorem dL_law_262 : decode cL_law 262 = .ok (.aload_n 0, 1) := by decide +kernel
theorem dL_law_263 : decode cL_law 263 = .ok (.iload_n 3, 1) := by decide +kernel
theorem dL_law_264 : decode cL_law 264 = .ok (.iconst 2, 1) := by decide +kernel
theorem dL_law_265 : decode cL_law 265 = .ok (.iadd, 1) := by decide +kernel
theorem dL_law_266 : decode cL_law 266 = .ok (.iaload, 1) := by decide +kernel
theorem dL_law_267 : decode cL_law 267 = .ok (.invokevirtual 35, 3) := by decide +kernel
theorem dL_law_270 : decode cL_law 270 = .ok (.if_icmp .eq 689, 3) := by decide +kernel
theorem dL_law_273 : decode cL_law 273 = .ok (.iconst 0, 1) := by decide +kernel
theorem dL_law_274 : decode cL_law 274 = .ok (.ireturn, 1) := by decide +kernel
theorem dL_law_275 : decode cL_law 275 = .ok (.aload_n 1, 1) := by decide +kernel
theorem dL_law_276 : decode cL_law 276 = .ok (.aload_n 0, 1) := by decide +kernel
theorem dL_law_277 : decode cL_law 277 = .ok (.iload_n 3, 1) := by decide +kernel
theorem dL_law_278 : decode cL_law 278 = .ok (.iconst 1, 1) := by decide +kernel
theorem dL_law_279 : decode cL_law 279 = .ok (.iadd, 1) := by decide +kernel
theorem dL_law_280 : decode cL_law 280 = .ok (.iaload, 1) := by decide +kernel
theorem dL_law_281 : decode cL_law 281 = .ok (.invokevirtual 36, 3) := by decide +kernel
theorem dL_law_284 : decode cL_law 284 = .ok (.aload_n 2, 1) := by decide +kernel
theorem dL_law_285 : decode cL_law 285 = .ok (.aload_n 0, 1) := by decide +kernel
theorem dL_law_286 : decode cL_law 286 = .ok (.iload_n 3, 1) := by decide +kernel
theorem dL_law_287 : decode cL_law 287 = .ok (.iconst 1, 1) := by decide +kernel
theorem dL_law_288 : decode cL_law 288 = .ok (.iadd, 1) := by decide +kernel
theorem dL_law_289 : decode cL_law 289 = .ok (.iaload, 1) := by decide +kernel
theorem dL_law_290 : decode cL_law 290 = .ok (.invokevirtual 39, 3) := by decide +kernel
theorem dL_law_293 : decode cL_law 293 = .ok (.if_icmp .eq 666, 3) := by decide +kernel
theorem dL_law_296 : decode cL_law 296 = .ok (.iconst 0, 1) := by decide +kernel
theorem dL_law_297 : decode cL_law 297 = .ok (.ireturn, 1) := by decide +kernel
theorem dL_law_298 : decode cL_law 298 = .ok (.aload_n 1, 1) := by decide +kernel
theorem dL_law_299 : decode cL_law 299 = .ok (.aload_n 0, 1) := by decide +kernel
theorem dL_law_300 : decode cL_law 300 = .ok (.iload_n 3, 1) := by decide +kernel
theorem dL_law_301 : decode cL_law 301 = .ok (.iconst 1, 1) := by decide +kernel
theorem dL_law_302 : decode cL_law 302 = .ok (.iadd, 1) := by decide +kernel
theorem dL_law_303 : decode cL_law 303 = .ok (.iaload, 1) := by decide +kernel
theorem dL_law_304 : decode cL_law 304 = .ok (.aload_n 0, 1) := by decide +kernel
theorem dL_law_305 : decode cL_law 305 = .ok (.iload_n 3, 1) := by decide +kernel
theorem dL_law_306 : decode cL_law 306 = .ok (.iconst 2, 1) := by decide +kernel
theorem dL_law_307 : decode cL_law 307 = .ok (.iadd, 1) := by decide +kernel
theorem dL_law_308 : decode cL_law 308 = .ok (.iaload, 1) := by decide +kernel
theorem dL_law_309 : decode cL_law 309 = .ok (.invokevirtual 40, 3) := by decide +kernel
theorem dL_law_312 : decode cL_law 312 = .ok (.aload_n 2, 1) := by decide +kernel
theorem dL_law_313 : decode cL_law 313 = .ok (.aload_n 0, 1) := by decide +kernel
theorem dL_law_314 : decode cL_law 314 = .ok (.iload_n 3, 1) := by decide +kernel
theorem dL_law_315 : decode cL_law 315 = .ok (.iconst 1, 1) := by decide +kernel
theorem dL_law_316 : decode cL_law 316 = .ok (.iadd, 1) := by decide +kernel
theorem dL_law_317 : decode cL_law 317 = .ok (.iaload, 1) := by decide +kernel
theorem dL_law_318 : decode cL_law 318 = .ok (.aload_n 0, 1) := by decide +kernel
theorem dL_law_319 : decode cL_law 319 = .ok (.iload_n 3, 1) := by decide +kernel
theorem dL_law_320 : decode cL_law 320 = .ok (.iconst 2, 1) := by decide +kernel
theorem dL_law_321 : decode cL_law 321 = .ok (.iadd, 1) := by decide +kernel
theorem dL_law_322 : decode cL_law 322 = .ok (.iaload, 1) := by decide +kernel
theorem dL_law_323 : decode cL_law 323 = .ok (.invokevirtual 43, 3) := by decide +kernel
theorem dL_law_326 : decode cL_law 326 = .ok (.if_icmp .eq 633, 3) := by decide +kernel
theorem dL_law_329 : decode cL_law 329 = .ok (.iconst 0, 1) := by decide +kernel
theorem dL_law_330 : decode cL_law 330 = .ok (.ireturn, 1) := by decide +kernel
theorem dL_law_331 : decode cL_law 331 = .ok (.aload_n 1, 1) := by decide +kernel
theorem dL_law_332 : decode cL_law 332 = .ok (.aload_n 0, 1) := by decide +kernel
theorem dL_law_333 : decode cL_law 333 = .ok (.iload_n 3, 1) := by decide +kernel
theorem dL_law_334 : decode cL_law 334 = .ok (.iconst 1, 1) := by decide +kernel
theorem dL_law_335 : decode cL_law 335 = .ok (.iadd, 1) := by decide +kernel
theorem dL_law_336 : decode cL_law 336 = .ok (.iaload, 1) := by decide +kernel
theorem dL_law_337 : decode cL_law 337 = .ok (.aload_n 0, 1) := by decide +kernel
theorem dL_law_338 : decode cL_law 338 = .ok (.iload_n 3, 1) := by decide +kernel
theorem dL_law_339 : decode cL_law 339 = .ok (.iconst 2, 1) := by decide +kernel
theorem dL_law_340 : decode cL_law 340 = .ok (.iadd, 1) := by decide +kernel
theorem dL_law_341 : decode cL_law 341 = .ok (.iaload, 1) := by decide +kernel
theorem dL_law_342 : decode cL_law 342 = .ok (.invokevirtual 44, 3) := by decide +kernel
theorem dL_law_345 : decode cL_law 345 = .ok (.aload_n 2, 1) := by decide +kernel
theorem dL_law_346 : decode cL_law 346 = .ok (.aload_n 0, 1) := by decide +kernel
theorem dL_law_347 : decode cL_law 347 = .ok (.iload_n 3, 1) := by decide +kernel
theorem dL_law_348 : decode cL_law 348 = .ok (.iconst 1, 1) := by decide +kernel
theorem dL_law_349 : decode cL_law 349 = .ok (.iadd, 1) := by decide +kernel
theorem dL_law_350 : decode cL_law 350 = .ok (.iaload, 1) := by decide +kernel
theorem dL_law_351 : decode cL_law 351 = .ok (.aload_n 0, 1) := by decide +kernel
theorem dL_law_352 : decode cL_law 352 = .ok (.iload_n 3, 1) := by decide +kernel
theorem dL_law_353 : decode cL_law 353 = .ok (.iconst 2, 1) := by decide +kernel
theorem dL_law_354 : decode cL_law 354 = .ok (.iadd, 1) := by decide +kernel
theorem dL_law_355 : decode cL_law 355 = .ok (.iaload, 1) := by decide +kernel
theorem dL_law_356 : decode cL_law 356 = .ok (.invokevirtual 47, 3) := by decide +kernel
theorem dL_law_359 : decode cL_law 359 = .ok (.if_icmp .eq 600, 3) := by decide +kernel
theorem dL_law_362 : decode cL_law 362 = .ok (.iconst 0, 1) := by decide +kernel
theorem dL_law_363 : decode cL_law 363 = .ok (.ireturn, 1) := by decide +kernel
theorem dL_law_364 : decode cL_law 364 = .ok (.aload_n 1, 1) := by decide +kernel
theorem dL_law_365 : decode cL_law 365 = .ok (.invokevirtual 48, 3) := by decide +kernel
theorem dL_law_368 : decode cL_law 368 = .ok (.aload_n 2, 1) := by decide +kernel
theorem dL_law_369 : decode cL_law 369 = .ok (.invokevirtual 51, 3) := by decide +kernel
theorem dL_law_372 : decode cL_law 372 = .ok (.if_icmp .eq 587, 3) := by decide +kernel
theorem dL_law_375 : decode cL_law 375 = .ok (.iconst 0, 1) := by decide +kernel
theorem dL_law_376 : decode cL_law 376 = .ok (.ireturn, 1) := by decide +kernel
theorem dL_law_377 : decode cL_law 377 = .ok (.aload_n 1, 1) := by decide +kernel
theorem dL_law_378 : decode cL_law 378 = .ok (.aload_n 0, 1) := by decide +kernel
theorem dL_law_379 : decode cL_law 379 = .ok (.iload_n 3, 1) := by decide +kernel
theorem dL_law_380 : decode cL_law 380 = .ok (.iconst 1, 1) := by decide +kernel
theorem dL_law_381 : decode cL_law 381 = .ok (.iadd, 1) := by decide +kernel
theorem dL_law_382 : decode cL_law 382 = .ok (.iaload, 1) := by decide +kernel
theorem dL_law_383 : decode cL_law 383 = .ok (.invokevirtual 52, 3) := by decide +kernel
theorem dL_law_386 : decode cL_law 386 = .ok (.aload_n 2, 1) := by decide +kernel
theorem dL_law_387 : decode cL_law 387 = .ok (.aload_n 0, 1) := by decide +kernel
theorem dL_law_388 : decode cL_law 388 = .ok (.iload_n 3, 1) := by decide +kernel
theorem dL_law_389 : decode cL_law 389 = .ok (.iconst 1, 1) := by decide +kernel
theorem dL_law_390 : decode cL_law 390 = .ok (.iadd, 1) := by decide +kernel
theorem dL_law_391 : decode cL_law 391 = .ok (.iaload, 1) := by decide +kernel
theorem dL_law_392 : decode cL_law 392 = .ok (.invokevirtual 55, 3) := by decide +kernel
theorem dL_law_395 : decode cL_law 395 = .ok (.if_icmp .eq 564, 3) := by decide +kernel
theorem dL_law_398 : decode cL_law 398 = .ok (.iconst 0, 1) := by decide +kernel
theorem dL_law_399 : decode cL_law 399 = .ok (.ireturn, 1) := by decide +kernel
theorem dL_law_400 : decode cL_law 400 = .ok (.aload_n 1, 1) := by decide +kernel
theorem dL_law_401 : decode cL_law 401 = .ok (.aload_n 0, 1) := by decide +kernel
theorem dL_law_402 : decode cL_law 402 = .ok (.iload_n 3, 1) := by decide +kernel
theorem dL_law_403 : decode cL_law 403 = .ok (.iconst 1, 1) := by decide +kernel
theorem dL_law_404 : decode cL_law 404 = .ok (.iadd, 1) := by decide +kernel
theorem dL_law_405 : decode cL_law 405 = .ok (.iaload, 1) := by decide +kernel
theorem dL_law_406 : decode cL_law 406 = .ok (.invokevirtual 56, 3) := by decide +kernel
theorem dL_law_409 : decode cL_law 409 = .ok (.aload_n 2, 1) := by decide +kernel
theorem dL_law_410 : decode cL_law 410 = .ok (.aload_n 0, 1) := by decide +kernel
theorem dL_law_411 : decode cL_law 411 = .ok (.iload_n 3, 1) := by decide +kernel
theorem dL_law_412 : decode cL_law 412 = .ok (.iconst 1, 1) := by decide +kernel
theorem dL_law_413 : decode cL_law 413 = .ok (.iadd, 1) := by decide +kernel
theorem dL_law_414 : decode cL_law 414 = .ok (.iaload, 1) := by decide +kernel
theorem dL_law_415 : decode cL_law 415 = .ok (.invokevirtual 59, 3) := by decide +kernel
theorem dL_law_418 : decode cL_law 418 = .ok (.if_icmp .eq 541, 3) := by decide +kernel
theorem dL_law_421 : decode cL_law 421 = .ok (.iconst 0, 1) := by decide +kernel
theorem dL_law_422 : decode cL_law 422 = .ok (.ireturn, 1) := by decide +kernel
theorem dL_law_423 : decode cL_law 423 = .ok (.aload_n 1, 1) := by decide +kernel
theorem dL_law_424 : decode cL_law 424 = .ok (.aload_n 0, 1) := by decide +kernel
theorem dL_law_425 : decode cL_law 425 = .ok (.iload_n 3, 1) := by decide +kernel
theorem dL_law_426 : decode cL_law 426 = .ok (.iconst 1, 1) := by decide +kernel
theorem dL_law_427 : decode cL_law 427 = .ok (.iadd, 1) := by decide +kernel
theorem dL_law_428 : decode cL_law 428 = .ok (.iaload, 1) := by decide +kernel
theorem dL_law_429 : decode cL_law 429 = .ok (.invokevirtual 60, 3) := by decide +kernel
theorem dL_law_432 : decode cL_law 432 = .ok (.aload_n 2, 1) := by decide +kernel
theorem dL_law_433 : decode cL_law 433 = .ok (.aload_n 0, 1) := by decide +kernel
theorem dL_law_434 : decode cL_law 434 = .ok (.iload_n 3, 1) := by decide +kernel
theorem dL_law_435 : decode cL_law 435 = .ok (.iconst 1, 1) := by decide +kernel
theorem dL_law_436 : decode cL_law 436 = .ok (.iadd, 1) := by decide +kernel
theorem dL_law_437 : decode cL_law 437 = .ok (.iaload, 1) := by decide +kernel
theorem dL_law_438 : decode cL_law 438 = .ok (.invokevirtual 63, 3) := by decide +kernel
theorem dL_law_441 : decode cL_law 441 = .ok (.if_icmp .eq 518, 3) := by decide +kernel
theorem dL_law_444 : decode cL_law 444 = .ok (.iconst 0, 1) := by decide +kernel
theorem dL_law_445 : decode cL_law 445 = .ok (.ireturn, 1) := by decide +kernel
theorem dL_law_446 : decode cL_law 446 = .ok (.aload_n 1, 1) := by decide +kernel
theorem dL_law_447 : decode cL_law 447 = .ok (.aload_n 0, 1) := by decide +kernel
theorem dL_law_448 : decode cL_law 448 = .ok (.iload_n 3, 1) := by decide +kernel
theorem dL_law_449 : decode cL_law 449 = .ok (.iconst 1, 1) := by decide +kernel
theorem dL_law_450 : decode cL_law 450 = .ok (.iadd, 1) := by decide +kernel
theorem dL_law_451 : decode cL_law 451 = .ok (.iaload, 1) := by decide +kernel
theorem dL_law_452 : decode cL_law 452 = .ok (.invokevirtual 64, 3) := by decide +kernel
theorem dL_law_455 : decode cL_law 455 = .ok (.aload_n 2, 1) := by decide +kernel
theorem dL_law_456 : decode cL_law 456 = .ok (.aload_n 0, 1) := by decide +kernel
theorem dL_law_457 : decode cL_law 457 = .ok (.iload_n 3, 1) := by decide +kernel
theorem dL_law_458 : decode cL_law 458 = .ok (.iconst 1, 1) := by decide +kernel
theorem dL_law_459 : decode cL_law 459 = .ok (.iadd, 1) := by decide +kernel
theorem dL_law_460 : decode cL_law 460 = .ok (.iaload, 1) := by decide +kernel
theorem dL_law_461 : decode cL_law 461 = .ok (.invokevirtual 67, 3) := by decide +kernel
theorem dL_law_464 : decode cL_law 464 = .ok (.if_icmp .eq 495, 3) := by decide +kernel
theorem dL_law_467 : decode cL_law 467 = .ok (.iconst 0, 1) := by decide +kernel
theorem dL_law_468 : decode cL_law 468 = .ok (.ireturn, 1) := by decide +kernel
theorem dL_law_469 : decode cL_law 469 = .ok (.aload_n 1, 1) := by decide +kernel
theorem dL_law_470 : decode cL_law 470 = .ok (.aload_n 0, 1) := by decide +kernel
theorem dL_law_471 : decode cL_law 471 = .ok (.iload_n 3, 1) := by decide +kernel
theorem dL_law_472 : decode cL_law 472 = .ok (.iconst 1, 1) := by decide +kernel
theorem dL_law_473 : decode cL_law 473 = .ok (.iadd, 1) := by decide +kernel
theorem dL_law_474 : decode cL_law 474 = .ok (.iaload, 1) := by decide +kernel
theorem dL_law_475 : decode cL_law 475 = .ok (.invokevirtual 68, 3) := by decide +kernel
theorem dL_law_478 : decode cL_law 478 = .ok (.aload_n 2, 1) := by decide +kernel
theorem dL_law_479 : decode cL_law 479 = .ok (.aload_n 0, 1) := by decide +kernel
theorem dL_law_480 : decode cL_law 480 = .ok (.iload_n 3, 1) := by decide +kernel
theorem dL_law_481 : decode cL_law 481 = .ok (.iconst 1, 1) := by decide +kernel
theorem dL_law_482 : decode cL_law 482 = .ok (.iadd, 1) := by decide +kernel
theorem dL_law_483 : decode cL_law 483 = .ok (.iaload, 1) := by decide +kernel
theorem dL_law_484 : decode cL_law 484 = .ok (.invokevirtual 71, 3) := by decide +kernel
theorem dL_law_487 : decode cL_law 487 = .ok (.if_icmp .eq 472, 3) := by decide +kernel
theorem dL_law_490 : decode cL_law 490 = .ok (.iconst 0, 1) := by decide +kernel
theorem dL_law_491 : decode cL_law 491 = .ok (.ireturn, 1) := by decide +kernel
theorem dL_law_492 : decode cL_law 492 = .ok (.aload_n 1, 1) := by decide +kernel
theorem dL_law_493 : decode cL_law 493 = .ok (.aload_n 0, 1) := by decide +kernel
theorem dL_law_494 : decode cL_law 494 = .ok (.iload_n 3, 1) := by decide +kernel
theorem dL_law_495 : decode cL_law 495 = .ok (.iconst 1, 1) := by decide +kernel
theorem dL_law_496 : decode cL_law 496 = .ok (.iadd, 1) := by decide +kernel
theorem dL_law_497 : decode cL_law 497 = .ok (.iaload, 1) := by decide +kernel
theorem dL_law_498 : decode cL_law 498 = .ok (.invokevirtual 72, 3) := by decide +kernel
theorem dL_law_501 : decode cL_law 501 = .ok (.aload_n 2, 1) := by decide +kernel
theorem dL_law_502 : decode cL_law 502 = .ok (.aload_n 0, 1) := by decide +kernel
theorem dL_law_503 : decode cL_law 503 = .ok (.iload_n 3, 1) := by decide +kernel
theorem dL_law_504 : decode cL_law 504 = .ok (.iconst 1, 1) := by decide +kernel
theorem dL_law_505 : decode cL_law 505 = .ok (.iadd, 1) := by decide +kernel
theorem dL_law_506 : decode cL_law 506 = .ok (.iaload, 1) := by decide +kernel
theorem dL_law_507 : decode cL_law 507 = .ok (.invokevirtual 75, 3) := by decide +kernel
theorem dL_law_510 : decode cL_law 510 = .ok (.if_icmp .eq 449, 3) := by decide +kernel
theorem dL_law_513 : decode cL_law 513 = .ok (.iconst 0, 1) := by decide +kernel
theorem dL_law_514 : decode cL_law 514 = .ok (.ireturn, 1) := by decide +kernel
theorem dL_law_515 : decode cL_law 515 = .ok (.aload_n 1, 1) := by decide +kernel
theorem dL_law_516 : decode cL_law 516 = .ok (.aload_n 0, 1) := by decide +kernel
theorem dL_law_517 : decode cL_law 517 = .ok (.iload_n 3, 1) := by decide +kernel
theorem dL_law_518 : decode cL_law 518 = .ok (.iconst 1, 1) := by decide +kernel
theorem dL_law_519 : decode cL_law 519 = .ok (.iadd, 1) := by decide +kernel
theorem dL_law_520 : decode cL_law 520 = .ok (.iaload, 1) := by decide +kernel
theorem dL_law_521 : decode cL_law 521 = .ok (.aload_n 0, 1) := by decide +kernel
theorem dL_law_522 : decode cL_law 522 = .ok (.iload_n 3, 1) := by decide +kernel
theorem dL_law_523 : decode cL_law 523 = .ok (.iconst 2, 1) := by decide +kernel
theorem dL_law_524 : decode cL_law 524 = .ok (.iadd, 1) := by decide +kernel
theorem dL_law_525 : decode cL_law 525 = .ok (.iaload, 1) := by decide +kernel
theorem dL_law_526 : decode cL_law 526 = .ok (.invokevirtual 76, 3) := by decide +kernel
theorem dL_law_529 : decode cL_law 529 = .ok (.aload_n 2, 1) := by decide +kernel
theorem dL_law_530 : decode cL_law 530 = .ok (.aload_n 0, 1) := by decide +kernel
theorem dL_law_531 : decode cL_law 531 = .ok (.iload_n 3, 1) := by decide +kernel
theorem dL_law_532 : decode cL_law 532 = .ok (.iconst 1, 1) := by decide +kernel
theorem dL_law_533 : decode cL_law 533 = .ok (.iadd, 1) := by decide +kernel
theorem dL_law_534 : decode cL_law 534 = .ok (.iaload, 1) := by decide +kernel
theorem dL_law_535 : decode cL_law 535 = .ok (.aload_n 0, 1) := by decide +kernel
theorem dL_law_536 : decode cL_law 536 = .ok (.iload_n 3, 1) := by decide +kernel
theorem dL_law_537 : decode cL_law 537 = .ok (.iconst 2, 1) := by decide +kernel
theorem dL_law_538 : decode cL_law 538 = .ok (.iadd, 1) := by decide +kernel
theorem dL_law_539 : decode cL_law 539 = .ok (.iaload, 1) := by decide +kernel
theorem dL_law_540 : decode cL_law 540 = .ok (.invokevirtual 79, 3) := by decide +kernel
theorem dL_law_543 : decode cL_law 543 = .ok (.if_icmp .eq 416, 3) := by decide +kernel
theorem dL_law_546 : decode cL_law 546 = .ok (.iconst 0, 1) := by decide +kernel
theorem dL_law_547 : decode cL_law 547 = .ok (.ireturn, 1) := by decide +kernel
theorem dL_law_548 : decode cL_law 548 = .ok (.aload_n 1, 1) := by decide +kernel
theorem dL_law_549 : decode cL_law 549 = .ok (.aload_n 0, 1) := by decide +kernel
theorem dL_law_550 : decode cL_law 550 = .ok (.iload_n 3, 1) := by decide +kernel
theorem dL_law_551 : decode cL_law 551 = .ok (.iconst 1, 1) := by decide +kernel
theorem dL_law_552 : decode cL_law 552 = .ok (.iadd, 1) := by decide +kernel
theorem dL_law_553 : decode cL_law 553 = .ok (.iaload, 1) := by decide +kernel
theorem dL_law_554 : decode cL_law 554 = .ok (.invokevirtual 80, 3) := by decide +kernel
theorem dL_law_557 : decode cL_law 557 = .ok (.aload_n 2, 1) := by decide +kernel
theorem dL_law_558 : decode cL_law 558 = .ok (.aload_n 0, 1) := by decide +kernel
theorem dL_law_559 : decode cL_law 559 = .ok (.iload_n 3, 1) := by decide +kernel
theorem dL_law_560 : decode cL_law 560 = .ok (.iconst 1, 1) := by decide +kernel
theorem dL_law_561 : decode cL_law 561 = .ok (.iadd, 1) := by decide +kernel
theorem dL_law_562 : decode cL_law 562 = .ok (.iaload, 1) := by decide +kernel
theorem dL_law_563 : decode cL_law 563 = .ok (.invokevirtual 83, 3) := by decide +kernel
theorem dL_law_566 : decode cL_law 566 = .ok (.if_icmp .eq 393, 3) := by decide +kernel
theorem dL_law_569 : decode cL_law 569 = .ok (.iconst 0, 1) := by decide +kernel
theorem dL_law_570 : decode cL_law 570 = .ok (.ireturn, 1) := by decide +kernel
theorem dL_law_571 : decode cL_law 571 = .ok (.aload_n 1, 1) := by decide +kernel
theorem dL_law_572 : decode cL_law 572 = .ok (.invokevirtual 84, 3) := by decide +kernel
theorem dL_law_575 : decode cL_law 575 = .ok (.aload_n 2, 1) := by decide +kernel
theorem dL_law_576 : decode cL_law 576 = .ok (.invokevirtual 87, 3) := by decide +kernel
theorem dL_law_579 : decode cL_law 579 = .ok (.if_icmp .eq 380, 3) := by decide +kernel
theorem dL_law_582 : decode cL_law 582 = .ok (.iconst 0, 1) := by decide +kernel
theorem dL_law_583 : decode cL_law 583 = .ok (.ireturn, 1) := by decide +kernel
theorem dL_law_584 : decode cL_law 584 = .ok (.aload_n 1, 1) := by decide +kernel
theorem dL_law_585 : decode cL_law 585 = .ok (.aload_n 0, 1) := by decide +kernel
theorem dL_law_586 : decode cL_law 586 = .ok (.iload_n 3, 1) := by decide +kernel
theorem dL_law_587 : decode cL_law 587 = .ok (.iconst 1, 1) := by decide +kernel
theorem dL_law_588 : decode cL_law 588 = .ok (.iadd, 1) := by decide +kernel
theorem dL_law_589 : decode cL_law 589 = .ok (.iaload, 1) := by decide +kernel
theorem dL_law_590 : decode cL_law 590 = .ok (.invokevirtual 88, 3) := by decide +kernel
theorem dL_law_593 : decode cL_law 593 = .ok (.aload_n 2, 1) := by decide +kernel
theorem dL_law_594 : decode cL_law 594 = .ok (.aload_n 0, 1) := by decide +kernel
theorem dL_law_595 : decode cL_law 595 = .ok (.iload_n 3, 1) := by decide +kernel
theorem dL_law_596 : decode cL_law 596 = .ok (.iconst 1, 1) := by decide +kernel
theorem dL_law_597 : decode cL_law 597 = .ok (.iadd, 1) := by decide +kernel
theorem dL_law_598 : decode cL_law 598 = .ok (.iaload, 1) := by decide +kernel
theorem dL_law_599 : decode cL_law 599 = .ok (.invokevirtual 91, 3) := by decide +kernel
theorem dL_law_602 : decode cL_law 602 = .ok (.if_icmp .eq 357, 3) := by decide +kernel
theorem dL_law_605 : decode cL_law 605 = .ok (.iconst 0, 1) := by decide +kernel
theorem dL_law_606 : decode cL_law 606 = .ok (.ireturn, 1) := by decide +kernel
theorem dL_law_607 : decode cL_law 607 = .ok (.aload_n 1, 1) := by decide +kernel
theorem dL_law_608 : decode cL_law 608 = .ok (.aload_n 0, 1) := by decide +kernel
theorem dL_law_609 : decode cL_law 609 = .ok (.iload_n 3, 1) := by decide +kernel
theorem dL_law_610 : decode cL_law 610 = .ok (.iconst 1, 1) := by decide +kernel
theorem dL_law_611 : decode cL_law 611 = .ok (.iadd, 1) := by decide +kernel
theorem dL_law_612 : decode cL_law 612 = .ok (.iaload, 1) := by decide +kernel
theorem dL_law_613 : decode cL_law 613 = .ok (.invokevirtual 92, 3) := by decide +kernel
theorem dL_law_616 : decode cL_law 616 = .ok (.aload_n 2, 1) := by decide +kernel
theorem dL_law_617 : decode cL_law 617 = .ok (.aload_n 0, 1) := by decide +kernel
theorem dL_law_618 : decode cL_law 618 = .ok (.iload_n 3, 1) := by decide +kernel
theorem dL_law_619 : decode cL_law 619 = .ok (.iconst 1, 1) := by decide +kernel
theorem dL_law_620 : decode cL_law 620 = .ok (.iadd, 1) := by decide +kernel
theorem dL_law_621 : decode cL_law 621 = .ok (.iaload, 1) := by decide +kernel
theorem dL_law_622 : decode cL_law 622 = .ok (.invokevirtual 95, 3) := by decide +kernel
theorem dL_law_625 : decode cL_law 625 = .ok (.if_icmp .eq 334, 3) := by decide +kernel
theorem dL_law_628 : decode cL_law 628 = .ok (.iconst 0, 1) := by decide +kernel
theorem dL_law_629 : decode cL_law 629 = .ok (.ireturn, 1) := by decide +kernel
theorem dL_law_630 : decode cL_law 630 = .ok (.aload_n 1, 1) := by decide +kernel
theorem dL_law_631 : decode cL_law 631 = .ok (.invokevirtual 96, 3) := by decide +kernel
theorem dL_law_634 : decode cL_law 634 = .ok (.aload_n 2, 1) := by decide +kernel
theorem dL_law_635 : decode cL_law 635 = .ok (.invokevirtual 99, 3) := by decide +kernel
theorem dL_law_638 : decode cL_law 638 = .ok (.if_icmp .eq 321, 3) := by decide +kernel
theorem dL_law_641 : decode cL_law 641 = .ok (.iconst 0, 1) := by decide +kernel
theorem dL_law_642 : decode cL_law 642 = .ok (.ireturn, 1) := by decide +kernel
theorem dL_law_643 : decode cL_law 643 = .ok (.aload_n 1, 1) := by decide +kernel
theorem dL_law_644 : decode cL_law 644 = .ok (.aload_n 0, 1) := by decide +kernel
theorem dL_law_645 : decode cL_law 645 = .ok (.iload_n 3, 1) := by decide +kernel
theorem dL_law_646 : decode cL_law 646 = .ok (.iconst 1, 1) := by decide +kernel
theorem dL_law_647 : decode cL_law 647 = .ok (.iadd, 1) := by decide +kernel
theorem dL_law_648 : decode cL_law 648 = .ok (.iaload, 1) := by decide +kernel
theorem dL_law_649 : decode cL_law 649 = .ok (.aload_n 0, 1) := by decide +kernel
theorem dL_law_650 : decode cL_law 650 = .ok (.iload_n 3, 1) := by decide +kernel
theorem dL_law_651 : decode cL_law 651 = .ok (.iconst 2, 1) := by decide +kernel
theorem dL_law_652 : decode cL_law 652 = .ok (.iadd, 1) := by decide +kernel
theorem dL_law_653 : decode cL_law 653 = .ok (.iaload, 1) := by decide +kernel
theorem dL_law_654 : decode cL_law 654 = .ok (.invokevirtual 100, 3) := by decide +kernel
theorem dL_law_657 : decode cL_law 657 = .ok (.aload_n 2, 1) := by decide +kernel
theorem dL_law_658 : decode cL_law 658 = .ok (.aload_n 0, 1) := by decide +kernel
theorem dL_law_659 : decode cL_law 659 = .ok (.iload_n 3, 1) := by decide +kernel
theorem dL_law_660 : decode cL_law 660 = .ok (.iconst 1, 1) := by decide +kernel
theorem dL_law_661 : decode cL_law 661 = .ok (.iadd, 1) := by decide +kernel
theorem dL_law_662 : decode cL_law 662 = .ok (.iaload, 1) := by decide +kernel
theorem dL_law_663 : decode cL_law 663 = .ok (.aload_n 0, 1) := by decide +kernel
theorem dL_law_664 : decode cL_law 664 = .ok (.iload_n 3, 1) := by decide +kernel
theorem dL_law_665 : decode cL_law 665 = .ok (.iconst 2, 1) := by decide +kernel
theorem dL_law_666 : decode cL_law 666 = .ok (.iadd, 1) := by decide +kernel
theorem dL_law_667 : decode cL_law 667 = .ok (.iaload, 1) := by decide +kernel
theorem dL_law_668 : decode cL_law 668 = .ok (.invokevirtual 103, 3) := by decide +kernel
theorem dL_law_671 : decode cL_law 671 = .ok (.if_icmp .eq 288, 3) := by decide +kernel
theorem dL_law_674 : decode cL_law 674 = .ok (.iconst 0, 1) := by decide +kernel
theorem dL_law_675 : decode cL_law 675 = .ok (.ireturn, 1) := by decide +kernel
theorem dL_law_676 : decode cL_law 676 = .ok (.aload_n 1, 1) := by decide +kernel
theorem dL_law_677 : decode cL_law 677 = .ok (.aload_n 0, 1) := by decide +kernel
theorem dL_law_678 : decode cL_law 678 = .ok (.iload_n 3, 1) := by decide +kernel
theorem dL_law_679 : decode cL_law 679 = .ok (.iconst 1, 1) := by decide +kernel
theorem dL_law_680 : decode cL_law 680 = .ok (.iadd, 1) := by decide +kernel
theorem dL_law_681 : decode cL_law 681 = .ok (.iaload, 1) := by decide +kernel
theorem dL_law_682 : decode cL_law 682 = .ok (.invokevirtual 104, 3) := by decide +kernel
theorem dL_law_685 : decode cL_law 685 = .ok (.aload_n 2, 1) := by decide +kernel
theorem dL_law_686 : decode cL_law 686 = .ok (.aload_n 0, 1) := by decide +kernel
theorem dL_law_687 : decode cL_law 687 = .ok (.iload_n 3, 1) := by decide +kernel
theorem dL_law_688 : decode cL_law 688 = .ok (.iconst 1, 1) := by decide +kernel
theorem dL_law_689 : decode cL_law 689 = .ok (.iadd, 1) := by decide +kernel
theorem dL_law_690 : decode cL_law 690 = .ok (.iaload, 1) := by decide +kernel
theorem dL_law_691 : decode cL_law 691 = .ok (.invokevirtual 107, 3) := by decide +kernel
theorem dL_law_694 : decode cL_law 694 = .ok (.if_icmp .eq 265, 3) := by decide +kernel
theorem dL_law_697 : decode cL_law 697 = .ok (.iconst 0, 1) := by decide +kernel
theorem dL_law_698 : decode cL_law 698 = .ok (.ireturn, 1) := by decide +kernel
theorem dL_law_699 : decode cL_law 699 = .ok (.aload_n 1, 1) := by decide +kernel
theorem dL_law_700 : decode cL_law 700 = .ok (.aload_n 0, 1) := by decide +kernel
theorem dL_law_701 : decode cL_law 701 = .ok (.iload_n 3, 1) := by decide +kernel
theorem dL_law_702 : decode cL_law 702 = .ok (.iconst 1, 1) := by decide +kernel
theorem dL_law_703 : decode cL_law 703 = .ok (.iadd, 1) := by decide +kernel
theorem dL_law_704 : decode cL_law 704 = .ok (.iaload, 1) := by decide +kernel
theorem dL_law_705 : decode cL_law 705 = .ok (.aload_n 0, 1) := by decide +kernel
theorem dL_law_706 : decode cL_law 706 = .ok (.iload_n 3, 1) := by decide +kernel
theorem dL_law_707 : decode cL_law 707 = .ok (.iconst 2, 1) := by decide +kernel
theorem dL_law_708 : decode cL_law 708 = .ok (.iadd, 1) := by decide +kernel
theorem dL_law_709 : decode cL_law 709 = .ok (.iaload, 1) := by decide +kernel
theorem dL_law_710 : decode cL_law 710 = .ok (.invokevirtual 108, 3) := by decide +kernel
theorem dL_law_713 : decode cL_law 713 = .ok (.aload_n 2, 1) := by decide +kernel
theorem dL_law_714 : decode cL_law 714 = .ok (.aload_n 0, 1) := by decide +kernel
theorem dL_law_715 : decode cL_law 715 = .ok (.iload_n 3, 1) := by decide +kernel
theorem dL_law_716 : decode cL_law 716 = .ok (.iconst 1, 1) := by decide +kernel
theorem dL_law_717 : decode cL_law 717 = .ok (.iadd, 1) := by decide +kernel
theorem dL_law_718 : decode cL_law 718 = .ok (.iaload, 1) := by decide +kernel
theorem dL_law_719 : decode cL_law 719 = .ok (.aload_n 0, 1) := by decide +kernel
theorem dL_law_720 : decode cL_law 720 = .ok (.iload_n 3, 1) := by decide +kernel
theorem dL_law_721 : decode cL_law 721 = .ok (.iconst 2, 1) := by decide +kernel
theorem dL_law_722 : decode cL_law 722 = .ok (.iadd, 1) := by decide +kernel
theorem dL_law_723 : decode cL_law 723 = .ok (.iaload, 1) := by decide +kernel
theorem dL_law_724 : decode cL_law 724 = .ok (.invokevirtual 111, 3) := by decide +kernel
theorem dL_law_727 : decode cL_law 727 = .ok (.if_icmp .eq 232, 3) := by decide +kernel
theorem dL_law_730 : decode cL_law 730 = .ok (.iconst 0, 1) := by decide +kernel
theorem dL_law_731 : decode cL_law 731 = .ok (.ireturn, 1) := by decide +kernel
theorem dL_law_732 : decode cL_law 732 = .ok (.aload_n 1, 1) := by decide +kernel
theorem dL_law_733 : decode cL_law 733 = .ok (.invokevirtual 112, 3) := by decide +kernel
theorem dL_law_736 : decode cL_law 736 = .ok (.aload_n 2, 1) := by decide +kernel
theorem dL_law_737 : decode cL_law 737 = .ok (.invokevirtual 115, 3) := by decide +kernel
theorem dL_law_740 : decode cL_law 740 = .ok (.if_icmp .eq 219, 3) := by decide +kernel
theorem dL_law_743 : decode cL_law 743 = .ok (.iconst 0, 1) := by decide +kernel
theorem dL_law_744 : decode cL_law 744 = .ok (.ireturn, 1) := by decide +kernel
theorem dL_law_745 : decode cL_law 745 = .ok (.aload_n 1, 1) := by decide +kernel
theorem dL_law_746 : decode cL_law 746 = .ok (.invokevirtual 116, 3) := by decide +kernel
theorem dL_law_749 : decode cL_law 749 = .ok (.aload_n 2, 1) := by decide +kernel
theorem dL_law_750 : decode cL_law 750 = .ok (.invokevirtual 119, 3) := by decide +kernel
theorem dL_law_753 : decode cL_law 753 = .ok (.if_icmp .eq 206, 3) := by decide +kernel
theorem dL_law_756 : decode cL_law 756 = .ok (.iconst 0, 1) := by decide +kernel
theorem dL_law_757 : decode cL_law 757 = .ok (.ireturn, 1) := by decide +kernel
theorem dL_law_758 : decode cL_law 758 = .ok (.aload_n 1, 1) := by decide +kernel
theorem dL_law_759 : decode cL_law 759 = .ok (.aload_n 0, 1) := by decide +kernel
theorem dL_law_760 : decode cL_law 760 = .ok (.iload_n 3, 1) := by decide +kernel
theorem dL_law_761 : decode cL_law 761 = .ok (.iconst 1, 1) := by decide +kernel
theorem dL_law_762 : decode cL_law 762 = .ok (.iadd, 1) := by decide +kernel
theorem dL_law_763 : decode cL_law 763 = .ok (.iaload, 1) := by decide +kernel
theorem dL_law_764 : decode cL_law 764 = .ok (.aload_n 0, 1) := by decide +kernel
theorem dL_law_765 : decode cL_law 765 = .ok (.iload_n 3, 1) := by decide +kernel
theorem dL_law_766 : decode cL_law 766 = .ok (.iconst 2, 1) := by decide +kernel
theorem dL_law_767 : decode cL_law 767 = .ok (.iadd, 1) := by decide +kernel
theorem dL_law_768 : decode cL_law 768 = .ok (.iaload, 1) := by decide +kernel
theorem dL_law_769 : decode cL_law 769 = .ok (.invokevirtual 120, 3) := by decide +kernel
theorem dL_law_772 : decode cL_law 772 = .ok (.aload_n 2, 1) := by decide +kernel
theorem dL_law_773 : decode cL_law 773 = .ok (.aload_n 0, 1) := by decide +kernel
theorem dL_law_774 : decode cL_law 774 = .ok (.iload_n 3, 1) := by decide +kernel
theorem dL_law_775 : decode cL_law 775 = .ok (.iconst 1, 1) := by decide +kernel
theorem dL_law_776 : decode cL_law 776 = .ok (.iadd, 1) := by decide +kernel
theorem dL_law_777 : decode cL_law 777 = .ok (.iaload, 1) := by decide +kernel
theorem dL_law_778 : decode cL_law 778 = .ok (.aload_n 0, 1) := by decide +kernel
theorem dL_law_779 : decode cL_law 779 = .ok (.iload_n 3, 1) := by decide +kernel
theorem dL_law_780 : decode cL_law 780 = .ok (.iconst 2, 1) := by decide +kernel
theorem dL_law_781 : decode cL_law 781 = .ok (.iadd, 1) := by decide +kernel
theorem dL_law_782 : decode cL_law 782 = .ok (.iaload, 1) := by decide +kernel
theorem dL_law_783 : decode cL_law 783 = .ok (.invokevirtual 123, 3) := by decide +kernel
theorem dL_law_786 : decode cL_law 786 = .ok (.if_icmp .eq 173, 3) := by decide +kernel
theorem dL_law_789 : decode cL_law 789 = .ok (.iconst 0, 1) := by decide +kernel
theorem dL_law_790 : decode cL_law 790 = .ok (.ireturn, 1) := by decide +kernel
theorem dL_law_791 : decode cL_law 791 = .ok (.aload_n 1, 1) := by decide +kernel
theorem dL_law_792 : decode cL_law 792 = .ok (.aload_n 0, 1) := by decide +kernel
theorem dL_law_793 : decode cL_law 793 = .ok (.iload_n 3, 1) := by decide +kernel
theorem dL_law_794 : decode cL_law 794 = .ok (.iconst 1, 1) := by decide +kernel
theorem dL_law_795 : decode cL_law 795 = .ok (.iadd, 1) := by decide +kernel
theorem dL_law_796 : decode cL_law 796 = .ok (.iaload, 1) := by decide +kernel
theorem dL_law_797 : decode cL_law 797 = .ok (.aload_n 0, 1) := by decide +kernel
theorem dL_law_798 : decode cL_law 798 = .ok (.iload_n 3, 1) := by decide +kernel
theorem dL_law_799 : decode cL_law 799 = .ok (.iconst 2, 1) := by decide +kernel
theorem dL_law_800 : decode cL_law 800 = .ok (.iadd, 1) := by decide +kernel
theorem dL_law_801 : decode cL_law 801 = .ok (.iaload, 1) := by decide +kernel
theorem dL_law_802 : decode cL_law 802 = .ok (.invokevirtual 124, 3) := by decide +kernel
theorem dL_law_805 : decode cL_law 805 = .ok (.aload_n 2, 1) := by decide +kernel
theorem dL_law_806 : decode cL_law 806 = .ok (.aload_n 0, 1) := by decide +kernel
theorem dL_law_807 : decode cL_law 807 = .ok (.iload_n 3, 1) := by decide +kernel
theorem dL_law_808 : decode cL_law 808 = .ok (.iconst 1, 1) := by decide +kernel
theorem dL_law_809 : decode cL_law 809 = .ok (.iadd, 1) := by decide +kernel
theorem dL_law_810 : decode cL_law 810 = .ok (.iaload, 1) := by decide +kernel
theorem dL_law_811 : decode cL_law 811 = .ok (.aload_n 0, 1) := by decide +kernel
theorem dL_law_812 : decode cL_law 812 = .ok (.iload_n 3, 1) := by decide +kernel
theorem dL_law_813 : decode cL_law 813 = .ok (.iconst 2, 1) := by decide +kernel
theorem dL_law_814 : decode cL_law 814 = .ok (.iadd, 1) := by decide +kernel
theorem dL_law_815 : decode cL_law 815 = .ok (.iaload, 1) := by decide +kernel
theorem dL_law_816 : decode cL_law 816 = .ok (.invokevirtual 127, 3) := by decide +kernel
theorem dL_law_819 : decode cL_law 819 = .ok (.if_icmp .eq 140, 3) := by decide +kernel
theorem dL_law_822 : decode cL_law 822 = .ok (.iconst 0, 1) := by decide +kernel
theorem dL_law_823 : decode cL_law 823 = .ok (.ireturn, 1) := by decide +kernel
theorem dL_law_824 : decode cL_law 824 = .ok (.aload_n 1, 1) := by decide +kernel
theorem dL_law_825 : decode cL_law 825 = .ok (.aload_n 0, 1) := by decide +kernel
theorem dL_law_826 : decode cL_law 826 = .ok (.iload_n 3, 1) := by decide +kernel
theorem dL_law_827 : decode cL_law 827 = .ok (.iconst 1, 1) := by decide +kernel
theorem dL_law_828 : decode cL_law 828 = .ok (.iadd, 1) := by decide +kernel
theorem dL_law_829 : decode cL_law 829 = .ok (.iaload, 1) := by decide +kernel
theorem dL_law_830 : decode cL_law 830 = .ok (.aload_n 0, 1) := by decide +kernel
theorem dL_law_831 : decode cL_law 831 = .ok (.iload_n 3, 1) := by decide +kernel
theorem dL_law_832 : decode cL_law 832 = .ok (.iconst 2, 1) := by decide +kernel
theorem dL_law_833 : decode cL_law 833 = .ok (.iadd, 1) := by decide +kernel
theorem dL_law_834 : decode cL_law 834 = .ok (.iaload, 1) := by decide +kernel
theorem dL_law_835 : decode cL_law 835 = .ok (.aload_n 0, 1) := by decide +kernel
theorem dL_law_836 : decode cL_law 836 = .ok (.iload_n 3, 1) := by decide +kernel
theorem dL_law_837 : decode cL_law 837 = .ok (.iconst 3, 1) := by decide +kernel
theorem dL_law_838 : decode cL_law 838 = .ok (.iadd, 1) := by decide +kernel
theorem dL_law_839 : decode cL_law 839 = .ok (.iaload, 1) := by decide +kernel
theorem dL_law_840 : decode cL_law 840 = .ok (.invokevirtual 128, 3) := by decide +kernel
theorem dL_law_843 : decode cL_law 843 = .ok (.aload_n 2, 1) := by decide +kernel
theorem dL_law_844 : decode cL_law 844 = .ok (.aload_n 0, 1) := by decide +kernel
theorem dL_law_845 : decode cL_law 845 = .ok (.iload_n 3, 1) := by decide +kernel
theorem dL_law_846 : decode cL_law 846 = .ok (.iconst 1, 1) := by decide +kernel
theorem dL_law_847 : decode cL_law 847 = .ok (.iadd, 1) := by decide +kernel
theorem dL_law_848 : decode cL_law 848 = .ok (.iaload, 1) := by decide +kernel
theorem dL_law_849 : decode cL_law 849 = .ok (.aload_n 0, 1) := by decide +kernel
theorem dL_law_850 : decode cL_law 850 = .ok (.iload_n 3, 1) := by decide +kernel
theorem dL_law_851 : decode cL_law 851 = .ok (.iconst 2, 1) := by decide +kernel
theorem dL_law_852 : decode cL_law 852 = .ok (.iadd, 1) := by decide +kernel
theorem dL_law_853 : decode cL_law 853 = .ok (.iaload, 1) := by decide +kernel
theorem dL_law_854 : decode cL_law 854 = .ok (.aload_n 0, 1) := by decide +kernel
theorem dL_law_855 : decode cL_law 855 = .ok (.iload_n 3, 1) := by decide +kernel
theorem dL_law_856 : decode cL_law 856 = .ok (.iconst 3, 1) := by decide +kernel
theorem dL_law_857 : decode cL_law 857 = .ok (.iadd, 1) := by decide +kernel
theorem dL_law_858 : decode cL_law 858 = .ok (.iaload, 1) := by decide +kernel
theorem dL_law_859 : decode cL_law 859 = .ok (.invokevirtual 132, 3) := by decide +kernel
theorem dL_law_862 : decode cL_law 862 = .ok (.if_icmp .eq 97, 3) := by decide +kernel
theorem dL_law_865 : decode cL_law 865 = .ok (.iconst 0, 1) := by decide +kernel
theorem dL_law_866 : decode cL_law 866 = .ok (.ireturn, 1) := by decide +kernel
theorem dL_law_867 : decode cL_law 867 = .ok (.aload_n 1, 1) := by decide +kernel
theorem dL_law_868 : decode cL_law 868 = .ok (.aload_n 0, 1) := by decide +kernel
theorem dL_law_869 : decode cL_law 869 = .ok (.iload_n 3, 1) := by decide +kernel
theorem dL_law_870 : decode cL_law 870 = .ok (.iconst 1, 1) := by decide +kernel
theorem dL_law_871 : decode cL_law 871 = .ok (.iadd, 1) := by decide +kernel
theorem dL_law_872 : decode cL_law 872 = .ok (.iaload, 1) := by decide +kernel
theorem dL_law_873 : decode cL_law 873 = .ok (.aload_n 0, 1) := by decide +kernel
theorem dL_law_874 : decode cL_law 874 = .ok (.iload_n 3, 1) := by decide +kernel
theorem dL_law_875 : decode cL_law 875 = .ok (.iconst 2, 1) := by decide +kernel
theorem dL_law_876 : decode cL_law 876 = .ok (.iadd, 1) := by decide +kernel
theorem dL_law_877 : decode cL_law 877 = .ok (.iaload, 1) := by decide +kernel
theorem dL_law_878 : decode cL_law 878 = .ok (.aload_n 0, 1) := by decide +kernel
theorem dL_law_879 : decode cL_law 879 = .ok (.iload_n 3, 1) := by decide +kernel
theorem dL_law_880 : decode cL_law 880 = .ok (.iconst 3, 1) := by decide +kernel
theorem dL_law_881 : decode cL_law 881 = .ok (.iadd, 1) := by decide +kernel
theorem dL_law_882 : decode cL_law 882 = .ok (.iaload, 1) := by decide +kernel
theorem dL_law_883 : decode cL_law 883 = .ok (.invokevirtual 133, 3) := by decide +kernel
theorem dL_law_886 : decode cL_law 886 = .ok (.aload_n 2, 1) := by decide +kernel
theorem dL_law_887 : decode cL_law 887 = .ok (.aload_n 0, 1) := by decide +kernel
theorem dL_law_888 : decode cL_law 888 = .ok (.iload_n 3, 1) := by decide +kernel
theorem dL_law_889 : decode cL_law 889 = .ok (.iconst 1, 1) := by decide +kernel
theorem dL_law_890 : decode cL_law 890 = .ok (.iadd, 1) := by decide +kernel
theorem dL_law_891 : decode cL_law 891 = .ok (.iaload, 1) := by decide +kernel
theorem dL_law_892 : decode cL_law 892 = .ok (.aload_n 0, 1) := by decide +kernel
theorem dL_law_893 : decode cL_law 893 = .ok (.iload_n 3, 1) := by decide +kernel
theorem dL_law_894 : decode cL_law 894 = .ok (.iconst 2, 1) := by decide +kernel
theorem dL_law_895 : decode cL_law 895 = .ok (.iadd, 1) := by decide +kernel
theorem dL_law_896 : decode cL_law 896 = .ok (.iaload, 1) := by decide +kernel
theorem dL_law_897 : decode cL_law 897 = .ok (.aload_n 0, 1) := by decide +kernel
theorem dL_law_898 : decode cL_law 898 = .ok (.iload_n 3, 1) := by decide +kernel
theorem dL_law_899 : decode cL_law 899 = .ok (.iconst 3, 1) := by decide +kernel
theorem dL_law_900 : decode cL_law 900 = .ok (.iadd, 1) := by decide +kernel
theorem dL_law_901 : decode cL_law 901 = .ok (.iaload, 1) := by decide +kernel
theorem dL_law_902 : decode cL_law 902 = .ok (.invokevirtual 136, 3) := by decide +kernel
theorem dL_law_905 : decode cL_law 905 = .ok (.if_icmp .eq 54, 3) := by decide +kernel
theorem dL_law_908 : decode cL_law 908 = .ok (.iconst 0, 1) := by decide +kernel
theorem dL_law_909 : decode cL_law 909 = .ok (.ireturn, 1) := by decide +kernel
theorem dL_law_910 : decode cL_law 910 = .ok (.aload_n 1, 1) := by decide +kernel
theorem dL_law_911 : decode cL_law 911 = .ok (.invokevirtual 137, 3) := by decide +kernel
theorem dL_law_914 : decode cL_law 914 = .ok (.aload_n 2, 1) := by decide +kernel
theorem dL_law_915 : decode cL_law 915 = .ok (.invokevirtual 140, 3) := by decide +kernel
theorem dL_law_918 : decode cL_law 918 = .ok (.if_icmp .eq 41, 3) := by decide +kernel
theorem dL_law_921 : decode cL_law 921 = .ok (.iconst 0, 1) := by decide +kernel
theorem dL_law_922 : decode cL_law 922 = .ok (.ireturn, 1) := by decide +kernel
theorem dL_law_923 : decode cL_law 923 = .ok (.aload_n 1, 1) := by decide +kernel
theorem dL_law_924 : decode cL_law 924 = .ok (.invokevirtual 141, 3) := by decide +kernel
theorem dL_law_927 : decode cL_law 927 = .ok (.aload_n 2, 1) := by decide +kernel
theorem dL_law_928 : decode cL_law 928 = .ok (.invokevirtual 144, 3) := by decide +kernel
theorem dL_law_931 : decode cL_law 931 = .ok (.if_icmp .eq 28, 3) := by decide +kernel
theorem dL_law_934 : decode cL_law 934 = .ok (.iconst 0, 1) := by decide +kernel
theorem dL_law_935 : decode cL_law 935 = .ok (.ireturn, 1) := by decide +kernel
theorem dL_law_936 : decode cL_law 936 = .ok (.aload_n 1, 1) := by decide +kernel
theorem dL_law_937 : decode cL_law 937 = .ok (.aload_n 0, 1) := by decide +kernel
theorem dL_law_938 : decode cL_law 938 = .ok (.iload_n 3, 1) := by decide +kernel
theorem dL_law_939 : decode cL_law 939 = .ok (.iconst 1, 1) := by decide +kernel
theorem dL_law_940 : decode cL_law 940 = .ok (.iadd, 1) := by decide +kernel
theorem dL_law_941 : decode cL_law 941 = .ok (.iaload, 1) := by decide +kernel
theorem dL_law_942 : decode cL_law 942 = .ok (.invokevirtual 145, 3) := by decide +kernel
theorem dL_law_945 : decode cL_law 945 = .ok (.aload_n 2, 1) := by decide +kernel
theorem dL_law_946 : decode cL_law 946 = .ok (.aload_n 0, 1) := by decide +kernel
theorem dL_law_947 : decode cL_law 947 = .ok (.iload_n 3, 1) := by decide +kernel
theorem dL_law_948 : decode cL_law 948 = .ok (.iconst 1, 1) := by decide +kernel
theorem dL_law_949 : decode cL_law 949 = .ok (.iadd, 1) := by decide +kernel
theorem dL_law_950 : decode cL_law 950 = .ok (.iaload, 1) := by decide +kernel
theorem dL_law_951 : decode cL_law 951 = .ok (.invokevirtual 148, 3) := by decide +kernel
theorem dL_law_954 : decode cL_law 954 = .ok (.if_icmp .eq 5, 3) := by decide +kernel
theorem dL_law_957 : decode cL_law 957 = .ok (.iconst 0, 1) := by decide +kernel
theorem dL_law_958 : decode cL_law 958 = .ok (.ireturn, 1) := by decide +kernel
theorem dL_law_959 : decode cL_law 959 = .ok (.iinc 3 4, 3) := by decide +kernel
theorem dL_law_962 : decode cL_law 962 = .ok (.goto (-944), 3) := by decide +kernel
theorem dL_law_965 : decode cL_law 965 = .ok (.iconst 1, 1) := by decide +kernel
theorem dL_law_966 : decode cL_law 966 = .ok (.ireturn, 1) := by decide +kernel
end
section
/-! ===== the base: contracts in one form, the context of a walk, calls ===== -/
abbrev St : Type := Nat → Nat → Int32
abbrev tyL (cA : Nat → ClassId) : List (ClassId × FieldType) := [(cA 0, .int), (cA 1, .byte), (cA 2, .boolean), (cA 3, .object RX0)]
/-- private members of nest mates: these links are no words that go along, they are kept by themselves -/
def nwL : List Cond := [.methodLinkNest RX10 9 yX7_init RX10, .methodLinkNest RX10 18 yX0_init RX10, .methodLinkNest RX10 25 yX4_init RX10, .methodLinkNest RX10 32 yX1_init RX10, .methodLinkNest RX1 9 yX0_init RX10, .methodLinkNest RX10 39 yX2_init RX10, .methodLinkNest RX10 46 yX5_init RX10, .methodLinkNest RX10 53 yX8_init RX10, .methodLinkNest RX10 60 yX9_init RX10, .methodLinkNest RX9 11 yX0_init RX10, .methodLinkNest RX9 34 yX6_init RX10, .methodLinkNest RX7 33 yX10_isWithin RX10, .methodLinkNest RX9 81 yX10_isFigure RX10, .methodLinkNest RX9 94 yX10_isWithin RX10]
def isNest (w : Cond) : Prop := ∃ a i x h, w = .methodLinkNest a i x h
theorem nwL_nest : ∀ w ∈ nwL, isNest w := by
  intro w hw
  simp only [nwL, List.mem_cons, List.not_mem_nil, or_false] at hw
  rcases hw with h | h | h | h | h | h | h | h | h | h | h | h | h | h <;> exact ⟨_, _, _, _, h⟩
def NN (U : State) : Prop := ∀ w ∈ nwL, va_Nw w U
theorem NN.warm {s U : State} (hW : s.WarmedH U.vm) (h : NN s) : NN U := by
  intro w hw
  obtain ⟨a, i, x, hh, rfl⟩ := nwL_nest w hw
  exact va_Nw.warmM hW (h _ hw)
theorem NN.same {u U : State} (e : u.vm = U.vm) (h : NN u) : NN U := by
  intro w hw
  obtain ⟨a, i, x, hh, rfl⟩ := nwL_nest w hw
  exact va_Nw.same rfl e (h _ hw)
def KN (D : va_G) (cA : Nat → ClassId) (U : State) : Prop := va_K D vwCl (tyL cA) U ∧ NN U
theorem KN.warm {D : va_G} {cA : Nat → ClassId} {s U : State} (hW : s.WarmedH U.vm) (h : KN D cA s) : KN D cA U := ⟨va_K.moved hW.alike h.1, h.2.warm hW⟩
/-- what a method starts from: its world W0 -/
def PreC (D : va_G) (cA : Nat → ClassId) (W0 : va_W) (sz : Nat) (av : List Value) : Array Value → State → Prop := va_Pc av (fun U => U.heap.size = sz ∧ va_P D vwCl W0 U.heap ∧ KN D cA U ∧ va_D (fun _ => True) W0)
theorem PreC.blind {D : va_G} {cA : Nat → ClassId} {W0 : va_W} {sz : Nat} {av : List Value} : FrameBlind (PreC D cA W0 sz av) := fun a U g mk q => ⟨q.1, q.2.1, q.2.2.1, ⟨va_K.moved (u := U) (U := U.calling g mk a) (Vm.Alike.refl U.vm) q.2.2.2.1.1, q.2.2.2.1.2.same (u := U) (U := U.calling g mk a) rfl⟩, q.2.2.2.2⟩
def EndW (D : va_G) (A : Nat → Prop) (W1 : va_W) : Unit → State → Prop := fun _ t => va_P D vwCl W1 t.heap ∧ va_D A W1
def QI (D : va_G) (A : Nat → Prop) (v : Int32) (W1 : va_W) := va_Qi (fun r (_ : Unit) => r = v) (EndW D A W1) A
def QL (D : va_G) (A : Nat → Prop) (v : Int64) (W1 : va_W) := va_Ql (fun r (_ : Unit) => r = v) (EndW D A W1) A
def QV (D : va_G) (A : Nat → Prop) (W1 : va_W) := va_Qv (fun (_ : Unit) => True) (EndW D A W1) A
abbrev wsU (y : MethodName) (cc : ByteArray) (n : Nat) (r : Option FieldType) : List Cond := .code y cc n r :: wsL_law
abbrev rmU (fr lo mc ms : Nat) : Room := { frames := fr, cells := mc, slots := ms, locals := lo }
/-- contracts: from the world W0 to the world W1; the answer is v -/
def CtI (l : Launch) (y : MethodName) (cc : ByteArray) (n : Nat) (r : Option FieldType) (fr lo : Nat) (D : va_G) (cA : Nat → ClassId) (W0 W1 : va_W) (av : List Value) (v : Int32) : Prop := ∀ sz : Nat, Met l y (wsU y cc n r) (rmU fr lo 0 0) (PreC D cA W0 sz av) (QI D (va_A W0 sz) v W1) 0 0 (va_A W0 sz)
def CtL (l : Launch) (y : MethodName) (cc : ByteArray) (n : Nat) (r : Option FieldType) (fr lo : Nat) (D : va_G) (cA : Nat → ClassId) (W0 W1 : va_W) (av : List Value) (v : Int64) : Prop := ∀ sz : Nat, Met l y (wsU y cc n r) (rmU fr lo 0 0) (PreC D cA W0 sz av) (QL D (va_A W0 sz) v W1) 0 0 (va_A W0 sz)
def CtV (l : Launch) (y : MethodName) (cc : ByteArray) (n : Nat) (r : Option FieldType) (fr lo : Nat) (D : va_G) (cA : Nat → ClassId) (W0 W1 : va_W) (av : List Value) : Prop := ∀ sz : Nat, Met l y (wsU y cc n r) (rmU fr lo 0 0) (PreC D cA W0 sz av) (QV D (va_A W0 sz) W1) 0 0 (va_A W0 sz)
theorem good_all : GoodIn wsL_law wsL_law := goodIn_sub (fun _ h => h) (by decide +kernel)
/-- the context of a walk -/
def Cx (p : Program) (s : State) (m : MethodId) (args : Array Value) (meth : Method) (c : Code) (D : va_G) (cA : Nat → ClassId) (cc : ByteArray) (nL : Nat) (own : String) (ret : Option FieldType) : Prop :=
  p.tables.exec = Jvm.exec ∧ c.code = cc ∧ c.maxLocals = nL ∧ s.vm.findClass own = some m.cls ∧ (∀ w ∈ wsL_law, w.before args s = true) ∧ va_K D vwCl (tyL cA) s ∧ NN s ∧ meth.sig.returnType = ret ∧ meth.locks = false
theorem Cx.of {p : Program} {l : Launch} {y : MethodName} {cc : ByteArray} {n : Nat} {r : Option FieldType} {rm : Room} {e : Env} {s s₁ : State} {m : MethodId} {args : Array Value} {below : List Frame} {meth : Method} {c : Code} {D : va_G} {cA : Nat → ClassId} (B : BodyLoose p l y (headSpec (wsU y cc n r) rm) cc n r e s m args below meth c s₁) (hml : c.maxLocals = n) (hK : KN D cA s) : Cx p s m args meth c D cA cc n y.cls r :=
  ⟨B.exec, B.bytes, hml, findClass_of_methodNamed B.named, fun w h => atoms_spec (ws := wsU y cc n r) B.pre w (List.mem_cons_of_mem _ h), hK.1, hK.2, B.returns, B.notSynchronized⟩
section BaseRows
variable {p : Program} {l : Launch} {e : Env} {R : Room} {s : State} {m : MethodId} {args : Array Value} {below : List Frame} {meth : Method} {c : Code} {H : Heap} {locs : List Loc} {cells slots : Nat} {Q : State → Prop}
variable {D : va_G} {cA : Nat → ClassId} {cc : ByteArray} {nL : Nat} {own : String} {ret : Option FieldType} {pc : Nat} {ls : Array Slot} {rest : List Value} {A : Nat → Prop}
theorem ret_i {v : Int32} {W1 : va_W} (C : Cx p s m args meth c D cA cc nL own (some .int)) (hP : va_P D vwCl W1 H) (hD : va_D A W1) (hS : va_S A s.heap H locs) (hdg : decode cc pc = .ok (.ireturn, 1)) : W p l e R s m args below meth c H locs cells slots (MQ below (QI D A v W1) args s cells slots A) (F0 m pc ls [.int v]) := by
  obtain ⟨hx, hb, -, -, -, -, -, hr, hlocks⟩ := C
  exact W.iret hx hb hr (fun t ht hW => ⟨⟨v, (), rfl, rfl, by rw [ht]; exact hP, hD⟩, hS.F ht⟩) hS.2.2 hdg
theorem ret_z {v : Int32} {W1 : va_W} (C : Cx p s m args meth c D cA cc nL own (some .boolean)) (hv : v = 0 ∨ v = 1) (hP : va_P D vwCl W1 H) (hD : va_D A W1) (hS : va_S A s.heap H locs) (hdg : decode cc pc = .ok (.ireturn, 1)) : W p l e R s m args below meth c H locs cells slots (MQ below (QI D A v W1) args s cells slots A) (F0 m pc ls [.int v]) := by
  obtain ⟨hx, hb, -, -, -, -, -, hr, hlocks⟩ := C
  refine W.zret hx hb hr ?_ (fun t ht hW => ⟨⟨v, (), rfl, rfl, by rw [ht]; exact hP, hD⟩, hS.F ht⟩) hS.2.2 hdg
  rcases hv with rfl | rfl <;> decide
theorem ret_l {v : Int64} {W1 : va_W} (C : Cx p s m args meth c D cA cc nL own (some .long)) (hP : va_P D vwCl W1 H) (hD : va_D A W1) (hS : va_S A s.heap H locs) (hdg : decode cc pc = .ok (.lreturn, 1)) : W p l e R s m args below meth c H locs cells slots (MQ below (QL D A v W1) args s cells slots A) (F0 m pc ls [.long v]) := by
  obtain ⟨hx, hb, -, -, -, -, -, hr, hlocks⟩ := C
  exact W.lret hx hb hr (fun t ht hW => ⟨⟨v, (), rfl, rfl, by rw [ht]; exact hP, hD⟩, hS.F ht⟩) hS.2.2 hdg
theorem ret_v {W1 : va_W} (C : Cx p s m args meth c D cA cc nL own none) (hP : va_P D vwCl W1 H) (hD : va_D A W1) (hS : va_S A s.heap H locs) (hdg : decode cc pc = .ok (.return_, 1)) : W p l e R s m args below meth c H locs cells slots (MQ below (QV D A W1) args s cells slots A) (F0 m pc ls []) := by
  obtain ⟨hx, hb, -, -, -, -, -, hr, hlocks⟩ := C
  exact W.vret hx hb hr (fun t ht hW => ⟨⟨(), rfl, trivial, by rw [ht]; exact hP, hD⟩, hS.F ht⟩) hS.2.2 hdg
/-- behind a call: the caller's world with the callee's new one in its place -/
theorem aft_j {ws Wc Wr W1 ws' : va_W} {H1 : Heap} (hP : va_P D vwCl ws H) (hD : va_D A ws) (hS : va_S A s.heap H locs) (hA : ∀ q : Nat, s.heap.size ≤ q → A q) (isC isR isB : List Nat) (hC : isC.map (fun i => ws[i]?) = Wc.map some) (hR : isR.map (fun i => ws[i]?) = Wr.map some) (hn : va_nd isR = true) (hdis : ∀ i ∈ isR, i ∉ isC) (hB : isB.map (fun i => (Wr ++ W1)[i]?) = ws'.map some) (hnB : va_nd isB = true)
    (hk1 : ∀ q : Nat, q < H.size → ¬ va_A Wc H.size q → H1[q]? = H[q]?) (hP1 : va_P D vwCl W1 H1) (hD1 : va_D (va_A Wc H.size) W1) : va_P D vwCl ws' H1 ∧ va_D A ws' := by
  have hFc := va_free (wc := Wc) hD hS hA isC hC
  obtain ⟨hP2, hD2⟩ := va_join hP hD isC isR hC hR hn hdis hk1 hFc hP1 hD1
  refine ⟨fun k q hk => ?_, hD2.sub isB hnB hB⟩
  have h1 : (ws'.map some)[k]? = some (some q) := by rw [List.getElem?_map, hk]; rfl
  rw [← hB, List.getElem?_map] at h1
  cases hb : isB[k]? with
  | none => rw [hb] at h1; cases h1
  | some i =>
    rw [hb] at h1
    exact hP2 i q (Option.some.inj h1)
theorem aft_i {ws Wc Wr W1 ws' : va_W} {v : Int32} {st0 : List Value} {a : Array Value} {mc ms : Nat} (hr : va_Run p l e R s m args below meth c H locs cells slots mc ms (F0 m pc ls st0) rest (QI D (va_A Wc H.size) v W1 a) (va_A Wc H.size)) (hP : va_P D vwCl ws H) (hD : va_D A ws) (hS : va_S A s.heap H locs) (hA : ∀ q : Nat, s.heap.size ≤ q → A q) (isC isR isB : List Nat) (hC : isC.map (fun i => ws[i]?) = Wc.map some) (hR : isR.map (fun i => ws[i]?) = Wr.map some) (hn : va_nd isR = true) (hdis : ∀ i ∈ isR, i ∉ isC) (hB : isB.map (fun i => (Wr ++ W1)[i]?) = ws'.map some) (hnB : va_nd isB = true)
    (kk : ∀ (H1 : Heap) (locs1 : List Loc), va_P D vwCl ws' H1 → va_D A ws' → va_S A s.heap H1 locs1 → W p l e R s m args below meth c H1 locs1 (cells + mc) (slots + ms) Q (F0 m (pc + 3) ls (.int v :: rest))) : W p l e R s m args below meth c H locs cells slots Q (F0 m pc ls st0) := by
  have hFc := va_free (wc := Wc) hD hS hA isC hC
  refine va_calli hr hS (fun q _ h => hFc q h) hFc (fun r u t H1 locs1 ht hvm hw hB1 hz1 hk1 hS1 => ?_)
  obtain ⟨hP1, hD1⟩ := hB1
  rw [ht] at hP1
  have h2 := aft_j hP hD hS hA isC isR isB hC hR hn hdis hB hnB hk1 hP1 hD1
  have hw : r = v := hw
  subst hw
  exact kk H1 locs1 h2.1 h2.2 hS1
theorem aft_l {ws Wc Wr W1 ws' : va_W} {v : Int64} {st0 : List Value} {a : Array Value} {mc ms : Nat} (hr : va_Run p l e R s m args below meth c H locs cells slots mc ms (F0 m pc ls st0) rest (QL D (va_A Wc H.size) v W1 a) (va_A Wc H.size)) (hP : va_P D vwCl ws H) (hD : va_D A ws) (hS : va_S A s.heap H locs) (hA : ∀ q : Nat, s.heap.size ≤ q → A q) (isC isR isB : List Nat) (hC : isC.map (fun i => ws[i]?) = Wc.map some) (hR : isR.map (fun i => ws[i]?) = Wr.map some) (hn : va_nd isR = true) (hdis : ∀ i ∈ isR, i ∉ isC) (hB : isB.map (fun i => (Wr ++ W1)[i]?) = ws'.map some) (hnB : va_nd isB = true)
    (kk : ∀ (H1 : Heap) (locs1 : List Loc), va_P D vwCl ws' H1 → va_D A ws' → va_S A s.heap H1 locs1 → W p l e R s m args below meth c H1 locs1 (cells + mc) (slots + ms) Q (F0 m (pc + 3) ls (.long v :: rest))) : W p l e R s m args below meth c H locs cells slots Q (F0 m pc ls st0) := by
  have hFc := va_free (wc := Wc) hD hS hA isC hC
  refine va_calll hr hS (fun q _ h => hFc q h) hFc (fun r u t H1 locs1 ht hvm hw hB1 hz1 hk1 hS1 => ?_)
  obtain ⟨hP1, hD1⟩ := hB1
  rw [ht] at hP1
  have h2 := aft_j hP hD hS hA isC isR isB hC hR hn hdis hB hnB hk1 hP1 hD1
  have hw : r = v := hw
  subst hw
  exact kk H1 locs1 h2.1 h2.2 hS1
theorem aft_v {ws Wc Wr W1 ws' : va_W} {st0 : List Value} {a : Array Value} {mc ms : Nat} (hr : va_Run p l e R s m args below meth c H locs cells slots mc ms (F0 m pc ls st0) rest (QV D (va_A Wc H.size) W1 a) (va_A Wc H.size)) (hP : va_P D vwCl ws H) (hD : va_D A ws) (hS : va_S A s.heap H locs) (hA : ∀ q : Nat, s.heap.size ≤ q → A q) (isC isR isB : List Nat) (hC : isC.map (fun i => ws[i]?) = Wc.map some) (hR : isR.map (fun i => ws[i]?) = Wr.map some) (hn : va_nd isR = true) (hdis : ∀ i ∈ isR, i ∉ isC) (hB : isB.map (fun i => (Wr ++ W1)[i]?) = ws'.map some) (hnB : va_nd isB = true)
    (kk : ∀ (H1 : Heap) (locs1 : List Loc), va_P D vwCl ws' H1 → va_D A ws' → va_S A s.heap H1 locs1 → W p l e R s m args below meth c H1 locs1 (cells + mc) (slots + ms) Q (F0 m (pc + 3) ls rest)) : W p l e R s m args below meth c H locs cells slots Q (F0 m pc ls st0) := by
  have hFc := va_free (wc := Wc) hD hS hA isC hC
  refine va_callv hr hS (fun q _ h => hFc q h) hFc (fun u t H1 locs1 ht hvm hw hB1 hz1 hk1 hS1 => ?_)
  obtain ⟨hP1, hD1⟩ := hB1
  rw [ht] at hP1
  have h2 := aft_j hP hD hS hA isC isR isB hC hR hn hdis hB hnB hk1 hP1 hD1
  exact kk H1 locs1 h2.1 h2.2 hS1
/-- what a call takes from the tables -/
def Lk (own : String) (idx : Nat) (y : MethodName) (bytes : ByteArray) (maxL : Nat) (ret : Option FieldType) (n : Nat) : Prop := Cond.code y bytes maxL ret ∈ wsL_law ∧ Cond.methodLink own idx y ∈ wsL_law ∧ Cond.initialized y.cls ∈ wsL_law ∧ y.cls ≠ "java/lang/invoke/MethodHandle" ∧ y.cls ≠ "java/lang/invoke/VarHandle" ∧ (parseMethodDescriptor y.desc).map (fun d => d.parameters.length) = some n
def LkV (own : String) (idx : Nat) (y : MethodName) (bytes : ByteArray) (maxL : Nat) (ret : Option FieldType) (n : Nat) : Prop := Lk own idx y bytes maxL ret n ∧ Cond.instanceMethod y ∈ wsL_law ∧ Cond.selects y.cls y y ∈ wsL_law
def LkS (own : String) (idx : Nat) (y : MethodName) (bytes : ByteArray) (maxL : Nat) (ret : Option FieldType) (n : Nat) : Prop := Lk own idx y bytes maxL ret n ∧ Cond.static y ∈ wsL_law
def LkN (own : String) (idx : Nat) (y : MethodName) (bytes : ByteArray) (maxL : Nat) (ret : Option FieldType) (n : Nat) : Prop := Cond.code y bytes maxL ret ∈ wsL_law ∧ Cond.methodLinkNest own idx y RX10 ∈ nwL ∧ Cond.initialized y.cls ∈ wsL_law ∧ y.cls ≠ "java/lang/invoke/MethodHandle" ∧ y.cls ≠ "java/lang/invoke/VarHandle" ∧ (parseMethodDescriptor y.desc).map (fun d => d.parameters.length) = some n
variable {y : MethodName} {bytes : ByteArray} {maxL fr lo mc ms n idx : Nat} {rt : Option FieldType} {Wc W1 : va_W} {Qc : Array Value → State → Outcome → State → Prop} {As : List Value} {b : Nat}
theorem goodU (hcode : Cond.code y bytes maxL rt ∈ wsL_law) : GoodIn wsL_law (wsU y bytes maxL rt) := fun w hw => (List.mem_cons.mp hw).elim (fun e => e ▸ good_all _ hcode) (fun h => good_all _ h)
theorem cb_of (C : Cx p s m args meth c D cA cc nL own ret) (L : Lk own idx y bytes maxL rt n) (hR : fr + 1 ≤ R.frames ∧ 8 + (maxL + 11) + lo ≤ R.locals) : CallB R s args own idx y bytes maxL rt (wsU y bytes maxL rt) (rmU fr lo mc ms) mc ms n := by
  obtain ⟨-, -, -, -, hts, -, -, -, -⟩ := C
  obtain ⟨h1, h2, h3, h4⟩ := L
  exact callB_of n hts (goodU h1) rfl rfl rfl (hts _ h3) (hts _ h2) h4 hR
theorem fixU (C : Cx p s m args meth c D cA cc nL own ret) : CallFix p m c cc nL s args wsL_law own := ⟨C.1, C.2.1, C.2.2.1, C.2.2.2.1, C.2.2.2.2.1⟩
theorem preS_of {av : List Value} (C : Cx p s m args meth c D cA cc nL own ret) (hP : va_P D vwCl Wc H) (hD : va_D A Wc) : PreS s H (PreC D cA Wc H.size av) av :=
  ⟨PreC.blind, fun U hU hW => ⟨rfl, by rw [hU], by rw [hU]; exact hP, KN.warm hW ⟨C.2.2.2.2.2.1, C.2.2.2.2.2.2.1⟩, hD.weaken (fun _ _ _ _ => trivial)⟩⟩
theorem preV_of {ci q0 : Nat} {q : vw_C} {fs : List Value} (C : Cx p s m args meth c D cA cc nL own ret) (hP : va_P D vwCl Wc H) (hD : va_D A Wc) (hc : vwCl[ci]? = some q) (he : Wc[q0]? = some (b, .inr (ci, fs))) : PreV s H q.1 b (PreC D cA Wc H.size (.ref b :: As)) As :=
  ⟨PreC.blind, va_recv C.2.2.2.2.2.1 hP hc he, fun U hU hW => ⟨rfl, by rw [hU], by rw [hU]; exact hP, KN.warm hW ⟨C.2.2.2.2.2.1, C.2.2.2.2.2.2.1⟩, hD.weaken (fun _ _ _ _ => trivial)⟩⟩
theorem runU_V {ci q0 : Nat} {q : vw_C} {fs : List Value} (C : Cx p s m args meth c D cA cc nL own ret) (L : LkV own idx y bytes maxL rt n) (hM : Met l y (wsU y bytes maxL rt) (rmU fr lo mc ms) (PreC D cA Wc H.size (.ref b :: As)) Qc mc ms (va_A Wc H.size)) (hR : fr + 1 ≤ R.frames ∧ 8 + (maxL + 11) + lo ≤ R.locals) (hf : cells + mc ≤ R.cells ∧ slots + ms ≤ R.slots) (hP : va_P D vwCl Wc H) (hD : va_D A Wc) (hc : vwCl[ci]? = some q) (he : Wc[q0]? = some (b, .inr (ci, fs))) (hq : y.cls = q.1) (hl : ls.size = nL) (hn : As.length = n) (hw : (rest.map fun v => v.category).sum ≤ 8) (hdg : decode cc pc = .ok (.invokevirtual idx, 3)) :
    va_Run p l e R s m args below meth c H locs cells slots mc ms (F0 m pc ls (As.reverse ++ .ref b :: rest)) rest (Qc (Value.ref b :: As).toArray) (va_A Wc H.size) :=
  va_runV (n := n) (fixU C) hM ⟨cb_of C L.1 hR, C.2.2.2.2.1 _ L.2.1, by rw [← hq]; exact C.2.2.2.2.1 _ L.2.2⟩ (preV_of C hP hD hc he) rfl hn hl rfl (lv_room hw) hdg hf
theorem runU_S (C : Cx p s m args meth c D cA cc nL own ret) (L : LkS own idx y bytes maxL rt n) (hM : Met l y (wsU y bytes maxL rt) (rmU fr lo mc ms) (PreC D cA Wc H.size As) Qc mc ms (va_A Wc H.size)) (hR : fr + 1 ≤ R.frames ∧ 8 + (maxL + 11) + lo ≤ R.locals) (hf : cells + mc ≤ R.cells ∧ slots + ms ≤ R.slots) (hP : va_P D vwCl Wc H) (hD : va_D A Wc) (hl : ls.size = nL) (hn : As.length = n) (hw : (rest.map fun v => v.category).sum ≤ 8) (hdg : decode cc pc = .ok (.invokestatic idx, 3)) :
    va_Run p l e R s m args below meth c H locs cells slots mc ms (F0 m pc ls (As.reverse ++ rest)) rest (Qc As.toArray) (va_A Wc H.size) :=
  va_runS (n := n) (fixU C) hM ⟨cb_of C L.1 hR, C.2.2.2.2.1 _ L.2⟩ (preS_of C hP hD) rfl hn hl rfl (lv_room hw) hdg hf
theorem cn_of (C : Cx p s m args meth c D cA cc nL own ret) (L : LkN own idx y bytes maxL rt n) (hR : fr + 1 ≤ R.frames ∧ 8 + (maxL + 11) + lo ≤ R.locals) : va_CN R s args own idx y RX10 bytes maxL rt (wsU y bytes maxL rt) (rmU fr lo mc ms) mc ms n := by
  obtain ⟨-, -, -, -, hts, -, hN, -, -⟩ := C
  obtain ⟨h1, h2, h3, h4⟩ := L
  exact va_cnB n hts (goodU h1) rfl rfl rfl (hN _ h2) (hts _ h3) h4 hR
theorem runU_SN (C : Cx p s m args meth c D cA cc nL own ret) (L : LkN own idx y bytes maxL rt n ∧ Cond.static y ∈ wsL_law) (hM : Met l y (wsU y bytes maxL rt) (rmU fr lo mc ms) (PreC D cA Wc H.size As) Qc mc ms (va_A Wc H.size)) (hR : fr + 1 ≤ R.frames ∧ 8 + (maxL + 11) + lo ≤ R.locals) (hf : cells + mc ≤ R.cells ∧ slots + ms ≤ R.slots) (hP : va_P D vwCl Wc H) (hD : va_D A Wc) (hl : ls.size = nL) (hn : As.length = n) (hw : (rest.map fun v => v.category).sum ≤ 8) (hdg : decode cc pc = .ok (.invokestatic idx, 3)) :
    va_Run p l e R s m args below meth c H locs cells slots mc ms (F0 m pc ls (As.reverse ++ rest)) rest (Qc As.toArray) (va_A Wc H.size) :=
  va_runSN (n := n) (fixU C) hM ⟨cn_of C L.1 hR, C.2.2.2.2.1 _ L.2, trivial⟩ (preS_of C hP hD) rfl hn hl rfl (lv_room hw) hdg hf
theorem runU_IN (C : Cx p s m args meth c D cA cc nL own ret) (L : LkN own idx y bytes maxL none n ∧ Cond.instanceMethod y ∈ wsL_law) (hy : y.name = "<init>") (hM : Met l y (wsU y bytes maxL none) (rmU fr lo mc ms) (PreC D cA Wc H.size (.ref b :: As)) Qc mc ms (va_A Wc H.size)) (hR : fr + 1 ≤ R.frames ∧ 8 + (maxL + 11) + lo ≤ R.locals) (hf : cells + mc ≤ R.cells ∧ slots + ms ≤ R.slots) (hP : va_P D vwCl Wc H) (hD : va_D A Wc) (hl : ls.size = nL) (hn : As.length = n) (hw : (rest.map fun v => v.category).sum ≤ 8) (hdg : decode cc pc = .ok (.invokespecial idx, 3)) :
    va_Run p l e R s m args below meth c H locs cells slots mc ms (F0 m pc ls (As.reverse ++ .ref b :: rest)) rest (Qc (Value.ref b :: As).toArray) (va_A Wc H.size) :=
  va_runIN (n := n) (fixU C) hM ⟨cn_of C L.1 hR, hy, C.2.2.2.2.1 _ L.2⟩ (preS_of C hP hD) rfl hn hl rfl (lv_room hw) hdg hf
theorem runU_I (C : Cx p s m args meth c D cA cc nL own ret) (L : Lk own idx y bytes maxL none n ∧ Cond.instanceMethod y ∈ wsL_law) (hy : y.name = "<init>") (hM : Met l y (wsU y bytes maxL none) (rmU fr lo mc ms) (PreC D cA Wc H.size (.ref b :: As)) Qc mc ms (va_A Wc H.size)) (hR : fr + 1 ≤ R.frames ∧ 8 + (maxL + 11) + lo ≤ R.locals) (hf : cells + mc ≤ R.cells ∧ slots + ms ≤ R.slots) (hP : va_P D vwCl Wc H) (hD : va_D A Wc) (hl : ls.size = nL) (hn : As.length = n) (hw : (rest.map fun v => v.category).sum ≤ 8) (hdg : decode cc pc = .ok (.invokespecial idx, 3)) :
    va_Run p l e R s m args below meth c H locs cells slots mc ms (F0 m pc ls (As.reverse ++ .ref b :: rest)) rest (Qc (Value.ref b :: As).toArray) (va_A Wc H.size) :=
  va_runI (n := n) (fixU C) hM ⟨cb_of C L.1 hR, hy, C.2.2.2.2.1 _ L.2⟩ (preS_of C hP hD) rfl hn hl rfl (lv_room hw) hdg hf
end BaseRows
/-! ===== the pure side: loops by fuel, and how a pure step is read ===== -/
def lpN {σ ρ : Type} (body : (σ → Option ρ) → σ → Option ρ) : Nat → σ → Option ρ
  | 0 => fun _ => none
  | k + 1 => body (lpN body k)
theorem lpN_spec {σ ρ : Type} {body : (σ → Option ρ) → σ → Option ρ} (I : σ → Prop) (μ : σ → Nat) (f : σ → Option ρ) (h : ∀ (g : σ → Option ρ) (s : σ), I s → (∀ s', I s' → μ s' < μ s → g s' = f s') → body g s = f s) : ∀ (k : Nat) (s : σ), I s → μ s < k → lpN body k s = f s
  | 0, s, _, h2 => absurd h2 (Nat.not_lt_zero _)
  | k + 1, s, h1, h2 => h (lpN body k) s h1 (fun s' h3 h4 => lpN_spec I μ f h k s' h3 (by omega))
theorem pt_t {α : Type} {c : Prop} {inst : Decidable c} {a b : Option α} {z : α} (h : c) (e : (@ite _ c inst a b) = some z) : a = some z := by rw [if_pos h] at e; exact e
theorem pt_f {α : Type} {c : Prop} {inst : Decidable c} {a b : Option α} {z : α} (h : ¬ c) (e : (@ite _ c inst a b) = some z) : b = some z := by rw [if_neg h] at e; exact e
theorem pt_g {α : Type} {c : Prop} {inst : Decidable c} {a : Option α} {z : α} (e : (@ite _ c inst a none) = some z) : c ∧ a = some z := by
  by_cases h : c
  · rw [if_pos h] at e; exact ⟨h, e⟩
  · rw [if_neg h] at e; cases e
theorem pt_b {α β : Type} {x : Option α} {k : α → Option β} {z : β} (e : Option.bind x k = some z) : ∃ y, x = some y ∧ k y = some z := by
  cases x with
  | none => cases e
  | some y => exact ⟨y, rfl, e⟩
def sh {α : Type} (S : Nat → α) (b : Nat) : Nat → α := fun k => S (b + k)
def pt {α : Type} (S : Nat → α) (b n : Nat) (F : Nat → α) : Nat → α := fun k => if b ≤ k ∧ k < b + n then F (k - b) else S k
end
section
/-! ===== more of the base: a world with some cells changed, calls behind it ===== -/
def stf (S : St) (k : Nat) (v : Int32) : St := va_up S k (fun _ => v)
def sti (S : St) (k j : Nat) (v : Int32) : St := va_up S k (upd (S k) j v)
def nm {α β : Type} (x : α) (k : α → β) : β := k x
theorem pt_n {α β : Type} {x y : α} {k : α → Option β} {z : β} (h : y = x) (e : nm x k = some z) : k y = some z := by subst h; exact e
def qf2 (x y : Nat) : Nat → Option Nat := fun k => if k = 0 then some x else if k = 1 then some y else none
theorem inK {i : Int32} {n : Nat} (h : (decide (i < 0) || decide (n ≤ i.toNatClampNeg)) = false) : vp_in i n := by
  intro q
  rcases q with q | q
  · simp [q] at h
  · simp [q] at h
def putW : List Nat → va_W → va_W → va_W
  | i :: is, w :: W1, ws => putW is W1 (ws.set i w)
  | _, _, ws => ws
theorem putW_get : ∀ (is : List Nat) (W1 ws : va_W) (k : Nat) (q : Nat × va_E), va_nd is = true → W1.length = is.length → (putW is W1 ws)[k]? = some q → (∃ j : Nat, is[j]? = some k ∧ W1[j]? = some q) ∨ (k ∉ is ∧ ws[k]? = some q)
  | [], W1, ws, k, q, _, _, h => Or.inr ⟨by simp, by cases W1 <;> exact h⟩
  | i :: is, [], ws, k, q, _, hl, _ => by simp at hl
  | i :: is, w :: W1, ws, k, q, hn, hl, h => by
    have hn' : i ∉ is ∧ va_nd is = true := by
      have h9 := hn
      simp only [va_nd, Bool.and_eq_true, decide_eq_true_eq] at h9
      exact h9
    have hl' : W1.length = is.length := by simpa using hl
    rcases putW_get is W1 (ws.set i w) k q hn'.2 hl' h with ⟨j, h1, h2⟩ | ⟨h1, h2⟩
    · exact Or.inl ⟨j + 1, by simpa using h1, by simpa using h2⟩
    · by_cases hk : k = i
      · subst hk
        refine Or.inl ⟨0, rfl, ?_⟩
        rw [List.getElem?_set] at h2
        simp only [if_true] at h2
        by_cases hlt : k < ws.length
        · rw [if_pos hlt] at h2; simpa using h2
        · rw [if_neg hlt] at h2; cases h2
      · refine Or.inr ⟨by simp [hk, h1], ?_⟩
        rw [List.getElem?_set, if_neg (Ne.symm hk)] at h2
        exact h2
section Base2
variable {p : Program} {l : Launch} {e : Env} {R : Room} {s : State} {m : MethodId} {args : Array Value} {below : List Frame} {meth : Method} {c : Code} {H : Heap} {locs : List Loc} {cells slots : Nat} {Q : State → Prop}
variable {D : va_G} {pc : Nat} {ls : Array Slot} {rest : List Value} {A : Nat → Prop} {ws Wc W1 : va_W} {st0 : List Value} {a : Array Value}
theorem aft_u {H1 : Heap} (hP : va_P D vwCl ws H) (hD : va_D A ws) (hF : ∀ q : Nat, va_A Wc H.size q → A q) (isC : List Nat) (hC : isC.map (fun i => ws[i]?) = Wc.map some) (hn : va_nd isC = true) (hlen : W1.length = isC.length)
    (hk1 : ∀ q : Nat, q < H.size → ¬ va_A Wc H.size q → H1[q]? = H[q]?) (hP1 : va_P D vwCl W1 H1) (hD1 : va_D (va_A Wc H.size) W1) : va_P D vwCl (putW isC W1 ws) H1 ∧ va_D A (putW isC W1 ws) := by
  have out : ∀ (k : Nat) (q : Nat × va_E), k ∉ isC → ws[k]? = some q → q.1 < H.size ∧ ¬ va_A Wc H.size q.1 := by
    intro k q hk hq
    refine ⟨(hP k q hq).lt, fun h => ?_⟩
    rcases h with ⟨k2, e2, h⟩ | h
    · have h1 : (Wc.map some)[k2]? = some (some (q.1, e2)) := by rw [List.getElem?_map, h]; rfl
      rw [← hC, List.getElem?_map] at h1
      cases hb : isC[k2]? with
      | none => rw [hb] at h1; cases h1
      | some i =>
        rw [hb] at h1
        have h2 : ws[i]? = some (q.1, e2) := Option.some.inj h1
        have h3 := hD.1 k i q (q.1, e2) hq h2 rfl
        subst h3
        exact hk (List.mem_of_getElem? hb)
    · exact absurd (hP k q hq).lt (by omega)
  refine ⟨fun k q hk => ?_, fun i j x y hx hy hxy => ?_, fun k q hk => ?_⟩
  · rcases putW_get isC W1 ws k q hn hlen hk with ⟨j, h1, h2⟩ | ⟨h1, h2⟩
    · exact hP1 j q h2
    · exact (hP k q h2).kept (hk1 q.1 (out k q h1 h2).1 (out k q h1 h2).2)
  · rcases putW_get isC W1 ws i x hn hlen hx with ⟨j1, h1, h2⟩ | ⟨h1, h2⟩ <;> rcases putW_get isC W1 ws j y hn hlen hy with ⟨j2, h3, h4⟩ | ⟨h3, h4⟩
    · have := hD1.1 j1 j2 x y h2 h4 hxy
      subst this
      rw [h1] at h3
      exact Option.some.inj h3
    · exact absurd (by rw [← hxy]; exact hD1.2 j1 x h2) (out j y h3 h4).2
    · exact absurd (by rw [hxy]; exact hD1.2 j2 y h4) (out i x h1 h2).2
    · exact hD.1 i j x y h2 h4 hxy
  · rcases putW_get isC W1 ws k q hn hlen hk with ⟨j, h1, h2⟩ | ⟨h1, h2⟩
    · exact hF q.1 (hD1.2 j q h2)
    · exact hD.2 k q h2
theorem aft_p {H1 : Heap} (hP : va_P D vwCl ws H) (hD : va_D A ws) (isC : List Nat) (hC : isC.map (fun i => ws[i]?) = Wc.map some)
    (hk1 : ∀ q : Nat, q < H.size → ¬ va_A Wc H.size q → H1[q]? = H[q]?) (hP1 : va_P D vwCl Wc H1) : va_P D vwCl ws H1 := by
  intro k q hk
  by_cases h : va_A Wc H.size q.1
  · rcases h with ⟨k2, e2, h⟩ | h
    · have h1 : (Wc.map some)[k2]? = some (some (q.1, e2)) := by rw [List.getElem?_map, h]; rfl
      rw [← hC, List.getElem?_map] at h1
      cases hb : isC[k2]? with
      | none => rw [hb] at h1; cases h1
      | some i =>
        rw [hb] at h1
        have h2 : ws[i]? = some (q.1, e2) := Option.some.inj h1
        have h3 := hD.1 k i q (q.1, e2) hk h2 rfl
        subst h3
        rw [hk] at h2
        have h5 : q = (q.1, e2) := Option.some.inj h2
        have h6 := hP1 k2 _ h
        rw [← h5] at h6
        exact h6
    · exact absurd (hP k q hk).lt (by omega)
  · exact (hP k q hk).kept (hk1 q.1 (hP k q hk).lt h)
theorem free0 (hD : va_D A ws) (hS : va_S A s.heap H locs) (hA : ∀ q : Nat, s.heap.size ≤ q → A q) : ∀ q : Nat, va_A ws H.size q → A q := by
  intro q h
  rcases h with ⟨k, e2, h⟩ | h
  · exact hD.2 k _ h
  · exact hA q (Nat.le_trans hS.1 h)
/-- the callee's world is the caller's whole world -/
theorem all_i {v : Int32} (hr : va_Run p l e R s m args below meth c H locs cells slots 0 0 (F0 m pc ls st0) rest (QI D (va_A ws H.size) v W1 a) (va_A ws H.size)) (hD : va_D A ws) (hS : va_S A s.heap H locs) (hA : ∀ q : Nat, s.heap.size ≤ q → A q)
    (kk : ∀ (H1 : Heap) (locs1 : List Loc), va_P D vwCl W1 H1 → va_D A W1 → va_S A s.heap H1 locs1 → W p l e R s m args below meth c H1 locs1 cells slots Q (F0 m (pc + 3) ls (.int v :: rest))) : W p l e R s m args below meth c H locs cells slots Q (F0 m pc ls st0) := by
  have hF := free0 hD hS hA
  refine va_calli hr hS (fun q _ h => hF q h) hF (fun r u t H1 locs1 ht hvm hw hB1 hz1 hk1 hS1 => ?_)
  obtain ⟨hP1, hD1⟩ := hB1
  rw [ht] at hP1
  have hw : r = v := hw
  subst hw
  exact kk H1 locs1 hP1 (hD1.weaken (fun _ q _ h => hF q.1 h)) hS1
theorem all_l {v : Int64} (hr : va_Run p l e R s m args below meth c H locs cells slots 0 0 (F0 m pc ls st0) rest (QL D (va_A ws H.size) v W1 a) (va_A ws H.size)) (hD : va_D A ws) (hS : va_S A s.heap H locs) (hA : ∀ q : Nat, s.heap.size ≤ q → A q)
    (kk : ∀ (H1 : Heap) (locs1 : List Loc), va_P D vwCl W1 H1 → va_D A W1 → va_S A s.heap H1 locs1 → W p l e R s m args below meth c H1 locs1 cells slots Q (F0 m (pc + 3) ls (.long v :: rest))) : W p l e R s m args below meth c H locs cells slots Q (F0 m pc ls st0) := by
  have hF := free0 hD hS hA
  refine va_calll hr hS (fun q _ h => hF q h) hF (fun r u t H1 locs1 ht hvm hw hB1 hz1 hk1 hS1 => ?_)
  obtain ⟨hP1, hD1⟩ := hB1
  rw [ht] at hP1
  have hw : r = v := hw
  subst hw
  exact kk H1 locs1 hP1 (hD1.weaken (fun _ q _ h => hF q.1 h)) hS1
theorem all_v (hr : va_Run p l e R s m args below meth c H locs cells slots 0 0 (F0 m pc ls st0) rest (QV D (va_A ws H.size) W1 a) (va_A ws H.size)) (hD : va_D A ws) (hS : va_S A s.heap H locs) (hA : ∀ q : Nat, s.heap.size ≤ q → A q)
    (kk : ∀ (H1 : Heap) (locs1 : List Loc), va_P D vwCl W1 H1 → va_D A W1 → va_S A s.heap H1 locs1 → W p l e R s m args below meth c H1 locs1 cells slots Q (F0 m (pc + 3) ls rest)) : W p l e R s m args below meth c H locs cells slots Q (F0 m pc ls st0) := by
  have hF := free0 hD hS hA
  refine va_callv hr hS (fun q _ h => hF q h) hF (fun u t H1 locs1 ht hvm hw hB1 hz1 hk1 hS1 => ?_)
  obtain ⟨hP1, hD1⟩ := hB1
  rw [ht] at hP1
  exact kk H1 locs1 hP1 (hD1.weaken (fun _ q _ h => hF q.1 h)) hS1
/-- the callee's world is a part of the caller's, and stays as it is -/
theorem prt_i {v : Int32} (hr : va_Run p l e R s m args below meth c H locs cells slots 0 0 (F0 m pc ls st0) rest (QI D (va_A Wc H.size) v Wc a) (va_A Wc H.size)) (hP : va_P D vwCl ws H) (hD : va_D A ws) (hS : va_S A s.heap H locs) (hA : ∀ q : Nat, s.heap.size ≤ q → A q) (isC : List Nat) (hC : isC.map (fun i => ws[i]?) = Wc.map some)
    (kk : ∀ (H1 : Heap) (locs1 : List Loc), va_P D vwCl ws H1 → va_D A ws → va_S A s.heap H1 locs1 → W p l e R s m args below meth c H1 locs1 cells slots Q (F0 m (pc + 3) ls (.int v :: rest))) : W p l e R s m args below meth c H locs cells slots Q (F0 m pc ls st0) := by
  have hF := va_free (wc := Wc) hD hS hA isC hC
  refine va_calli hr hS (fun q _ h => hF q h) hF (fun r u t H1 locs1 ht hvm hw hB1 hz1 hk1 hS1 => ?_)
  obtain ⟨hP1, hD1⟩ := hB1
  rw [ht] at hP1
  have hw : r = v := hw
  subst hw
  exact kk H1 locs1 (aft_p hP hD isC hC hk1 hP1) hD hS1
theorem prt_l {v : Int64} (hr : va_Run p l e R s m args below meth c H locs cells slots 0 0 (F0 m pc ls st0) rest (QL D (va_A Wc H.size) v Wc a) (va_A Wc H.size)) (hP : va_P D vwCl ws H) (hD : va_D A ws) (hS : va_S A s.heap H locs) (hA : ∀ q : Nat, s.heap.size ≤ q → A q) (isC : List Nat) (hC : isC.map (fun i => ws[i]?) = Wc.map some)
    (kk : ∀ (H1 : Heap) (locs1 : List Loc), va_P D vwCl ws H1 → va_D A ws → va_S A s.heap H1 locs1 → W p l e R s m args below meth c H1 locs1 cells slots Q (F0 m (pc + 3) ls (.long v :: rest))) : W p l e R s m args below meth c H locs cells slots Q (F0 m pc ls st0) := by
  have hF := va_free (wc := Wc) hD hS hA isC hC
  refine va_calll hr hS (fun q _ h => hF q h) hF (fun r u t H1 locs1 ht hvm hw hB1 hz1 hk1 hS1 => ?_)
  obtain ⟨hP1, hD1⟩ := hB1
  rw [ht] at hP1
  have hw : r = v := hw
  subst hw
  exact kk H1 locs1 (aft_p hP hD isC hC hk1 hP1) hD hS1
/-- the callee's world is a part of the caller's, and comes back changed -/
theorem upd_i {v : Int32} (hr : va_Run p l e R s m args below meth c H locs cells slots 0 0 (F0 m pc ls st0) rest (QI D (va_A Wc H.size) v W1 a) (va_A Wc H.size)) (hP : va_P D vwCl ws H) (hD : va_D A ws) (hS : va_S A s.heap H locs) (hA : ∀ q : Nat, s.heap.size ≤ q → A q) (isC : List Nat) (hC : isC.map (fun i => ws[i]?) = Wc.map some) (hn : va_nd isC = true) (hlen : W1.length = isC.length)
    (kk : ∀ (H1 : Heap) (locs1 : List Loc), va_P D vwCl (putW isC W1 ws) H1 → va_D A (putW isC W1 ws) → va_S A s.heap H1 locs1 → W p l e R s m args below meth c H1 locs1 cells slots Q (F0 m (pc + 3) ls (.int v :: rest))) : W p l e R s m args below meth c H locs cells slots Q (F0 m pc ls st0) := by
  have hF := va_free (wc := Wc) hD hS hA isC hC
  refine va_calli hr hS (fun q _ h => hF q h) hF (fun r u t H1 locs1 ht hvm hw hB1 hz1 hk1 hS1 => ?_)
  obtain ⟨hP1, hD1⟩ := hB1
  rw [ht] at hP1
  have hw : r = v := hw
  subst hw
  have h2 := aft_u hP hD hF isC hC hn hlen hk1 hP1 hD1
  exact kk H1 locs1 h2.1 h2.2 hS1
theorem upd_v (hr : va_Run p l e R s m args below meth c H locs cells slots 0 0 (F0 m pc ls st0) rest (QV D (va_A Wc H.size) W1 a) (va_A Wc H.size)) (hP : va_P D vwCl ws H) (hD : va_D A ws) (hS : va_S A s.heap H locs) (hA : ∀ q : Nat, s.heap.size ≤ q → A q) (isC : List Nat) (hC : isC.map (fun i => ws[i]?) = Wc.map some) (hn : va_nd isC = true) (hlen : W1.length = isC.length)
    (kk : ∀ (H1 : Heap) (locs1 : List Loc), va_P D vwCl (putW isC W1 ws) H1 → va_D A (putW isC W1 ws) → va_S A s.heap H1 locs1 → W p l e R s m args below meth c H1 locs1 cells slots Q (F0 m (pc + 3) ls rest)) : W p l e R s m args below meth c H locs cells slots Q (F0 m pc ls st0) := by
  have hF := va_free (wc := Wc) hD hS hA isC hC
  refine va_callv hr hS (fun q _ h => hF q h) hF (fun u t H1 locs1 ht hvm hw hB1 hz1 hk1 hS1 => ?_)
  obtain ⟨hP1, hD1⟩ := hB1
  rw [ht] at hP1
  have h2 := aft_u hP hD hF isC hC hn hlen hk1 hP1 hD1
  exact kk H1 locs1 h2.1 h2.2 hS1
end Base2
end
section
section PNum
variable {p : Program} {l : Launch} {e : Env} {R : Room} {s : State} {m : MethodId} {args : Array Value} {below : List Frame} {meth : Method} {c : Code} {H : Heap} {locs : List Loc} {cells slots : Nat} {Q : State → Prop}
variable {D : va_G} {cA : Nat → ClassId} {cc : ByteArray} {nL : Nat} {own : String} {ret : Option FieldType} {pc : Nat} {ls : Array Slot} {rest : List Value} {A : Nat → Prop} {a b d : Nat → Nat} {S T U : St}
theorem kc_RJ6_265 : Cond.constant RJ6 265 (1431655765) ∈ wsL_law := by decide +kernel
theorem kc_RJ6_266 : Cond.constant RJ6 266 (858993459) ∈ wsL_law := by decide +kernel
theorem kc_RJ6_267 : Cond.constant RJ6 267 (252645135) ∈ wsL_law := by decide +kernel
def fJ6_bitCount_0f7a4 (N : Nat) (p0 : Int32) : Option (Int32) :=
  nm ((p0 - ((Int32.toUInt32 p0 >>> (Int32.toUInt32 ((1 : Int32)) &&& Int32.toUInt32 31)).toInt32 &&& (1431655765 : Int32)))) (fun v1 => nm (((v1 &&& (858993459 : Int32)) + ((Int32.toUInt32 v1 >>> (Int32.toUInt32 ((2 : Int32)) &&& Int32.toUInt32 31)).toInt32 &&& (858993459 : Int32)))) (fun v2 => nm (((v2 + (Int32.toUInt32 v2 >>> (Int32.toUInt32 ((4 : Int32)) &&& Int32.toUInt32 31)).toInt32) &&& (252645135 : Int32))) (fun v3 => nm ((v3 + (Int32.toUInt32 v3 >>> (Int32.toUInt32 ((8 : Int32)) &&& Int32.toUInt32 31)).toInt32)) (fun v4 => nm ((v4 + (Int32.toUInt32 v4 >>> (Int32.toUInt32 ((16 : Int32)) &&& Int32.toUInt32 31)).toInt32)) (fun v5 => some ((v5 &&& (63 : Int32))))))))
set_option maxRecDepth 100000 in
set_option maxHeartbeats 4000000 in
theorem wJ6_bitCount_0f7a4 (C : Cx p s m args meth c D cA cJ6_bitCount_0f7a4 1 RJ6 (some .int)) (hA : ∀ q : Nat, s.heap.size ≤ q → A q) {N : Nat} {z : Int32} {p0 : Int32} (hf : fJ6_bitCount_0f7a4 N p0 = some z) {H : Heap} {locs : List Loc} {ls : Array Slot} (hP : va_P D vwCl ([] : va_W) H) (hD : va_D A ([] : va_W)) (hS : va_S A s.heap H locs) (hl : lv_has ls 1 [(0, .int p0)]) : W p l e (rmU 0 0 0 0) s m args below meth c H locs 0 0 (MQ below (QI D A z ([] : va_W)) args s 0 0 A) (F0 m 0 ls []) := by
  obtain ⟨hx, hb, hml, hown, hts, hK, hN, hr, hlk⟩ := id C
  unfold fJ6_bitCount_0f7a4 at hf
  refine lv_iload_n (pc := 0) hx hb dJ6_bitCount_0f7a4_0 rfl (lv_at hl 0 rfl) ?_
  refine lv_iload_n (pc := 1) hx hb dJ6_bitCount_0f7a4_1 rfl (lv_at hl 0 rfl) ?_
  refine lv_iconst (v := (1 : Int32)) (pc := 2) hx hb dJ6_bitCount_0f7a4_2 (by decide) ?_
  refine lv_iushr (v := (Int32.toUInt32 p0 >>> (Int32.toUInt32 ((1 : Int32)) &&& Int32.toUInt32 31)).toInt32) (pc := 3) hx hb dJ6_bitCount_0f7a4_3 rfl ?_
  refine lv_ldcw (pc := 4) (v := (1431655765 : Int32)) hx hb hown (hts _ kc_RJ6_265) dJ6_bitCount_0f7a4_4 ?_
  refine lv_iand (pc := 7) hx hb dJ6_bitCount_0f7a4_7 ?_
  refine lv_isub (pc := 8) hx hb dJ6_bitCount_0f7a4_8 ?_
  refine lv_topi (fun v1 ev1 => ?_)
  have hf := pt_n ev1 hf
  refine lv_istore_n (lv' := [(0, .int v1)]) (pc := 9) hx hb dJ6_bitCount_0f7a4_9 rfl hl (by decide) rfl (fun ls hl => ?_)
  refine lv_iload_n (pc := 10) hx hb dJ6_bitCount_0f7a4_10 rfl (lv_at hl 0 rfl) ?_
  refine lv_ldcw (pc := 11) (v := (858993459 : Int32)) hx hb hown (hts _ kc_RJ6_266) dJ6_bitCount_0f7a4_11 ?_
  refine lv_iand (pc := 14) hx hb dJ6_bitCount_0f7a4_14 ?_
  refine lv_iload_n (pc := 15) hx hb dJ6_bitCount_0f7a4_15 rfl (lv_at hl 0 rfl) ?_
  refine lv_iconst (v := (2 : Int32)) (pc := 16) hx hb dJ6_bitCount_0f7a4_16 (by decide) ?_
  refine lv_iushr (v := (Int32.toUInt32 v1 >>> (Int32.toUInt32 ((2 : Int32)) &&& Int32.toUInt32 31)).toInt32) (pc := 17) hx hb dJ6_bitCount_0f7a4_17 rfl ?_
  refine lv_ldcw (pc := 18) (v := (858993459 : Int32)) hx hb hown (hts _ kc_RJ6_266) dJ6_bitCount_0f7a4_18 ?_
  refine lv_iand (pc := 21) hx hb dJ6_bitCount_0f7a4_21 ?_
  refine lv_iadd (pc := 22) hx hb dJ6_bitCount_0f7a4_22 ?_
  refine lv_topi (fun v2 ev2 => ?_)
  have hf := pt_n ev2 hf
  refine lv_istore_n (lv' := [(0, .int v2)]) (pc := 23) hx hb dJ6_bitCount_0f7a4_23 rfl hl (by decide) rfl (fun ls hl => ?_)
  refine lv_iload_n (pc := 24) hx hb dJ6_bitCount_0f7a4_24 rfl (lv_at hl 0 rfl) ?_
  refine lv_iload_n (pc := 25) hx hb dJ6_bitCount_0f7a4_25 rfl (lv_at hl 0 rfl) ?_
  refine lv_iconst (v := (4 : Int32)) (pc := 26) hx hb dJ6_bitCount_0f7a4_26 (by decide) ?_
  refine lv_iushr (v := (Int32.toUInt32 v2 >>> (Int32.toUInt32 ((4 : Int32)) &&& Int32.toUInt32 31)).toInt32) (pc := 27) hx hb dJ6_bitCount_0f7a4_27 rfl ?_
  refine lv_iadd (pc := 28) hx hb dJ6_bitCount_0f7a4_28 ?_
  refine lv_ldcw (pc := 29) (v := (252645135 : Int32)) hx hb hown (hts _ kc_RJ6_267) dJ6_bitCount_0f7a4_29 ?_
  refine lv_iand (pc := 32) hx hb dJ6_bitCount_0f7a4_32 ?_
  refine lv_topi (fun v3 ev3 => ?_)
  have hf := pt_n ev3 hf
  refine lv_istore_n (lv' := [(0, .int v3)]) (pc := 33) hx hb dJ6_bitCount_0f7a4_33 rfl hl (by decide) rfl (fun ls hl => ?_)
  refine lv_iload_n (pc := 34) hx hb dJ6_bitCount_0f7a4_34 rfl (lv_at hl 0 rfl) ?_
  refine lv_iload_n (pc := 35) hx hb dJ6_bitCount_0f7a4_35 rfl (lv_at hl 0 rfl) ?_
  refine lv_bipush (v := (8 : Int32)) (pc := 36) hx hb dJ6_bitCount_0f7a4_36 (by decide) ?_
  refine lv_iushr (v := (Int32.toUInt32 v3 >>> (Int32.toUInt32 ((8 : Int32)) &&& Int32.toUInt32 31)).toInt32) (pc := 38) hx hb dJ6_bitCount_0f7a4_38 rfl ?_
  refine lv_iadd (pc := 39) hx hb dJ6_bitCount_0f7a4_39 ?_
  refine lv_topi (fun v4 ev4 => ?_)
  have hf := pt_n ev4 hf
  refine lv_istore_n (lv' := [(0, .int v4)]) (pc := 40) hx hb dJ6_bitCount_0f7a4_40 rfl hl (by decide) rfl (fun ls hl => ?_)
  refine lv_iload_n (pc := 41) hx hb dJ6_bitCount_0f7a4_41 rfl (lv_at hl 0 rfl) ?_
  refine lv_iload_n (pc := 42) hx hb dJ6_bitCount_0f7a4_42 rfl (lv_at hl 0 rfl) ?_
  refine lv_bipush (v := (16 : Int32)) (pc := 43) hx hb dJ6_bitCount_0f7a4_43 (by decide) ?_
  refine lv_iushr (v := (Int32.toUInt32 v4 >>> (Int32.toUInt32 ((16 : Int32)) &&& Int32.toUInt32 31)).toInt32) (pc := 45) hx hb dJ6_bitCount_0f7a4_45 rfl ?_
  refine lv_iadd (pc := 46) hx hb dJ6_bitCount_0f7a4_46 ?_
  refine lv_topi (fun v5 ev5 => ?_)
  have hf := pt_n ev5 hf
  refine lv_istore_n (lv' := [(0, .int v5)]) (pc := 47) hx hb dJ6_bitCount_0f7a4_47 rfl hl (by decide) rfl (fun ls hl => ?_)
  refine lv_iload_n (pc := 48) hx hb dJ6_bitCount_0f7a4_48 rfl (lv_at hl 0 rfl) ?_
  refine lv_bipush (v := (63 : Int32)) (pc := 49) hx hb dJ6_bitCount_0f7a4_49 (by decide) ?_
  refine lv_iand (pc := 51) hx hb dJ6_bitCount_0f7a4_51 ?_
  cases hf
  exact ret_i C hP hD hS dJ6_bitCount_0f7a4_52
set_option maxRecDepth 100000 in
set_option maxHeartbeats 4000000 in
theorem kJ6_bitCount_0f7a4 (l : Launch) (D : va_G) (cA : Nat → ClassId) {N : Nat} {p0 : Int32} {z : Int32} (hf : fJ6_bitCount_0f7a4 N p0 = some z) : CtI l yJ6_bitCount_0f7a4 cJ6_bitCount_0f7a4 1 (some .int) 0 0 D cA ([] : va_W) ([] : va_W) [.int p0] z := by
  intro sz
  refine Met.ofW (cc := cJ6_bitCount_0f7a4) (maxL := 1) (ret := (some .int)) (by decide) rfl ?_
  intro p e s m args below meth c s₁ B hml hv
  obtain ⟨rfl, hsz, hP, hK, hD0⟩ := hv
  subst hsz
  have C : Cx p s m _ meth c D cA cJ6_bitCount_0f7a4 1 RJ6 (some .int) := Cx.of B hml hK
  have hD := hD0.self (sz := s.heap.size)
  have hA : ∀ q : Nat, s.heap.size ≤ q → va_A ([] : va_W) s.heap.size q := fun q h => Or.inr h
  have hS : va_S (va_A ([] : va_W) s.heap.size) s.heap s.heap [] := va_S.rf
  have hl := lv_entry ([.int p0]) (n := 1) (Nat.le_of_ble_eq_true rfl)
  rw [lg_entry_eq]
  generalize (lg_sl ([.int p0]) ++ List.replicate (1 - (lg_sl ([.int p0])).length) Slot.unset).toArray = ls at hl ⊢
  exact wJ6_bitCount_0f7a4 C hA hf hP hD hS hl
def fX3_lengthOf (N : Nat) (p0 : Int32) : Option (Int32) :=
  if (100 : Int32) ≤ p0 then (if (10000 : Int32) ≤ p0 then (some ((5 : Int32))) else (if (1000 : Int32) ≤ p0 then (some ((4 : Int32))) else (some ((3 : Int32))))) else (if (10 : Int32) ≤ p0 then (some ((2 : Int32))) else (some ((1 : Int32))))
set_option maxRecDepth 100000 in
set_option maxHeartbeats 4000000 in
theorem wX3_lengthOf (C : Cx p s m args meth c D cA cX3_lengthOf 1 RX3 (some .int)) (hA : ∀ q : Nat, s.heap.size ≤ q → A q) {N : Nat} {z : Int32} {p0 : Int32} (hf : fX3_lengthOf N p0 = some z) {H : Heap} {locs : List Loc} {ls : Array Slot} (hP : va_P D vwCl ([] : va_W) H) (hD : va_D A ([] : va_W)) (hS : va_S A s.heap H locs) (hl : lv_has ls 1 [(0, .int p0)]) : W p l e (rmU 0 0 0 0) s m args below meth c H locs 0 0 (MQ below (QI D A z ([] : va_W)) args s 0 0 A) (F0 m 0 ls []) := by
  obtain ⟨hx, hb, hml, hown, hts, hK, hN, hr, hlk⟩ := id C
  unfold fX3_lengthOf at hf
  refine lv_iload_n (pc := 0) hx hb dX3_lengthOf_0 rfl (lv_at hl 0 rfl) ?_
  refine lv_bipush (v := (100 : Int32)) (pc := 1) hx hb dX3_lengthOf_1 (by decide) ?_
  refine lv_icmp_ge (tgt := 18) (pc := 3) hx hb dX3_lengthOf_3 (by decide) (fun c1 => ?_) (fun c1 => ?_)
  · have hf := pt_t c1 hf
    refine lv_iload_n (pc := 18) hx hb dX3_lengthOf_18 rfl (lv_at hl 0 rfl) ?_
    refine lv_sipush (v := (10000 : Int32)) (pc := 19) hx hb dX3_lengthOf_19 (by decide) ?_
    refine lv_icmp_ge (tgt := 38) (pc := 22) hx hb dX3_lengthOf_22 (by decide) (fun c2 => ?_) (fun c2 => ?_)
    · have hf := pt_t c2 hf
      refine lv_iconst (v := (5 : Int32)) (pc := 38) hx hb dX3_lengthOf_38 (by decide) ?_
      cases hf
      exact ret_i C hP hD hS dX3_lengthOf_39
    · have hf := pt_f c2 hf
      refine lv_iload_n (pc := 25) hx hb dX3_lengthOf_25 rfl (lv_at hl 0 rfl) ?_
      refine lv_sipush (v := (1000 : Int32)) (pc := 26) hx hb dX3_lengthOf_26 (by decide) ?_
      refine lv_icmp_ge (tgt := 36) (pc := 29) hx hb dX3_lengthOf_29 (by decide) (fun c3 => ?_) (fun c3 => ?_)
      · have hf := pt_t c3 hf
        refine lv_iconst (v := (4 : Int32)) (pc := 36) hx hb dX3_lengthOf_36 (by decide) ?_
        cases hf
        exact ret_i C hP hD hS dX3_lengthOf_37
      · have hf := pt_f c3 hf
        refine lv_iconst (v := (3 : Int32)) (pc := 32) hx hb dX3_lengthOf_32 (by decide) ?_
        refine lv_goto (tgt := 37) (pc := 33) hx hb dX3_lengthOf_33 (by decide) ?_
        cases hf
        exact ret_i C hP hD hS dX3_lengthOf_37
  · have hf := pt_f c1 hf
    refine lv_iload_n (pc := 6) hx hb dX3_lengthOf_6 rfl (lv_at hl 0 rfl) ?_
    refine lv_bipush (v := (10 : Int32)) (pc := 7) hx hb dX3_lengthOf_7 (by decide) ?_
    refine lv_icmp_ge (tgt := 16) (pc := 9) hx hb dX3_lengthOf_9 (by decide) (fun c4 => ?_) (fun c4 => ?_)
    · have hf := pt_t c4 hf
      refine lv_iconst (v := (2 : Int32)) (pc := 16) hx hb dX3_lengthOf_16 (by decide) ?_
      cases hf
      exact ret_i C hP hD hS dX3_lengthOf_17
    · have hf := pt_f c4 hf
      refine lv_iconst (v := (1 : Int32)) (pc := 12) hx hb dX3_lengthOf_12 (by decide) ?_
      refine lv_goto (tgt := 17) (pc := 13) hx hb dX3_lengthOf_13 (by decide) ?_
      cases hf
      exact ret_i C hP hD hS dX3_lengthOf_17
set_option maxRecDepth 100000 in
set_option maxHeartbeats 4000000 in
theorem kX3_lengthOf (l : Launch) (D : va_G) (cA : Nat → ClassId) {N : Nat} {p0 : Int32} {z : Int32} (hf : fX3_lengthOf N p0 = some z) : CtI l yX3_lengthOf cX3_lengthOf 1 (some .int) 0 0 D cA ([] : va_W) ([] : va_W) [.int p0] z := by
  intro sz
  refine Met.ofW (cc := cX3_lengthOf) (maxL := 1) (ret := (some .int)) (by decide) rfl ?_
  intro p e s m args below meth c s₁ B hml hv
  obtain ⟨rfl, hsz, hP, hK, hD0⟩ := hv
  subst hsz
  have C : Cx p s m _ meth c D cA cX3_lengthOf 1 RX3 (some .int) := Cx.of B hml hK
  have hD := hD0.self (sz := s.heap.size)
  have hA : ∀ q : Nat, s.heap.size ≤ q → va_A ([] : va_W) s.heap.size q := fun q h => Or.inr h
  have hS : va_S (va_A ([] : va_W) s.heap.size) s.heap s.heap [] := va_S.rf
  have hl := lv_entry ([.int p0]) (n := 1) (Nat.le_of_ble_eq_true rfl)
  rw [lg_entry_eq]
  generalize (lg_sl ([.int p0]) ++ List.replicate (1 - (lg_sl ([.int p0])).length) Slot.unset).toArray = ls at hl ⊢
  exact wX3_lengthOf C hA hf hP hD hS hl
def fX3_canSay_b4 (N : Nat) (p0 : Int32) (p1 : Int32) (g4 : Int32 × Int32 → Option (Int32)) (x2 : Int32) (x3 : Int32) : Option (Int32) :=
  if (5 : Int32) ≤ x3 then (some ((1 : Int32))) else (if ((p0 >>> ((x2 - x2 / (10 : Int32) * (10 : Int32)) &&& 31)) &&& (1 : Int32)) = (1 : Int32) then (some ((0 : Int32))) else (if (x2 / (10 : Int32)) = 0 then (some ((1 : Int32))) else (g4 (((x2 / (10 : Int32)), (x3 + 1))))))
def fX3_canSay_l4 (N : Nat) (p0 : Int32) (p1 : Int32) (k : Nat) (q : Int32 × Int32) : Option (Int32) := lpN (fun g q => fX3_canSay_b4 N p0 p1 g q.1 q.2) k q
def fX3_canSay (N : Nat) (p0 : Int32) (p1 : Int32) : Option (Int32) :=
  fX3_canSay_l4 N p0 p1 N ((p1, (0 : Int32)))
set_option maxRecDepth 100000 in
set_option maxHeartbeats 4000000 in
theorem wX3_canSay_4 (C : Cx p s m args meth c D cA cX3_canSay 4 RX3 (some .boolean)) (hA : ∀ q : Nat, s.heap.size ≤ q → A q) {N : Nat} {z : Int32} {p0 : Int32} {p1 : Int32} : ∀ (k : Nat) (x2 : Int32) (x3 : Int32), fX3_canSay_l4 N p0 p1 k (x2, x3) = some z → ∀ (H : Heap) (locs : List Loc) (ls : Array Slot), va_P D vwCl ([] : va_W) H → va_D A ([] : va_W) → va_S A s.heap H locs → lv_has ls 4 [(0, .int p0), (2, .int x2), (3, .int x3)] → W p l e (rmU 0 0 0 0) s m args below meth c H locs 0 0 (MQ below (QI D A z ([] : va_W)) args s 0 0 A) (F0 m 4 ls []) := by
  obtain ⟨hx, hb, hml, hown, hts, hK, hN, hr, hlk⟩ := id C
  intro k
  induction k with
  | zero =>
    intro x2 x3 hf
    have hf : (none : Option (Int32)) = some z := hf
    cases hf
  | succ k hg4 =>
    intro x2 x3 hf H locs ls hP hD hS hl
    have hf : fX3_canSay_b4 N p0 p1 (fX3_canSay_l4 N p0 p1 k) x2 x3 = some z := hf
    unfold fX3_canSay_b4 at hf
    refine lv_iload_n (pc := 4) hx hb dX3_canSay_4 rfl (lv_at hl 2 rfl) ?_
    refine lv_iconst (v := (5 : Int32)) (pc := 5) hx hb dX3_canSay_5 (by decide) ?_
    refine lv_icmp_ge (tgt := 40) (pc := 6) hx hb dX3_canSay_6 (by decide) (fun c1 => ?_) (fun c1 => ?_)
    · have hf := pt_t c1 hf
      refine lv_iconst (v := (1 : Int32)) (pc := 40) hx hb dX3_canSay_40 (by decide) ?_
      cases hf
      exact ret_z C (Or.inr rfl) hP hD hS dX3_canSay_41
    · have hf := pt_f c1 hf
      refine lv_iload_n (pc := 9) hx hb dX3_canSay_9 rfl (lv_at hl 0 rfl) ?_
      refine lv_iload_n (pc := 10) hx hb dX3_canSay_10 rfl (lv_at hl 1 rfl) ?_
      refine lv_bipush (v := (10 : Int32)) (pc := 11) hx hb dX3_canSay_11 (by decide) ?_
      refine lv_irem (pc := 13) hx hb dX3_canSay_13 (by decide) ?_
      refine lv_ishr (pc := 14) hx hb dX3_canSay_14 ?_
      refine lv_iconst (v := (1 : Int32)) (pc := 15) hx hb dX3_canSay_15 (by decide) ?_
      refine lv_iand (pc := 16) hx hb dX3_canSay_16 ?_
      refine lv_iconst (v := (1 : Int32)) (pc := 17) hx hb dX3_canSay_17 (by decide) ?_
      refine lv_icmp_ne (tgt := 23) (pc := 18) hx hb dX3_canSay_18 (by decide) (fun c2 => ?_) (fun c2 => ?_)
      · have hf := pt_f c2 hf
        refine lv_iload_n (pc := 23) hx hb dX3_canSay_23 rfl (lv_at hl 1 rfl) ?_
        refine lv_bipush (v := (10 : Int32)) (pc := 24) hx hb dX3_canSay_24 (by decide) ?_
        refine lv_idiv (pc := 26) hx hb dX3_canSay_26 (by decide) ?_
        refine lv_istore_n (lv' := [(2, .int ((x2 / (10 : Int32)))), (0, .int p0), (3, .int x3)]) (pc := 27) hx hb dX3_canSay_27 rfl hl (by decide) rfl (fun ls hl => ?_)
        refine lv_iload_n (pc := 28) hx hb dX3_canSay_28 rfl (lv_at hl 0 rfl) ?_
        refine lv_if_ne (tgt := 34) (pc := 29) hx hb dX3_canSay_29 (by decide) (fun c3 => ?_) (fun c3 => ?_)
        · have hf := pt_f c3 hf
          refine lv_iinc (v := (x3 + 1)) (lv' := [(3, .int ((x3 + 1))), (2, .int ((x2 / (10 : Int32)))), (0, .int p0)]) (pc := 34) hx hb dX3_canSay_34 hl (k := 2) rfl (by rfl) (by decide) rfl (fun ls hl => ?_)
          refine lv_goto (tgt := 4) (pc := 37) hx hb dX3_canSay_37 (by decide) ?_
          exact hg4 ((x2 / (10 : Int32))) ((x3 + 1)) hf _ _ _ hP hD hS (lv_sub hl [2, 1, 0] rfl)
        · have hf := pt_t c3 hf
          refine lv_iconst (v := (1 : Int32)) (pc := 32) hx hb dX3_canSay_32 (by decide) ?_
          cases hf
          exact ret_z C (Or.inr rfl) hP hD hS dX3_canSay_33
      · have hf := pt_t c2 hf
        refine lv_iconst (v := (0 : Int32)) (pc := 21) hx hb dX3_canSay_21 (by decide) ?_
        cases hf
        exact ret_z C (Or.inl rfl) hP hD hS dX3_canSay_22
set_option maxRecDepth 100000 in
set_option maxHeartbeats 4000000 in
theorem wX3_canSay (C : Cx p s m args meth c D cA cX3_canSay 4 RX3 (some .boolean)) (hA : ∀ q : Nat, s.heap.size ≤ q → A q) {N : Nat} {z : Int32} {p0 : Int32} {p1 : Int32} (hf : fX3_canSay N p0 p1 = some z) {H : Heap} {locs : List Loc} {ls : Array Slot} (hP : va_P D vwCl ([] : va_W) H) (hD : va_D A ([] : va_W)) (hS : va_S A s.heap H locs) (hl : lv_has ls 4 [(0, .int p0), (1, .int p1)]) : W p l e (rmU 0 0 0 0) s m args below meth c H locs 0 0 (MQ below (QI D A z ([] : va_W)) args s 0 0 A) (F0 m 0 ls []) := by
  obtain ⟨hx, hb, hml, hown, hts, hK, hN, hr, hlk⟩ := id C
  unfold fX3_canSay at hf
  refine lv_iload_n (pc := 0) hx hb dX3_canSay_0 rfl (lv_at hl 1 rfl) ?_
  refine lv_istore_n (lv' := [(2, .int p1), (0, .int p0), (1, .int p1)]) (pc := 1) hx hb dX3_canSay_1 rfl hl (by decide) rfl (fun ls hl => ?_)
  refine lv_iconst (v := (0 : Int32)) (pc := 2) hx hb dX3_canSay_2 (by decide) ?_
  refine lv_istore_n (lv' := [(3, .int ((0 : Int32))), (2, .int p1), (0, .int p0), (1, .int p1)]) (pc := 3) hx hb dX3_canSay_3 rfl hl (by decide) rfl (fun ls hl => ?_)
  exact wX3_canSay_4 C hA  _ p1 ((0 : Int32)) hf _ _ _ hP hD hS (lv_sub hl [2, 1, 0] rfl)
set_option maxRecDepth 100000 in
set_option maxHeartbeats 4000000 in
theorem kX3_canSay (l : Launch) (D : va_G) (cA : Nat → ClassId) {N : Nat} {p0 : Int32} {p1 : Int32} {z : Int32} (hf : fX3_canSay N p0 p1 = some z) : CtI l yX3_canSay cX3_canSay 4 (some .boolean) 0 0 D cA ([] : va_W) ([] : va_W) [.int p0, .int p1] z := by
  intro sz
  refine Met.ofW (cc := cX3_canSay) (maxL := 4) (ret := (some .boolean)) (by decide) rfl ?_
  intro p e s m args below meth c s₁ B hml hv
  obtain ⟨rfl, hsz, hP, hK, hD0⟩ := hv
  subst hsz
  have C : Cx p s m _ meth c D cA cX3_canSay 4 RX3 (some .boolean) := Cx.of B hml hK
  have hD := hD0.self (sz := s.heap.size)
  have hA : ∀ q : Nat, s.heap.size ≤ q → va_A ([] : va_W) s.heap.size q := fun q h => Or.inr h
  have hS : va_S (va_A ([] : va_W) s.heap.size) s.heap s.heap [] := va_S.rf
  have hl := lv_entry ([.int p0, .int p1]) (n := 4) (Nat.le_of_ble_eq_true rfl)
  rw [lg_entry_eq]
  generalize (lg_sl ([.int p0, .int p1]) ++ List.replicate (4 - (lg_sl ([.int p0, .int p1])).length) Slot.unset).toArray = ls at hl ⊢
  exact wX3_canSay C hA hf hP hD hS hl
theorem lk_RX3_23 : LkS RX3 23 yJ6_bitCount_0f7a4 cJ6_bitCount_0f7a4 1 (some .int) 1 := ⟨⟨by decide +kernel, by decide +kernel, by decide +kernel, by decide +kernel, by decide +kernel, by decide +kernel⟩, by decide +kernel⟩
def fX3_workingUpTo (N : Nat) (p0 : Int32) (p1 : Int32) : Option (Int32) :=
  Option.bind (fJ6_bitCount_0f7a4 N (((p0 ^^^ (-1 : Int32)) &&& (((2 : Int32) <<< (p1 &&& 31)) - (1 : Int32))))) (fun q1 => some q1)
set_option maxRecDepth 100000 in
set_option maxHeartbeats 4000000 in
theorem wX3_workingUpTo (C : Cx p s m args meth c D cA cX3_workingUpTo 2 RX3 (some .int)) (hA : ∀ q : Nat, s.heap.size ≤ q → A q) {N : Nat} {z : Int32} {p0 : Int32} {p1 : Int32} (hf : fX3_workingUpTo N p0 p1 = some z) {H : Heap} {locs : List Loc} {ls : Array Slot} (hP : va_P D vwCl ([] : va_W) H) (hD : va_D A ([] : va_W)) (hS : va_S A s.heap H locs) (hl : lv_has ls 2 [(0, .int p0), (1, .int p1)]) : W p l e (rmU 1 20 0 0) s m args below meth c H locs 0 0 (MQ below (QI D A z ([] : va_W)) args s 0 0 A) (F0 m 0 ls []) := by
  obtain ⟨hx, hb, hml, hown, hts, hK, hN, hr, hlk⟩ := id C
  unfold fX3_workingUpTo at hf
  refine lv_iload_n (pc := 0) hx hb dX3_workingUpTo_0 rfl (lv_at hl 0 rfl) ?_
  refine lv_iconst (v := (-1 : Int32)) (pc := 1) hx hb dX3_workingUpTo_1 (by decide) ?_
  refine lv_ixor (pc := 2) hx hb dX3_workingUpTo_2 ?_
  refine lv_iconst (v := (2 : Int32)) (pc := 3) hx hb dX3_workingUpTo_3 (by decide) ?_
  refine lv_iload_n (pc := 4) hx hb dX3_workingUpTo_4 rfl (lv_at hl 1 rfl) ?_
  refine lv_ishl (pc := 5) hx hb dX3_workingUpTo_5 ?_
  refine lv_iconst (v := (1 : Int32)) (pc := 6) hx hb dX3_workingUpTo_6 (by decide) ?_
  refine lv_isub (pc := 7) hx hb dX3_workingUpTo_7 ?_
  refine lv_iand (pc := 8) hx hb dX3_workingUpTo_8 ?_
  obtain ⟨q1, hq1, hf⟩ := pt_b hf
  refine all_i (runU_S (pc := 9) (As := [.int (((p0 ^^^ (-1 : Int32)) &&& (((2 : Int32) <<< (p1 &&& 31)) - (1 : Int32))))]) (rest := []) C lk_RX3_23 (kJ6_bitCount_0f7a4 l D cA hq1 H.size) ⟨Nat.le_of_ble_eq_true rfl, Nat.le_of_ble_eq_true rfl⟩ ⟨Nat.le_refl _, Nat.le_refl _⟩ hP hD hl.1 rfl (Nat.le_of_ble_eq_true rfl) dX3_workingUpTo_9) hD hS hA (fun H locs hP hD hS => ?_)
  cases hf
  exact ret_i C hP hD hS dX3_workingUpTo_12
set_option maxRecDepth 100000 in
set_option maxHeartbeats 4000000 in
theorem kX3_workingUpTo (l : Launch) (D : va_G) (cA : Nat → ClassId) {N : Nat} {p0 : Int32} {p1 : Int32} {z : Int32} (hf : fX3_workingUpTo N p0 p1 = some z) : CtI l yX3_workingUpTo cX3_workingUpTo 2 (some .int) 1 20 D cA ([] : va_W) ([] : va_W) [.int p0, .int p1] z := by
  intro sz
  refine Met.ofW (cc := cX3_workingUpTo) (maxL := 2) (ret := (some .int)) (by decide) rfl ?_
  intro p e s m args below meth c s₁ B hml hv
  obtain ⟨rfl, hsz, hP, hK, hD0⟩ := hv
  subst hsz
  have C : Cx p s m _ meth c D cA cX3_workingUpTo 2 RX3 (some .int) := Cx.of B hml hK
  have hD := hD0.self (sz := s.heap.size)
  have hA : ∀ q : Nat, s.heap.size ≤ q → va_A ([] : va_W) s.heap.size q := fun q h => Or.inr h
  have hS : va_S (va_A ([] : va_W) s.heap.size) s.heap s.heap [] := va_S.rf
  have hl := lv_entry ([.int p0, .int p1]) (n := 2) (Nat.le_of_ble_eq_true rfl)
  rw [lg_entry_eq]
  generalize (lg_sl ([.int p0, .int p1]) ++ List.replicate (2 - (lg_sl ([.int p0, .int p1])).length) Slot.unset).toArray = ls at hl ⊢
  exact wX3_workingUpTo C hA hf hP hD hS hl
theorem lk_RX3_11 : LkS RX3 11 yX3_workingUpTo cX3_workingUpTo 2 (some .int) 2 := ⟨⟨by decide +kernel, by decide +kernel, by decide +kernel, by decide +kernel, by decide +kernel, by decide +kernel⟩, by decide +kernel⟩
theorem lk_RX3_19 : LkS RX3 19 yX3_canSay cX3_canSay 4 (some .boolean) 2 := ⟨⟨by decide +kernel, by decide +kernel, by decide +kernel, by decide +kernel, by decide +kernel, by decide +kernel⟩, by decide +kernel⟩
theorem lk_RX3_15 : LkS RX3 15 yX3_lengthOf cX3_lengthOf 1 (some .int) 1 := ⟨⟨by decide +kernel, by decide +kernel, by decide +kernel, by decide +kernel, by decide +kernel, by decide +kernel⟩, by decide +kernel⟩
def fX3_sayable_j86 (N : Nat) (p0 : Int32) (p1 : Int32) (g58 : Int32 × Int32 × Int32 × Int32 → Option (Int32)) (x2 : Int32) (x3 : Int32) (x4 : Int32) (x5 : Int32) (y0 : Int32) : Option (Int32) :=
  if ¬ x4 = 0 then (Option.bind (fX3_workingUpTo N p0 (((p1 / x4) - (p1 / x4) / (10 : Int32) * (10 : Int32)))) (fun q2 => nm (((x2 + (((x5 - y0) - x3) * x2)) + (y0 * q2))) (fun v3 => g58 ((x2, x3, (x4 / (10 : Int32)), v3))))) else none
def fX3_sayable_b58 (N : Nat) (p0 : Int32) (p1 : Int32) (g58 : Int32 × Int32 × Int32 × Int32 → Option (Int32)) (x2 : Int32) (x3 : Int32) (x4 : Int32) (x5 : Int32) : Option (Int32) :=
  if x4 ≤ 0 then (some x5) else (if ¬ x4 = 0 then (Option.bind (fX3_canSay N p0 (((p1 / x4) / (10 : Int32)))) (fun q3 => if q3 = 0 then (fX3_sayable_j86 N p0 p1 g58 x2 x3 x4 x5 ((0 : Int32))) else (fX3_sayable_j86 N p0 p1 g58 x2 x3 x4 x5 ((1 : Int32))))) else none)
def fX3_sayable_l58 (N : Nat) (p0 : Int32) (p1 : Int32) (k : Nat) (q : Int32 × Int32 × Int32 × Int32) : Option (Int32) := lpN (fun g q => fX3_sayable_b58 N p0 p1 g q.1 q.2.1 q.2.2.1 q.2.2.2) k q
def fX3_sayable_j41 (N : Nat) (p0 : Int32) (p1 : Int32) (x2 : Int32) (x3 : Int32) (x4 : Int32) : Option (Int32) :=
  if ¬ x4 = 0 then (Option.bind (fX3_workingUpTo N p0 ((p1 / x4))) (fun q2 => fX3_sayable_l58 N p0 p1 N ((x2, x3, (x4 / (10 : Int32)), q2)))) else none
def fX3_sayable_b22 (N : Nat) (p0 : Int32) (p1 : Int32) (g22 : Int32 × Int32 × Int32 × Int32 → Option (Int32)) (x2 : Int32) (x3 : Int32) (x4 : Int32) (x5 : Int32) : Option (Int32) :=
  if x5 ≤ (1 : Int32) then (fX3_sayable_j41 N p0 p1 x2 x3 x4) else (g22 ((x2, x3, (x4 * (10 : Int32)), (x5 + (-1)))))
def fX3_sayable_l22 (N : Nat) (p0 : Int32) (p1 : Int32) (k : Nat) (q : Int32 × Int32 × Int32 × Int32) : Option (Int32) := lpN (fun g q => fX3_sayable_b22 N p0 p1 g q.1 q.2.1 q.2.2.1 q.2.2.2) k q
def fX3_sayable (N : Nat) (p0 : Int32) (p1 : Int32) : Option (Int32) :=
  Option.bind (fX3_workingUpTo N p0 ((9 : Int32))) (fun q1 => Option.bind (fX3_workingUpTo N p0 ((0 : Int32))) (fun q2 => Option.bind (fX3_lengthOf N p1) (fun q3 => fX3_sayable_l22 N p0 p1 N ((q1, q2, (1 : Int32), q3)))))
set_option maxRecDepth 100000 in
set_option maxHeartbeats 4000000 in
theorem wX3_sayable_86 (C : Cx p s m args meth c D cA cX3_sayable 9 RX3 (some .int)) (hA : ∀ q : Nat, s.heap.size ≤ q → A q) {N : Nat} {z : Int32} {p0 : Int32} {p1 : Int32} {g58 : Int32 × Int32 × Int32 × Int32 → Option (Int32)} (hg58 : ∀ (x2 : Int32) (x3 : Int32) (x4 : Int32) (x5 : Int32), g58 (x2, x3, x4, x5) = some z → ∀ (H : Heap) (locs : List Loc) (ls : Array Slot), va_P D vwCl ([] : va_W) H → va_D A ([] : va_W) → va_S A s.heap H locs → lv_has ls 9 [(0, .int p0), (1, .int p1), (2, .int x2), (3, .int x3), (4, .int x4), (5, .int x5)] → W p l e (rmU 2 41 0 0) s m args below meth c H locs 0 0 (MQ below (QI D A z ([] : va_W)) args s 0 0 A) (F0 m 58 ls [])) {x2 : Int32} {x3 : Int32} {x4 : Int32} {x5 : Int32} {y0 : Int32} (hf : fX3_sayable_j86 N p0 p1 g58 x2 x3 x4 x5 y0 = some z) {H : Heap} {locs : List Loc} {ls : Array Slot} (hP : va_P D vwCl ([] : va_W) H) (hD : va_D A ([] : va_W)) (hS : va_S A s.heap H locs) (hl : lv_has ls 9 [(0, .int p0), (1, .int p1), (2, .int x2), (3, .int x3), (4, .int x4), (5, .int x5)]) : W p l e (rmU 2 41 0 0) s m args below meth c H locs 0 0 (MQ below (QI D A z ([] : va_W)) args s 0 0 A) (F0 m 86 ls [.int y0]) := by
  obtain ⟨hx, hb, hml, hown, hts, hK, hN, hr, hlk⟩ := id C
  unfold fX3_sayable_j86 at hf
  refine lv_istore (lv' := [(7, .int y0), (0, .int p0), (1, .int p1), (2, .int x2), (3, .int x3), (4, .int x4), (5, .int x5)]) (pc := 86) hx hb dX3_sayable_86 hl (by decide) rfl (fun ls hl => ?_)
  refine lv_iload (pc := 88) hx hb dX3_sayable_88 (lv_at hl 6 rfl) ?_
  refine lv_iload (pc := 90) hx hb dX3_sayable_90 (lv_at hl 0 rfl) ?_
  refine lv_isub (pc := 92) hx hb dX3_sayable_92 ?_
  refine lv_iload_n (pc := 93) hx hb dX3_sayable_93 rfl (lv_at hl 4 rfl) ?_
  refine lv_isub (pc := 94) hx hb dX3_sayable_94 ?_
  refine lv_istore (lv' := [(8, .int (((x5 - y0) - x3))), (7, .int y0), (0, .int p0), (1, .int p1), (2, .int x2), (3, .int x3), (4, .int x4), (5, .int x5)]) (pc := 95) hx hb dX3_sayable_95 hl (by decide) rfl (fun ls hl => ?_)
  refine lv_iload_n (pc := 97) hx hb dX3_sayable_97 rfl (lv_at hl 4 rfl) ?_
  refine lv_iload (pc := 98) hx hb dX3_sayable_98 (lv_at hl 0 rfl) ?_
  refine lv_iload_n (pc := 100) hx hb dX3_sayable_100 rfl (lv_at hl 4 rfl) ?_
  refine lv_imul (pc := 101) hx hb dX3_sayable_101 ?_
  refine lv_iadd (pc := 102) hx hb dX3_sayable_102 ?_
  refine lv_iload (pc := 103) hx hb dX3_sayable_103 (lv_at hl 1 rfl) ?_
  refine lv_iload_n (pc := 105) hx hb dX3_sayable_105 rfl (lv_at hl 2 rfl) ?_
  refine lv_iload_n (pc := 106) hx hb dX3_sayable_106 rfl (lv_at hl 3 rfl) ?_
  refine lv_iload (pc := 107) hx hb dX3_sayable_107 (lv_at hl 6 rfl) ?_
  obtain ⟨h1, hf⟩ := pt_g hf
  refine lv_idiv (pc := 109) hx hb dX3_sayable_109 h1 ?_
  refine lv_bipush (v := (10 : Int32)) (pc := 110) hx hb dX3_sayable_110 (by decide) ?_
  refine lv_irem (pc := 112) hx hb dX3_sayable_112 (by decide) ?_
  obtain ⟨q2, hq2, hf⟩ := pt_b hf
  refine all_i (runU_S (pc := 113) (As := [.int p0, .int (((p1 / x4) - (p1 / x4) / (10 : Int32) * (10 : Int32)))]) (rest := [.int y0, .int ((x2 + (((x5 - y0) - x3) * x2)))]) C lk_RX3_11 (kX3_workingUpTo l D cA hq2 H.size) ⟨Nat.le_of_ble_eq_true rfl, Nat.le_of_ble_eq_true rfl⟩ ⟨Nat.le_refl _, Nat.le_refl _⟩ hP hD hl.1 rfl (Nat.le_of_ble_eq_true rfl) dX3_sayable_113) hD hS hA (fun H locs hP hD hS => ?_)
  refine lv_imul (pc := 116) hx hb dX3_sayable_116 ?_
  refine lv_iadd (pc := 117) hx hb dX3_sayable_117 ?_
  refine lv_topi (fun v3 ev3 => ?_)
  have hf := pt_n ev3 hf
  refine lv_istore (lv' := [(5, .int v3), (8, .int (((x5 - y0) - x3))), (7, .int y0), (0, .int p0), (1, .int p1), (2, .int x2), (3, .int x3), (4, .int x4)]) (pc := 118) hx hb dX3_sayable_118 hl (by decide) rfl (fun ls hl => ?_)
  refine lv_iload (pc := 120) hx hb dX3_sayable_120 (lv_at hl 7 rfl) ?_
  refine lv_bipush (v := (10 : Int32)) (pc := 122) hx hb dX3_sayable_122 (by decide) ?_
  refine lv_idiv (pc := 124) hx hb dX3_sayable_124 (by decide) ?_
  refine lv_istore (lv' := [(4, .int ((x4 / (10 : Int32)))), (5, .int v3), (8, .int (((x5 - y0) - x3))), (7, .int y0), (0, .int p0), (1, .int p1), (2, .int x2), (3, .int x3)]) (pc := 125) hx hb dX3_sayable_125 hl (by decide) rfl (fun ls hl => ?_)
  refine lv_goto (tgt := 58) (pc := 127) hx hb dX3_sayable_127 (by decide) ?_
  exact hg58 x2 x3 ((x4 / (10 : Int32))) v3 hf _ _ _ hP hD hS (lv_sub hl [4, 5, 6, 7, 0, 1] rfl)
set_option maxRecDepth 100000 in
set_option maxHeartbeats 4000000 in
theorem wX3_sayable_58 (C : Cx p s m args meth c D cA cX3_sayable 9 RX3 (some .int)) (hA : ∀ q : Nat, s.heap.size ≤ q → A q) {N : Nat} {z : Int32} {p0 : Int32} {p1 : Int32} : ∀ (k : Nat) (x2 : Int32) (x3 : Int32) (x4 : Int32) (x5 : Int32), fX3_sayable_l58 N p0 p1 k (x2, x3, x4, x5) = some z → ∀ (H : Heap) (locs : List Loc) (ls : Array Slot), va_P D vwCl ([] : va_W) H → va_D A ([] : va_W) → va_S A s.heap H locs → lv_has ls 9 [(0, .int p0), (1, .int p1), (2, .int x2), (3, .int x3), (4, .int x4), (5, .int x5)] → W p l e (rmU 2 41 0 0) s m args below meth c H locs 0 0 (MQ below (QI D A z ([] : va_W)) args s 0 0 A) (F0 m 58 ls []) := by
  obtain ⟨hx, hb, hml, hown, hts, hK, hN, hr, hlk⟩ := id C
  intro k
  induction k with
  | zero =>
    intro x2 x3 x4 x5 hf
    have hf : (none : Option (Int32)) = some z := hf
    cases hf
  | succ k hg58 =>
    intro x2 x3 x4 x5 hf H locs ls hP hD hS hl
    have hf : fX3_sayable_b58 N p0 p1 (fX3_sayable_l58 N p0 p1 k) x2 x3 x4 x5 = some z := hf
    unfold fX3_sayable_b58 at hf
    refine lv_iload (pc := 58) hx hb dX3_sayable_58 (lv_at hl 4 rfl) ?_
    refine lv_if_le (tgt := 130) (pc := 60) hx hb dX3_sayable_60 (by decide) (fun c1 => ?_) (fun c1 => ?_)
    · have hf := pt_t c1 hf
      refine lv_iload (pc := 130) hx hb dX3_sayable_130 (lv_at hl 5 rfl) ?_
      cases hf
      exact ret_i C hP hD hS dX3_sayable_132
    · have hf := pt_f c1 hf
      refine lv_iload_n (pc := 63) hx hb dX3_sayable_63 rfl (lv_at hl 1 rfl) ?_
      refine lv_iload (pc := 64) hx hb dX3_sayable_64 (lv_at hl 4 rfl) ?_
      obtain ⟨h2, hf⟩ := pt_g hf
      refine lv_idiv (pc := 66) hx hb dX3_sayable_66 h2 ?_
      refine lv_bipush (v := (10 : Int32)) (pc := 67) hx hb dX3_sayable_67 (by decide) ?_
      refine lv_idiv (pc := 69) hx hb dX3_sayable_69 (by decide) ?_
      refine lv_istore (lv' := [(6, .int (((p1 / x4) / (10 : Int32)))), (0, .int p0), (1, .int p1), (2, .int x2), (3, .int x3), (4, .int x4), (5, .int x5)]) (pc := 70) hx hb dX3_sayable_70 hl (by decide) rfl (fun ls hl => ?_)
      refine lv_iload_n (pc := 72) hx hb dX3_sayable_72 rfl (lv_at hl 1 rfl) ?_
      refine lv_iload (pc := 73) hx hb dX3_sayable_73 (lv_at hl 0 rfl) ?_
      obtain ⟨q3, hq3, hf⟩ := pt_b hf
      refine all_i (runU_S (pc := 75) (As := [.int p0, .int (((p1 / x4) / (10 : Int32)))]) (rest := []) C lk_RX3_19 (kX3_canSay l D cA hq3 H.size) ⟨Nat.le_of_ble_eq_true rfl, Nat.le_of_ble_eq_true rfl⟩ ⟨Nat.le_refl _, Nat.le_refl _⟩ hP hD hl.1 rfl (Nat.le_of_ble_eq_true rfl) dX3_sayable_75) hD hS hA (fun H locs hP hD hS => ?_)
      refine lv_if_eq (tgt := 85) (pc := 78) hx hb dX3_sayable_78 (by decide) (fun c4 => ?_) (fun c4 => ?_)
      · have hf := pt_t c4 hf
        refine lv_iconst (v := (0 : Int32)) (pc := 85) hx hb dX3_sayable_85 (by decide) ?_
        exact wX3_sayable_86 C hA hg58 hf hP hD hS (lv_sub hl [1, 2, 3, 4, 5, 6] rfl)
      · have hf := pt_f c4 hf
        refine lv_iconst (v := (1 : Int32)) (pc := 81) hx hb dX3_sayable_81 (by decide) ?_
        refine lv_goto (tgt := 86) (pc := 82) hx hb dX3_sayable_82 (by decide) ?_
        exact wX3_sayable_86 C hA hg58 hf hP hD hS (lv_sub hl [1, 2, 3, 4, 5, 6] rfl)
set_option maxRecDepth 100000 in
set_option maxHeartbeats 4000000 in
theorem wX3_sayable_41 (C : Cx p s m args meth c D cA cX3_sayable 9 RX3 (some .int)) (hA : ∀ q : Nat, s.heap.size ≤ q → A q) {N : Nat} {z : Int32} {p0 : Int32} {p1 : Int32} {x2 : Int32} {x3 : Int32} {x4 : Int32} (hf : fX3_sayable_j41 N p0 p1 x2 x3 x4 = some z) {H : Heap} {locs : List Loc} {ls : Array Slot} (hP : va_P D vwCl ([] : va_W) H) (hD : va_D A ([] : va_W)) (hS : va_S A s.heap H locs) (hl : lv_has ls 9 [(0, .int p0), (1, .int p1), (2, .int x2), (3, .int x3), (4, .int x4)]) : W p l e (rmU 2 41 0 0) s m args below meth c H locs 0 0 (MQ below (QI D A z ([] : va_W)) args s 0 0 A) (F0 m 41 ls []) := by
  obtain ⟨hx, hb, hml, hown, hts, hK, hN, hr, hlk⟩ := id C
  unfold fX3_sayable_j41 at hf
  refine lv_iload_n (pc := 41) hx hb dX3_sayable_41 rfl (lv_at hl 0 rfl) ?_
  refine lv_iload_n (pc := 42) hx hb dX3_sayable_42 rfl (lv_at hl 1 rfl) ?_
  refine lv_iload (pc := 43) hx hb dX3_sayable_43 (lv_at hl 4 rfl) ?_
  obtain ⟨h1, hf⟩ := pt_g hf
  refine lv_idiv (pc := 45) hx hb dX3_sayable_45 h1 ?_
  obtain ⟨q2, hq2, hf⟩ := pt_b hf
  refine all_i (runU_S (pc := 46) (As := [.int p0, .int ((p1 / x4))]) (rest := []) C lk_RX3_11 (kX3_workingUpTo l D cA hq2 H.size) ⟨Nat.le_of_ble_eq_true rfl, Nat.le_of_ble_eq_true rfl⟩ ⟨Nat.le_refl _, Nat.le_refl _⟩ hP hD hl.1 rfl (Nat.le_of_ble_eq_true rfl) dX3_sayable_46) hD hS hA (fun H locs hP hD hS => ?_)
  refine lv_istore (lv' := [(5, .int q2), (0, .int p0), (1, .int p1), (2, .int x2), (3, .int x3), (4, .int x4)]) (pc := 49) hx hb dX3_sayable_49 hl (by decide) rfl (fun ls hl => ?_)
  refine lv_iload (pc := 51) hx hb dX3_sayable_51 (lv_at hl 5 rfl) ?_
  refine lv_bipush (v := (10 : Int32)) (pc := 53) hx hb dX3_sayable_53 (by decide) ?_
  refine lv_idiv (pc := 55) hx hb dX3_sayable_55 (by decide) ?_
  refine lv_istore (lv' := [(4, .int ((x4 / (10 : Int32)))), (5, .int q2), (0, .int p0), (1, .int p1), (2, .int x2), (3, .int x3)]) (pc := 56) hx hb dX3_sayable_56 hl (by decide) rfl (fun ls hl => ?_)
  exact wX3_sayable_58 C hA  _ x2 x3 ((x4 / (10 : Int32))) q2 hf _ _ _ hP hD hS (lv_sub hl [2, 3, 4, 5, 0, 1] rfl)
set_option maxRecDepth 100000 in
set_option maxHeartbeats 4000000 in
theorem wX3_sayable_22 (C : Cx p s m args meth c D cA cX3_sayable 9 RX3 (some .int)) (hA : ∀ q : Nat, s.heap.size ≤ q → A q) {N : Nat} {z : Int32} {p0 : Int32} {p1 : Int32} : ∀ (k : Nat) (x2 : Int32) (x3 : Int32) (x4 : Int32) (x5 : Int32), fX3_sayable_l22 N p0 p1 k (x2, x3, x4, x5) = some z → ∀ (H : Heap) (locs : List Loc) (ls : Array Slot), va_P D vwCl ([] : va_W) H → va_D A ([] : va_W) → va_S A s.heap H locs → lv_has ls 9 [(0, .int p0), (1, .int p1), (2, .int x2), (3, .int x3), (4, .int x4), (5, .int x5)] → W p l e (rmU 2 41 0 0) s m args below meth c H locs 0 0 (MQ below (QI D A z ([] : va_W)) args s 0 0 A) (F0 m 22 ls []) := by
  obtain ⟨hx, hb, hml, hown, hts, hK, hN, hr, hlk⟩ := id C
  intro k
  induction k with
  | zero =>
    intro x2 x3 x4 x5 hf
    have hf : (none : Option (Int32)) = some z := hf
    cases hf
  | succ k hg22 =>
    intro x2 x3 x4 x5 hf H locs ls hP hD hS hl
    have hf : fX3_sayable_b22 N p0 p1 (fX3_sayable_l22 N p0 p1 k) x2 x3 x4 x5 = some z := hf
    unfold fX3_sayable_b22 at hf
    refine lv_iload (pc := 22) hx hb dX3_sayable_22 (lv_at hl 5 rfl) ?_
    refine lv_iconst (v := (1 : Int32)) (pc := 24) hx hb dX3_sayable_24 (by decide) ?_
    refine lv_icmp_le (tgt := 41) (pc := 25) hx hb dX3_sayable_25 (by decide) (fun c1 => ?_) (fun c1 => ?_)
    · have hf := pt_t c1 hf
      exact wX3_sayable_41 C hA  hf hP hD hS (lv_sub hl [0, 1, 2, 3, 4] rfl)
    · have hf := pt_f c1 hf
      refine lv_iload (pc := 28) hx hb dX3_sayable_28 (lv_at hl 4 rfl) ?_
      refine lv_bipush (v := (10 : Int32)) (pc := 30) hx hb dX3_sayable_30 (by decide) ?_
      refine lv_imul (pc := 32) hx hb dX3_sayable_32 ?_
      refine lv_istore (lv' := [(4, .int ((x4 * (10 : Int32)))), (0, .int p0), (1, .int p1), (2, .int x2), (3, .int x3), (5, .int x5)]) (pc := 33) hx hb dX3_sayable_33 hl (by decide) rfl (fun ls hl => ?_)
      refine lv_iinc (v := (x5 + (-1))) (lv' := [(5, .int ((x5 + (-1)))), (4, .int ((x4 * (10 : Int32)))), (0, .int p0), (1, .int p1), (2, .int x2), (3, .int x3)]) (pc := 35) hx hb dX3_sayable_35 hl (k := 5) rfl (by rfl) (by decide) rfl (fun ls hl => ?_)
      refine lv_goto (tgt := 22) (pc := 38) hx hb dX3_sayable_38 (by decide) ?_
      exact hg22 x2 x3 ((x4 * (10 : Int32))) ((x5 + (-1))) hf _ _ _ hP hD hS (lv_sub hl [2, 3, 4, 5, 1, 0] rfl)
set_option maxRecDepth 100000 in
set_option maxHeartbeats 4000000 in
theorem wX3_sayable (C : Cx p s m args meth c D cA cX3_sayable 9 RX3 (some .int)) (hA : ∀ q : Nat, s.heap.size ≤ q → A q) {N : Nat} {z : Int32} {p0 : Int32} {p1 : Int32} (hf : fX3_sayable N p0 p1 = some z) {H : Heap} {locs : List Loc} {ls : Array Slot} (hP : va_P D vwCl ([] : va_W) H) (hD : va_D A ([] : va_W)) (hS : va_S A s.heap H locs) (hl : lv_has ls 9 [(0, .int p0), (1, .int p1)]) : W p l e (rmU 2 41 0 0) s m args below meth c H locs 0 0 (MQ below (QI D A z ([] : va_W)) args s 0 0 A) (F0 m 0 ls []) := by
  obtain ⟨hx, hb, hml, hown, hts, hK, hN, hr, hlk⟩ := id C
  unfold fX3_sayable at hf
  refine lv_iload_n (pc := 0) hx hb dX3_sayable_0 rfl (lv_at hl 0 rfl) ?_
  refine lv_bipush (v := (9 : Int32)) (pc := 1) hx hb dX3_sayable_1 (by decide) ?_
  obtain ⟨q1, hq1, hf⟩ := pt_b hf
  refine all_i (runU_S (pc := 3) (As := [.int p0, .int ((9 : Int32))]) (rest := []) C lk_RX3_11 (kX3_workingUpTo l D cA hq1 H.size) ⟨Nat.le_of_ble_eq_true rfl, Nat.le_of_ble_eq_true rfl⟩ ⟨Nat.le_refl _, Nat.le_refl _⟩ hP hD hl.1 rfl (Nat.le_of_ble_eq_true rfl) dX3_sayable_3) hD hS hA (fun H locs hP hD hS => ?_)
  refine lv_istore_n (lv' := [(2, .int q1), (0, .int p0), (1, .int p1)]) (pc := 6) hx hb dX3_sayable_6 rfl hl (by decide) rfl (fun ls hl => ?_)
  refine lv_iload_n (pc := 7) hx hb dX3_sayable_7 rfl (lv_at hl 1 rfl) ?_
  refine lv_iconst (v := (0 : Int32)) (pc := 8) hx hb dX3_sayable_8 (by decide) ?_
  obtain ⟨q2, hq2, hf⟩ := pt_b hf
  refine all_i (runU_S (pc := 9) (As := [.int p0, .int ((0 : Int32))]) (rest := []) C lk_RX3_11 (kX3_workingUpTo l D cA hq2 H.size) ⟨Nat.le_of_ble_eq_true rfl, Nat.le_of_ble_eq_true rfl⟩ ⟨Nat.le_refl _, Nat.le_refl _⟩ hP hD hl.1 rfl (Nat.le_of_ble_eq_true rfl) dX3_sayable_9) hD hS hA (fun H locs hP hD hS => ?_)
  refine lv_istore_n (lv' := [(3, .int q2), (2, .int q1), (0, .int p0), (1, .int p1)]) (pc := 12) hx hb dX3_sayable_12 rfl hl (by decide) rfl (fun ls hl => ?_)
  refine lv_iconst (v := (1 : Int32)) (pc := 13) hx hb dX3_sayable_13 (by decide) ?_
  refine lv_istore (lv' := [(4, .int ((1 : Int32))), (3, .int q2), (2, .int q1), (0, .int p0), (1, .int p1)]) (pc := 14) hx hb dX3_sayable_14 hl (by decide) rfl (fun ls hl => ?_)
  refine lv_iload_n (pc := 16) hx hb dX3_sayable_16 rfl (lv_at hl 4 rfl) ?_
  obtain ⟨q3, hq3, hf⟩ := pt_b hf
  refine all_i (runU_S (pc := 17) (As := [.int p1]) (rest := []) C lk_RX3_15 (kX3_lengthOf l D cA hq3 H.size) ⟨Nat.le_of_ble_eq_true rfl, Nat.le_of_ble_eq_true rfl⟩ ⟨Nat.le_refl _, Nat.le_refl _⟩ hP hD hl.1 rfl (Nat.le_of_ble_eq_true rfl) dX3_sayable_17) hD hS hA (fun H locs hP hD hS => ?_)
  refine lv_istore (lv' := [(5, .int q3), (4, .int ((1 : Int32))), (3, .int q2), (2, .int q1), (0, .int p0), (1, .int p1)]) (pc := 20) hx hb dX3_sayable_20 hl (by decide) rfl (fun ls hl => ?_)
  exact wX3_sayable_22 C hA  _ q1 q2 ((1 : Int32)) q3 hf _ _ _ hP hD hS (lv_sub hl [4, 5, 3, 2, 1, 0] rfl)
set_option maxRecDepth 100000 in
set_option maxHeartbeats 4000000 in
theorem kX3_sayable (l : Launch) (D : va_G) (cA : Nat → ClassId) {N : Nat} {p0 : Int32} {p1 : Int32} {z : Int32} (hf : fX3_sayable N p0 p1 = some z) : CtI l yX3_sayable cX3_sayable 9 (some .int) 2 41 D cA ([] : va_W) ([] : va_W) [.int p0, .int p1] z := by
  intro sz
  refine Met.ofW (cc := cX3_sayable) (maxL := 9) (ret := (some .int)) (by decide) rfl ?_
  intro p e s m args below meth c s₁ B hml hv
  obtain ⟨rfl, hsz, hP, hK, hD0⟩ := hv
  subst hsz
  have C : Cx p s m _ meth c D cA cX3_sayable 9 RX3 (some .int) := Cx.of B hml hK
  have hD := hD0.self (sz := s.heap.size)
  have hA : ∀ q : Nat, s.heap.size ≤ q → va_A ([] : va_W) s.heap.size q := fun q h => Or.inr h
  have hS : va_S (va_A ([] : va_W) s.heap.size) s.heap s.heap [] := va_S.rf
  have hl := lv_entry ([.int p0, .int p1]) (n := 9) (Nat.le_of_ble_eq_true rfl)
  rw [lg_entry_eq]
  generalize (lg_sl ([.int p0, .int p1]) ++ List.replicate (9 - (lg_sl ([.int p0, .int p1])).length) Slot.unset).toArray = ls at hl ⊢
  exact wX3_sayable C hA hf hP hD hS hl
theorem kc_RX3_29 : Cond.constant RX3 29 (99999) ∈ wsL_law := by decide +kernel
theorem lk_RX3_30 : LkS RX3 30 yX3_sayable cX3_sayable 9 (some .int) 2 := ⟨⟨by decide +kernel, by decide +kernel, by decide +kernel, by decide +kernel, by decide +kernel, by decide +kernel⟩, by decide +kernel⟩
theorem kc_RX3_28 : Cond.constant RX3 28 (65536) ∈ wsL_law := by decide +kernel
def fX3_atRank_j44 (N : Nat) (p0 : Int32) (p1 : Int32) (x2 : Int32) : Option (Int32) :=
  if (99999 : Int32) < x2 then (some ((-4 : Int32))) else (some x2)
def fX3_atRank_j37 (N : Nat) (p0 : Int32) (p1 : Int32) (g5 : Int32 × Int32 → Option (Int32)) (x2 : Int32) (x3 : Int32) : Option (Int32) :=
  g5 ((x2, (x3 / (2 : Int32))))
def fX3_atRank_b5 (N : Nat) (p0 : Int32) (p1 : Int32) (g5 : Int32 × Int32 → Option (Int32)) (x2 : Int32) (x3 : Int32) : Option (Int32) :=
  if x3 ≤ 0 then (fX3_atRank_j44 N p0 p1 x2) else (if (99999 : Int32) < ((x2 + x3) - (1 : Int32)) then (fX3_atRank_j37 N p0 p1 g5 x2 x3) else (Option.bind (fX3_sayable N p0 (((x2 + x3) - (1 : Int32)))) (fun q3 => if p1 < q3 then (fX3_atRank_j37 N p0 p1 g5 x2 x3) else (fX3_atRank_j37 N p0 p1 g5 ((x2 + x3)) x3))))
def fX3_atRank_l5 (N : Nat) (p0 : Int32) (p1 : Int32) (k : Nat) (q : Int32 × Int32) : Option (Int32) := lpN (fun g q => fX3_atRank_b5 N p0 p1 g q.1 q.2) k q
def fX3_atRank (N : Nat) (p0 : Int32) (p1 : Int32) : Option (Int32) :=
  fX3_atRank_l5 N p0 p1 N (((0 : Int32), (65536 : Int32)))
set_option maxRecDepth 100000 in
set_option maxHeartbeats 4000000 in
theorem wX3_atRank_44 (C : Cx p s m args meth c D cA cX3_atRank 5 RX3 (some .int)) (hA : ∀ q : Nat, s.heap.size ≤ q → A q) {N : Nat} {z : Int32} {p0 : Int32} {p1 : Int32} {x2 : Int32} (hf : fX3_atRank_j44 N p0 p1 x2 = some z) {H : Heap} {locs : List Loc} {ls : Array Slot} (hP : va_P D vwCl ([] : va_W) H) (hD : va_D A ([] : va_W)) (hS : va_S A s.heap H locs) (hl : lv_has ls 5 [(2, .int x2)]) : W p l e (rmU 3 69 0 0) s m args below meth c H locs 0 0 (MQ below (QI D A z ([] : va_W)) args s 0 0 A) (F0 m 44 ls []) := by
  obtain ⟨hx, hb, hml, hown, hts, hK, hN, hr, hlk⟩ := id C
  unfold fX3_atRank_j44 at hf
  refine lv_iload_n (pc := 44) hx hb dX3_atRank_44 rfl (lv_at hl 0 rfl) ?_
  refine lv_ldc (pc := 45) (v := (99999 : Int32)) hx hb hown (hts _ kc_RX3_29) dX3_atRank_45 ?_
  refine lv_icmp_gt (tgt := 54) (pc := 47) hx hb dX3_atRank_47 (by decide) (fun c1 => ?_) (fun c1 => ?_)
  · have hf := pt_t c1 hf
    refine lv_bipush (v := (-4 : Int32)) (pc := 54) hx hb dX3_atRank_54 (by decide) ?_
    cases hf
    exact ret_i C hP hD hS dX3_atRank_56
  · have hf := pt_f c1 hf
    refine lv_iload_n (pc := 50) hx hb dX3_atRank_50 rfl (lv_at hl 0 rfl) ?_
    refine lv_goto (tgt := 56) (pc := 51) hx hb dX3_atRank_51 (by decide) ?_
    cases hf
    exact ret_i C hP hD hS dX3_atRank_56
set_option maxRecDepth 100000 in
set_option maxHeartbeats 4000000 in
theorem wX3_atRank_37 (C : Cx p s m args meth c D cA cX3_atRank 5 RX3 (some .int)) (hA : ∀ q : Nat, s.heap.size ≤ q → A q) {N : Nat} {z : Int32} {p0 : Int32} {p1 : Int32} {g5 : Int32 × Int32 → Option (Int32)} (hg5 : ∀ (x2 : Int32) (x3 : Int32), g5 (x2, x3) = some z → ∀ (H : Heap) (locs : List Loc) (ls : Array Slot), va_P D vwCl ([] : va_W) H → va_D A ([] : va_W) → va_S A s.heap H locs → lv_has ls 5 [(0, .int p0), (1, .int p1), (2, .int x2), (3, .int x3)] → W p l e (rmU 3 69 0 0) s m args below meth c H locs 0 0 (MQ below (QI D A z ([] : va_W)) args s 0 0 A) (F0 m 5 ls [])) {x2 : Int32} {x3 : Int32} (hf : fX3_atRank_j37 N p0 p1 g5 x2 x3 = some z) {H : Heap} {locs : List Loc} {ls : Array Slot} (hP : va_P D vwCl ([] : va_W) H) (hD : va_D A ([] : va_W)) (hS : va_S A s.heap H locs) (hl : lv_has ls 5 [(0, .int p0), (1, .int p1), (2, .int x2), (3, .int x3)]) : W p l e (rmU 3 69 0 0) s m args below meth c H locs 0 0 (MQ below (QI D A z ([] : va_W)) args s 0 0 A) (F0 m 37 ls []) := by
  obtain ⟨hx, hb, hml, hown, hts, hK, hN, hr, hlk⟩ := id C
  unfold fX3_atRank_j37 at hf
  refine lv_iload_n (pc := 37) hx hb dX3_atRank_37 rfl (lv_at hl 3 rfl) ?_
  refine lv_iconst (v := (2 : Int32)) (pc := 38) hx hb dX3_atRank_38 (by decide) ?_
  refine lv_idiv (pc := 39) hx hb dX3_atRank_39 (by decide) ?_
  refine lv_istore_n (lv' := [(3, .int ((x3 / (2 : Int32)))), (0, .int p0), (1, .int p1), (2, .int x2)]) (pc := 40) hx hb dX3_atRank_40 rfl hl (by decide) rfl (fun ls hl => ?_)
  refine lv_goto (tgt := 5) (pc := 41) hx hb dX3_atRank_41 (by decide) ?_
  exact hg5 x2 ((x3 / (2 : Int32))) hf _ _ _ hP hD hS (lv_sub hl [1, 2, 3, 0] rfl)
set_option maxRecDepth 100000 in
set_option maxHeartbeats 4000000 in
theorem wX3_atRank_5 (C : Cx p s m args meth c D cA cX3_atRank 5 RX3 (some .int)) (hA : ∀ q : Nat, s.heap.size ≤ q → A q) {N : Nat} {z : Int32} {p0 : Int32} {p1 : Int32} : ∀ (k : Nat) (x2 : Int32) (x3 : Int32), fX3_atRank_l5 N p0 p1 k (x2, x3) = some z → ∀ (H : Heap) (locs : List Loc) (ls : Array Slot), va_P D vwCl ([] : va_W) H → va_D A ([] : va_W) → va_S A s.heap H locs → lv_has ls 5 [(0, .int p0), (1, .int p1), (2, .int x2), (3, .int x3)] → W p l e (rmU 3 69 0 0) s m args below meth c H locs 0 0 (MQ below (QI D A z ([] : va_W)) args s 0 0 A) (F0 m 5 ls []) := by
  obtain ⟨hx, hb, hml, hown, hts, hK, hN, hr, hlk⟩ := id C
  intro k
  induction k with
  | zero =>
    intro x2 x3 hf
    have hf : (none : Option (Int32)) = some z := hf
    cases hf
  | succ k hg5 =>
    intro x2 x3 hf H locs ls hP hD hS hl
    have hf : fX3_atRank_b5 N p0 p1 (fX3_atRank_l5 N p0 p1 k) x2 x3 = some z := hf
    unfold fX3_atRank_b5 at hf
    refine lv_iload_n (pc := 5) hx hb dX3_atRank_5 rfl (lv_at hl 3 rfl) ?_
    refine lv_if_le (tgt := 44) (pc := 6) hx hb dX3_atRank_6 (by decide) (fun c1 => ?_) (fun c1 => ?_)
    · have hf := pt_t c1 hf
      exact wX3_atRank_44 C hA  hf hP hD hS (lv_sub hl [2] rfl)
    · have hf := pt_f c1 hf
      refine lv_iload_n (pc := 9) hx hb dX3_atRank_9 rfl (lv_at hl 2 rfl) ?_
      refine lv_iload_n (pc := 10) hx hb dX3_atRank_10 rfl (lv_at hl 3 rfl) ?_
      refine lv_iadd (pc := 11) hx hb dX3_atRank_11 ?_
      refine lv_iconst (v := (1 : Int32)) (pc := 12) hx hb dX3_atRank_12 (by decide) ?_
      refine lv_isub (pc := 13) hx hb dX3_atRank_13 ?_
      refine lv_istore (lv' := [(4, .int (((x2 + x3) - (1 : Int32)))), (0, .int p0), (1, .int p1), (2, .int x2), (3, .int x3)]) (pc := 14) hx hb dX3_atRank_14 hl (by decide) rfl (fun ls hl => ?_)
      refine lv_iload (pc := 16) hx hb dX3_atRank_16 (lv_at hl 0 rfl) ?_
      refine lv_ldc (pc := 18) (v := (99999 : Int32)) hx hb hown (hts _ kc_RX3_29) dX3_atRank_18 ?_
      refine lv_icmp_gt (tgt := 37) (pc := 20) hx hb dX3_atRank_20 (by decide) (fun c2 => ?_) (fun c2 => ?_)
      · have hf := pt_t c2 hf
        exact wX3_atRank_37 C hA hg5 hf hP hD hS (lv_sub hl [1, 2, 3, 4] rfl)
      · have hf := pt_f c2 hf
        refine lv_iload_n (pc := 23) hx hb dX3_atRank_23 rfl (lv_at hl 1 rfl) ?_
        refine lv_iload (pc := 24) hx hb dX3_atRank_24 (lv_at hl 0 rfl) ?_
        obtain ⟨q3, hq3, hf⟩ := pt_b hf
        refine all_i (runU_S (pc := 26) (As := [.int p0, .int (((x2 + x3) - (1 : Int32)))]) (rest := []) C lk_RX3_30 (kX3_sayable l D cA hq3 H.size) ⟨Nat.le_of_ble_eq_true rfl, Nat.le_of_ble_eq_true rfl⟩ ⟨Nat.le_refl _, Nat.le_refl _⟩ hP hD hl.1 rfl (Nat.le_of_ble_eq_true rfl) dX3_atRank_26) hD hS hA (fun H locs hP hD hS => ?_)
        refine lv_iload_n (pc := 29) hx hb dX3_atRank_29 rfl (lv_at hl 2 rfl) ?_
        refine lv_icmp_gt (tgt := 37) (pc := 30) hx hb dX3_atRank_30 (by decide) (fun c4 => ?_) (fun c4 => ?_)
        · have hf := pt_t c4 hf
          exact wX3_atRank_37 C hA hg5 hf hP hD hS (lv_sub hl [1, 2, 3, 4] rfl)
        · have hf := pt_f c4 hf
          refine lv_iload_n (pc := 33) hx hb dX3_atRank_33 rfl (lv_at hl 3 rfl) ?_
          refine lv_iload_n (pc := 34) hx hb dX3_atRank_34 rfl (lv_at hl 4 rfl) ?_
          refine lv_iadd (pc := 35) hx hb dX3_atRank_35 ?_
          refine lv_istore_n (lv' := [(2, .int ((x2 + x3))), (4, .int (((x2 + x3) - (1 : Int32)))), (0, .int p0), (1, .int p1), (3, .int x3)]) (pc := 36) hx hb dX3_atRank_36 rfl hl (by decide) rfl (fun ls hl => ?_)
          exact wX3_atRank_37 C hA hg5 hf hP hD hS (lv_sub hl [2, 3, 0, 4] rfl)
set_option maxRecDepth 100000 in
set_option maxHeartbeats 4000000 in
theorem wX3_atRank (C : Cx p s m args meth c D cA cX3_atRank 5 RX3 (some .int)) (hA : ∀ q : Nat, s.heap.size ≤ q → A q) {N : Nat} {z : Int32} {p0 : Int32} {p1 : Int32} (hf : fX3_atRank N p0 p1 = some z) {H : Heap} {locs : List Loc} {ls : Array Slot} (hP : va_P D vwCl ([] : va_W) H) (hD : va_D A ([] : va_W)) (hS : va_S A s.heap H locs) (hl : lv_has ls 5 [(0, .int p0), (1, .int p1)]) : W p l e (rmU 3 69 0 0) s m args below meth c H locs 0 0 (MQ below (QI D A z ([] : va_W)) args s 0 0 A) (F0 m 0 ls []) := by
  obtain ⟨hx, hb, hml, hown, hts, hK, hN, hr, hlk⟩ := id C
  unfold fX3_atRank at hf
  refine lv_iconst (v := (0 : Int32)) (pc := 0) hx hb dX3_atRank_0 (by decide) ?_
  refine lv_istore_n (lv' := [(2, .int ((0 : Int32))), (0, .int p0), (1, .int p1)]) (pc := 1) hx hb dX3_atRank_1 rfl hl (by decide) rfl (fun ls hl => ?_)
  refine lv_ldc (pc := 2) (v := (65536 : Int32)) hx hb hown (hts _ kc_RX3_28) dX3_atRank_2 ?_
  refine lv_istore_n (lv' := [(3, .int ((65536 : Int32))), (2, .int ((0 : Int32))), (0, .int p0), (1, .int p1)]) (pc := 4) hx hb dX3_atRank_4 rfl hl (by decide) rfl (fun ls hl => ?_)
  exact wX3_atRank_5 C hA  _ ((0 : Int32)) ((65536 : Int32)) hf _ _ _ hP hD hS (lv_sub hl [2, 3, 1, 0] rfl)
set_option maxRecDepth 100000 in
set_option maxHeartbeats 4000000 in
theorem kX3_atRank (l : Launch) (D : va_G) (cA : Nat → ClassId) {N : Nat} {p0 : Int32} {p1 : Int32} {z : Int32} (hf : fX3_atRank N p0 p1 = some z) : CtI l yX3_atRank cX3_atRank 5 (some .int) 3 69 D cA ([] : va_W) ([] : va_W) [.int p0, .int p1] z := by
  intro sz
  refine Met.ofW (cc := cX3_atRank) (maxL := 5) (ret := (some .int)) (by decide) rfl ?_
  intro p e s m args below meth c s₁ B hml hv
  obtain ⟨rfl, hsz, hP, hK, hD0⟩ := hv
  subst hsz
  have C : Cx p s m _ meth c D cA cX3_atRank 5 RX3 (some .int) := Cx.of B hml hK
  have hD := hD0.self (sz := s.heap.size)
  have hA : ∀ q : Nat, s.heap.size ≤ q → va_A ([] : va_W) s.heap.size q := fun q h => Or.inr h
  have hS : va_S (va_A ([] : va_W) s.heap.size) s.heap s.heap [] := va_S.rf
  have hl := lv_entry ([.int p0, .int p1]) (n := 5) (Nat.le_of_ble_eq_true rfl)
  rw [lg_entry_eq]
  generalize (lg_sl ([.int p0, .int p1]) ++ List.replicate (5 - (lg_sl ([.int p0, .int p1])).length) Slot.unset).toArray = ls at hl ⊢
  exact wX3_atRank C hA hf hP hD hS hl
def fX3_commonDivisor_j21 (N : Nat) (p0 : Int32) (p1 : Int32) (g2 : Int32 → Option (Int32)) (x2 : Int32) : Option (Int32) :=
  g2 ((x2 + (-1)))
def fX3_commonDivisor_b2 (N : Nat) (p0 : Int32) (p1 : Int32) (g2 : Int32 → Option (Int32)) (x2 : Int32) : Option (Int32) :=
  if x2 ≤ (1 : Int32) then (some ((1 : Int32))) else (if ¬ x2 = 0 then (if (p0 - p0 / x2 * x2) = 0 then (if ¬ x2 = 0 then (if (p1 - p1 / x2 * x2) = 0 then (some x2) else (fX3_commonDivisor_j21 N p0 p1 g2 x2)) else none) else (fX3_commonDivisor_j21 N p0 p1 g2 x2)) else none)
def fX3_commonDivisor_l2 (N : Nat) (p0 : Int32) (p1 : Int32) (k : Nat) (q : Int32) : Option (Int32) := lpN (fun g q => fX3_commonDivisor_b2 N p0 p1 g q) k q
def fX3_commonDivisor (N : Nat) (p0 : Int32) (p1 : Int32) : Option (Int32) :=
  fX3_commonDivisor_l2 N p0 p1 N p1
set_option maxRecDepth 100000 in
set_option maxHeartbeats 4000000 in
theorem wX3_commonDivisor_21 (C : Cx p s m args meth c D cA cX3_commonDivisor 3 RX3 (some .int)) (hA : ∀ q : Nat, s.heap.size ≤ q → A q) {N : Nat} {z : Int32} {p0 : Int32} {p1 : Int32} {g2 : Int32 → Option (Int32)} (hg2 : ∀ (x2 : Int32), g2 x2 = some z → ∀ (H : Heap) (locs : List Loc) (ls : Array Slot), va_P D vwCl ([] : va_W) H → va_D A ([] : va_W) → va_S A s.heap H locs → lv_has ls 3 [(0, .int p0), (1, .int p1), (2, .int x2)] → W p l e (rmU 0 0 0 0) s m args below meth c H locs 0 0 (MQ below (QI D A z ([] : va_W)) args s 0 0 A) (F0 m 2 ls [])) {x2 : Int32} (hf : fX3_commonDivisor_j21 N p0 p1 g2 x2 = some z) {H : Heap} {locs : List Loc} {ls : Array Slot} (hP : va_P D vwCl ([] : va_W) H) (hD : va_D A ([] : va_W)) (hS : va_S A s.heap H locs) (hl : lv_has ls 3 [(0, .int p0), (1, .int p1), (2, .int x2)]) : W p l e (rmU 0 0 0 0) s m args below meth c H locs 0 0 (MQ below (QI D A z ([] : va_W)) args s 0 0 A) (F0 m 21 ls []) := by
  obtain ⟨hx, hb, hml, hown, hts, hK, hN, hr, hlk⟩ := id C
  unfold fX3_commonDivisor_j21 at hf
  refine lv_iinc (v := (x2 + (-1))) (lv' := [(2, .int ((x2 + (-1)))), (0, .int p0), (1, .int p1)]) (pc := 21) hx hb dX3_commonDivisor_21 hl (k := 2) rfl (by rfl) (by decide) rfl (fun ls hl => ?_)
  refine lv_goto (tgt := 2) (pc := 24) hx hb dX3_commonDivisor_24 (by decide) ?_
  exact hg2 ((x2 + (-1))) hf _ _ _ hP hD hS (lv_sub hl [1, 2, 0] rfl)
set_option maxRecDepth 100000 in
set_option maxHeartbeats 4000000 in
theorem wX3_commonDivisor_2 (C : Cx p s m args meth c D cA cX3_commonDivisor 3 RX3 (some .int)) (hA : ∀ q : Nat, s.heap.size ≤ q → A q) {N : Nat} {z : Int32} {p0 : Int32} {p1 : Int32} : ∀ (k : Nat) (x2 : Int32), fX3_commonDivisor_l2 N p0 p1 k x2 = some z → ∀ (H : Heap) (locs : List Loc) (ls : Array Slot), va_P D vwCl ([] : va_W) H → va_D A ([] : va_W) → va_S A s.heap H locs → lv_has ls 3 [(0, .int p0), (1, .int p1), (2, .int x2)] → W p l e (rmU 0 0 0 0) s m args below meth c H locs 0 0 (MQ below (QI D A z ([] : va_W)) args s 0 0 A) (F0 m 2 ls []) := by
  obtain ⟨hx, hb, hml, hown, hts, hK, hN, hr, hlk⟩ := id C
  intro k
  induction k with
  | zero =>
    intro x2 hf
    have hf : (none : Option (Int32)) = some z := hf
    cases hf
  | succ k hg2 =>
    intro x2 hf H locs ls hP hD hS hl
    have hf : fX3_commonDivisor_b2 N p0 p1 (fX3_commonDivisor_l2 N p0 p1 k) x2 = some z := hf
    unfold fX3_commonDivisor_b2 at hf
    refine lv_iload_n (pc := 2) hx hb dX3_commonDivisor_2 rfl (lv_at hl 2 rfl) ?_
    refine lv_iconst (v := (1 : Int32)) (pc := 3) hx hb dX3_commonDivisor_3 (by decide) ?_
    refine lv_icmp_le (tgt := 27) (pc := 4) hx hb dX3_commonDivisor_4 (by decide) (fun c1 => ?_) (fun c1 => ?_)
    · have hf := pt_t c1 hf
      refine lv_iconst (v := (1 : Int32)) (pc := 27) hx hb dX3_commonDivisor_27 (by decide) ?_
      cases hf
      exact ret_i C hP hD hS dX3_commonDivisor_28
    · have hf := pt_f c1 hf
      refine lv_iload_n (pc := 7) hx hb dX3_commonDivisor_7 rfl (lv_at hl 0 rfl) ?_
      refine lv_iload_n (pc := 8) hx hb dX3_commonDivisor_8 rfl (lv_at hl 2 rfl) ?_
      obtain ⟨h2, hf⟩ := pt_g hf
      refine lv_irem (pc := 9) hx hb dX3_commonDivisor_9 h2 ?_
      refine lv_if_ne (tgt := 21) (pc := 10) hx hb dX3_commonDivisor_10 (by decide) (fun c3 => ?_) (fun c3 => ?_)
      · have hf := pt_f c3 hf
        exact wX3_commonDivisor_21 C hA hg2 hf hP hD hS (lv_sub hl [0, 1, 2] rfl)
      · have hf := pt_t c3 hf
        refine lv_iload_n (pc := 13) hx hb dX3_commonDivisor_13 rfl (lv_at hl 1 rfl) ?_
        refine lv_iload_n (pc := 14) hx hb dX3_commonDivisor_14 rfl (lv_at hl 2 rfl) ?_
        obtain ⟨h4, hf⟩ := pt_g hf
        refine lv_irem (pc := 15) hx hb dX3_commonDivisor_15 h4 ?_
        refine lv_if_ne (tgt := 21) (pc := 16) hx hb dX3_commonDivisor_16 (by decide) (fun c5 => ?_) (fun c5 => ?_)
        · have hf := pt_f c5 hf
          exact wX3_commonDivisor_21 C hA hg2 hf hP hD hS (lv_sub hl [0, 1, 2] rfl)
        · have hf := pt_t c5 hf
          refine lv_iload_n (pc := 19) hx hb dX3_commonDivisor_19 rfl (lv_at hl 2 rfl) ?_
          cases hf
          exact ret_i C hP hD hS dX3_commonDivisor_20
set_option maxRecDepth 100000 in
set_option maxHeartbeats 4000000 in
theorem wX3_commonDivisor (C : Cx p s m args meth c D cA cX3_commonDivisor 3 RX3 (some .int)) (hA : ∀ q : Nat, s.heap.size ≤ q → A q) {N : Nat} {z : Int32} {p0 : Int32} {p1 : Int32} (hf : fX3_commonDivisor N p0 p1 = some z) {H : Heap} {locs : List Loc} {ls : Array Slot} (hP : va_P D vwCl ([] : va_W) H) (hD : va_D A ([] : va_W)) (hS : va_S A s.heap H locs) (hl : lv_has ls 3 [(0, .int p0), (1, .int p1)]) : W p l e (rmU 0 0 0 0) s m args below meth c H locs 0 0 (MQ below (QI D A z ([] : va_W)) args s 0 0 A) (F0 m 0 ls []) := by
  obtain ⟨hx, hb, hml, hown, hts, hK, hN, hr, hlk⟩ := id C
  unfold fX3_commonDivisor at hf
  refine lv_iload_n (pc := 0) hx hb dX3_commonDivisor_0 rfl (lv_at hl 1 rfl) ?_
  refine lv_istore_n (lv' := [(2, .int p1), (0, .int p0), (1, .int p1)]) (pc := 1) hx hb dX3_commonDivisor_1 rfl hl (by decide) rfl (fun ls hl => ?_)
  exact wX3_commonDivisor_2 C hA  _ p1 hf _ _ _ hP hD hS (lv_sub hl [1, 2, 0] rfl)
set_option maxRecDepth 100000 in
set_option maxHeartbeats 4000000 in
theorem kX3_commonDivisor (l : Launch) (D : va_G) (cA : Nat → ClassId) {N : Nat} {p0 : Int32} {p1 : Int32} {z : Int32} (hf : fX3_commonDivisor N p0 p1 = some z) : CtI l yX3_commonDivisor cX3_commonDivisor 3 (some .int) 0 0 D cA ([] : va_W) ([] : va_W) [.int p0, .int p1] z := by
  intro sz
  refine Met.ofW (cc := cX3_commonDivisor) (maxL := 3) (ret := (some .int)) (by decide) rfl ?_
  intro p e s m args below meth c s₁ B hml hv
  obtain ⟨rfl, hsz, hP, hK, hD0⟩ := hv
  subst hsz
  have C : Cx p s m _ meth c D cA cX3_commonDivisor 3 RX3 (some .int) := Cx.of B hml hK
  have hD := hD0.self (sz := s.heap.size)
  have hA : ∀ q : Nat, s.heap.size ≤ q → va_A ([] : va_W) s.heap.size q := fun q h => Or.inr h
  have hS : va_S (va_A ([] : va_W) s.heap.size) s.heap s.heap [] := va_S.rf
  have hl := lv_entry ([.int p0, .int p1]) (n := 3) (Nat.le_of_ble_eq_true rfl)
  rw [lg_entry_eq]
  generalize (lg_sl ([.int p0, .int p1]) ++ List.replicate (3 - (lg_sl ([.int p0, .int p1])).length) Slot.unset).toArray = ls at hl ⊢
  exact wX3_commonDivisor C hA hf hP hD hS hl
theorem lk_RX3_33 : LkS RX3 33 yX3_commonDivisor cX3_commonDivisor 3 (some .int) 2 := ⟨⟨by decide +kernel, by decide +kernel, by decide +kernel, by decide +kernel, by decide +kernel, by decide +kernel⟩, by decide +kernel⟩
def fX3_lowestTerms_j15 (N : Nat) (p0 : Int32) (p1 : Int32) (p2 : Int32) (x3 : Int32) (y0 : Int32) : Option (Int32) :=
  if ¬ x3 = 0 then (some ((y0 / x3))) else none
def fX3_lowestTerms (N : Nat) (p0 : Int32) (p1 : Int32) (p2 : Int32) : Option (Int32) :=
  Option.bind (fX3_commonDivisor N p0 p1) (fun q1 => if p2 = 0 then (fX3_lowestTerms_j15 N p0 p1 p2 q1 p0) else (fX3_lowestTerms_j15 N p0 p1 p2 q1 p1))
set_option maxRecDepth 100000 in
set_option maxHeartbeats 4000000 in
theorem wX3_lowestTerms_15 (C : Cx p s m args meth c D cA cX3_lowestTerms 4 RX3 (some .int)) (hA : ∀ q : Nat, s.heap.size ≤ q → A q) {N : Nat} {z : Int32} {p0 : Int32} {p1 : Int32} {p2 : Int32} {x3 : Int32} {y0 : Int32} (hf : fX3_lowestTerms_j15 N p0 p1 p2 x3 y0 = some z) {H : Heap} {locs : List Loc} {ls : Array Slot} (hP : va_P D vwCl ([] : va_W) H) (hD : va_D A ([] : va_W)) (hS : va_S A s.heap H locs) (hl : lv_has ls 4 [(3, .int x3)]) : W p l e (rmU 1 22 0 0) s m args below meth c H locs 0 0 (MQ below (QI D A z ([] : va_W)) args s 0 0 A) (F0 m 15 ls [.int y0]) := by
  obtain ⟨hx, hb, hml, hown, hts, hK, hN, hr, hlk⟩ := id C
  unfold fX3_lowestTerms_j15 at hf
  refine lv_iload_n (pc := 15) hx hb dX3_lowestTerms_15 rfl (lv_at hl 0 rfl) ?_
  obtain ⟨h1, hf⟩ := pt_g hf
  refine lv_idiv (pc := 16) hx hb dX3_lowestTerms_16 h1 ?_
  cases hf
  exact ret_i C hP hD hS dX3_lowestTerms_17
set_option maxRecDepth 100000 in
set_option maxHeartbeats 4000000 in
theorem wX3_lowestTerms (C : Cx p s m args meth c D cA cX3_lowestTerms 4 RX3 (some .int)) (hA : ∀ q : Nat, s.heap.size ≤ q → A q) {N : Nat} {z : Int32} {p0 : Int32} {p1 : Int32} {p2 : Int32} (hf : fX3_lowestTerms N p0 p1 p2 = some z) {H : Heap} {locs : List Loc} {ls : Array Slot} (hP : va_P D vwCl ([] : va_W) H) (hD : va_D A ([] : va_W)) (hS : va_S A s.heap H locs) (hl : lv_has ls 4 [(0, .int p0), (1, .int p1), (2, .int p2)]) : W p l e (rmU 1 22 0 0) s m args below meth c H locs 0 0 (MQ below (QI D A z ([] : va_W)) args s 0 0 A) (F0 m 0 ls []) := by
  obtain ⟨hx, hb, hml, hown, hts, hK, hN, hr, hlk⟩ := id C
  unfold fX3_lowestTerms at hf
  refine lv_iload_n (pc := 0) hx hb dX3_lowestTerms_0 rfl (lv_at hl 0 rfl) ?_
  refine lv_iload_n (pc := 1) hx hb dX3_lowestTerms_1 rfl (lv_at hl 1 rfl) ?_
  obtain ⟨q1, hq1, hf⟩ := pt_b hf
  refine all_i (runU_S (pc := 2) (As := [.int p0, .int p1]) (rest := []) C lk_RX3_33 (kX3_commonDivisor l D cA hq1 H.size) ⟨Nat.le_of_ble_eq_true rfl, Nat.le_of_ble_eq_true rfl⟩ ⟨Nat.le_refl _, Nat.le_refl _⟩ hP hD hl.1 rfl (Nat.le_of_ble_eq_true rfl) dX3_lowestTerms_2) hD hS hA (fun H locs hP hD hS => ?_)
  refine lv_istore_n (lv' := [(3, .int q1), (0, .int p0), (1, .int p1), (2, .int p2)]) (pc := 5) hx hb dX3_lowestTerms_5 rfl hl (by decide) rfl (fun ls hl => ?_)
  refine lv_iload_n (pc := 6) hx hb dX3_lowestTerms_6 rfl (lv_at hl 3 rfl) ?_
  refine lv_if_ne (tgt := 14) (pc := 7) hx hb dX3_lowestTerms_7 (by decide) (fun c2 => ?_) (fun c2 => ?_)
  · have hf := pt_f c2 hf
    refine lv_iload_n (pc := 14) hx hb dX3_lowestTerms_14 rfl (lv_at hl 2 rfl) ?_
    exact wX3_lowestTerms_15 C hA  hf hP hD hS (lv_sub hl [0] rfl)
  · have hf := pt_t c2 hf
    refine lv_iload_n (pc := 10) hx hb dX3_lowestTerms_10 rfl (lv_at hl 1 rfl) ?_
    refine lv_goto (tgt := 15) (pc := 11) hx hb dX3_lowestTerms_11 (by decide) ?_
    exact wX3_lowestTerms_15 C hA  hf hP hD hS (lv_sub hl [0] rfl)
set_option maxRecDepth 100000 in
set_option maxHeartbeats 4000000 in
theorem kX3_lowestTerms (l : Launch) (D : va_G) (cA : Nat → ClassId) {N : Nat} {p0 : Int32} {p1 : Int32} {p2 : Int32} {z : Int32} (hf : fX3_lowestTerms N p0 p1 p2 = some z) : CtI l yX3_lowestTerms cX3_lowestTerms 4 (some .int) 1 22 D cA ([] : va_W) ([] : va_W) [.int p0, .int p1, .int p2] z := by
  intro sz
  refine Met.ofW (cc := cX3_lowestTerms) (maxL := 4) (ret := (some .int)) (by decide) rfl ?_
  intro p e s m args below meth c s₁ B hml hv
  obtain ⟨rfl, hsz, hP, hK, hD0⟩ := hv
  subst hsz
  have C : Cx p s m _ meth c D cA cX3_lowestTerms 4 RX3 (some .int) := Cx.of B hml hK
  have hD := hD0.self (sz := s.heap.size)
  have hA : ∀ q : Nat, s.heap.size ≤ q → va_A ([] : va_W) s.heap.size q := fun q h => Or.inr h
  have hS : va_S (va_A ([] : va_W) s.heap.size) s.heap s.heap [] := va_S.rf
  have hl := lv_entry ([.int p0, .int p1, .int p2]) (n := 4) (Nat.le_of_ble_eq_true rfl)
  rw [lg_entry_eq]
  generalize (lg_sl ([.int p0, .int p1, .int p2]) ++ List.replicate (4 - (lg_sl ([.int p0, .int p1, .int p2])).length) Slot.unset).toArray = ls at hl ⊢
  exact wX3_lowestTerms C hA hf hP hD hS hl
def fX10_isWithin (N : Nat) (p0 : Int32) (p1 : Int32) (p2 : Int32) : Option (Int32) :=
  if p0 < p1 then (some ((0 : Int32))) else (if p2 < p0 then (some ((0 : Int32))) else (some ((1 : Int32))))
set_option maxRecDepth 100000 in
set_option maxHeartbeats 4000000 in
theorem wX10_isWithin (C : Cx p s m args meth c D cA cX10_isWithin 3 RX10 (some .boolean)) (hA : ∀ q : Nat, s.heap.size ≤ q → A q) {N : Nat} {z : Int32} {p0 : Int32} {p1 : Int32} {p2 : Int32} (hf : fX10_isWithin N p0 p1 p2 = some z) {H : Heap} {locs : List Loc} {ls : Array Slot} (hP : va_P D vwCl ([] : va_W) H) (hD : va_D A ([] : va_W)) (hS : va_S A s.heap H locs) (hl : lv_has ls 3 [(0, .int p0), (1, .int p1), (2, .int p2)]) : W p l e (rmU 0 0 0 0) s m args below meth c H locs 0 0 (MQ below (QI D A z ([] : va_W)) args s 0 0 A) (F0 m 0 ls []) := by
  obtain ⟨hx, hb, hml, hown, hts, hK, hN, hr, hlk⟩ := id C
  unfold fX10_isWithin at hf
  refine lv_iload_n (pc := 0) hx hb dX10_isWithin_0 rfl (lv_at hl 0 rfl) ?_
  refine lv_iload_n (pc := 1) hx hb dX10_isWithin_1 rfl (lv_at hl 1 rfl) ?_
  refine lv_icmp_lt (tgt := 14) (pc := 2) hx hb dX10_isWithin_2 (by decide) (fun c1 => ?_) (fun c1 => ?_)
  · have hf := pt_t c1 hf
    refine lv_iconst (v := (0 : Int32)) (pc := 14) hx hb dX10_isWithin_14 (by decide) ?_
    cases hf
    exact ret_z C (Or.inl rfl) hP hD hS dX10_isWithin_15
  · have hf := pt_f c1 hf
    refine lv_iload_n (pc := 5) hx hb dX10_isWithin_5 rfl (lv_at hl 0 rfl) ?_
    refine lv_iload_n (pc := 6) hx hb dX10_isWithin_6 rfl (lv_at hl 2 rfl) ?_
    refine lv_icmp_gt (tgt := 14) (pc := 7) hx hb dX10_isWithin_7 (by decide) (fun c2 => ?_) (fun c2 => ?_)
    · have hf := pt_t c2 hf
      refine lv_iconst (v := (0 : Int32)) (pc := 14) hx hb dX10_isWithin_14 (by decide) ?_
      cases hf
      exact ret_z C (Or.inl rfl) hP hD hS dX10_isWithin_15
    · have hf := pt_f c2 hf
      refine lv_iconst (v := (1 : Int32)) (pc := 10) hx hb dX10_isWithin_10 (by decide) ?_
      refine lv_goto (tgt := 15) (pc := 11) hx hb dX10_isWithin_11 (by decide) ?_
      cases hf
      exact ret_z C (Or.inr rfl) hP hD hS dX10_isWithin_15
set_option maxRecDepth 100000 in
set_option maxHeartbeats 4000000 in
theorem kX10_isWithin (l : Launch) (D : va_G) (cA : Nat → ClassId) {N : Nat} {p0 : Int32} {p1 : Int32} {p2 : Int32} {z : Int32} (hf : fX10_isWithin N p0 p1 p2 = some z) : CtI l yX10_isWithin cX10_isWithin 3 (some .boolean) 0 0 D cA ([] : va_W) ([] : va_W) [.int p0, .int p1, .int p2] z := by
  intro sz
  refine Met.ofW (cc := cX10_isWithin) (maxL := 3) (ret := (some .boolean)) (by decide) rfl ?_
  intro p e s m args below meth c s₁ B hml hv
  obtain ⟨rfl, hsz, hP, hK, hD0⟩ := hv
  subst hsz
  have C : Cx p s m _ meth c D cA cX10_isWithin 3 RX10 (some .boolean) := Cx.of B hml hK
  have hD := hD0.self (sz := s.heap.size)
  have hA : ∀ q : Nat, s.heap.size ≤ q → va_A ([] : va_W) s.heap.size q := fun q h => Or.inr h
  have hS : va_S (va_A ([] : va_W) s.heap.size) s.heap s.heap [] := va_S.rf
  have hl := lv_entry ([.int p0, .int p1, .int p2]) (n := 3) (Nat.le_of_ble_eq_true rfl)
  rw [lg_entry_eq]
  generalize (lg_sl ([.int p0, .int p1, .int p2]) ++ List.replicate (3 - (lg_sl ([.int p0, .int p1, .int p2])).length) Slot.unset).toArray = ls at hl ⊢
  exact wX10_isWithin C hA hf hP hD hS hl
theorem lk_RX10_100 : LkS RX10 100 yX10_isWithin cX10_isWithin 3 (some .boolean) 3 := ⟨⟨by decide +kernel, by decide +kernel, by decide +kernel, by decide +kernel, by decide +kernel, by decide +kernel⟩, by decide +kernel⟩
def fX10_isFigure (N : Nat) (p0 : Int32) : Option (Int32) :=
  Option.bind (fX10_isWithin N p0 ((0 : Int32)) ((9 : Int32))) (fun q1 => if q1 = 0 ∨ q1 = 1 then (some q1) else none)
set_option maxRecDepth 100000 in
set_option maxHeartbeats 4000000 in
theorem wX10_isFigure (C : Cx p s m args meth c D cA cX10_isFigure 1 RX10 (some .boolean)) (hA : ∀ q : Nat, s.heap.size ≤ q → A q) {N : Nat} {z : Int32} {p0 : Int32} (hf : fX10_isFigure N p0 = some z) {H : Heap} {locs : List Loc} {ls : Array Slot} (hP : va_P D vwCl ([] : va_W) H) (hD : va_D A ([] : va_W)) (hS : va_S A s.heap H locs) (hl : lv_has ls 1 [(0, .int p0)]) : W p l e (rmU 1 22 0 0) s m args below meth c H locs 0 0 (MQ below (QI D A z ([] : va_W)) args s 0 0 A) (F0 m 0 ls []) := by
  obtain ⟨hx, hb, hml, hown, hts, hK, hN, hr, hlk⟩ := id C
  unfold fX10_isFigure at hf
  refine lv_iload_n (pc := 0) hx hb dX10_isFigure_0 rfl (lv_at hl 0 rfl) ?_
  refine lv_iconst (v := (0 : Int32)) (pc := 1) hx hb dX10_isFigure_1 (by decide) ?_
  refine lv_bipush (v := (9 : Int32)) (pc := 2) hx hb dX10_isFigure_2 (by decide) ?_
  obtain ⟨q1, hq1, hf⟩ := pt_b hf
  refine all_i (runU_S (pc := 4) (As := [.int p0, .int ((0 : Int32)), .int ((9 : Int32))]) (rest := []) C lk_RX10_100 (kX10_isWithin l D cA hq1 H.size) ⟨Nat.le_of_ble_eq_true rfl, Nat.le_of_ble_eq_true rfl⟩ ⟨Nat.le_refl _, Nat.le_refl _⟩ hP hD hl.1 rfl (Nat.le_of_ble_eq_true rfl) dX10_isFigure_4) hD hS hA (fun H locs hP hD hS => ?_)
  obtain ⟨h2, hf⟩ := pt_g hf
  cases hf
  exact ret_z C h2 hP hD hS dX10_isFigure_7
set_option maxRecDepth 100000 in
set_option maxHeartbeats 4000000 in
theorem kX10_isFigure (l : Launch) (D : va_G) (cA : Nat → ClassId) {N : Nat} {p0 : Int32} {z : Int32} (hf : fX10_isFigure N p0 = some z) : CtI l yX10_isFigure cX10_isFigure 1 (some .boolean) 1 22 D cA ([] : va_W) ([] : va_W) [.int p0] z := by
  intro sz
  refine Met.ofW (cc := cX10_isFigure) (maxL := 1) (ret := (some .boolean)) (by decide) rfl ?_
  intro p e s m args below meth c s₁ B hml hv
  obtain ⟨rfl, hsz, hP, hK, hD0⟩ := hv
  subst hsz
  have C : Cx p s m _ meth c D cA cX10_isFigure 1 RX10 (some .boolean) := Cx.of B hml hK
  have hD := hD0.self (sz := s.heap.size)
  have hA : ∀ q : Nat, s.heap.size ≤ q → va_A ([] : va_W) s.heap.size q := fun q h => Or.inr h
  have hS : va_S (va_A ([] : va_W) s.heap.size) s.heap s.heap [] := va_S.rf
  have hl := lv_entry ([.int p0]) (n := 1) (Nat.le_of_ble_eq_true rfl)
  rw [lg_entry_eq]
  generalize (lg_sl ([.int p0]) ++ List.replicate (1 - (lg_sl ([.int p0])).length) Slot.unset).toArray = ls at hl ⊢
  exact wX10_isFigure C hA hf hP hD hS hl
end PNum
end
