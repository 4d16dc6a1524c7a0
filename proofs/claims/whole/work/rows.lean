section
-- ===== PART A: goes FIRST, ahead of the names: the tables' words, and 'selects' of the private methods out of them =====
/-- a private method of a class that the tables say can be made, by its rows of tables_1 -/
def lw_okq (q : MethodName × Nat) : Prop := (q.1.cls ≠ "java/lang/invoke/MethodHandle" ∧ q.1.cls ≠ "java/lang/invoke/VarHandle") ∧ Cond.instantiable q.1.cls q.2 ∈ tables_1 ∧ Cond.privateMethod q.1 ∈ tables_1 ∧ Cond.instanceMethod q.1 ∈ tables_1
theorem lw_p0 : lw_okq (⟨"TallowHours$Text", "letterAt", "(I)I"⟩, 2) := ⟨⟨by decide +kernel, by decide +kernel⟩, List.mem_of_getElem? (i := 23) (by decide +kernel), List.mem_of_getElem? (i := 304) (by decide +kernel), List.mem_of_getElem? (i := 305) (by decide +kernel)⟩
theorem lw_p1 : lw_okq (⟨"TallowHours$Text", "momentAt", "(I)I"⟩, 2) := ⟨⟨by decide +kernel, by decide +kernel⟩, List.mem_of_getElem? (i := 23) (by decide +kernel), List.mem_of_getElem? (i := 308) (by decide +kernel), List.mem_of_getElem? (i := 309) (by decide +kernel)⟩
theorem lw_p2 : lw_okq (⟨"TallowHours$Text", "readPart", "(ILTallowHours$Party;)I"⟩, 2) := ⟨⟨by decide +kernel, by decide +kernel⟩, List.mem_of_getElem? (i := 23) (by decide +kernel), List.mem_of_getElem? (i := 312) (by decide +kernel), List.mem_of_getElem? (i := 313) (by decide +kernel)⟩
theorem lw_p3 : lw_okq (⟨"TallowHours$Text", "readCandle", "(ILTallowHours$Party;)I"⟩, 2) := ⟨⟨by decide +kernel, by decide +kernel⟩, List.mem_of_getElem? (i := 23) (by decide +kernel), List.mem_of_getElem? (i := 316) (by decide +kernel), List.mem_of_getElem? (i := 317) (by decide +kernel)⟩
theorem lw_p4 : lw_okq (⟨"TallowHours$Text", "figureAt", "(III)I"⟩, 2) := ⟨⟨by decide +kernel, by decide +kernel⟩, List.mem_of_getElem? (i := 23) (by decide +kernel), List.mem_of_getElem? (i := 320) (by decide +kernel), List.mem_of_getElem? (i := 321) (by decide +kernel)⟩
theorem lw_p5 : lw_okq (⟨"TallowHours$Text", "readGuest", "(ILTallowHours$Party;)I"⟩, 2) := ⟨⟨by decide +kernel, by decide +kernel⟩, List.mem_of_getElem? (i := 23) (by decide +kernel), List.mem_of_getElem? (i := 327) (by decide +kernel), List.mem_of_getElem? (i := 328) (by decide +kernel)⟩
theorem lw_p6 : lw_okq (⟨"TallowHours", "rememberAct", "()V"⟩, 12) := ⟨⟨by decide +kernel, by decide +kernel⟩, List.mem_of_getElem? (i := 15) (by decide +kernel), List.mem_of_getElem? (i := 376) (by decide +kernel), List.mem_of_getElem? (i := 377) (by decide +kernel)⟩
theorem lw_p7 : lw_okq (⟨"TallowHours$Burning", "burnInch", "(LTallowHours$Party;I)V"⟩, 6) := ⟨⟨by decide +kernel, by decide +kernel⟩, List.mem_of_getElem? (i := 38) (by decide +kernel), List.mem_of_getElem? (i := 420) (by decide +kernel), List.mem_of_getElem? (i := 421) (by decide +kernel)⟩
theorem lw_p8 : lw_okq (⟨"TallowHours$Planner", "layGuest", "(LTallowHours$Party;LTallowHours$Burning;I)V"⟩, 12) := ⟨⟨by decide +kernel, by decide +kernel⟩, List.mem_of_getElem? (i := 90) (by decide +kernel), List.mem_of_getElem? (i := 445) (by decide +kernel), List.mem_of_getElem? (i := 446) (by decide +kernel)⟩
theorem lw_p9 : lw_okq (⟨"TallowHours$Planner", "layCandle", "(LTallowHours$Party;LTallowHours$Burning;I)J"⟩, 12) := ⟨⟨by decide +kernel, by decide +kernel⟩, List.mem_of_getElem? (i := 90) (by decide +kernel), List.mem_of_getElem? (i := 449) (by decide +kernel), List.mem_of_getElem? (i := 450) (by decide +kernel)⟩
theorem lw_p10 : lw_okq (⟨"TallowHours$Planner", "tryCandle", "(IJI)V"⟩, 12) := ⟨⟨by decide +kernel, by decide +kernel⟩, List.mem_of_getElem? (i := 90) (by decide +kernel), List.mem_of_getElem? (i := 459) (by decide +kernel), List.mem_of_getElem? (i := 460) (by decide +kernel)⟩
theorem lw_p11 : lw_okq (⟨"TallowHours$Planner", "weigh", "(JI)V"⟩, 12) := ⟨⟨by decide +kernel, by decide +kernel⟩, List.mem_of_getElem? (i := 90) (by decide +kernel), List.mem_of_getElem? (i := 463) (by decide +kernel), List.mem_of_getElem? (i := 464) (by decide +kernel)⟩
theorem lw_p12 : lw_okq (⟨"TallowHours$Planner", "spreadToFewerGuests", "()V"⟩, 12) := ⟨⟨by decide +kernel, by decide +kernel⟩, List.mem_of_getElem? (i := 90) (by decide +kernel), List.mem_of_getElem? (i := 476) (by decide +kernel), List.mem_of_getElem? (i := 477) (by decide +kernel)⟩
theorem lw_p13 : lw_okq (⟨"TallowHours", "giftsTogether", "(II)I"⟩, 12) := ⟨⟨by decide +kernel, by decide +kernel⟩, List.mem_of_getElem? (i := 15) (by decide +kernel), List.mem_of_getElem? (i := 512) (by decide +kernel), List.mem_of_getElem? (i := 513) (by decide +kernel)⟩
theorem lw_p14 : lw_okq (⟨"TallowHours", "mostOfPairs", "(I)I"⟩, 12) := ⟨⟨by decide +kernel, by decide +kernel⟩, List.mem_of_getElem? (i := 15) (by decide +kernel), List.mem_of_getElem? (i := 521) (by decide +kernel), List.mem_of_getElem? (i := 522) (by decide +kernel)⟩
theorem lw_p15 : lw_okq (⟨"TallowHours", "goesWell", "(I)Z"⟩, 12) := ⟨⟨by decide +kernel, by decide +kernel⟩, List.mem_of_getElem? (i := 15) (by decide +kernel), List.mem_of_getElem? (i := 545) (by decide +kernel), List.mem_of_getElem? (i := 546) (by decide +kernel)⟩
def lw_privs_1 : List (MethodName × Nat) := [(⟨"TallowHours$Text", "letterAt", "(I)I"⟩, 2), (⟨"TallowHours$Text", "momentAt", "(I)I"⟩, 2), (⟨"TallowHours$Text", "readPart", "(ILTallowHours$Party;)I"⟩, 2), (⟨"TallowHours$Text", "readCandle", "(ILTallowHours$Party;)I"⟩, 2), (⟨"TallowHours$Text", "figureAt", "(III)I"⟩, 2), (⟨"TallowHours$Text", "readGuest", "(ILTallowHours$Party;)I"⟩, 2), (⟨"TallowHours", "rememberAct", "()V"⟩, 12), (⟨"TallowHours$Burning", "burnInch", "(LTallowHours$Party;I)V"⟩, 6), (⟨"TallowHours$Planner", "layGuest", "(LTallowHours$Party;LTallowHours$Burning;I)V"⟩, 12), (⟨"TallowHours$Planner", "layCandle", "(LTallowHours$Party;LTallowHours$Burning;I)J"⟩, 12), (⟨"TallowHours$Planner", "tryCandle", "(IJI)V"⟩, 12), (⟨"TallowHours$Planner", "weigh", "(JI)V"⟩, 12), (⟨"TallowHours$Planner", "spreadToFewerGuests", "()V"⟩, 12), (⟨"TallowHours", "giftsTogether", "(II)I"⟩, 12), (⟨"TallowHours", "mostOfPairs", "(I)I"⟩, 12), (⟨"TallowHours", "goesWell", "(I)Z"⟩, 12)]
theorem lw_r1 : ∀ q ∈ lw_privs_1, lw_okq q := List.forall_mem_cons.mpr ⟨lw_p0, List.forall_mem_cons.mpr ⟨lw_p1, List.forall_mem_cons.mpr ⟨lw_p2, List.forall_mem_cons.mpr ⟨lw_p3, List.forall_mem_cons.mpr ⟨lw_p4, List.forall_mem_cons.mpr ⟨lw_p5, List.forall_mem_cons.mpr ⟨lw_p6, List.forall_mem_cons.mpr ⟨lw_p7, List.forall_mem_cons.mpr ⟨lw_p8, List.forall_mem_cons.mpr ⟨lw_p9, List.forall_mem_cons.mpr ⟨lw_p10, List.forall_mem_cons.mpr ⟨lw_p11, List.forall_mem_cons.mpr ⟨lw_p12, List.forall_mem_cons.mpr ⟨lw_p13, List.forall_mem_cons.mpr ⟨lw_p14, List.forall_mem_cons.mpr ⟨lw_p15, fun _ h => absurd h List.not_mem_nil⟩⟩⟩⟩⟩⟩⟩⟩⟩⟩⟩⟩⟩⟩⟩⟩
theorem lw_p16 : lw_okq (⟨"TallowHours", "candlesEndingSo", "(II)I"⟩, 12) := ⟨⟨by decide +kernel, by decide +kernel⟩, List.mem_of_getElem? (i := 15) (by decide +kernel), List.mem_of_getElem? (i := 557) (by decide +kernel), List.mem_of_getElem? (i := 558) (by decide +kernel)⟩
theorem lw_p17 : lw_okq (⟨"TallowHours", "endsSo", "(III)Z"⟩, 12) := ⟨⟨by decide +kernel, by decide +kernel⟩, List.mem_of_getElem? (i := 15) (by decide +kernel), List.mem_of_getElem? (i := 561) (by decide +kernel), List.mem_of_getElem? (i := 562) (by decide +kernel)⟩
theorem lw_p18 : lw_okq (⟨"TallowHours", "placesEndingSo", "(II)I"⟩, 12) := ⟨⟨by decide +kernel, by decide +kernel⟩, List.mem_of_getElem? (i := 15) (by decide +kernel), List.mem_of_getElem? (i := 565) (by decide +kernel), List.mem_of_getElem? (i := 566) (by decide +kernel)⟩
theorem lw_p19 : lw_okq (⟨"TallowHours$Box", "canBeFrom", "(LTallowHours$Party;I)Z"⟩, 2) := ⟨⟨by decide +kernel, by decide +kernel⟩, List.mem_of_getElem? (i := 137) (by decide +kernel), List.mem_of_getElem? (i := 593) (by decide +kernel), List.mem_of_getElem? (i := 594) (by decide +kernel)⟩
theorem lw_p20 : lw_okq (⟨"TallowHoursModel", "readText", "()I"⟩, 34) := ⟨⟨by decide +kernel, by decide +kernel⟩, List.mem_of_getElem? (i := 650) (by decide +kernel), List.mem_of_getElem? (i := 775) (by decide +kernel), List.mem_of_getElem? (i := 776) (by decide +kernel)⟩
theorem lw_p21 : lw_okq (⟨"TallowHoursModel", "readPart", "(I)V"⟩, 34) := ⟨⟨by decide +kernel, by decide +kernel⟩, List.mem_of_getElem? (i := 650) (by decide +kernel), List.mem_of_getElem? (i := 784) (by decide +kernel), List.mem_of_getElem? (i := 785) (by decide +kernel)⟩
theorem lw_p22 : lw_okq (⟨"TallowHoursModel", "figure", "(III)I"⟩, 34) := ⟨⟨by decide +kernel, by decide +kernel⟩, List.mem_of_getElem? (i := 650) (by decide +kernel), List.mem_of_getElem? (i := 788) (by decide +kernel), List.mem_of_getElem? (i := 789) (by decide +kernel)⟩
theorem lw_p23 : lw_okq (⟨"TallowHoursModel", "isCandle", "(I)Z"⟩, 34) := ⟨⟨by decide +kernel, by decide +kernel⟩, List.mem_of_getElem? (i := 650) (by decide +kernel), List.mem_of_getElem? (i := 804) (by decide +kernel), List.mem_of_getElem? (i := 805) (by decide +kernel)⟩
theorem lw_p24 : lw_okq (⟨"TallowHoursModel", "isGuest", "(I)Z"⟩, 34) := ⟨⟨by decide +kernel, by decide +kernel⟩, List.mem_of_getElem? (i := 650) (by decide +kernel), List.mem_of_getElem? (i := 812) (by decide +kernel), List.mem_of_getElem? (i := 813) (by decide +kernel)⟩
theorem lw_p25 : lw_okq (⟨"TallowHoursModel", "isContent", "(II)Z"⟩, 34) := ⟨⟨by decide +kernel, by decide +kernel⟩, List.mem_of_getElem? (i := 650) (by decide +kernel), List.mem_of_getElem? (i := 816) (by decide +kernel), List.mem_of_getElem? (i := 817) (by decide +kernel)⟩
theorem lw_p26 : lw_okq (⟨"TallowHoursModel", "keepAct", "()V"⟩, 34) := ⟨⟨by decide +kernel, by decide +kernel⟩, List.mem_of_getElem? (i := 650) (by decide +kernel), List.mem_of_getElem? (i := 824) (by decide +kernel), List.mem_of_getElem? (i := 825) (by decide +kernel)⟩
theorem lw_p27 : lw_okq (⟨"TallowHoursModel", "burning", "(I)I"⟩, 34) := ⟨⟨by decide +kernel, by decide +kernel⟩, List.mem_of_getElem? (i := 650) (by decide +kernel), List.mem_of_getElem? (i := 828) (by decide +kernel), List.mem_of_getElem? (i := 829) (by decide +kernel)⟩
theorem lw_p28 : lw_okq (⟨"TallowHoursModel", "pass", "(I)I"⟩, 34) := ⟨⟨by decide +kernel, by decide +kernel⟩, List.mem_of_getElem? (i := 650) (by decide +kernel), List.mem_of_getElem? (i := 845) (by decide +kernel), List.mem_of_getElem? (i := 846) (by decide +kernel)⟩
theorem lw_p29 : lw_okq (⟨"TallowHoursModel", "layPlans", "()V"⟩, 34) := ⟨⟨by decide +kernel, by decide +kernel⟩, List.mem_of_getElem? (i := 650) (by decide +kernel), List.mem_of_getElem? (i := 860) (by decide +kernel), List.mem_of_getElem? (i := 861) (by decide +kernel)⟩
theorem lw_p30 : lw_okq (⟨"TallowHoursModel", "isPlan", "(I)Z"⟩, 34) := ⟨⟨by decide +kernel, by decide +kernel⟩, List.mem_of_getElem? (i := 650) (by decide +kernel), List.mem_of_getElem? (i := 864) (by decide +kernel), List.mem_of_getElem? (i := 865) (by decide +kernel)⟩
theorem lw_p31 : lw_okq (⟨"TallowHoursModel", "contentBy", "(I)I"⟩, 34) := ⟨⟨by decide +kernel, by decide +kernel⟩, List.mem_of_getElem? (i := 650) (by decide +kernel), List.mem_of_getElem? (i := 874) (by decide +kernel), List.mem_of_getElem? (i := 875) (by decide +kernel)⟩
def lw_privs_2 : List (MethodName × Nat) := [(⟨"TallowHours", "candlesEndingSo", "(II)I"⟩, 12), (⟨"TallowHours", "endsSo", "(III)Z"⟩, 12), (⟨"TallowHours", "placesEndingSo", "(II)I"⟩, 12), (⟨"TallowHours$Box", "canBeFrom", "(LTallowHours$Party;I)Z"⟩, 2), (⟨"TallowHoursModel", "readText", "()I"⟩, 34), (⟨"TallowHoursModel", "readPart", "(I)V"⟩, 34), (⟨"TallowHoursModel", "figure", "(III)I"⟩, 34), (⟨"TallowHoursModel", "isCandle", "(I)Z"⟩, 34), (⟨"TallowHoursModel", "isGuest", "(I)Z"⟩, 34), (⟨"TallowHoursModel", "isContent", "(II)Z"⟩, 34), (⟨"TallowHoursModel", "keepAct", "()V"⟩, 34), (⟨"TallowHoursModel", "burning", "(I)I"⟩, 34), (⟨"TallowHoursModel", "pass", "(I)I"⟩, 34), (⟨"TallowHoursModel", "layPlans", "()V"⟩, 34), (⟨"TallowHoursModel", "isPlan", "(I)Z"⟩, 34), (⟨"TallowHoursModel", "contentBy", "(I)I"⟩, 34)]
theorem lw_r2 : ∀ q ∈ lw_privs_2, lw_okq q := List.forall_mem_cons.mpr ⟨lw_p16, List.forall_mem_cons.mpr ⟨lw_p17, List.forall_mem_cons.mpr ⟨lw_p18, List.forall_mem_cons.mpr ⟨lw_p19, List.forall_mem_cons.mpr ⟨lw_p20, List.forall_mem_cons.mpr ⟨lw_p21, List.forall_mem_cons.mpr ⟨lw_p22, List.forall_mem_cons.mpr ⟨lw_p23, List.forall_mem_cons.mpr ⟨lw_p24, List.forall_mem_cons.mpr ⟨lw_p25, List.forall_mem_cons.mpr ⟨lw_p26, List.forall_mem_cons.mpr ⟨lw_p27, List.forall_mem_cons.mpr ⟨lw_p28, List.forall_mem_cons.mpr ⟨lw_p29, List.forall_mem_cons.mpr ⟨lw_p30, List.forall_mem_cons.mpr ⟨lw_p31, fun _ h => absurd h List.not_mem_nil⟩⟩⟩⟩⟩⟩⟩⟩⟩⟩⟩⟩⟩⟩⟩⟩
theorem lw_p32 : lw_okq (⟨"TallowHoursModel", "lay", "(II)V"⟩, 34) := ⟨⟨by decide +kernel, by decide +kernel⟩, List.mem_of_getElem? (i := 650) (by decide +kernel), List.mem_of_getElem? (i := 878) (by decide +kernel), List.mem_of_getElem? (i := 879) (by decide +kernel)⟩
theorem lw_p33 : lw_okq (⟨"TallowHoursModel", "costOf", "(I)I"⟩, 34) := ⟨⟨by decide +kernel, by decide +kernel⟩, List.mem_of_getElem? (i := 650) (by decide +kernel), List.mem_of_getElem? (i := 882) (by decide +kernel), List.mem_of_getElem? (i := 883) (by decide +kernel)⟩
theorem lw_p34 : lw_okq (⟨"TallowHoursModel", "all", "()I"⟩, 34) := ⟨⟨by decide +kernel, by decide +kernel⟩, List.mem_of_getElem? (i := 650) (by decide +kernel), List.mem_of_getElem? (i := 886) (by decide +kernel), List.mem_of_getElem? (i := 887) (by decide +kernel)⟩
theorem lw_p35 : lw_okq (⟨"TallowHoursModel", "tableOf", "(II)I"⟩, 34) := ⟨⟨by decide +kernel, by decide +kernel⟩, List.mem_of_getElem? (i := 650) (by decide +kernel), List.mem_of_getElem? (i := 915) (by decide +kernel), List.mem_of_getElem? (i := 916) (by decide +kernel)⟩
theorem lw_p36 : lw_okq (⟨"TallowHoursModel", "gives", "(II)I"⟩, 34) := ⟨⟨by decide +kernel, by decide +kernel⟩, List.mem_of_getElem? (i := 650) (by decide +kernel), List.mem_of_getElem? (i := 919) (by decide +kernel), List.mem_of_getElem? (i := 920) (by decide +kernel)⟩
theorem lw_p37 : lw_okq (⟨"TallowHoursModel", "isSo", "(III)Z"⟩, 34) := ⟨⟨by decide +kernel, by decide +kernel⟩, List.mem_of_getElem? (i := 650) (by decide +kernel), List.mem_of_getElem? (i := 937) (by decide +kernel), List.mem_of_getElem? (i := 938) (by decide +kernel)⟩
theorem lw_p38 : lw_okq (⟨"TallowHoursModel", "fromOf", "(I)I"⟩, 34) := ⟨⟨by decide +kernel, by decide +kernel⟩, List.mem_of_getElem? (i := 650) (by decide +kernel), List.mem_of_getElem? (i := 955) (by decide +kernel), List.mem_of_getElem? (i := 956) (by decide +kernel)⟩
def lw_privs_3 : List (MethodName × Nat) := [(⟨"TallowHoursModel", "lay", "(II)V"⟩, 34), (⟨"TallowHoursModel", "costOf", "(I)I"⟩, 34), (⟨"TallowHoursModel", "all", "()I"⟩, 34), (⟨"TallowHoursModel", "tableOf", "(II)I"⟩, 34), (⟨"TallowHoursModel", "gives", "(II)I"⟩, 34), (⟨"TallowHoursModel", "isSo", "(III)Z"⟩, 34), (⟨"TallowHoursModel", "fromOf", "(I)I"⟩, 34)]
theorem lw_r3 : ∀ q ∈ lw_privs_3, lw_okq q := List.forall_mem_cons.mpr ⟨lw_p32, List.forall_mem_cons.mpr ⟨lw_p33, List.forall_mem_cons.mpr ⟨lw_p34, List.forall_mem_cons.mpr ⟨lw_p35, List.forall_mem_cons.mpr ⟨lw_p36, List.forall_mem_cons.mpr ⟨lw_p37, List.forall_mem_cons.mpr ⟨lw_p38, fun _ h => absurd h List.not_mem_nil⟩⟩⟩⟩⟩⟩⟩
def lw_privs : List (MethodName × Nat) := lw_privs_1 ++ (lw_privs_2 ++ (lw_privs_3))
def lw_tbl : List Cond := k2_sels lw_privs ++ tables_1
theorem lw_privs_ok : ∀ q ∈ lw_privs, lw_okq q := by
  show ∀ q ∈ lw_privs_1 ++ (lw_privs_2 ++ (lw_privs_3)), lw_okq q
  exact List.forall_mem_append.mpr ⟨lw_r1, List.forall_mem_append.mpr ⟨lw_r2, lw_r3⟩⟩
-- ===== end of PART A; then your names; then what follows =====
/-! THE CLAIM OUT OF ONE WALK OF THE LAW'S BODY. Your part is whole_start (and what it stands on); all else here is the same for every law, but numbers. -/
def R_law : String := "TallowHoursLaw"
def lw_P (b : Addr) (xs : List Int32) (args : Array Value) (s : State) : Prop := args = #[.ref b] ∧ s.IntsAt b xs ∧ xs.length ≤ 320 ∧ (Jvm.Cond.and given_1 narrow_1).before args s = true
def lw_Q (_ : Array Value) (s : State) (o : Outcome) (t : State) : Prop := o = .returned (some (.int 1)) ∧ Framed s o t [] 600000 7302250
def lw_Z (below : List Frame) (a : Array Value) (s : State) : State → Prop := fun t => ∃ o, t.status = .running ∧ Ended t below o ∧ lw_Q a s o t
/-- the law's own end, with 1 on the stack, nothing written that was there before, its room as the claim has it -/
theorem lw_ret {p : Program} {l : Launch} {e : Env} {s : State} {m : MethodId} {below : List Frame} {meth : Method} {c : Code} {b : Nat} (hx : p.tables.exec = Jvm.exec) (hb : c.code = code) (hr : meth.sig.returnType = ret) (hlocks : meth.locks = false) {pc : Nat} {H : Heap} {ls : Array Slot} (hdg : decode code pc = .ok (.ireturn, 1)) : W p l e room_1 s m #[Value.ref b] below meth c H [] 600000 7302250 (lw_Z below #[Value.ref b] s) (F0 m pc ls [.int 1]) := by
  intro T hT X
  obtain ⟨fs, hret, hrun, hended, hW, hframe⟩ := X.leave (v := some (.int 1)) (hlocks := hlocks) (fun h => by rw [hr] at h; cases h)
  have hmeth' : T.vm.method? m = some meth := X.method'
  refine ⟨T.setFrames fs, ?_, .returned (some (.int 1)), hrun, hended, rfl, ⟨_, rfl⟩, hW, hframe⟩
  jvm_step X.here [X.here.top, hx, hb, hdg, hmeth', hr, ret, narrow_b1]
  (try refine ⟨rfl, ?_⟩); (try refine ⟨rfl, ?_⟩)
  first | (intro acts; rw [hret _ acts rfl rfl rfl]) | rw [hret _ _ rfl rfl rfl]
  exact Steps.refl _
/-- what holds at the law's entry: the machine, the code, the tables' words (any of lw_tbl by 'hts w (by decide +kernel)'), the script of L ints xs at the cell b, what the Statement gives of the start (any of its parts by flat_of_before) -/
def lw_At (p : Program) (s : State) (m : MethodId) (meth : Method) (c : Code) (b L : Nat) (xs : Nat → Int32) : Prop :=
  p.tables.exec = Jvm.exec ∧ c.code = code ∧ meth.sig.returnType = ret ∧ c.maxLocals = 4 ∧ s.vm.findClass R_law = some m.cls ∧ (∀ w ∈ lw_tbl, w.before #[Value.ref b] s = true) ∧ va_X b L xs s s.heap ∧ b < s.heap.size ∧ meth.locks = false ∧ (Jvm.Cond.and given_1 narrow_1).before #[Value.ref b] s = true
end
section
theorem goodIn_r {big : List Cond} (ws : List Cond) (ps : List Nat) (hp : ws = ps.filterMap (fun i => big[i]?)) (h : ws.all goodWord = true) : GoodIn big ws := by
  intro w hw
  have h1 := List.all_eq_true.mp h w hw
  rw [hp] at hw
  obtain ⟨i, -, hi⟩ := List.mem_filterMap.mp hw
  have hm : w ∈ big := by first | exact List.mem_of_getElem? hi | exact List.getElem?_mem hi
  exact ⟨hm, good_of_word h1⟩
theorem goodIn_app {big a b : List Cond} (ha : GoodIn big a) (hb : GoodIn big b) : GoodIn big (a ++ b) := fun w h => (List.mem_append.mp h).elim (ha w) (hb w)
theorem goodIn_ca {big a b : List Cond} {c : Cond} (ha : GoodIn big (c :: a)) (hb : GoodIn big b) : GoodIn big (c :: (a ++ b)) := fun w h => (List.mem_cons.mp h).elim (fun e => ha w (List.mem_cons.mpr (Or.inl e))) (fun h => (List.mem_append.mp h).elim (fun h => ha w (List.mem_cons.mpr (Or.inr h))) (hb w))
theorem goodIn_sub {big ws : List Cond} (hm : ∀ w ∈ ws, w ∈ big) (h : ws.all goodWord = true) : GoodIn big ws := fun w hw => ⟨hm w hw, good_of_word (List.all_eq_true.mp h w hw)⟩
def RX0 : String := "TallowHours$Acts"
def TX0 : u_T := fun k => match k with
  | 0 => ("TallowHours$Acts", "cells", "[I", true)
  | 1 => ("TallowHours$Acts", "first", "I", false)
  | _ => ("TallowHours$Acts", "size", "I", false)
def tyX0 : Nat → FieldType := fun k => match k with
  | 0 => .array .int
  | 1 => .int
  | _ => .int
abbrev wsX00 : List Cond := u_ws RX0 TX0 3
theorem nmX0 : ∀ a, a < 3 → ∀ b, b < 3 → a ≠ b → (TX0 a).2.1 ≠ (TX0 b).2.1 := by decide +kernel
theorem tyX0_ok : ∀ k, k < 3 → parseFieldDescriptor (TX0 k).2.2.1 = some (tyX0 k) := by decide +kernel
abbrev cX0_init : ByteArray := prog_2_method_1_code
def yX0_init : MethodName := ⟨RX0, "<init>", "()V"⟩
abbrev cX0_clear : ByteArray := prog_2_method_2_code
def yX0_clear : MethodName := ⟨RX0, "clear", "()V"⟩
abbrev cX0_add : ByteArray := prog_2_method_3_code
def yX0_add : MethodName := ⟨RX0, "add", "(LTallowHours$Burning;)V"⟩
abbrev cX0_takeBack : ByteArray := prog_2_method_4_code
def yX0_takeBack : MethodName := ⟨RX0, "takeBack", "(LTallowHours$Burning;)V"⟩
def RX1 : String := "TallowHours$Box"
def TX1 : u_T := fun k => match k with
  | 0 => ("TallowHours$Box", "seen", "[I", true)
  | _ => ("TallowHours$Box", "size", "I", false)
def tyX1 : Nat → FieldType := fun k => match k with
  | 0 => .array .int
  | _ => .int
abbrev wsX10 : List Cond := u_ws RX1 TX1 2
theorem nmX1 : ∀ a, a < 2 → ∀ b, b < 2 → a ≠ b → (TX1 a).2.1 ≠ (TX1 b).2.1 := by decide +kernel
theorem tyX1_ok : ∀ k, k < 2 → parseFieldDescriptor (TX1 k).2.2.1 = some (tyX1 k) := by decide +kernel
abbrev cX1_init : ByteArray := prog_3_method_1_code
def yX1_init : MethodName := ⟨RX1, "<init>", "()V"⟩
abbrev cX1_add : ByteArray := prog_3_method_2_code
def yX1_add : MethodName := ⟨RX1, "add", "(I)I"⟩
abbrev cX1_clear : ByteArray := prog_3_method_3_code
def yX1_clear : MethodName := ⟨RX1, "clear", "()I"⟩
abbrev cX1_origins : ByteArray := prog_3_method_4_code
def yX1_origins : MethodName := ⟨RX1, "origins", "(LTallowHours$Party;I)I"⟩
abbrev cX1_canBeFrom : ByteArray := prog_3_method_5_code
def yX1_canBeFrom : MethodName := ⟨RX1, "canBeFrom", "(LTallowHours$Party;I)Z"⟩
def RX2 : String := "TallowHours$Burning"
def TX2 : u_T := fun k => match k with
  | 0 => ("TallowHours$Burning", "place", "[I", true)
  | 1 => ("TallowHours$Burning", "left", "[I", true)
  | 2 => ("TallowHours$Burning", "flame", "[I", true)
  | 3 => ("TallowHours$Burning", "had", "[I", true)
  | 4 => ("TallowHours$Burning", "cost", "I", false)
  | _ => ("TallowHours$Burning", "steps", "I", false)
def tyX2 : Nat → FieldType := fun k => match k with
  | 0 => .array .int
  | 1 => .array .int
  | 2 => .array .int
  | 3 => .array .int
  | 4 => .int
  | _ => .int
abbrev wsX20 : List Cond := u_ws RX2 TX2 6
theorem nmX2 : ∀ a, a < 6 → ∀ b, b < 6 → a ≠ b → (TX2 a).2.1 ≠ (TX2 b).2.1 := by decide +kernel
theorem tyX2_ok : ∀ k, k < 6 → parseFieldDescriptor (TX2 k).2.2.1 = some (tyX2 k) := by decide +kernel
abbrev cX2_init : ByteArray := prog_4_method_1_code
def yX2_init : MethodName := ⟨RX2, "<init>", "()V"⟩
abbrev cX2_begin : ByteArray := prog_4_method_2_code
def yX2_begin : MethodName := ⟨RX2, "begin", "(LTallowHours$Party;)V"⟩
abbrev cX2_copy : ByteArray := prog_4_method_3_code
def yX2_copy : MethodName := ⟨RX2, "copy", "(LTallowHours$Burning;)V"⟩
abbrev cX2_saveTo : ByteArray := prog_4_method_4_code
def yX2_saveTo : MethodName := ⟨RX2, "saveTo", "([II)V"⟩
abbrev cX2_loadFrom : ByteArray := prog_4_method_5_code
def yX2_loadFrom : MethodName := ⟨RX2, "loadFrom", "([II)V"⟩
abbrev cX2_lightIfCan : ByteArray := prog_4_method_6_code
def yX2_lightIfCan : MethodName := ⟨RX2, "lightIfCan", "(LTallowHours$Party;I)Z"⟩
abbrev cX2_goBy : ByteArray := prog_4_method_7_code
def yX2_goBy : MethodName := ⟨RX2, "goBy", "(LTallowHours$Party;)I"⟩
abbrev cX2_burnInch : ByteArray := prog_4_method_8_code
def yX2_burnInch : MethodName := ⟨RX2, "burnInch", "(LTallowHours$Party;I)V"⟩
abbrev cX2_giftBit : ByteArray := prog_4_method_9_code
def yX2_giftBit : MethodName := ⟨RX2, "giftBit", "(LTallowHours$Party;II)I"⟩
abbrev cX2_withFlame : ByteArray := prog_4_method_10_code
def yX2_withFlame : MethodName := ⟨RX2, "withFlame", "(LTallowHours$Party;I)I"⟩
abbrev cX2_isContent : ByteArray := prog_4_method_11_code
def yX2_isContent : MethodName := ⟨RX2, "isContent", "(LTallowHours$Party;I)Z"⟩
abbrev cX2_contentGuests : ByteArray := prog_4_method_12_code
def yX2_contentGuests : MethodName := ⟨RX2, "contentGuests", "(LTallowHours$Party;)I"⟩
def RX3 : String := "TallowHours$Party"
def TX3 : u_T := fun k => match k with
  | 0 => ("TallowHours$Party", "evening", "[I", true)
  | 1 => ("TallowHours$Party", "start", "[I", true)
  | 2 => ("TallowHours$Party", "inches", "[I", true)
  | 3 => ("TallowHours$Party", "price", "[I", true)
  | 4 => ("TallowHours$Party", "wish", "[I", true)
  | 5 => ("TallowHours$Party", "wanted", "[I", true)
  | 6 => ("TallowHours$Party", "comes", "[I", true)
  | 7 => ("TallowHours$Party", "goes", "[I", true)
  | 8 => ("TallowHours$Party", "moments", "I", false)
  | 9 => ("TallowHours$Party", "candles", "I", false)
  | _ => ("TallowHours$Party", "guests", "I", false)
def tyX3 : Nat → FieldType := fun k => match k with
  | 0 => .array .int
  | 1 => .array .int
  | 2 => .array .int
  | 3 => .array .int
  | 4 => .array .int
  | 5 => .array .int
  | 6 => .array .int
  | 7 => .array .int
  | 8 => .int
  | 9 => .int
  | _ => .int
abbrev wsX30 : List Cond := u_ws RX3 TX3 11
theorem nmX3 : ∀ a, a < 11 → ∀ b, b < 11 → a ≠ b → (TX3 a).2.1 ≠ (TX3 b).2.1 := by decide +kernel
theorem tyX3_ok : ∀ k, k < 11 → parseFieldDescriptor (TX3 k).2.2.1 = some (tyX3 k) := by decide +kernel
abbrev cX3_init : ByteArray := prog_5_method_1_code
def yX3_init : MethodName := ⟨RX3, "<init>", "()V"⟩
abbrev cX3_clear : ByteArray := prog_5_method_2_code
def yX3_clear : MethodName := ⟨RX3, "clear", "()V"⟩
abbrev cX3_hasCandle : ByteArray := prog_5_method_3_code
def yX3_hasCandle : MethodName := ⟨RX3, "hasCandle", "(I)Z"⟩
abbrev cX3_hasGuest : ByteArray := prog_5_method_4_code
def yX3_hasGuest : MethodName := ⟨RX3, "hasGuest", "(I)Z"⟩
abbrev cX3_giftAt : ByteArray := prog_5_method_5_code
def yX3_giftAt : MethodName := ⟨RX3, "giftAt", "(I)I"⟩
def RX4 : String := "TallowHours$Planner"
def TX4 : u_T := fun k => match k with
  | 0 => ("TallowHours$Planner", "gives", "[J", true)
  | 1 => ("TallowHours$Planner", "price", "[I", true)
  | 2 => ("TallowHours$Planner", "lastFigure", "[I", true)
  | 3 => ("TallowHours$Planner", "takes", "[J", true)
  | 4 => ("TallowHours$Planner", "lacks", "[I", true)
  | 5 => ("TallowHours$Planner", "figures", "[I", true)
  | 6 => ("TallowHours$Planner", "chosen", "[I", true)
  | 7 => ("TallowHours$Planner", "cheapest", "[I", true)
  | 8 => ("TallowHours$Planner", "guests", "I", false)
  | 9 => ("TallowHours$Planner", "all", "I", false)
  | 10 => ("TallowHours$Planner", "reached", "I", false)
  | _ => ("TallowHours$Planner", "fresh", "Z", false)
def tyX4 : Nat → FieldType := fun k => match k with
  | 0 => .array .long
  | 1 => .array .int
  | 2 => .array .int
  | 3 => .array .long
  | 4 => .array .int
  | 5 => .array .int
  | 6 => .array .int
  | 7 => .array .int
  | 8 => .int
  | 9 => .int
  | 10 => .int
  | _ => .boolean
abbrev wsX40 : List Cond := u_ws RX4 TX4 12
theorem nmX4 : ∀ a, a < 12 → ∀ b, b < 12 → a ≠ b → (TX4 a).2.1 ≠ (TX4 b).2.1 := by decide +kernel
theorem tyX4_ok : ∀ k, k < 12 → parseFieldDescriptor (TX4 k).2.2.1 = some (tyX4 k) := by decide +kernel
abbrev cX4_init : ByteArray := prog_6_method_1_code
def yX4_init : MethodName := ⟨RX4, "<init>", "()V"⟩
abbrev cX4_work : ByteArray := prog_6_method_2_code
def yX4_work : MethodName := ⟨RX4, "work", "(LTallowHours$Party;LTallowHours$Burning;)V"⟩
abbrev cX4_layGuest : ByteArray := prog_6_method_3_code
def yX4_layGuest : MethodName := ⟨RX4, "layGuest", "(LTallowHours$Party;LTallowHours$Burning;I)V"⟩
abbrev cX4_layCandle : ByteArray := prog_6_method_4_code
def yX4_layCandle : MethodName := ⟨RX4, "layCandle", "(LTallowHours$Party;LTallowHours$Burning;I)J"⟩
abbrev cX4_tryCandle : ByteArray := prog_6_method_5_code
def yX4_tryCandle : MethodName := ⟨RX4, "tryCandle", "(IJI)V"⟩
abbrev cX4_weigh : ByteArray := prog_6_method_6_code
def yX4_weigh : MethodName := ⟨RX4, "weigh", "(JI)V"⟩
abbrev cX4_spreadToFewerGuests : ByteArray := prog_6_method_7_code
def yX4_spreadToFewerGuests : MethodName := ⟨RX4, "spreadToFewerGuests", "()V"⟩
abbrev cX4_costForAll : ByteArray := prog_6_method_8_code
def yX4_costForAll : MethodName := ⟨RX4, "costForAll", "()I"⟩
abbrev cX4_sharesOf : ByteArray := prog_6_method_9_code
def yX4_sharesOf : MethodName := ⟨RX4, "sharesOf", "(I)I"⟩
def RX5 : String := "TallowHours$Saw"
def TX5 : u_T := fun k => match k with
  | _ => ("TallowHours$Saw", "least", "[I", true)
def tyX5 : Nat → FieldType := fun k => match k with
  | _ => .array .int
abbrev wsX50 : List Cond := u_ws RX5 TX5 1
theorem nmX5 : ∀ a, a < 1 → ∀ b, b < 1 → a ≠ b → (TX5 a).2.1 ≠ (TX5 b).2.1 := by decide +kernel
theorem tyX5_ok : ∀ k, k < 1 → parseFieldDescriptor (TX5 k).2.2.1 = some (tyX5 k) := by decide +kernel
abbrev cX5_init : ByteArray := prog_7_method_1_code
def yX5_init : MethodName := ⟨RX5, "<init>", "()V"⟩
abbrev cX5_fewest : ByteArray := prog_7_method_2_code
def yX5_fewest : MethodName := ⟨RX5, "fewest", "(III)I"⟩
abbrev cX5_withOrder : ByteArray := prog_7_method_3_code
def yX5_withOrder : MethodName := ⟨RX5, "withOrder", "(III)I"⟩
def RX6 : String := "TallowHours$Text"
def TX6 : u_T := fun k => match k with
  | 0 => ("TallowHours$Text", "letters", "[I", true)
  | _ => ("TallowHours$Text", "length", "I", false)
def tyX6 : Nat → FieldType := fun k => match k with
  | 0 => .array .int
  | _ => .int
abbrev wsX60 : List Cond := u_ws RX6 TX6 2
theorem nmX6 : ∀ a, a < 2 → ∀ b, b < 2 → a ≠ b → (TX6 a).2.1 ≠ (TX6 b).2.1 := by decide +kernel
theorem tyX6_ok : ∀ k, k < 2 → parseFieldDescriptor (TX6 k).2.2.1 = some (tyX6 k) := by decide +kernel
abbrev cX6_init : ByteArray := prog_8_method_1_code
def yX6_init : MethodName := ⟨RX6, "<init>", "()V"⟩
abbrev cX6_append : ByteArray := prog_8_method_2_code
def yX6_append : MethodName := ⟨RX6, "append", "(I)I"⟩
abbrev cX6_clear : ByteArray := prog_8_method_3_code
def yX6_clear : MethodName := ⟨RX6, "clear", "()I"⟩
abbrev cX6_readInto : ByteArray := prog_8_method_4_code
def yX6_readInto : MethodName := ⟨RX6, "readInto", "(LTallowHours$Party;)I"⟩
abbrev cX6_readPart : ByteArray := prog_8_method_5_code
def yX6_readPart : MethodName := ⟨RX6, "readPart", "(ILTallowHours$Party;)I"⟩
abbrev cX6_readCandle : ByteArray := prog_8_method_6_code
def yX6_readCandle : MethodName := ⟨RX6, "readCandle", "(ILTallowHours$Party;)I"⟩
abbrev cX6_readGuest : ByteArray := prog_8_method_7_code
def yX6_readGuest : MethodName := ⟨RX6, "readGuest", "(ILTallowHours$Party;)I"⟩
abbrev cX6_letterAt : ByteArray := prog_8_method_8_code
def yX6_letterAt : MethodName := ⟨RX6, "letterAt", "(I)I"⟩
abbrev cX6_momentAt : ByteArray := prog_8_method_9_code
def yX6_momentAt : MethodName := ⟨RX6, "momentAt", "(I)I"⟩
abbrev cX6_figureAt : ByteArray := prog_8_method_10_code
def yX6_figureAt : MethodName := ⟨RX6, "figureAt", "(III)I"⟩
def RX7 : String := "TallowHours"
def TX7 : u_T := fun k => match k with
  | 0 => ("TallowHours", "text", "LTallowHours$Text;", true)
  | 1 => ("TallowHours", "now", "LTallowHours$Burning;", true)
  | 2 => ("TallowHours", "trial", "LTallowHours$Burning;", true)
  | 3 => ("TallowHours", "acts", "LTallowHours$Acts;", true)
  | 4 => ("TallowHours", "planner", "LTallowHours$Planner;", true)
  | 5 => ("TallowHours", "box", "LTallowHours$Box;", true)
  | 6 => ("TallowHours", "saw", "LTallowHours$Saw;", true)
  | 7 => ("TallowHours", "slotCells", "[I", true)
  | 8 => ("TallowHours", "slotFilled", "[Z", true)
  | 9 => ("TallowHours", "told", "LTallowHours$Party;", false)
  | 10 => ("TallowHours", "draft", "LTallowHours$Party;", false)
  | _ => ("TallowHours", "seedNow", "J", false)
def tyX7 : Nat → FieldType := fun k => match k with
  | 0 => .object "TallowHours$Text"
  | 1 => .object "TallowHours$Burning"
  | 2 => .object "TallowHours$Burning"
  | 3 => .object "TallowHours$Acts"
  | 4 => .object "TallowHours$Planner"
  | 5 => .object "TallowHours$Box"
  | 6 => .object "TallowHours$Saw"
  | 7 => .array .int
  | 8 => .array .boolean
  | 9 => .object "TallowHours$Party"
  | 10 => .object "TallowHours$Party"
  | _ => .long
abbrev wsX70 : List Cond := u_ws RX7 TX7 12
theorem nmX7 : ∀ a, a < 12 → ∀ b, b < 12 → a ≠ b → (TX7 a).2.1 ≠ (TX7 b).2.1 := by decide +kernel
theorem tyX7_ok : ∀ k, k < 12 → parseFieldDescriptor (TX7 k).2.2.1 = some (tyX7 k) := by decide +kernel
abbrev cX7_init : ByteArray := prog_1_method_1_code
def yX7_init : MethodName := ⟨RX7, "<init>", "()V"⟩
abbrev cX7_write : ByteArray := prog_1_method_2_code
def yX7_write : MethodName := ⟨RX7, "write", "(I)I"⟩
abbrev cX7_wipe : ByteArray := prog_1_method_3_code
def yX7_wipe : MethodName := ⟨RX7, "wipe", "()I"⟩
abbrev cX7_fault : ByteArray := prog_1_method_4_code
def yX7_fault : MethodName := ⟨RX7, "fault", "()I"⟩
abbrev cX7_party : ByteArray := prog_1_method_5_code
def yX7_party : MethodName := ⟨RX7, "party", "()I"⟩
abbrev cX7_moment : ByteArray := prog_1_method_6_code
def yX7_moment : MethodName := ⟨RX7, "moment", "(I)I"⟩
abbrev cX7_candle : ByteArray := prog_1_method_7_code
def yX7_candle : MethodName := ⟨RX7, "candle", "(II)I"⟩
abbrev cX7_guest : ByteArray := prog_1_method_8_code
def yX7_guest : MethodName := ⟨RX7, "guest", "(II)I"⟩
abbrev cX7_light : ByteArray := prog_1_method_9_code
def yX7_light : MethodName := ⟨RX7, "light", "(I)I"⟩
abbrev cX7_out : ByteArray := prog_1_method_10_code
def yX7_out : MethodName := ⟨RX7, "out", "(I)I"⟩
abbrev cX7_trim : ByteArray := prog_1_method_11_code
def yX7_trim : MethodName := ⟨RX7, "trim", "(II)I"⟩
abbrev cX7_step : ByteArray := prog_1_method_12_code
def yX7_step : MethodName := ⟨RX7, "step", "()I"⟩
abbrev cX7_undo : ByteArray := prog_1_method_13_code
def yX7_undo : MethodName := ⟨RX7, "undo", "()I"⟩
abbrev cX7_rememberAct : ByteArray := prog_1_method_14_code
def yX7_rememberAct : MethodName := ⟨RX7, "rememberAct", "()V"⟩
abbrev cX7_plan : ByteArray := prog_1_method_15_code
def yX7_plan : MethodName := ⟨RX7, "plan", "()I"⟩
abbrev cX7_planOf : ByteArray := prog_1_method_16_code
def yX7_planOf : MethodName := ⟨RX7, "planOf", "(I)I"⟩
abbrev cX7_bars : ByteArray := prog_1_method_17_code
def yX7_bars : MethodName := ⟨RX7, "bars", "()I"⟩
abbrev cX7_share : ByteArray := prog_1_method_18_code
def yX7_share : MethodName := ⟨RX7, "share", "(IZ)I"⟩
abbrev cX7_table : ByteArray := prog_1_method_19_code
def yX7_table : MethodName := ⟨RX7, "table", "(II)I"⟩
abbrev cX7_pairs : ByteArray := prog_1_method_20_code
def yX7_pairs : MethodName := ⟨RX7, "pairs", "()I"⟩
abbrev cX7_judge : ByteArray := prog_1_method_21_code
def yX7_judge : MethodName := ⟨RX7, "judge", "(II)I"⟩
abbrev cX7_goesWell : ByteArray := prog_1_method_22_code
def yX7_goesWell : MethodName := ⟨RX7, "goesWell", "(I)Z"⟩
abbrev cX7_mostOfPairs : ByteArray := prog_1_method_23_code
def yX7_mostOfPairs : MethodName := ⟨RX7, "mostOfPairs", "(I)I"⟩
abbrev cX7_giftsTogether : ByteArray := prog_1_method_24_code
def yX7_giftsTogether : MethodName := ⟨RX7, "giftsTogether", "(II)I"⟩
abbrev cX7_stub : ByteArray := prog_1_method_25_code
def yX7_stub : MethodName := ⟨RX7, "stub", "(IIZ)I"⟩
abbrev cX7_candlesEndingSo : ByteArray := prog_1_method_26_code
def yX7_candlesEndingSo : MethodName := ⟨RX7, "candlesEndingSo", "(II)I"⟩
abbrev cX7_placesEndingSo : ByteArray := prog_1_method_27_code
def yX7_placesEndingSo : MethodName := ⟨RX7, "placesEndingSo", "(II)I"⟩
abbrev cX7_endsSo : ByteArray := prog_1_method_28_code
def yX7_endsSo : MethodName := ⟨RX7, "endsSo", "(III)Z"⟩
abbrev cX7_see : ByteArray := prog_1_method_29_code
def yX7_see : MethodName := ⟨RX7, "see", "(I)I"⟩
abbrev cX7_unsee : ByteArray := prog_1_method_30_code
def yX7_unsee : MethodName := ⟨RX7, "unsee", "()I"⟩
abbrev cX7_from : ByteArray := prog_1_method_31_code
def yX7_from : MethodName := ⟨RX7, "from", "(I)I"⟩
abbrev cX7_next : ByteArray := prog_1_method_32_code
def yX7_next : MethodName := ⟨RX7, "next", "(IIZ)I"⟩
abbrev cX7_cut : ByteArray := prog_1_method_33_code
def yX7_cut : MethodName := ⟨RX7, "cut", "(III)I"⟩
abbrev cX7_draught : ByteArray := prog_1_method_34_code
def yX7_draught : MethodName := ⟨RX7, "draught", "(IIIZ)I"⟩
abbrev cX7_seed : ByteArray := prog_1_method_35_code
def yX7_seed : MethodName := ⟨RX7, "seed", "(J)J"⟩
abbrev cX7_night : ByteArray := prog_1_method_36_code
def yX7_night : MethodName := ⟨RX7, "night", "(I)I"⟩
abbrev cX7_keep : ByteArray := prog_1_method_37_code
def yX7_keep : MethodName := ⟨RX7, "keep", "(I)I"⟩
abbrev cX7_again : ByteArray := prog_1_method_38_code
def yX7_again : MethodName := ⟨RX7, "again", "(I)I"⟩
abbrev cX7_count : ByteArray := prog_1_method_39_code
def yX7_count : MethodName := ⟨RX7, "count", "(I)I"⟩
abbrev cX7_figure : ByteArray := prog_1_method_40_code
def yX7_figure : MethodName := ⟨RX7, "figure", "(III)I"⟩
abbrev cX7_fraction : ByteArray := prog_1_method_41_code
def yX7_fraction : MethodName := ⟨RX7, "fraction", "(IIZ)I"⟩
def RX8 : String := "TallowHoursModel"
def TX8 : u_T := fun k => match k with
  | 0 => ("TallowHoursModel", "moments", "I", false)
  | 1 => ("TallowHoursModel", "candles", "I", false)
  | 2 => ("TallowHoursModel", "guests", "I", false)
  | 3 => ("TallowHoursModel", "evening", "[I", true)
  | 4 => ("TallowHoursModel", "first", "[I", true)
  | 5 => ("TallowHoursModel", "inches", "[I", true)
  | 6 => ("TallowHoursModel", "price", "[I", true)
  | 7 => ("TallowHoursModel", "wants", "[I", true)
  | 8 => ("TallowHoursModel", "needs", "[I", true)
  | 9 => ("TallowHoursModel", "comes", "[I", true)
  | 10 => ("TallowHoursModel", "goes", "[I", true)
  | 11 => ("TallowHoursModel", "now", "[I", true)
  | 12 => ("TallowHoursModel", "text", "[I", true)
  | 13 => ("TallowHoursModel", "length", "I", false)
  | 14 => ("TallowHoursModel", "at", "I", false)
  | 15 => ("TallowHoursModel", "faultAt", "I", false)
  | 16 => ("TallowHoursModel", "readMoments", "I", false)
  | 17 => ("TallowHoursModel", "readCandles", "I", false)
  | 18 => ("TallowHoursModel", "readGuests", "I", false)
  | 19 => ("TallowHoursModel", "readEvening", "[I", true)
  | 20 => ("TallowHoursModel", "readCandle", "[I", true)
  | 21 => ("TallowHoursModel", "readGuest", "[I", true)
  | 22 => ("TallowHoursModel", "acts", "I", false)
  | 23 => ("TallowHoursModel", "nextAct", "I", false)
  | 24 => ("TallowHoursModel", "row", "[I", true)
  | 25 => ("TallowHoursModel", "bestPlan", "[I", true)
  | 26 => ("TallowHoursModel", "bestCost", "[I", true)
  | 27 => ("TallowHoursModel", "most", "[I", true)
  | 28 => ("TallowHoursModel", "seen", "I", false)
  | 29 => ("TallowHoursModel", "sights", "[I", true)
  | 30 => ("TallowHoursModel", "long1", "[I", true)
  | 31 => ("TallowHoursModel", "seed", "J", false)
  | 32 => ("TallowHoursModel", "isKept", "[Z", true)
  | _ => ("TallowHoursModel", "kept", "[I", true)
def tyX8 : Nat → FieldType := fun k => match k with
  | 0 => .int
  | 1 => .int
  | 2 => .int
  | 3 => .array .int
  | 4 => .array .int
  | 5 => .array .int
  | 6 => .array .int
  | 7 => .array .int
  | 8 => .array .int
  | 9 => .array .int
  | 10 => .array .int
  | 11 => .array .int
  | 12 => .array .int
  | 13 => .int
  | 14 => .int
  | 15 => .int
  | 16 => .int
  | 17 => .int
  | 18 => .int
  | 19 => .array .int
  | 20 => .array .int
  | 21 => .array .int
  | 22 => .int
  | 23 => .int
  | 24 => .array .int
  | 25 => .array .int
  | 26 => .array .int
  | 27 => .array .int
  | 28 => .int
  | 29 => .array .int
  | 30 => .array .int
  | 31 => .long
  | 32 => .array .boolean
  | _ => .array .int
abbrev wsX80 : List Cond := u_ws RX8 TX8 34
theorem nmX8 : ∀ a, a < 34 → ∀ b, b < 34 → a ≠ b → (TX8 a).2.1 ≠ (TX8 b).2.1 := by decide +kernel
theorem tyX8_ok : ∀ k, k < 34 → parseFieldDescriptor (TX8 k).2.2.1 = some (tyX8 k) := by decide +kernel
abbrev cX8_init : ByteArray := prog_10_method_1_code
def yX8_init : MethodName := ⟨RX8, "<init>", "()V"⟩
abbrev cX8_in : ByteArray := prog_10_method_3_code
def yX8_in : MethodName := ⟨RX8, "in", "(JJJ)Z"⟩
abbrev cX8_has : ByteArray := prog_10_method_4_code
def yX8_has : MethodName := ⟨RX8, "has", "(II)Z"⟩
abbrev cX8_write : ByteArray := prog_10_method_5_code
def yX8_write : MethodName := ⟨RX8, "write", "(I)I"⟩
abbrev cX8_wipe : ByteArray := prog_10_method_6_code
def yX8_wipe : MethodName := ⟨RX8, "wipe", "()I"⟩
abbrev cX8_figure : ByteArray := prog_10_method_7_code
def yX8_figure : MethodName := ⟨RX8, "figure", "(III)I"⟩
abbrev cX8_giftOf : ByteArray := prog_10_method_8_code
def yX8_giftOf : MethodName := ⟨RX8, "giftOf", "(I)I"⟩
abbrev cX8_readText : ByteArray := prog_10_method_9_code
def yX8_readText : MethodName := ⟨RX8, "readText", "()I"⟩
abbrev cX8_readPart : ByteArray := prog_10_method_10_code
def yX8_readPart : MethodName := ⟨RX8, "readPart", "(I)V"⟩
abbrev cX8_fault : ByteArray := prog_10_method_11_code
def yX8_fault : MethodName := ⟨RX8, "fault", "()I"⟩
abbrev cX8_party : ByteArray := prog_10_method_12_code
def yX8_party : MethodName := ⟨RX8, "party", "()I"⟩
abbrev cX8_moment : ByteArray := prog_10_method_13_code
def yX8_moment : MethodName := ⟨RX8, "moment", "(I)I"⟩
abbrev cX8_isCandle : ByteArray := prog_10_method_14_code
def yX8_isCandle : MethodName := ⟨RX8, "isCandle", "(I)Z"⟩
abbrev cX8_isGuest : ByteArray := prog_10_method_15_code
def yX8_isGuest : MethodName := ⟨RX8, "isGuest", "(I)Z"⟩
abbrev cX8_candle : ByteArray := prog_10_method_16_code
def yX8_candle : MethodName := ⟨RX8, "candle", "(II)I"⟩
abbrev cX8_isContent : ByteArray := prog_10_method_17_code
def yX8_isContent : MethodName := ⟨RX8, "isContent", "(II)Z"⟩
abbrev cX8_guest : ByteArray := prog_10_method_18_code
def yX8_guest : MethodName := ⟨RX8, "guest", "(II)I"⟩
abbrev cX8_pass : ByteArray := prog_10_method_19_code
def yX8_pass : MethodName := ⟨RX8, "pass", "(I)I"⟩
abbrev cX8_burning : ByteArray := prog_10_method_20_code
def yX8_burning : MethodName := ⟨RX8, "burning", "(I)I"⟩
abbrev cX8_lay : ByteArray := prog_10_method_21_code
def yX8_lay : MethodName := ⟨RX8, "lay", "(II)V"⟩
abbrev cX8_keepAct : ByteArray := prog_10_method_22_code
def yX8_keepAct : MethodName := ⟨RX8, "keepAct", "()V"⟩
abbrev cX8_light : ByteArray := prog_10_method_23_code
def yX8_light : MethodName := ⟨RX8, "light", "(I)I"⟩
abbrev cX8_out : ByteArray := prog_10_method_24_code
def yX8_out : MethodName := ⟨RX8, "out", "(I)I"⟩
abbrev cX8_trim : ByteArray := prog_10_method_25_code
def yX8_trim : MethodName := ⟨RX8, "trim", "(II)I"⟩
abbrev cX8_step : ByteArray := prog_10_method_26_code
def yX8_step : MethodName := ⟨RX8, "step", "()I"⟩
abbrev cX8_undo : ByteArray := prog_10_method_27_code
def yX8_undo : MethodName := ⟨RX8, "undo", "()I"⟩
abbrev cX8_power : ByteArray := prog_10_method_28_code
def yX8_power : MethodName := ⟨RX8, "power", "(II)I"⟩
abbrev cX8_figureOf : ByteArray := prog_10_method_29_code
def yX8_figureOf : MethodName := ⟨RX8, "figureOf", "(II)I"⟩
abbrev cX8_isPlan : ByteArray := prog_10_method_30_code
def yX8_isPlan : MethodName := ⟨RX8, "isPlan", "(I)Z"⟩
abbrev cX8_costOf : ByteArray := prog_10_method_31_code
def yX8_costOf : MethodName := ⟨RX8, "costOf", "(I)I"⟩
abbrev cX8_contentBy : ByteArray := prog_10_method_32_code
def yX8_contentBy : MethodName := ⟨RX8, "contentBy", "(I)I"⟩
abbrev cX8_layPlans : ByteArray := prog_10_method_33_code
def yX8_layPlans : MethodName := ⟨RX8, "layPlans", "()V"⟩
abbrev cX8_all : ByteArray := prog_10_method_34_code
def yX8_all : MethodName := ⟨RX8, "all", "()I"⟩
abbrev cX8_plan : ByteArray := prog_10_method_35_code
def yX8_plan : MethodName := ⟨RX8, "plan", "()I"⟩
abbrev cX8_planOf : ByteArray := prog_10_method_36_code
def yX8_planOf : MethodName := ⟨RX8, "planOf", "(I)I"⟩
abbrev cX8_bars : ByteArray := prog_10_method_37_code
def yX8_bars : MethodName := ⟨RX8, "bars", "()I"⟩
abbrev cX8_factorial : ByteArray := prog_10_method_38_code
def yX8_factorial : MethodName := ⟨RX8, "factorial", "(I)I"⟩
abbrev cX8_ones : ByteArray := prog_10_method_39_code
def yX8_ones : MethodName := ⟨RX8, "ones", "(I)I"⟩
abbrev cX8_common : ByteArray := prog_10_method_40_code
def yX8_common : MethodName := ⟨RX8, "common", "(II)I"⟩
abbrev cX8_share : ByteArray := prog_10_method_41_code
def yX8_share : MethodName := ⟨RX8, "share", "(IZ)I"⟩
abbrev cX8_gives : ByteArray := prog_10_method_42_code
def yX8_gives : MethodName := ⟨RX8, "gives", "(II)I"⟩
abbrev cX8_tableOf : ByteArray := prog_10_method_43_code
def yX8_tableOf : MethodName := ⟨RX8, "tableOf", "(II)I"⟩
abbrev cX8_table : ByteArray := prog_10_method_44_code
def yX8_table : MethodName := ⟨RX8, "table", "(II)I"⟩
abbrev cX8_pairs : ByteArray := prog_10_method_45_code
def yX8_pairs : MethodName := ⟨RX8, "pairs", "()I"⟩
abbrev cX8_judge : ByteArray := prog_10_method_46_code
def yX8_judge : MethodName := ⟨RX8, "judge", "(II)I"⟩
abbrev cX8_isSo : ByteArray := prog_10_method_47_code
def yX8_isSo : MethodName := ⟨RX8, "isSo", "(III)Z"⟩
abbrev cX8_stub : ByteArray := prog_10_method_48_code
def yX8_stub : MethodName := ⟨RX8, "stub", "(IIZ)I"⟩
abbrev cX8_see : ByteArray := prog_10_method_49_code
def yX8_see : MethodName := ⟨RX8, "see", "(I)I"⟩
abbrev cX8_unsee : ByteArray := prog_10_method_50_code
def yX8_unsee : MethodName := ⟨RX8, "unsee", "()I"⟩
abbrev cX8_fromOf : ByteArray := prog_10_method_51_code
def yX8_fromOf : MethodName := ⟨RX8, "fromOf", "(I)I"⟩
abbrev cX8_from : ByteArray := prog_10_method_52_code
def yX8_from : MethodName := ⟨RX8, "from", "(I)I"⟩
abbrev cX8_next : ByteArray := prog_10_method_53_code
def yX8_next : MethodName := ⟨RX8, "next", "(IIZ)I"⟩
abbrev cX8_cut : ByteArray := prog_10_method_54_code
def yX8_cut : MethodName := ⟨RX8, "cut", "(III)I"⟩
abbrev cX8_sum : ByteArray := prog_10_method_55_code
def yX8_sum : MethodName := ⟨RX8, "sum", "(III)I"⟩
abbrev cX8_draught : ByteArray := prog_10_method_56_code
def yX8_draught : MethodName := ⟨RX8, "draught", "(IIIZ)I"⟩
abbrev cX8_seed : ByteArray := prog_10_method_57_code
def yX8_seed : MethodName := ⟨RX8, "seed", "(J)J"⟩
abbrev cX8_night : ByteArray := prog_10_method_58_code
def yX8_night : MethodName := ⟨RX8, "night", "(I)I"⟩
abbrev cX8_keep : ByteArray := prog_10_method_59_code
def yX8_keep : MethodName := ⟨RX8, "keep", "(I)I"⟩
abbrev cX8_again : ByteArray := prog_10_method_60_code
def yX8_again : MethodName := ⟨RX8, "again", "(I)I"⟩
abbrev cX8_count : ByteArray := prog_10_method_61_code
def yX8_count : MethodName := ⟨RX8, "count", "(I)I"⟩
def RJ6 : String := "java/lang/Integer"
def TJ6 : u_T := fun k => match k with
  | _ => ("", "", "", false)
def tyJ6 : Nat → FieldType := fun k => match k with
  | _ => .int
abbrev wsJ60 : List Cond := u_ws RJ6 TJ6 0
theorem nmJ6 : ∀ a, a < 0 → ∀ b, b < 0 → a ≠ b → (TJ6 a).2.1 ≠ (TJ6 b).2.1 := by decide +kernel
theorem tyJ6_ok : ∀ k, k < 0 → parseFieldDescriptor (TJ6 k).2.2.1 = some (tyJ6 k) := by decide +kernel
abbrev cJ6_numberOfLeadingZeros_0f7a4 : ByteArray := prog_11_method_47_code
def yJ6_numberOfLeadingZeros_0f7a4 : MethodName := ⟨RJ6, "numberOfLeadingZeros", "(I)I"⟩
abbrev cJ6_numberOfTrailingZeros_0f7a4 : ByteArray := prog_11_method_48_code
def yJ6_numberOfTrailingZeros_0f7a4 : MethodName := ⟨RJ6, "numberOfTrailingZeros", "(I)I"⟩
abbrev cJ6_bitCount_0f7a4 : ByteArray := prog_11_method_49_code
def yJ6_bitCount_0f7a4 : MethodName := ⟨RJ6, "bitCount", "(I)I"⟩
def RJ13 : String := "java/lang/Long"
def TJ13 : u_T := fun k => match k with
  | _ => ("", "", "", false)
def tyJ13 : Nat → FieldType := fun k => match k with
  | _ => .int
abbrev wsJ130 : List Cond := u_ws RJ13 TJ13 0
theorem nmJ13 : ∀ a, a < 0 → ∀ b, b < 0 → a ≠ b → (TJ13 a).2.1 ≠ (TJ13 b).2.1 := by decide +kernel
theorem tyJ13_ok : ∀ k, k < 0 → parseFieldDescriptor (TJ13 k).2.2.1 = some (tyJ13 k) := by decide +kernel
abbrev cJ13_bitCount_95d88 : ByteArray := prog_12_method_50_code
def yJ13_bitCount_95d88 : MethodName := ⟨RJ13, "bitCount", "(J)I"⟩
def RJ9 : String := "java/lang/Math"
def TJ9 : u_T := fun k => match k with
  | _ => ("", "", "", false)
def tyJ9 : Nat → FieldType := fun k => match k with
  | _ => .int
abbrev wsJ90 : List Cond := u_ws RJ9 TJ9 0
theorem nmJ9 : ∀ a, a < 0 → ∀ b, b < 0 → a ≠ b → (TJ9 a).2.1 ≠ (TJ9 b).2.1 := by decide +kernel
theorem tyJ9_ok : ∀ k, k < 0 → parseFieldDescriptor (TJ9 k).2.2.1 = some (tyJ9 k) := by decide +kernel
abbrev cJ9_max_7cf53 : ByteArray := prog_13_method_65_code
def yJ9_max_7cf53 : MethodName := ⟨RJ9, "max", "(II)I"⟩
abbrev cJ9_min_7cf53 : ByteArray := prog_13_method_69_code
def yJ9_min_7cf53 : MethodName := ⟨RJ9, "min", "(II)I"⟩
def RJ10 : String := "java/lang/System"
def TJ10 : u_T := fun k => match k with
  | _ => ("", "", "", false)
def tyJ10 : Nat → FieldType := fun k => match k with
  | _ => .int
abbrev wsJ100 : List Cond := u_ws RJ10 TJ10 0
theorem nmJ10 : ∀ a, a < 0 → ∀ b, b < 0 → a ≠ b → (TJ10 a).2.1 ≠ (TJ10 b).2.1 := by decide +kernel
theorem tyJ10_ok : ∀ k, k < 0 → parseFieldDescriptor (TJ10 k).2.2.1 = some (tyJ10 k) := by decide +kernel
def RL : String := "TallowHoursLaw"
abbrev cL_law : ByteArray := code
def yL_law : MethodName := ⟨RL, "law", "([I)Z"⟩
def wsL_law_r1 : List Cond := [Cond.classLink RL 7 RX7, Cond.instantiable RX7 12, Cond.initialized RX7, Cond.classLink RL 10 RX8, Cond.instantiable RX8 34, Cond.initialized RX8, Cond.constantLong RL 124 (4294967295), Cond.methodLink RL 9 yX7_init, Cond.instanceMethod yX7_init, Cond.code yX7_init cX7_init 1 none, Cond.methodLink RX7 1 objectInit, Cond.instanceMethod objectInit, Cond.code objectInit ⟨#[0xb1]⟩ 1 none, Cond.classLink RX7 7 RX6, Cond.instantiable RX6 2, Cond.initialized RX6, Cond.fieldLink RX7 10 "TallowHours" "text" "LTallowHours$Text;", Cond.classLink RX7 16 RX2, Cond.instantiable RX2 6, Cond.initialized RX2, Cond.fieldLink RX7 19 "TallowHours" "now" "LTallowHours$Burning;", Cond.fieldLink RX7 23 "TallowHours" "trial" "LTallowHours$Burning;", Cond.classLink RX7 26 RX0, Cond.instantiable RX0 3]
def wsL_law_r2 : List Cond := [Cond.initialized RX0, Cond.fieldLink RX7 29 "TallowHours" "acts" "LTallowHours$Acts;", Cond.classLink RX7 33 RX4, Cond.instantiable RX4 12, Cond.initialized RX4, Cond.fieldLink RX7 36 "TallowHours" "planner" "LTallowHours$Planner;", Cond.classLink RX7 40 RX1, Cond.instantiable RX1 2, Cond.initialized RX1, Cond.fieldLink RX7 43 "TallowHours" "box" "LTallowHours$Box;", Cond.classLink RX7 47 RX5, Cond.instantiable RX5 1, Cond.initialized RX5, Cond.fieldLink RX7 50 "TallowHours" "saw" "LTallowHours$Saw;", Cond.arrayClass .int, Cond.fieldLink RX7 54 "TallowHours" "slotCells" "[I", Cond.arrayClass .boolean, Cond.fieldLink RX7 58 "TallowHours" "slotFilled" "[Z", Cond.classLink RX7 62 RX3, Cond.instantiable RX3 11, Cond.initialized RX3, Cond.fieldLink RX7 65 "TallowHours" "told" "LTallowHours$Party;", Cond.fieldLink RX7 69 "TallowHours" "draft" "LTallowHours$Party;", Cond.fieldLink RX7 72 "TallowHours" "seedNow" "J"]
def wsL_law_r3 : List Cond := [Cond.methodLink RX7 9 yX6_init, Cond.instanceMethod yX6_init, Cond.code yX6_init cX6_init 1 none, Cond.methodLink RX6 3 objectInit, Cond.fieldLink RX6 9 "TallowHours$Text" "letters" "[I", Cond.fieldLink RX6 15 "TallowHours$Text" "length" "I", Cond.methodLink RX7 18 yX2_init, Cond.instanceMethod yX2_init, Cond.code yX2_init cX2_init 1 none, Cond.methodLink RX2 3 objectInit, Cond.fieldLink RX2 9 "TallowHours$Burning" "place" "[I", Cond.fieldLink RX2 15 "TallowHours$Burning" "left" "[I", Cond.fieldLink RX2 18 "TallowHours$Burning" "flame" "[I", Cond.fieldLink RX2 21 "TallowHours$Burning" "had" "[I", Cond.fieldLink RX2 24 "TallowHours$Burning" "cost" "I", Cond.fieldLink RX2 28 "TallowHours$Burning" "steps" "I", Cond.methodLink RX7 28 yX0_init, Cond.instanceMethod yX0_init, Cond.code yX0_init cX0_init 1 none, Cond.methodLink RX0 3 objectInit, Cond.fieldLink RX0 11 "TallowHours$Acts" "cells" "[I", Cond.fieldLink RX0 17 "TallowHours$Acts" "first" "I", Cond.fieldLink RX0 21 "TallowHours$Acts" "size" "I", Cond.methodLink RX7 35 yX4_init]
def wsL_law_r4 : List Cond := [Cond.instanceMethod yX4_init, Cond.code yX4_init cX4_init 1 none, Cond.methodLink RX4 3 objectInit, Cond.arrayClass .long, Cond.fieldLink RX4 11 "TallowHours$Planner" "gives" "[J", Cond.fieldLink RX4 15 "TallowHours$Planner" "price" "[I", Cond.fieldLink RX4 19 "TallowHours$Planner" "lastFigure" "[I", Cond.fieldLink RX4 22 "TallowHours$Planner" "takes" "[J", Cond.fieldLink RX4 25 "TallowHours$Planner" "lacks" "[I", Cond.fieldLink RX4 28 "TallowHours$Planner" "figures" "[I", Cond.fieldLink RX4 31 "TallowHours$Planner" "chosen" "[I", Cond.fieldLink RX4 34 "TallowHours$Planner" "cheapest" "[I", Cond.fieldLink RX4 37 "TallowHours$Planner" "guests" "I", Cond.fieldLink RX4 41 "TallowHours$Planner" "all" "I", Cond.fieldLink RX4 44 "TallowHours$Planner" "reached" "I", Cond.fieldLink RX4 47 "TallowHours$Planner" "fresh" "Z", Cond.methodLink RX7 42 yX1_init, Cond.instanceMethod yX1_init, Cond.code yX1_init cX1_init 1 none, Cond.methodLink RX1 3 objectInit, Cond.fieldLink RX1 9 "TallowHours$Box" "seen" "[I", Cond.fieldLink RX1 15 "TallowHours$Box" "size" "I", Cond.methodLink RX7 49 yX5_init, Cond.instanceMethod yX5_init]
def wsL_law_r5 : List Cond := [Cond.code yX5_init cX5_init 1 none, Cond.methodLink RX5 3 objectInit, Cond.fieldLink RX5 9 "TallowHours$Saw" "least" "[I", Cond.methodLink RX7 64 yX3_init, Cond.instanceMethod yX3_init, Cond.code yX3_init cX3_init 1 none, Cond.methodLink RX3 3 objectInit, Cond.fieldLink RX3 9 "TallowHours$Party" "evening" "[I", Cond.fieldLink RX3 15 "TallowHours$Party" "start" "[I", Cond.fieldLink RX3 18 "TallowHours$Party" "inches" "[I", Cond.fieldLink RX3 21 "TallowHours$Party" "price" "[I", Cond.fieldLink RX3 24 "TallowHours$Party" "wish" "[I", Cond.fieldLink RX3 27 "TallowHours$Party" "wanted" "[I", Cond.fieldLink RX3 30 "TallowHours$Party" "comes" "[I", Cond.fieldLink RX3 33 "TallowHours$Party" "goes" "[I", Cond.fieldLink RX3 36 "TallowHours$Party" "moments" "I", Cond.fieldLink RX3 40 "TallowHours$Party" "candles" "I", Cond.fieldLink RX3 43 "TallowHours$Party" "guests" "I", Cond.methodLink RL 12 yX8_init, Cond.instanceMethod yX8_init, Cond.code yX8_init cX8_init 1 none, Cond.methodLink RX8 1 objectInit, Cond.fieldLink RX8 7 "TallowHoursModel" "evening" "[I", Cond.fieldLink RX8 13 "TallowHoursModel" "first" "[I"]
def wsL_law_r6 : List Cond := [Cond.fieldLink RX8 16 "TallowHoursModel" "inches" "[I", Cond.fieldLink RX8 19 "TallowHoursModel" "price" "[I", Cond.fieldLink RX8 22 "TallowHoursModel" "wants" "[I", Cond.fieldLink RX8 25 "TallowHoursModel" "needs" "[I", Cond.fieldLink RX8 28 "TallowHoursModel" "comes" "[I", Cond.fieldLink RX8 31 "TallowHoursModel" "goes" "[I", Cond.fieldLink RX8 34 "TallowHoursModel" "now" "[I", Cond.fieldLink RX8 37 "TallowHoursModel" "text" "[I", Cond.fieldLink RX8 40 "TallowHoursModel" "readEvening" "[I", Cond.fieldLink RX8 43 "TallowHoursModel" "readCandle" "[I", Cond.fieldLink RX8 46 "TallowHoursModel" "readGuest" "[I", Cond.fieldLink RX8 49 "TallowHoursModel" "row" "[I", Cond.fieldLink RX8 52 "TallowHoursModel" "bestPlan" "[I", Cond.fieldLink RX8 55 "TallowHoursModel" "bestCost" "[I", Cond.fieldLink RX8 58 "TallowHoursModel" "most" "[I", Cond.fieldLink RX8 61 "TallowHoursModel" "sights" "[I", Cond.fieldLink RX8 64 "TallowHoursModel" "long1" "[I", Cond.fieldLink RX8 67 "TallowHoursModel" "isKept" "[Z", Cond.fieldLink RX8 71 "TallowHoursModel" "kept" "[I", Cond.fieldLink RX8 74 "TallowHoursModel" "moments" "I", Cond.methodLink RL 13 yX7_write, Cond.instanceMethod yX7_write, Cond.selects RX7 yX7_write yX7_write, Cond.code yX7_write cX7_write 2 (some .int)]
def wsL_law_r7 : List Cond := [Cond.methodLink RX7 76 yX6_append, Cond.instanceMethod yX6_append, Cond.selects RX6 yX6_append yX6_append, Cond.code yX6_append cX6_append 2 (some .int), Cond.methodLink RL 17 yX8_write, Cond.instanceMethod yX8_write, Cond.selects RX8 yX8_write yX8_write, Cond.code yX8_write cX8_write 2 (some .int), Cond.constantLong RX8 78 (255), Cond.fieldLink RX8 84 "TallowHoursModel" "length" "I", Cond.methodLink RX8 80 yX8_in, Cond.static yX8_in, Cond.code yX8_in cX8_in 6 (some .boolean), Cond.methodLink RL 18 yX7_wipe, Cond.instanceMethod yX7_wipe, Cond.selects RX7 yX7_wipe yX7_wipe, Cond.code yX7_wipe cX7_wipe 1 (some .int), Cond.methodLink RX7 80 yX6_clear, Cond.instanceMethod yX6_clear, Cond.selects RX6 yX6_clear yX6_clear, Cond.code yX6_clear cX6_clear 2 (some .int), Cond.methodLink RL 22 yX8_wipe, Cond.instanceMethod yX8_wipe, Cond.selects RX8 yX8_wipe yX8_wipe]
def wsL_law_r8 : List Cond := [Cond.code yX8_wipe cX8_wipe 2 (some .int), Cond.methodLink RL 23 yX7_fault, Cond.instanceMethod yX7_fault, Cond.selects RX7 yX7_fault yX7_fault, Cond.code yX7_fault cX7_fault 1 (some .int), Cond.methodLink RX7 84 yX6_readInto, Cond.instanceMethod yX6_readInto, Cond.selects RX6 yX6_readInto yX6_readInto, Cond.code yX6_readInto cX6_readInto 4 (some .int), Cond.fieldLink RX6 31 "TallowHours$Party" "moments" "I", Cond.fieldLink RX6 34 "TallowHours$Party" "evening" "[I", Cond.methodLink RX6 19 yX3_clear, Cond.instanceMethod yX3_clear, Cond.selects RX3 yX3_clear yX3_clear, Cond.code yX3_clear cX3_clear 1 none, Cond.methodLink RX6 24 yX6_letterAt, Cond.instanceMethod yX6_letterAt, Cond.selects RX6 yX6_letterAt yX6_letterAt, Cond.code yX6_letterAt cX6_letterAt 2 (some .int), Cond.methodLink RX6 28 yX6_momentAt, Cond.instanceMethod yX6_momentAt, Cond.selects RX6 yX6_momentAt yX6_momentAt, Cond.code yX6_momentAt cX6_momentAt 3 (some .int), Cond.methodLink RX6 37 yX6_readPart]
def wsL_law_r9 : List Cond := [Cond.instanceMethod yX6_readPart, Cond.selects RX6 yX6_readPart yX6_readPart, Cond.code yX6_readPart cX6_readPart 4 (some .int), Cond.fieldLink RX6 41 "TallowHours$Party" "candles" "I", Cond.fieldLink RX6 47 "TallowHours$Party" "guests" "I", Cond.methodLink RX6 44 yX6_readCandle, Cond.instanceMethod yX6_readCandle, Cond.selects RX6 yX6_readCandle yX6_readCandle, Cond.code yX6_readCandle cX6_readCandle 9 (some .int), Cond.methodLink RX6 57 Lib.Math.min.name, Cond.static Lib.Math.min.name, Cond.initialized "java/lang/Math", Cond.code Lib.Math.min.name Lib.Math.min.code 2 (some .int), Cond.fieldLink RX6 63 "TallowHours$Party" "start" "[I", Cond.fieldLink RX6 66 "TallowHours$Party" "inches" "[I", Cond.fieldLink RX6 69 "TallowHours$Party" "price" "[I", Cond.methodLink RX6 53 yX6_figureAt, Cond.instanceMethod yX6_figureAt, Cond.selects RX6 yX6_figureAt yX6_figureAt, Cond.code yX6_figureAt cX6_figureAt 6 (some .int), Cond.methodLink RX6 50 yX6_readGuest, Cond.instanceMethod yX6_readGuest, Cond.selects RX6 yX6_readGuest yX6_readGuest, Cond.code yX6_readGuest cX6_readGuest 7 (some .int)]
def wsL_law_r10 : List Cond := [Cond.fieldLink RX6 72 "TallowHours$Party" "wish" "[I", Cond.fieldLink RX6 75 "TallowHours$Party" "wanted" "[I", Cond.fieldLink RX6 78 "TallowHours$Party" "comes" "[I", Cond.fieldLink RX6 81 "TallowHours$Party" "goes" "[I", Cond.methodLink RL 26 yX8_fault, Cond.instanceMethod yX8_fault, Cond.selects RX8 yX8_fault yX8_fault, Cond.code yX8_fault cX8_fault 1 (some .int), Cond.methodLink RX8 118 yX8_readText, Cond.instanceMethod yX8_readText, Cond.selects RX8 yX8_readText yX8_readText, Cond.code yX8_readText cX8_readText 1 (some .int), Cond.fieldLink RX8 90 "TallowHoursModel" "at" "I", Cond.fieldLink RX8 87 "TallowHoursModel" "faultAt" "I", Cond.fieldLink RX8 97 "TallowHoursModel" "readMoments" "I", Cond.fieldLink RX8 100 "TallowHoursModel" "readCandles" "I", Cond.fieldLink RX8 103 "TallowHoursModel" "readGuests" "I", Cond.methodLink RX8 106 yX8_giftOf, Cond.static yX8_giftOf, Cond.code yX8_giftOf cX8_giftOf 1 (some .int), Cond.constantLong RX8 93 (97), Cond.constantLong RX8 95 (100), Cond.methodLink RX8 110 yX8_readPart, Cond.instanceMethod yX8_readPart]
def wsL_law_r11 : List Cond := [Cond.selects RX8 yX8_readPart yX8_readPart, Cond.code yX8_readPart cX8_readPart 6 none, Cond.methodLink RX8 114 yX8_figure, Cond.instanceMethod yX8_figure, Cond.selects RX8 yX8_figure yX8_figure, Cond.code yX8_figure cX8_figure 5 (some .int), Cond.methodLink RL 27 yX7_party, Cond.instanceMethod yX7_party, Cond.selects RX7 yX7_party yX7_party, Cond.code yX7_party cX7_party 3 (some .int), Cond.fieldLink RX7 94 "TallowHours$Planner" "fresh" "Z", Cond.fieldLink RX7 98 "TallowHours$Party" "candles" "I", Cond.fieldLink RX7 102 "TallowHours$Party" "guests" "I", Cond.methodLink RX7 88 yX2_begin, Cond.instanceMethod yX2_begin, Cond.selects RX2 yX2_begin yX2_begin, Cond.code yX2_begin cX2_begin 3 none, Cond.fieldLink RX2 31 "TallowHours$Party" "start" "[I", Cond.fieldLink RX2 36 "TallowHours$Party" "inches" "[I", Cond.methodLink RX7 92 yX0_clear, Cond.instanceMethod yX0_clear, Cond.selects RX0 yX0_clear yX0_clear, Cond.code yX0_clear cX0_clear 1 none, Cond.methodLink RL 30 yX8_party]
def wsL_law_r12 : List Cond := [Cond.instanceMethod yX8_party, Cond.selects RX8 yX8_party yX8_party, Cond.code yX8_party cX8_party 2 (some .int), Cond.fieldLink RX8 122 "TallowHoursModel" "candles" "I", Cond.fieldLink RX8 125 "TallowHoursModel" "guests" "I", Cond.fieldLink RX8 128 "TallowHoursModel" "acts" "I", Cond.methodLink RL 31 yX7_moment, Cond.instanceMethod yX7_moment, Cond.selects RX7 yX7_moment yX7_moment, Cond.code yX7_moment cX7_moment 2 (some .int), Cond.fieldLink RX7 105 "TallowHours$Party" "moments" "I", Cond.methodLink RX7 108 yX3_giftAt, Cond.instanceMethod yX3_giftAt, Cond.selects RX3 yX3_giftAt yX3_giftAt, Cond.code yX3_giftAt cX3_giftAt 2 (some .int), Cond.methodLink RL 34 yX8_moment, Cond.instanceMethod yX8_moment, Cond.selects RX8 yX8_moment yX8_moment, Cond.code yX8_moment cX8_moment 2 (some .int), Cond.methodLink RL 35 yX7_candle, Cond.instanceMethod yX7_candle, Cond.selects RX7 yX7_candle yX7_candle, Cond.code yX7_candle cX7_candle 3 (some .int), Cond.fieldLink RX7 115 "TallowHours$Burning" "left" "[I"]
def wsL_law_r13 : List Cond := [Cond.fieldLink RX7 118 "TallowHours$Burning" "place" "[I", Cond.fieldLink RX7 121 "TallowHours$Party" "price" "[I", Cond.fieldLink RX7 124 "TallowHours$Burning" "flame" "[I", Cond.methodLink RX7 111 yX3_hasCandle, Cond.instanceMethod yX3_hasCandle, Cond.selects RX3 yX3_hasCandle yX3_hasCandle, Cond.code yX3_hasCandle cX3_hasCandle 2 (some .boolean), Cond.methodLink RL 39 yX8_candle, Cond.instanceMethod yX8_candle, Cond.selects RX8 yX8_candle yX8_candle, Cond.code yX8_candle cX8_candle 3 (some .int), Cond.methodLink RX8 131 yX8_isCandle, Cond.instanceMethod yX8_isCandle, Cond.selects RX8 yX8_isCandle yX8_isCandle, Cond.code yX8_isCandle cX8_isCandle 2 (some .boolean), Cond.methodLink RL 40 yX7_guest, Cond.instanceMethod yX7_guest, Cond.selects RX7 yX7_guest yX7_guest, Cond.code yX7_guest cX7_guest 3 (some .int), Cond.fieldLink RX7 130 "TallowHours$Party" "wish" "[I", Cond.fieldLink RX7 133 "TallowHours$Party" "wanted" "[I", Cond.fieldLink RX7 136 "TallowHours$Party" "comes" "[I", Cond.fieldLink RX7 139 "TallowHours$Party" "goes" "[I", Cond.fieldLink RX7 142 "TallowHours$Burning" "had" "[I"]
def wsL_law_r14 : List Cond := [Cond.methodLink RX7 127 yX3_hasGuest, Cond.instanceMethod yX3_hasGuest, Cond.selects RX3 yX3_hasGuest yX3_hasGuest, Cond.code yX3_hasGuest cX3_hasGuest 2 (some .boolean), Cond.methodLink RX7 145 yX2_isContent, Cond.instanceMethod yX2_isContent, Cond.selects RX2 yX2_isContent yX2_isContent, Cond.code yX2_isContent cX2_isContent 3 (some .boolean), Cond.fieldLink RX2 76 "TallowHours$Party" "wanted" "[I", Cond.methodLink RX2 73 yX3_hasGuest, Cond.methodLink RL 43 yX8_guest, Cond.instanceMethod yX8_guest, Cond.selects RX8 yX8_guest yX8_guest, Cond.code yX8_guest cX8_guest 3 (some .int), Cond.methodLink RX8 135 yX8_isGuest, Cond.instanceMethod yX8_isGuest, Cond.selects RX8 yX8_isGuest yX8_isGuest, Cond.code yX8_isGuest cX8_isGuest 2 (some .boolean), Cond.methodLink RX8 138 yX8_isContent, Cond.instanceMethod yX8_isContent, Cond.selects RX8 yX8_isContent yX8_isContent, Cond.code yX8_isContent cX8_isContent 3 (some .boolean), Cond.methodLink RL 44 yX7_light, Cond.instanceMethod yX7_light]
def wsL_law_r15 : List Cond := [Cond.selects RX7 yX7_light yX7_light, Cond.code yX7_light cX7_light 2 (some .int), Cond.methodLink RX7 149 yX7_rememberAct, Cond.instanceMethod yX7_rememberAct, Cond.selects RX7 yX7_rememberAct yX7_rememberAct, Cond.code yX7_rememberAct cX7_rememberAct 1 none, Cond.methodLink RX7 174 yX0_add, Cond.instanceMethod yX0_add, Cond.selects RX0 yX0_add yX0_add, Cond.code yX0_add cX0_add 2 none, Cond.methodLink RX0 24 yX2_saveTo, Cond.instanceMethod yX2_saveTo, Cond.selects RX2 yX2_saveTo yX2_saveTo, Cond.code yX2_saveTo cX2_saveTo 4 none, Cond.methodLink RX7 152 yX2_withFlame, Cond.instanceMethod yX2_withFlame, Cond.selects RX2 yX2_withFlame yX2_withFlame, Cond.code yX2_withFlame cX2_withFlame 5 (some .int), Cond.fieldLink RX2 43 "TallowHours$Party" "candles" "I", Cond.methodLink RX7 156 yJ6_bitCount_0f7a4, Cond.static yJ6_bitCount_0f7a4, Cond.initialized RJ6, Cond.code yJ6_bitCount_0f7a4 cJ6_bitCount_0f7a4 1 (some .int), Cond.constant RJ6 265 (1431655765)]
def wsL_law_r16 : List Cond := [Cond.constant RJ6 266 (858993459), Cond.constant RJ6 267 (252645135), Cond.methodLink RL 47 yX8_light, Cond.instanceMethod yX8_light, Cond.selects RX8 yX8_light yX8_light, Cond.code yX8_light cX8_light 2 (some .int), Cond.methodLink RX8 148 yX8_keepAct, Cond.instanceMethod yX8_keepAct, Cond.selects RX8 yX8_keepAct yX8_keepAct, Cond.code yX8_keepAct cX8_keepAct 2 none, Cond.fieldLink RX8 145 "TallowHoursModel" "nextAct" "I", Cond.methodLink RX8 151 yX8_burning, Cond.instanceMethod yX8_burning, Cond.selects RX8 yX8_burning yX8_burning, Cond.code yX8_burning cX8_burning 4 (some .int), Cond.methodLink RL 48 yX7_out, Cond.instanceMethod yX7_out, Cond.selects RX7 yX7_out yX7_out, Cond.code yX7_out cX7_out 2 (some .int), Cond.methodLink RL 51 yX8_out, Cond.instanceMethod yX8_out, Cond.selects RX8 yX8_out yX8_out, Cond.code yX8_out cX8_out 2 (some .int), Cond.methodLink RL 52 yX7_trim]
def wsL_law_r17 : List Cond := [Cond.instanceMethod yX7_trim, Cond.selects RX7 yX7_trim yX7_trim, Cond.code yX7_trim cX7_trim 3 (some .int), Cond.methodLink RL 55 yX8_trim, Cond.instanceMethod yX8_trim, Cond.selects RX8 yX8_trim yX8_trim, Cond.code yX8_trim cX8_trim 3 (some .int), Cond.constantLong RX8 154 (5), Cond.methodLink RL 56 yX7_step, Cond.instanceMethod yX7_step, Cond.selects RX7 yX7_step yX7_step, Cond.code yX7_step cX7_step 1 (some .int), Cond.fieldLink RX7 161 "TallowHours$Burning" "steps" "I", Cond.methodLink RX7 164 yX2_goBy, Cond.instanceMethod yX2_goBy, Cond.selects RX2 yX2_goBy yX2_goBy, Cond.code yX2_goBy cX2_goBy 6 (some .int), Cond.fieldLink RX2 54 "TallowHours$Party" "guests" "I", Cond.fieldLink RX2 57 "TallowHours$Party" "comes" "[I", Cond.fieldLink RX2 60 "TallowHours$Party" "goes" "[I", Cond.fieldLink RX2 63 "TallowHours$Party" "wish" "[I", Cond.methodLink RX2 46 yX2_giftBit, Cond.instanceMethod yX2_giftBit, Cond.selects RX2 yX2_giftBit yX2_giftBit]
def wsL_law_r18 : List Cond := [Cond.code yX2_giftBit cX2_giftBit 5 (some .int), Cond.methodLink RX2 39 yX3_hasCandle, Cond.methodLink RX2 69 yX3_giftAt, Cond.methodLink RX2 50 yX2_burnInch, Cond.instanceMethod yX2_burnInch, Cond.selects RX2 yX2_burnInch yX2_burnInch, Cond.code yX2_burnInch cX2_burnInch 3 none, Cond.fieldLink RX2 66 "TallowHours$Party" "price" "[I", Cond.methodLink RL 59 yX8_step, Cond.instanceMethod yX8_step, Cond.selects RX8 yX8_step yX8_step, Cond.code yX8_step cX8_step 1 (some .int), Cond.methodLink RX8 156 yX8_pass, Cond.instanceMethod yX8_pass, Cond.selects RX8 yX8_pass yX8_pass, Cond.code yX8_pass cX8_pass 7 (some .int), Cond.methodLink RX8 142 yX8_has, Cond.static yX8_has, Cond.code yX8_has cX8_has 2 (some .boolean), Cond.methodLink RL 60 yX7_undo, Cond.instanceMethod yX7_undo, Cond.selects RX7 yX7_undo yX7_undo, Cond.code yX7_undo cX7_undo 1 (some .int), Cond.fieldLink RX7 167 "TallowHours$Acts" "size" "I"]
def wsL_law_r19 : List Cond := [Cond.methodLink RX7 170 yX0_takeBack, Cond.instanceMethod yX0_takeBack, Cond.selects RX0 yX0_takeBack yX0_takeBack, Cond.code yX0_takeBack cX0_takeBack 2 none, Cond.methodLink RX0 28 yX2_loadFrom, Cond.instanceMethod yX2_loadFrom, Cond.selects RX2 yX2_loadFrom yX2_loadFrom, Cond.code yX2_loadFrom cX2_loadFrom 4 none, Cond.methodLink RL 63 yX8_undo, Cond.instanceMethod yX8_undo, Cond.selects RX8 yX8_undo yX8_undo, Cond.code yX8_undo cX8_undo 2 (some .int), Cond.methodLink RL 64 yX7_plan, Cond.instanceMethod yX7_plan, Cond.selects RX7 yX7_plan yX7_plan, Cond.code yX7_plan cX7_plan 1 (some .int), Cond.methodLink RX7 177 yX4_work, Cond.instanceMethod yX4_work, Cond.selects RX4 yX4_work yX4_work, Cond.code yX4_work cX4_work 6 none, Cond.fieldLink RX4 51 "TallowHours$Party" "guests" "I", Cond.constant RX4 54 (1000000), Cond.methodLink RX4 55 yX4_layGuest, Cond.instanceMethod yX4_layGuest]
def wsL_law_r20 : List Cond := [Cond.selects RX4 yX4_layGuest yX4_layGuest, Cond.code yX4_layGuest cX4_layGuest 8 none, Cond.fieldLink RX4 70 "TallowHours$Burning" "steps" "I", Cond.fieldLink RX4 75 "TallowHours$Party" "comes" "[I", Cond.fieldLink RX4 78 "TallowHours$Party" "goes" "[I", Cond.fieldLink RX4 81 "TallowHours$Party" "wish" "[I", Cond.fieldLink RX4 84 "TallowHours$Party" "wanted" "[I", Cond.fieldLink RX4 87 "TallowHours$Burning" "had" "[I", Cond.methodLink RX4 59 yX4_layCandle, Cond.instanceMethod yX4_layCandle, Cond.selects RX4 yX4_layCandle yX4_layCandle, Cond.code yX4_layCandle cX4_layCandle 10 (some .long), Cond.fieldLink RX4 94 "TallowHours$Burning" "flame" "[I", Cond.fieldLink RX4 107 "TallowHours$Party" "price" "[I", Cond.fieldLink RX4 108 "TallowHours$Burning" "left" "[I", Cond.methodLink RX4 90 yX3_hasCandle, Cond.methodLink RX4 97 yX2_giftBit, Cond.methodLink RX4 101 yJ6_numberOfTrailingZeros_0f7a4, Cond.static yJ6_numberOfTrailingZeros_0f7a4, Cond.code yJ6_numberOfTrailingZeros_0f7a4 cJ6_numberOfTrailingZeros_0f7a4 2 (some .int), Cond.constant RJ6 264 (65536), Cond.methodLink RX4 63 yX4_tryCandle, Cond.instanceMethod yX4_tryCandle, Cond.selects RX4 yX4_tryCandle yX4_tryCandle]
def wsL_law_r21 : List Cond := [Cond.code yX4_tryCandle cX4_tryCandle 7 none, Cond.methodLink RX4 111 yX4_weigh, Cond.instanceMethod yX4_weigh, Cond.selects RX4 yX4_weigh yX4_weigh, Cond.code yX4_weigh cX4_weigh 6 none, Cond.methodLink RX4 121 arraycopyName, Cond.native arraycopyName, Cond.static arraycopyName, Cond.initialized "java/lang/System", Cond.methodLink RX4 115 yJ13_bitCount_95d88, Cond.static yJ13_bitCount_95d88, Cond.initialized RJ13, Cond.code yJ13_bitCount_95d88 cJ13_bitCount_95d88 2 (some .int), Cond.constantLong RJ13 314 (6148914691236517205), Cond.constantLong RJ13 316 (3689348814741910323), Cond.constantLong RJ13 318 (1085102592571150095), Cond.methodLink RX4 67 yX4_spreadToFewerGuests, Cond.instanceMethod yX4_spreadToFewerGuests, Cond.selects RX4 yX4_spreadToFewerGuests yX4_spreadToFewerGuests, Cond.code yX4_spreadToFewerGuests cX4_spreadToFewerGuests 3 none, Cond.methodLink RX4 127 Lib.Math.min.name, Cond.methodLink RX7 181 yX4_costForAll, Cond.instanceMethod yX4_costForAll, Cond.selects RX4 yX4_costForAll yX4_costForAll]
def wsL_law_r22 : List Cond := [Cond.code yX4_costForAll cX4_costForAll 1 (some .int), Cond.methodLink RL 67 yX8_plan, Cond.instanceMethod yX8_plan, Cond.selects RX8 yX8_plan yX8_plan, Cond.code yX8_plan cX8_plan 1 (some .int), Cond.methodLink RX8 179 yX8_layPlans, Cond.instanceMethod yX8_layPlans, Cond.selects RX8 yX8_layPlans yX8_layPlans, Cond.code yX8_layPlans cX8_layPlans 6 none, Cond.methodLink RX8 170 yX8_isPlan, Cond.instanceMethod yX8_isPlan, Cond.selects RX8 yX8_isPlan yX8_isPlan, Cond.code yX8_isPlan cX8_isPlan 4 (some .boolean), Cond.methodLink RX8 163 yX8_figureOf, Cond.static yX8_figureOf, Cond.code yX8_figureOf cX8_figureOf 2 (some .int), Cond.methodLink RX8 159 yX8_power, Cond.static yX8_power, Cond.code yX8_power cX8_power 4 (some .int), Cond.methodLink RX8 173 yX8_contentBy, Cond.instanceMethod yX8_contentBy, Cond.selects RX8 yX8_contentBy yX8_contentBy, Cond.code yX8_contentBy cX8_contentBy 6 (some .int), Cond.methodLink RX8 166 yX8_lay]
def wsL_law_r23 : List Cond := [Cond.instanceMethod yX8_lay, Cond.selects RX8 yX8_lay yX8_lay, Cond.code yX8_lay cX8_lay 4 none, Cond.methodLink RX8 176 yX8_costOf, Cond.instanceMethod yX8_costOf, Cond.selects RX8 yX8_costOf yX8_costOf, Cond.code yX8_costOf cX8_costOf 4 (some .int), Cond.methodLink RX8 182 yX8_all, Cond.instanceMethod yX8_all, Cond.selects RX8 yX8_all yX8_all, Cond.code yX8_all cX8_all 1 (some .int), Cond.methodLink RL 68 yX7_planOf, Cond.instanceMethod yX7_planOf, Cond.selects RX7 yX7_planOf yX7_planOf, Cond.code yX7_planOf cX7_planOf 2 (some .int), Cond.fieldLink RX7 184 "TallowHours$Planner" "chosen" "[I", Cond.methodLink RL 71 yX8_planOf, Cond.instanceMethod yX8_planOf, Cond.selects RX8 yX8_planOf yX8_planOf, Cond.code yX8_planOf cX8_planOf 2 (some .int), Cond.methodLink RL 72 yX7_bars, Cond.instanceMethod yX7_bars, Cond.selects RX7 yX7_bars yX7_bars, Cond.code yX7_bars cX7_bars 2 (some .int)]
def wsL_law_r24 : List Cond := [Cond.fieldLink RX7 187 "TallowHours$Planner" "reached" "I", Cond.methodLink RL 75 yX8_bars, Cond.instanceMethod yX8_bars, Cond.selects RX8 yX8_bars yX8_bars, Cond.code yX8_bars cX8_bars 2 (some .int), Cond.methodLink RL 76 yX7_share, Cond.instanceMethod yX7_share, Cond.selects RX7 yX7_share yX7_share, Cond.code yX7_share cX7_share 3 (some .int), Cond.fieldLink RX7 193 "TallowHours" "FACTORIALS" "[I", Cond.methodLink RX7 190 yX4_sharesOf, Cond.instanceMethod yX4_sharesOf, Cond.selects RX4 yX4_sharesOf yX4_sharesOf, Cond.code yX4_sharesOf cX4_sharesOf 6 (some .int), Cond.methodLink RX4 133 yJ6_bitCount_0f7a4, Cond.methodLink RX7 196 yX7_fraction, Cond.static yX7_fraction, Cond.code yX7_fraction cX7_fraction 7 (some .int), Cond.methodLink RL 80 yX8_share, Cond.instanceMethod yX8_share, Cond.selects RX8 yX8_share yX8_share, Cond.code yX8_share cX8_share 5 (some .int), Cond.methodLink RX8 185 yX8_ones, Cond.static yX8_ones]
def wsL_law_r25 : List Cond := [Cond.code yX8_ones cX8_ones 1 (some .int), Cond.methodLink RX8 188 yX8_factorial, Cond.static yX8_factorial, Cond.code yX8_factorial cX8_factorial 3 (some .int), Cond.methodLink RX8 191 yX8_common, Cond.static yX8_common, Cond.code yX8_common cX8_common 5 (some .int), Cond.methodLink RL 81 yX7_table, Cond.instanceMethod yX7_table, Cond.selects RX7 yX7_table yX7_table, Cond.code yX7_table cX7_table 3 (some .int), Cond.methodLink RX7 200 yX7_giftsTogether, Cond.instanceMethod yX7_giftsTogether, Cond.selects RX7 yX7_giftsTogether yX7_giftsTogether, Cond.code yX7_giftsTogether cX7_giftsTogether 5 (some .int), Cond.methodLink RX7 234 yX2_giftBit, Cond.methodLink RL 84 yX8_table, Cond.instanceMethod yX8_table, Cond.selects RX8 yX8_table yX8_table, Cond.code yX8_table cX8_table 3 (some .int), Cond.methodLink RX8 197 yX8_tableOf, Cond.instanceMethod yX8_tableOf, Cond.selects RX8 yX8_tableOf yX8_tableOf, Cond.code yX8_tableOf cX8_tableOf 5 (some .int)]
def wsL_law_r26 : List Cond := [Cond.methodLink RX8 194 yX8_gives, Cond.instanceMethod yX8_gives, Cond.selects RX8 yX8_gives yX8_gives, Cond.code yX8_gives cX8_gives 3 (some .int), Cond.methodLink RL 85 yX7_pairs, Cond.instanceMethod yX7_pairs, Cond.selects RX7 yX7_pairs yX7_pairs, Cond.code yX7_pairs cX7_pairs 2 (some .int), Cond.methodLink RX7 204 yX7_mostOfPairs, Cond.instanceMethod yX7_mostOfPairs, Cond.selects RX7 yX7_mostOfPairs yX7_mostOfPairs, Cond.code yX7_mostOfPairs cX7_mostOfPairs 8 (some .int), Cond.methodLink RX7 229 Lib.Math.max.name, Cond.static Lib.Math.max.name, Cond.code Lib.Math.max.name Lib.Math.max.code 2 (some .int), Cond.methodLink RX7 223 yJ6_numberOfTrailingZeros_0f7a4, Cond.methodLink RX7 226 yJ6_numberOfLeadingZeros_0f7a4, Cond.static yJ6_numberOfLeadingZeros_0f7a4, Cond.code yJ6_numberOfLeadingZeros_0f7a4 cJ6_numberOfLeadingZeros_0f7a4 2 (some .int), Cond.methodLink RL 88 yX8_pairs, Cond.instanceMethod yX8_pairs, Cond.selects RX8 yX8_pairs yX8_pairs, Cond.code yX8_pairs cX8_pairs 9 (some .int), Cond.methodLink RL 89 yX7_judge]
def wsL_law_r27 : List Cond := [Cond.instanceMethod yX7_judge, Cond.selects RX7 yX7_judge yX7_judge, Cond.code yX7_judge cX7_judge 4 (some .int), Cond.fieldLink RX7 207 "TallowHours" "TENS" "[I", Cond.methodLink RX7 210 yX2_copy, Cond.instanceMethod yX2_copy, Cond.selects RX2 yX2_copy yX2_copy, Cond.code yX2_copy cX2_copy 3 none, Cond.methodLink RX7 213 yX7_figure, Cond.static yX7_figure, Cond.code yX7_figure cX7_figure 4 (some .int), Cond.methodLink RX7 217 yX7_goesWell, Cond.instanceMethod yX7_goesWell, Cond.selects RX7 yX7_goesWell yX7_goesWell, Cond.code yX7_goesWell cX7_goesWell 2 (some .boolean), Cond.methodLink RX7 220 yX2_lightIfCan, Cond.instanceMethod yX2_lightIfCan, Cond.selects RX2 yX2_lightIfCan yX2_lightIfCan, Cond.code yX2_lightIfCan cX2_lightIfCan 3 (some .boolean), Cond.methodLink RL 92 yX8_judge, Cond.instanceMethod yX8_judge, Cond.selects RX8 yX8_judge yX8_judge, Cond.code yX8_judge cX8_judge 6 (some .int), Cond.constantLong RX8 200 (8)]
def wsL_law_r28 : List Cond := [Cond.methodLink RL 93 yX7_stub, Cond.instanceMethod yX7_stub, Cond.selects RX7 yX7_stub yX7_stub, Cond.code yX7_stub cX7_stub 5 (some .int), Cond.methodLink RX7 238 yX7_candlesEndingSo, Cond.instanceMethod yX7_candlesEndingSo, Cond.selects RX7 yX7_candlesEndingSo yX7_candlesEndingSo, Cond.code yX7_candlesEndingSo cX7_candlesEndingSo 5 (some .int), Cond.fieldLink RX7 244 "TallowHours$Party" "inches" "[I", Cond.fieldLink RX7 247 "TallowHours$Party" "start" "[I", Cond.methodLink RX7 250 yX7_endsSo, Cond.instanceMethod yX7_endsSo, Cond.selects RX7 yX7_endsSo yX7_endsSo, Cond.code yX7_endsSo cX7_endsSo 6 (some .boolean), Cond.methodLink RX7 241 yX7_placesEndingSo, Cond.instanceMethod yX7_placesEndingSo, Cond.selects RX7 yX7_placesEndingSo yX7_placesEndingSo, Cond.code yX7_placesEndingSo cX7_placesEndingSo 5 (some .int), Cond.methodLink RL 97 yX8_stub, Cond.instanceMethod yX8_stub, Cond.selects RX8 yX8_stub yX8_stub, Cond.code yX8_stub cX8_stub 7 (some .int), Cond.constantLong RX8 202 (3), Cond.methodLink RX8 204 yX8_isSo]
def wsL_law_r29 : List Cond := [Cond.instanceMethod yX8_isSo, Cond.selects RX8 yX8_isSo yX8_isSo, Cond.code yX8_isSo cX8_isSo 7 (some .boolean), Cond.methodLink RL 98 yX7_see, Cond.instanceMethod yX7_see, Cond.selects RX7 yX7_see yX7_see, Cond.code yX7_see cX7_see 2 (some .int), Cond.methodLink RX7 254 yX1_add, Cond.instanceMethod yX1_add, Cond.selects RX1 yX1_add yX1_add, Cond.code yX1_add cX1_add 2 (some .int), Cond.methodLink RL 101 yX8_see, Cond.instanceMethod yX8_see, Cond.selects RX8 yX8_see yX8_see, Cond.code yX8_see cX8_see 2 (some .int), Cond.constantLong RX8 208 (4), Cond.fieldLink RX8 210 "TallowHoursModel" "seen" "I", Cond.methodLink RL 102 yX7_unsee, Cond.instanceMethod yX7_unsee, Cond.selects RX7 yX7_unsee yX7_unsee, Cond.code yX7_unsee cX7_unsee 1 (some .int), Cond.methodLink RX7 256 yX1_clear, Cond.instanceMethod yX1_clear, Cond.selects RX1 yX1_clear yX1_clear]
def wsL_law_r30 : List Cond := [Cond.code yX1_clear cX1_clear 2 (some .int), Cond.methodLink RL 105 yX8_unsee, Cond.instanceMethod yX8_unsee, Cond.selects RX8 yX8_unsee yX8_unsee, Cond.code yX8_unsee cX8_unsee 2 (some .int), Cond.methodLink RL 106 yX7_from, Cond.instanceMethod yX7_from, Cond.selects RX7 yX7_from yX7_from, Cond.code yX7_from cX7_from 2 (some .int), Cond.methodLink RX7 257 yX1_origins, Cond.instanceMethod yX1_origins, Cond.selects RX1 yX1_origins yX1_origins, Cond.code yX1_origins cX1_origins 5 (some .int), Cond.fieldLink RX1 19 "TallowHours$Party" "moments" "I", Cond.methodLink RX1 24 yX1_canBeFrom, Cond.instanceMethod yX1_canBeFrom, Cond.selects RX1 yX1_canBeFrom yX1_canBeFrom, Cond.code yX1_canBeFrom cX1_canBeFrom 4 (some .boolean), Cond.methodLink RX1 28 yX3_giftAt, Cond.methodLink RL 109 yX8_from, Cond.instanceMethod yX8_from, Cond.selects RX8 yX8_from yX8_from, Cond.code yX8_from cX8_from 2 (some .int), Cond.constantLong RX8 213 (6)]
def wsL_law_r31 : List Cond := [Cond.methodLink RX8 215 yX8_fromOf, Cond.instanceMethod yX8_fromOf, Cond.selects RX8 yX8_fromOf yX8_fromOf, Cond.code yX8_fromOf cX8_fromOf 6 (some .int), Cond.methodLink RL 110 yX7_next, Cond.instanceMethod yX7_next, Cond.selects RX7 yX7_next yX7_next, Cond.code yX7_next cX7_next 7 (some .int), Cond.fieldLink RX7 260 "TallowHours$Box" "size" "I", Cond.methodLink RL 113 yX8_next, Cond.instanceMethod yX8_next, Cond.selects RX8 yX8_next yX8_next, Cond.code yX8_next cX8_next 8 (some .int), Cond.methodLink RL 114 yX7_cut, Cond.instanceMethod yX7_cut, Cond.selects RX7 yX7_cut yX7_cut, Cond.code yX7_cut cX7_cut 7 (some .int), Cond.methodLink RX7 261 yX5_fewest, Cond.instanceMethod yX5_fewest, Cond.selects RX5 yX5_fewest yX5_fewest, Cond.code yX5_fewest cX5_fewest 8 (some .int), Cond.constant RX5 15 (1000000), Cond.methodLink RX5 23 Lib.Math.min.name, Cond.methodLink RX5 20 yX5_withOrder]
def wsL_law_r32 : List Cond := [Cond.static yX5_withOrder, Cond.code yX5_withOrder cX5_withOrder 4 (some .int), Cond.methodLink RL 118 yX8_cut, Cond.instanceMethod yX8_cut, Cond.selects RX8 yX8_cut yX8_cut, Cond.code yX8_cut cX8_cut 7 (some .int), Cond.constantLong RX8 218 (30), Cond.methodLink RX8 220 yX8_sum, Cond.static yX8_sum, Cond.code yX8_sum cX8_sum 5 (some .int), Cond.methodLink RL 119 yX7_draught, Cond.instanceMethod yX7_draught, Cond.selects RX7 yX7_draught yX7_draught, Cond.code yX7_draught cX7_draught 8 (some .int), Cond.methodLink RL 123 yX8_draught, Cond.instanceMethod yX8_draught, Cond.selects RX8 yX8_draught yX8_draught, Cond.code yX8_draught cX8_draught 8 (some .int), Cond.constantLong RX8 223 (10), Cond.methodLink RL 126 yX7_seed, Cond.instanceMethod yX7_seed, Cond.selects RX7 yX7_seed yX7_seed, Cond.code yX7_seed cX7_seed 5 (some .long), Cond.methodLink RL 130 yX8_seed]
def wsL_law_r33 : List Cond := [Cond.instanceMethod yX8_seed, Cond.selects RX8 yX8_seed yX8_seed, Cond.code yX8_seed cX8_seed 5 (some .long), Cond.fieldLink RX8 225 "TallowHoursModel" "seed" "J", Cond.methodLink RL 131 yX7_night, Cond.instanceMethod yX7_night, Cond.selects RX7 yX7_night yX7_night, Cond.code yX7_night cX7_night 4 (some .int), Cond.constantLong RX7 264 (6364136223846793005), Cond.constantLong RX7 266 (1442695040888963407), Cond.constantLong RX7 268 (4), Cond.methodLink RL 134 yX8_night, Cond.instanceMethod yX8_night, Cond.selects RX8 yX8_night yX8_night, Cond.code yX8_night cX8_night 4 (some .int), Cond.constantLong RX8 229 (20), Cond.constantLong RX8 231 (6364136223846793005), Cond.constantLong RX8 233 (1442695040888963407), Cond.methodLink RL 135 yX7_keep, Cond.instanceMethod yX7_keep, Cond.selects RX7 yX7_keep yX7_keep, Cond.code yX7_keep cX7_keep 2 (some .int), Cond.methodLink RX7 270 yX2_saveTo, Cond.methodLink RL 138 yX8_keep]
def wsL_law_r34 : List Cond := [Cond.instanceMethod yX8_keep, Cond.selects RX8 yX8_keep yX8_keep, Cond.code yX8_keep cX8_keep 3 (some .int), Cond.methodLink RL 139 yX7_again, Cond.instanceMethod yX7_again, Cond.selects RX7 yX7_again yX7_again, Cond.code yX7_again cX7_again 2 (some .int), Cond.methodLink RX7 274 yX2_loadFrom, Cond.methodLink RL 142 yX8_again, Cond.instanceMethod yX8_again, Cond.selects RX8 yX8_again yX8_again, Cond.code yX8_again cX8_again 3 (some .int), Cond.methodLink RL 143 yX7_count, Cond.instanceMethod yX7_count, Cond.selects RX7 yX7_count yX7_count, Cond.code yX7_count cX7_count 2 (some .int), Cond.fieldLink RX7 277 "TallowHours$Text" "length" "I", Cond.fieldLink RX7 283 "TallowHours$Burning" "cost" "I", Cond.methodLink RX7 280 yX2_contentGuests, Cond.instanceMethod yX2_contentGuests, Cond.selects RX2 yX2_contentGuests yX2_contentGuests, Cond.code yX2_contentGuests cX2_contentGuests 4 (some .int), Cond.methodLink RX2 79 yX2_isContent, Cond.methodLink RL 146 yX8_count]
def wsL_law_r35 : List Cond := [Cond.instanceMethod yX8_count, Cond.selects RX8 yX8_count yX8_count, Cond.code yX8_count cX8_count 5 (some .int)]
def wsL_law : List Cond := (wsL_law_r1 ++ (wsL_law_r2 ++ (wsL_law_r3 ++ (wsL_law_r4 ++ (wsL_law_r5 ++ (wsL_law_r6 ++ (wsL_law_r7 ++ (wsL_law_r8 ++ (wsL_law_r9 ++ (wsL_law_r10 ++ (wsL_law_r11 ++ (wsL_law_r12 ++ (wsL_law_r13 ++ (wsL_law_r14 ++ (wsL_law_r15 ++ (wsL_law_r16 ++ (wsL_law_r17 ++ (wsL_law_r18 ++ (wsL_law_r19 ++ (wsL_law_r20 ++ (wsL_law_r21 ++ (wsL_law_r22 ++ (wsL_law_r23 ++ (wsL_law_r24 ++ (wsL_law_r25 ++ (wsL_law_r26 ++ (wsL_law_r27 ++ (wsL_law_r28 ++ (wsL_law_r29 ++ (wsL_law_r30 ++ (wsL_law_r31 ++ (wsL_law_r32 ++ (wsL_law_r33 ++ (wsL_law_r34 ++ wsL_law_r35)))))))))))))))))))))))))))))))))) ++ wsX70 ++ wsX80 ++ wsX60 ++ wsX20 ++ wsX00 ++ wsX40 ++ wsX10 ++ wsX50 ++ wsX30 ++ ([] : List Cond)
theorem tb1 {w : Cond} (h : w ∈ tables_1_1) : w ∈ lw_tbl := List.mem_append_right _ (List.mem_append_left _ h)
theorem tb2 {w : Cond} (h : w ∈ tables_1_2) : w ∈ lw_tbl := List.mem_append_right _ (List.mem_append_right _ (List.mem_append_left _ h))
theorem tb3 {w : Cond} (h : w ∈ tables_1_3) : w ∈ lw_tbl := List.mem_append_right _ (List.mem_append_right _ (List.mem_append_right _ (List.mem_append_left _ h)))
theorem tb4 {w : Cond} (h : w ∈ tables_1_4) : w ∈ lw_tbl := List.mem_append_right _ (List.mem_append_right _ (List.mem_append_right _ (List.mem_append_right _ (List.mem_append_left _ h))))
theorem tb5 {w : Cond} (h : w ∈ tables_1_5) : w ∈ lw_tbl := List.mem_append_right _ (List.mem_append_right _ (List.mem_append_right _ (List.mem_append_right _ (List.mem_append_right _ (h)))))
theorem inR {w : Cond} (h : w ∈ (wsL_law_r1 ++ (wsL_law_r2 ++ (wsL_law_r3 ++ (wsL_law_r4 ++ (wsL_law_r5 ++ (wsL_law_r6 ++ (wsL_law_r7 ++ (wsL_law_r8 ++ (wsL_law_r9 ++ (wsL_law_r10 ++ (wsL_law_r11 ++ (wsL_law_r12 ++ (wsL_law_r13 ++ (wsL_law_r14 ++ (wsL_law_r15 ++ (wsL_law_r16 ++ (wsL_law_r17 ++ (wsL_law_r18 ++ (wsL_law_r19 ++ (wsL_law_r20 ++ (wsL_law_r21 ++ (wsL_law_r22 ++ (wsL_law_r23 ++ (wsL_law_r24 ++ (wsL_law_r25 ++ (wsL_law_r26 ++ (wsL_law_r27 ++ (wsL_law_r28 ++ (wsL_law_r29 ++ (wsL_law_r30 ++ (wsL_law_r31 ++ (wsL_law_r32 ++ (wsL_law_r33 ++ (wsL_law_r34 ++ (wsL_law_r35)))))))))))))))))))))))))))))))))))) : w ∈ wsL_law := List.mem_append_left _ (List.mem_append_left _ (List.mem_append_left _ (List.mem_append_left _ (List.mem_append_left _ (List.mem_append_left _ (List.mem_append_left _ (List.mem_append_left _ (List.mem_append_left _ (List.mem_append_left _ (h))))))))))
theorem inr1 {w : Cond} (h : w ∈ wsL_law_r1) : w ∈ wsL_law := inR (List.mem_append_left _ h)
theorem inr2 {w : Cond} (h : w ∈ wsL_law_r2) : w ∈ wsL_law := inR (List.mem_append_right _ (List.mem_append_left _ h))
theorem inr3 {w : Cond} (h : w ∈ wsL_law_r3) : w ∈ wsL_law := inR (List.mem_append_right _ (List.mem_append_right _ (List.mem_append_left _ h)))
theorem inr4 {w : Cond} (h : w ∈ wsL_law_r4) : w ∈ wsL_law := inR (List.mem_append_right _ (List.mem_append_right _ (List.mem_append_right _ (List.mem_append_left _ h))))
theorem inr5 {w : Cond} (h : w ∈ wsL_law_r5) : w ∈ wsL_law := inR (List.mem_append_right _ (List.mem_append_right _ (List.mem_append_right _ (List.mem_append_right _ (List.mem_append_left _ h)))))
theorem inr6 {w : Cond} (h : w ∈ wsL_law_r6) : w ∈ wsL_law := inR (List.mem_append_right _ (List.mem_append_right _ (List.mem_append_right _ (List.mem_append_right _ (List.mem_append_right _ (List.mem_append_left _ h))))))
theorem inr7 {w : Cond} (h : w ∈ wsL_law_r7) : w ∈ wsL_law := inR (List.mem_append_right _ (List.mem_append_right _ (List.mem_append_right _ (List.mem_append_right _ (List.mem_append_right _ (List.mem_append_right _ (List.mem_append_left _ h)))))))
theorem inr8 {w : Cond} (h : w ∈ wsL_law_r8) : w ∈ wsL_law := inR (List.mem_append_right _ (List.mem_append_right _ (List.mem_append_right _ (List.mem_append_right _ (List.mem_append_right _ (List.mem_append_right _ (List.mem_append_right _ (List.mem_append_left _ h))))))))
theorem inr9 {w : Cond} (h : w ∈ wsL_law_r9) : w ∈ wsL_law := inR (List.mem_append_right _ (List.mem_append_right _ (List.mem_append_right _ (List.mem_append_right _ (List.mem_append_right _ (List.mem_append_right _ (List.mem_append_right _ (List.mem_append_right _ (List.mem_append_left _ h)))))))))
theorem inr10 {w : Cond} (h : w ∈ wsL_law_r10) : w ∈ wsL_law := inR (List.mem_append_right _ (List.mem_append_right _ (List.mem_append_right _ (List.mem_append_right _ (List.mem_append_right _ (List.mem_append_right _ (List.mem_append_right _ (List.mem_append_right _ (List.mem_append_right _ (List.mem_append_left _ h))))))))))
theorem inr11 {w : Cond} (h : w ∈ wsL_law_r11) : w ∈ wsL_law := inR (List.mem_append_right _ (List.mem_append_right _ (List.mem_append_right _ (List.mem_append_right _ (List.mem_append_right _ (List.mem_append_right _ (List.mem_append_right _ (List.mem_append_right _ (List.mem_append_right _ (List.mem_append_right _ (List.mem_append_left _ h)))))))))))
theorem inr12 {w : Cond} (h : w ∈ wsL_law_r12) : w ∈ wsL_law := inR (List.mem_append_right _ (List.mem_append_right _ (List.mem_append_right _ (List.mem_append_right _ (List.mem_append_right _ (List.mem_append_right _ (List.mem_append_right _ (List.mem_append_right _ (List.mem_append_right _ (List.mem_append_right _ (List.mem_append_right _ (List.mem_append_left _ h))))))))))))
theorem inr13 {w : Cond} (h : w ∈ wsL_law_r13) : w ∈ wsL_law := inR (List.mem_append_right _ (List.mem_append_right _ (List.mem_append_right _ (List.mem_append_right _ (List.mem_append_right _ (List.mem_append_right _ (List.mem_append_right _ (List.mem_append_right _ (List.mem_append_right _ (List.mem_append_right _ (List.mem_append_right _ (List.mem_append_right _ (List.mem_append_left _ h)))))))))))))
theorem inr14 {w : Cond} (h : w ∈ wsL_law_r14) : w ∈ wsL_law := inR (List.mem_append_right _ (List.mem_append_right _ (List.mem_append_right _ (List.mem_append_right _ (List.mem_append_right _ (List.mem_append_right _ (List.mem_append_right _ (List.mem_append_right _ (List.mem_append_right _ (List.mem_append_right _ (List.mem_append_right _ (List.mem_append_right _ (List.mem_append_right _ (List.mem_append_left _ h))))))))))))))
theorem inr15 {w : Cond} (h : w ∈ wsL_law_r15) : w ∈ wsL_law := inR (List.mem_append_right _ (List.mem_append_right _ (List.mem_append_right _ (List.mem_append_right _ (List.mem_append_right _ (List.mem_append_right _ (List.mem_append_right _ (List.mem_append_right _ (List.mem_append_right _ (List.mem_append_right _ (List.mem_append_right _ (List.mem_append_right _ (List.mem_append_right _ (List.mem_append_right _ (List.mem_append_left _ h)))))))))))))))
theorem inr16 {w : Cond} (h : w ∈ wsL_law_r16) : w ∈ wsL_law := inR (List.mem_append_right _ (List.mem_append_right _ (List.mem_append_right _ (List.mem_append_right _ (List.mem_append_right _ (List.mem_append_right _ (List.mem_append_right _ (List.mem_append_right _ (List.mem_append_right _ (List.mem_append_right _ (List.mem_append_right _ (List.mem_append_right _ (List.mem_append_right _ (List.mem_append_right _ (List.mem_append_right _ (List.mem_append_left _ h))))))))))))))))
theorem inr17 {w : Cond} (h : w ∈ wsL_law_r17) : w ∈ wsL_law := inR (List.mem_append_right _ (List.mem_append_right _ (List.mem_append_right _ (List.mem_append_right _ (List.mem_append_right _ (List.mem_append_right _ (List.mem_append_right _ (List.mem_append_right _ (List.mem_append_right _ (List.mem_append_right _ (List.mem_append_right _ (List.mem_append_right _ (List.mem_append_right _ (List.mem_append_right _ (List.mem_append_right _ (List.mem_append_right _ (List.mem_append_left _ h)))))))))))))))))
theorem inr18 {w : Cond} (h : w ∈ wsL_law_r18) : w ∈ wsL_law := inR (List.mem_append_right _ (List.mem_append_right _ (List.mem_append_right _ (List.mem_append_right _ (List.mem_append_right _ (List.mem_append_right _ (List.mem_append_right _ (List.mem_append_right _ (List.mem_append_right _ (List.mem_append_right _ (List.mem_append_right _ (List.mem_append_right _ (List.mem_append_right _ (List.mem_append_right _ (List.mem_append_right _ (List.mem_append_right _ (List.mem_append_right _ (List.mem_append_left _ h))))))))))))))))))
theorem inr19 {w : Cond} (h : w ∈ wsL_law_r19) : w ∈ wsL_law := inR (List.mem_append_right _ (List.mem_append_right _ (List.mem_append_right _ (List.mem_append_right _ (List.mem_append_right _ (List.mem_append_right _ (List.mem_append_right _ (List.mem_append_right _ (List.mem_append_right _ (List.mem_append_right _ (List.mem_append_right _ (List.mem_append_right _ (List.mem_append_right _ (List.mem_append_right _ (List.mem_append_right _ (List.mem_append_right _ (List.mem_append_right _ (List.mem_append_right _ (List.mem_append_left _ h)))))))))))))))))))
theorem inr20 {w : Cond} (h : w ∈ wsL_law_r20) : w ∈ wsL_law := inR (List.mem_append_right _ (List.mem_append_right _ (List.mem_append_right _ (List.mem_append_right _ (List.mem_append_right _ (List.mem_append_right _ (List.mem_append_right _ (List.mem_append_right _ (List.mem_append_right _ (List.mem_append_right _ (List.mem_append_right _ (List.mem_append_right _ (List.mem_append_right _ (List.mem_append_right _ (List.mem_append_right _ (List.mem_append_right _ (List.mem_append_right _ (List.mem_append_right _ (List.mem_append_right _ (List.mem_append_left _ h))))))))))))))))))))
theorem inr21 {w : Cond} (h : w ∈ wsL_law_r21) : w ∈ wsL_law := inR (List.mem_append_right _ (List.mem_append_right _ (List.mem_append_right _ (List.mem_append_right _ (List.mem_append_right _ (List.mem_append_right _ (List.mem_append_right _ (List.mem_append_right _ (List.mem_append_right _ (List.mem_append_right _ (List.mem_append_right _ (List.mem_append_right _ (List.mem_append_right _ (List.mem_append_right _ (List.mem_append_right _ (List.mem_append_right _ (List.mem_append_right _ (List.mem_append_right _ (List.mem_append_right _ (List.mem_append_right _ (List.mem_append_left _ h)))))))))))))))))))))
theorem inr22 {w : Cond} (h : w ∈ wsL_law_r22) : w ∈ wsL_law := inR (List.mem_append_right _ (List.mem_append_right _ (List.mem_append_right _ (List.mem_append_right _ (List.mem_append_right _ (List.mem_append_right _ (List.mem_append_right _ (List.mem_append_right _ (List.mem_append_right _ (List.mem_append_right _ (List.mem_append_right _ (List.mem_append_right _ (List.mem_append_right _ (List.mem_append_right _ (List.mem_append_right _ (List.mem_append_right _ (List.mem_append_right _ (List.mem_append_right _ (List.mem_append_right _ (List.mem_append_right _ (List.mem_append_right _ (List.mem_append_left _ h))))))))))))))))))))))
theorem inr23 {w : Cond} (h : w ∈ wsL_law_r23) : w ∈ wsL_law := inR (List.mem_append_right _ (List.mem_append_right _ (List.mem_append_right _ (List.mem_append_right _ (List.mem_append_right _ (List.mem_append_right _ (List.mem_append_right _ (List.mem_append_right _ (List.mem_append_right _ (List.mem_append_right _ (List.mem_append_right _ (List.mem_append_right _ (List.mem_append_right _ (List.mem_append_right _ (List.mem_append_right _ (List.mem_append_right _ (List.mem_append_right _ (List.mem_append_right _ (List.mem_append_right _ (List.mem_append_right _ (List.mem_append_right _ (List.mem_append_right _ (List.mem_append_left _ h)))))))))))))))))))))))
theorem inr24 {w : Cond} (h : w ∈ wsL_law_r24) : w ∈ wsL_law := inR (List.mem_append_right _ (List.mem_append_right _ (List.mem_append_right _ (List.mem_append_right _ (List.mem_append_right _ (List.mem_append_right _ (List.mem_append_right _ (List.mem_append_right _ (List.mem_append_right _ (List.mem_append_right _ (List.mem_append_right _ (List.mem_append_right _ (List.mem_append_right _ (List.mem_append_right _ (List.mem_append_right _ (List.mem_append_right _ (List.mem_append_right _ (List.mem_append_right _ (List.mem_append_right _ (List.mem_append_right _ (List.mem_append_right _ (List.mem_append_right _ (List.mem_append_right _ (List.mem_append_left _ h))))))))))))))))))))))))
theorem inr25 {w : Cond} (h : w ∈ wsL_law_r25) : w ∈ wsL_law := inR (List.mem_append_right _ (List.mem_append_right _ (List.mem_append_right _ (List.mem_append_right _ (List.mem_append_right _ (List.mem_append_right _ (List.mem_append_right _ (List.mem_append_right _ (List.mem_append_right _ (List.mem_append_right _ (List.mem_append_right _ (List.mem_append_right _ (List.mem_append_right _ (List.mem_append_right _ (List.mem_append_right _ (List.mem_append_right _ (List.mem_append_right _ (List.mem_append_right _ (List.mem_append_right _ (List.mem_append_right _ (List.mem_append_right _ (List.mem_append_right _ (List.mem_append_right _ (List.mem_append_right _ (List.mem_append_left _ h)))))))))))))))))))))))))
theorem inr26 {w : Cond} (h : w ∈ wsL_law_r26) : w ∈ wsL_law := inR (List.mem_append_right _ (List.mem_append_right _ (List.mem_append_right _ (List.mem_append_right _ (List.mem_append_right _ (List.mem_append_right _ (List.mem_append_right _ (List.mem_append_right _ (List.mem_append_right _ (List.mem_append_right _ (List.mem_append_right _ (List.mem_append_right _ (List.mem_append_right _ (List.mem_append_right _ (List.mem_append_right _ (List.mem_append_right _ (List.mem_append_right _ (List.mem_append_right _ (List.mem_append_right _ (List.mem_append_right _ (List.mem_append_right _ (List.mem_append_right _ (List.mem_append_right _ (List.mem_append_right _ (List.mem_append_right _ (List.mem_append_left _ h))))))))))))))))))))))))))
theorem inr27 {w : Cond} (h : w ∈ wsL_law_r27) : w ∈ wsL_law := inR (List.mem_append_right _ (List.mem_append_right _ (List.mem_append_right _ (List.mem_append_right _ (List.mem_append_right _ (List.mem_append_right _ (List.mem_append_right _ (List.mem_append_right _ (List.mem_append_right _ (List.mem_append_right _ (List.mem_append_right _ (List.mem_append_right _ (List.mem_append_right _ (List.mem_append_right _ (List.mem_append_right _ (List.mem_append_right _ (List.mem_append_right _ (List.mem_append_right _ (List.mem_append_right _ (List.mem_append_right _ (List.mem_append_right _ (List.mem_append_right _ (List.mem_append_right _ (List.mem_append_right _ (List.mem_append_right _ (List.mem_append_right _ (List.mem_append_left _ h)))))))))))))))))))))))))))
theorem inr28 {w : Cond} (h : w ∈ wsL_law_r28) : w ∈ wsL_law := inR (List.mem_append_right _ (List.mem_append_right _ (List.mem_append_right _ (List.mem_append_right _ (List.mem_append_right _ (List.mem_append_right _ (List.mem_append_right _ (List.mem_append_right _ (List.mem_append_right _ (List.mem_append_right _ (List.mem_append_right _ (List.mem_append_right _ (List.mem_append_right _ (List.mem_append_right _ (List.mem_append_right _ (List.mem_append_right _ (List.mem_append_right _ (List.mem_append_right _ (List.mem_append_right _ (List.mem_append_right _ (List.mem_append_right _ (List.mem_append_right _ (List.mem_append_right _ (List.mem_append_right _ (List.mem_append_right _ (List.mem_append_right _ (List.mem_append_right _ (List.mem_append_left _ h))))))))))))))))))))))))))))
theorem inr29 {w : Cond} (h : w ∈ wsL_law_r29) : w ∈ wsL_law := inR (List.mem_append_right _ (List.mem_append_right _ (List.mem_append_right _ (List.mem_append_right _ (List.mem_append_right _ (List.mem_append_right _ (List.mem_append_right _ (List.mem_append_right _ (List.mem_append_right _ (List.mem_append_right _ (List.mem_append_right _ (List.mem_append_right _ (List.mem_append_right _ (List.mem_append_right _ (List.mem_append_right _ (List.mem_append_right _ (List.mem_append_right _ (List.mem_append_right _ (List.mem_append_right _ (List.mem_append_right _ (List.mem_append_right _ (List.mem_append_right _ (List.mem_append_right _ (List.mem_append_right _ (List.mem_append_right _ (List.mem_append_right _ (List.mem_append_right _ (List.mem_append_right _ (List.mem_append_left _ h)))))))))))))))))))))))))))))
theorem inr30 {w : Cond} (h : w ∈ wsL_law_r30) : w ∈ wsL_law := inR (List.mem_append_right _ (List.mem_append_right _ (List.mem_append_right _ (List.mem_append_right _ (List.mem_append_right _ (List.mem_append_right _ (List.mem_append_right _ (List.mem_append_right _ (List.mem_append_right _ (List.mem_append_right _ (List.mem_append_right _ (List.mem_append_right _ (List.mem_append_right _ (List.mem_append_right _ (List.mem_append_right _ (List.mem_append_right _ (List.mem_append_right _ (List.mem_append_right _ (List.mem_append_right _ (List.mem_append_right _ (List.mem_append_right _ (List.mem_append_right _ (List.mem_append_right _ (List.mem_append_right _ (List.mem_append_right _ (List.mem_append_right _ (List.mem_append_right _ (List.mem_append_right _ (List.mem_append_right _ (List.mem_append_left _ h))))))))))))))))))))))))))))))
theorem inr31 {w : Cond} (h : w ∈ wsL_law_r31) : w ∈ wsL_law := inR (List.mem_append_right _ (List.mem_append_right _ (List.mem_append_right _ (List.mem_append_right _ (List.mem_append_right _ (List.mem_append_right _ (List.mem_append_right _ (List.mem_append_right _ (List.mem_append_right _ (List.mem_append_right _ (List.mem_append_right _ (List.mem_append_right _ (List.mem_append_right _ (List.mem_append_right _ (List.mem_append_right _ (List.mem_append_right _ (List.mem_append_right _ (List.mem_append_right _ (List.mem_append_right _ (List.mem_append_right _ (List.mem_append_right _ (List.mem_append_right _ (List.mem_append_right _ (List.mem_append_right _ (List.mem_append_right _ (List.mem_append_right _ (List.mem_append_right _ (List.mem_append_right _ (List.mem_append_right _ (List.mem_append_right _ (List.mem_append_left _ h)))))))))))))))))))))))))))))))
theorem inr32 {w : Cond} (h : w ∈ wsL_law_r32) : w ∈ wsL_law := inR (List.mem_append_right _ (List.mem_append_right _ (List.mem_append_right _ (List.mem_append_right _ (List.mem_append_right _ (List.mem_append_right _ (List.mem_append_right _ (List.mem_append_right _ (List.mem_append_right _ (List.mem_append_right _ (List.mem_append_right _ (List.mem_append_right _ (List.mem_append_right _ (List.mem_append_right _ (List.mem_append_right _ (List.mem_append_right _ (List.mem_append_right _ (List.mem_append_right _ (List.mem_append_right _ (List.mem_append_right _ (List.mem_append_right _ (List.mem_append_right _ (List.mem_append_right _ (List.mem_append_right _ (List.mem_append_right _ (List.mem_append_right _ (List.mem_append_right _ (List.mem_append_right _ (List.mem_append_right _ (List.mem_append_right _ (List.mem_append_right _ (List.mem_append_left _ h))))))))))))))))))))))))))))))))
theorem inr33 {w : Cond} (h : w ∈ wsL_law_r33) : w ∈ wsL_law := inR (List.mem_append_right _ (List.mem_append_right _ (List.mem_append_right _ (List.mem_append_right _ (List.mem_append_right _ (List.mem_append_right _ (List.mem_append_right _ (List.mem_append_right _ (List.mem_append_right _ (List.mem_append_right _ (List.mem_append_right _ (List.mem_append_right _ (List.mem_append_right _ (List.mem_append_right _ (List.mem_append_right _ (List.mem_append_right _ (List.mem_append_right _ (List.mem_append_right _ (List.mem_append_right _ (List.mem_append_right _ (List.mem_append_right _ (List.mem_append_right _ (List.mem_append_right _ (List.mem_append_right _ (List.mem_append_right _ (List.mem_append_right _ (List.mem_append_right _ (List.mem_append_right _ (List.mem_append_right _ (List.mem_append_right _ (List.mem_append_right _ (List.mem_append_right _ (List.mem_append_left _ h)))))))))))))))))))))))))))))))))
theorem inr34 {w : Cond} (h : w ∈ wsL_law_r34) : w ∈ wsL_law := inR (List.mem_append_right _ (List.mem_append_right _ (List.mem_append_right _ (List.mem_append_right _ (List.mem_append_right _ (List.mem_append_right _ (List.mem_append_right _ (List.mem_append_right _ (List.mem_append_right _ (List.mem_append_right _ (List.mem_append_right _ (List.mem_append_right _ (List.mem_append_right _ (List.mem_append_right _ (List.mem_append_right _ (List.mem_append_right _ (List.mem_append_right _ (List.mem_append_right _ (List.mem_append_right _ (List.mem_append_right _ (List.mem_append_right _ (List.mem_append_right _ (List.mem_append_right _ (List.mem_append_right _ (List.mem_append_right _ (List.mem_append_right _ (List.mem_append_right _ (List.mem_append_right _ (List.mem_append_right _ (List.mem_append_right _ (List.mem_append_right _ (List.mem_append_right _ (List.mem_append_right _ (List.mem_append_left _ h))))))))))))))))))))))))))))))))))
theorem inr35 {w : Cond} (h : w ∈ wsL_law_r35) : w ∈ wsL_law := inR (List.mem_append_right _ (List.mem_append_right _ (List.mem_append_right _ (List.mem_append_right _ (List.mem_append_right _ (List.mem_append_right _ (List.mem_append_right _ (List.mem_append_right _ (List.mem_append_right _ (List.mem_append_right _ (List.mem_append_right _ (List.mem_append_right _ (List.mem_append_right _ (List.mem_append_right _ (List.mem_append_right _ (List.mem_append_right _ (List.mem_append_right _ (List.mem_append_right _ (List.mem_append_right _ (List.mem_append_right _ (List.mem_append_right _ (List.mem_append_right _ (List.mem_append_right _ (List.mem_append_right _ (List.mem_append_right _ (List.mem_append_right _ (List.mem_append_right _ (List.mem_append_right _ (List.mem_append_right _ (List.mem_append_right _ (List.mem_append_right _ (List.mem_append_right _ (List.mem_append_right _ (List.mem_append_right _ (h)))))))))))))))))))))))))))))))))))
theorem tw1_0 : Cond.classLink RL 7 RX7 ∈ lw_tbl := tb1 (List.mem_of_getElem? (i := 14) rfl)
theorem mw1_0 : Cond.classLink RL 7 RX7 ∈ wsL_law := inr1 (List.mem_of_getElem? (i := 0) rfl)
theorem tw1_1 : Cond.instantiable RX7 12 ∈ lw_tbl := tb1 (List.mem_of_getElem? (i := 15) rfl)
theorem mw1_1 : Cond.instantiable RX7 12 ∈ wsL_law := inr1 (List.mem_of_getElem? (i := 1) rfl)
theorem tw1_2 : Cond.initialized RX7 ∈ lw_tbl := tb1 (List.mem_of_getElem? (i := 1) rfl)
theorem mw1_2 : Cond.initialized RX7 ∈ wsL_law := inr1 (List.mem_of_getElem? (i := 2) rfl)
theorem tw1_3 : Cond.classLink RL 10 RX8 ∈ lw_tbl := tb3 (List.mem_of_getElem? (i := 169) rfl)
theorem mw1_3 : Cond.classLink RL 10 RX8 ∈ wsL_law := inr1 (List.mem_of_getElem? (i := 3) rfl)
theorem tw1_4 : Cond.instantiable RX8 34 ∈ lw_tbl := tb3 (List.mem_of_getElem? (i := 170) rfl)
theorem mw1_4 : Cond.instantiable RX8 34 ∈ wsL_law := inr1 (List.mem_of_getElem? (i := 4) rfl)
theorem tw1_5 : Cond.initialized RX8 ∈ lw_tbl := tb1 (List.mem_of_getElem? (i := 9) rfl)
theorem mw1_5 : Cond.initialized RX8 ∈ wsL_law := inr1 (List.mem_of_getElem? (i := 5) rfl)
theorem tw1_6 : Cond.constantLong RL 124 (4294967295) ∈ lw_tbl := tb5 (List.mem_of_getElem? (i := 38) rfl)
theorem mw1_6 : Cond.constantLong RL 124 (4294967295) ∈ wsL_law := inr1 (List.mem_of_getElem? (i := 6) rfl)
theorem tw1_7 : Cond.methodLink RL 9 yX7_init ∈ lw_tbl := tb1 (List.mem_of_getElem? (i := 16) rfl)
theorem mw1_7 : Cond.methodLink RL 9 yX7_init ∈ wsL_law := inr1 (List.mem_of_getElem? (i := 7) rfl)
theorem tw1_8 : Cond.instanceMethod yX7_init ∈ lw_tbl := tb1 (List.mem_of_getElem? (i := 17) rfl)
theorem mw1_8 : Cond.instanceMethod yX7_init ∈ wsL_law := inr1 (List.mem_of_getElem? (i := 8) rfl)
theorem tw1_9 : Cond.code yX7_init cX7_init 1 none ∈ lw_tbl := tb1 (List.mem_of_getElem? (i := 18) rfl)
theorem mw1_9 : Cond.code yX7_init cX7_init 1 none ∈ wsL_law := inr1 (List.mem_of_getElem? (i := 9) rfl)
theorem tw1_10 : Cond.methodLink RX7 1 objectInit ∈ lw_tbl := tb1 (List.mem_of_getElem? (i := 19) rfl)
theorem mw1_10 : Cond.methodLink RX7 1 objectInit ∈ wsL_law := inr1 (List.mem_of_getElem? (i := 10) rfl)
theorem tw1_11 : Cond.instanceMethod objectInit ∈ lw_tbl := tb1 (List.mem_of_getElem? (i := 20) rfl)
theorem mw1_11 : Cond.instanceMethod objectInit ∈ wsL_law := inr1 (List.mem_of_getElem? (i := 11) rfl)
theorem tw1_12 : Cond.code objectInit ⟨#[0xb1]⟩ 1 none ∈ lw_tbl := tb1 (List.mem_of_getElem? (i := 21) rfl)
theorem mw1_12 : Cond.code objectInit ⟨#[0xb1]⟩ 1 none ∈ wsL_law := inr1 (List.mem_of_getElem? (i := 12) rfl)
theorem tw1_13 : Cond.classLink RX7 7 RX6 ∈ lw_tbl := tb1 (List.mem_of_getElem? (i := 22) rfl)
theorem mw1_13 : Cond.classLink RX7 7 RX6 ∈ wsL_law := inr1 (List.mem_of_getElem? (i := 13) rfl)
theorem tw1_14 : Cond.instantiable RX6 2 ∈ lw_tbl := tb1 (List.mem_of_getElem? (i := 23) rfl)
theorem mw1_14 : Cond.instantiable RX6 2 ∈ wsL_law := inr1 (List.mem_of_getElem? (i := 14) rfl)
theorem tw1_15 : Cond.initialized RX6 ∈ lw_tbl := tb1 (List.mem_of_getElem? (i := 2) rfl)
theorem mw1_15 : Cond.initialized RX6 ∈ wsL_law := inr1 (List.mem_of_getElem? (i := 15) rfl)
theorem tw1_16 : Cond.fieldLink RX7 10 "TallowHours" "text" "LTallowHours$Text;" ∈ lw_tbl := tb1 (List.mem_of_getElem? (i := 238) rfl)
theorem mw1_16 : Cond.fieldLink RX7 10 "TallowHours" "text" "LTallowHours$Text;" ∈ wsL_law := inr1 (List.mem_of_getElem? (i := 16) rfl)
theorem tw1_17 : Cond.classLink RX7 16 RX2 ∈ lw_tbl := tb1 (List.mem_of_getElem? (i := 37) rfl)
theorem mw1_17 : Cond.classLink RX7 16 RX2 ∈ wsL_law := inr1 (List.mem_of_getElem? (i := 17) rfl)
theorem tw1_18 : Cond.instantiable RX2 6 ∈ lw_tbl := tb1 (List.mem_of_getElem? (i := 38) rfl)
theorem mw1_18 : Cond.instantiable RX2 6 ∈ wsL_law := inr1 (List.mem_of_getElem? (i := 18) rfl)
theorem tw1_19 : Cond.initialized RX2 ∈ lw_tbl := tb1 (List.mem_of_getElem? (i := 3) rfl)
theorem mw1_19 : Cond.initialized RX2 ∈ wsL_law := inr1 (List.mem_of_getElem? (i := 19) rfl)
theorem tw1_20 : Cond.fieldLink RX7 19 "TallowHours" "now" "LTallowHours$Burning;" ∈ lw_tbl := tb1 (List.mem_of_getElem? (i := 239) rfl)
theorem mw1_20 : Cond.fieldLink RX7 19 "TallowHours" "now" "LTallowHours$Burning;" ∈ wsL_law := inr1 (List.mem_of_getElem? (i := 20) rfl)
theorem tw1_21 : Cond.fieldLink RX7 23 "TallowHours" "trial" "LTallowHours$Burning;" ∈ lw_tbl := tb2 (List.mem_of_getElem? (i := 0) rfl)
theorem mw1_21 : Cond.fieldLink RX7 23 "TallowHours" "trial" "LTallowHours$Burning;" ∈ wsL_law := inr1 (List.mem_of_getElem? (i := 21) rfl)
theorem tw1_22 : Cond.classLink RX7 26 RX0 ∈ lw_tbl := tb1 (List.mem_of_getElem? (i := 72) rfl)
theorem mw1_22 : Cond.classLink RX7 26 RX0 ∈ wsL_law := inr1 (List.mem_of_getElem? (i := 22) rfl)
theorem tw1_23 : Cond.instantiable RX0 3 ∈ lw_tbl := tb1 (List.mem_of_getElem? (i := 73) rfl)
theorem mw1_23 : Cond.instantiable RX0 3 ∈ wsL_law := inr1 (List.mem_of_getElem? (i := 23) rfl)
theorem gdr1 : GoodIn lw_tbl wsL_law_r1 := List.forall_mem_cons.mpr ⟨⟨tw1_0, Or.inl rfl⟩, List.forall_mem_cons.mpr ⟨⟨tw1_1, Or.inl rfl⟩, List.forall_mem_cons.mpr ⟨⟨tw1_2, Or.inl rfl⟩, List.forall_mem_cons.mpr ⟨⟨tw1_3, Or.inl rfl⟩, List.forall_mem_cons.mpr ⟨⟨tw1_4, Or.inl rfl⟩, List.forall_mem_cons.mpr ⟨⟨tw1_5, Or.inl rfl⟩, List.forall_mem_cons.mpr ⟨⟨tw1_6, Or.inl rfl⟩, List.forall_mem_cons.mpr ⟨⟨tw1_7, Or.inl rfl⟩, List.forall_mem_cons.mpr ⟨⟨tw1_8, Or.inl rfl⟩, List.forall_mem_cons.mpr ⟨⟨tw1_9, Or.inl rfl⟩, List.forall_mem_cons.mpr ⟨⟨tw1_10, Or.inl rfl⟩, List.forall_mem_cons.mpr ⟨⟨tw1_11, Or.inl rfl⟩, List.forall_mem_cons.mpr ⟨⟨tw1_12, Or.inl rfl⟩, List.forall_mem_cons.mpr ⟨⟨tw1_13, Or.inl rfl⟩, List.forall_mem_cons.mpr ⟨⟨tw1_14, Or.inl rfl⟩, List.forall_mem_cons.mpr ⟨⟨tw1_15, Or.inl rfl⟩, List.forall_mem_cons.mpr ⟨⟨tw1_16, Or.inl rfl⟩, List.forall_mem_cons.mpr ⟨⟨tw1_17, Or.inl rfl⟩, List.forall_mem_cons.mpr ⟨⟨tw1_18, Or.inl rfl⟩, List.forall_mem_cons.mpr ⟨⟨tw1_19, Or.inl rfl⟩, List.forall_mem_cons.mpr ⟨⟨tw1_20, Or.inl rfl⟩, List.forall_mem_cons.mpr ⟨⟨tw1_21, Or.inl rfl⟩, List.forall_mem_cons.mpr ⟨⟨tw1_22, Or.inl rfl⟩, List.forall_mem_cons.mpr ⟨⟨tw1_23, Or.inl rfl⟩, fun _ h => absurd h List.not_mem_nil⟩⟩⟩⟩⟩⟩⟩⟩⟩⟩⟩⟩⟩⟩⟩⟩⟩⟩⟩⟩⟩⟩⟩⟩
theorem tw2_0 : Cond.initialized RX0 ∈ lw_tbl := tb1 (List.mem_of_getElem? (i := 4) rfl)
theorem mw2_0 : Cond.initialized RX0 ∈ wsL_law := inr2 (List.mem_of_getElem? (i := 0) rfl)
theorem tw2_1 : Cond.fieldLink RX7 29 "TallowHours" "acts" "LTallowHours$Acts;" ∈ lw_tbl := tb2 (List.mem_of_getElem? (i := 1) rfl)
theorem mw2_1 : Cond.fieldLink RX7 29 "TallowHours" "acts" "LTallowHours$Acts;" ∈ wsL_law := inr2 (List.mem_of_getElem? (i := 1) rfl)
theorem tw2_2 : Cond.classLink RX7 33 RX4 ∈ lw_tbl := tb1 (List.mem_of_getElem? (i := 89) rfl)
theorem mw2_2 : Cond.classLink RX7 33 RX4 ∈ wsL_law := inr2 (List.mem_of_getElem? (i := 2) rfl)
theorem tw2_3 : Cond.instantiable RX4 12 ∈ lw_tbl := tb1 (List.mem_of_getElem? (i := 90) rfl)
theorem mw2_3 : Cond.instantiable RX4 12 ∈ wsL_law := inr2 (List.mem_of_getElem? (i := 3) rfl)
theorem tw2_4 : Cond.initialized RX4 ∈ lw_tbl := tb1 (List.mem_of_getElem? (i := 5) rfl)
theorem mw2_4 : Cond.initialized RX4 ∈ wsL_law := inr2 (List.mem_of_getElem? (i := 4) rfl)
theorem tw2_5 : Cond.fieldLink RX7 36 "TallowHours" "planner" "LTallowHours$Planner;" ∈ lw_tbl := tb2 (List.mem_of_getElem? (i := 2) rfl)
theorem mw2_5 : Cond.fieldLink RX7 36 "TallowHours" "planner" "LTallowHours$Planner;" ∈ wsL_law := inr2 (List.mem_of_getElem? (i := 5) rfl)
theorem tw2_6 : Cond.classLink RX7 40 RX1 ∈ lw_tbl := tb1 (List.mem_of_getElem? (i := 136) rfl)
theorem mw2_6 : Cond.classLink RX7 40 RX1 ∈ wsL_law := inr2 (List.mem_of_getElem? (i := 6) rfl)
theorem tw2_7 : Cond.instantiable RX1 2 ∈ lw_tbl := tb1 (List.mem_of_getElem? (i := 137) rfl)
theorem mw2_7 : Cond.instantiable RX1 2 ∈ wsL_law := inr2 (List.mem_of_getElem? (i := 7) rfl)
theorem tw2_8 : Cond.initialized RX1 ∈ lw_tbl := tb1 (List.mem_of_getElem? (i := 6) rfl)
theorem mw2_8 : Cond.initialized RX1 ∈ wsL_law := inr2 (List.mem_of_getElem? (i := 8) rfl)
theorem tw2_9 : Cond.fieldLink RX7 43 "TallowHours" "box" "LTallowHours$Box;" ∈ lw_tbl := tb2 (List.mem_of_getElem? (i := 3) rfl)
theorem mw2_9 : Cond.fieldLink RX7 43 "TallowHours" "box" "LTallowHours$Box;" ∈ wsL_law := inr2 (List.mem_of_getElem? (i := 9) rfl)
theorem tw2_10 : Cond.classLink RX7 47 RX5 ∈ lw_tbl := tb1 (List.mem_of_getElem? (i := 150) rfl)
theorem mw2_10 : Cond.classLink RX7 47 RX5 ∈ wsL_law := inr2 (List.mem_of_getElem? (i := 10) rfl)
theorem tw2_11 : Cond.instantiable RX5 1 ∈ lw_tbl := tb1 (List.mem_of_getElem? (i := 151) rfl)
theorem mw2_11 : Cond.instantiable RX5 1 ∈ wsL_law := inr2 (List.mem_of_getElem? (i := 11) rfl)
theorem tw2_12 : Cond.initialized RX5 ∈ lw_tbl := tb1 (List.mem_of_getElem? (i := 7) rfl)
theorem mw2_12 : Cond.initialized RX5 ∈ wsL_law := inr2 (List.mem_of_getElem? (i := 12) rfl)
theorem tw2_13 : Cond.fieldLink RX7 50 "TallowHours" "saw" "LTallowHours$Saw;" ∈ lw_tbl := tb2 (List.mem_of_getElem? (i := 4) rfl)
theorem mw2_13 : Cond.fieldLink RX7 50 "TallowHours" "saw" "LTallowHours$Saw;" ∈ wsL_law := inr2 (List.mem_of_getElem? (i := 13) rfl)
theorem tw2_14 : Cond.arrayClass .int ∈ lw_tbl := tb1 (List.mem_of_getElem? (i := 36) rfl)
theorem mw2_14 : Cond.arrayClass .int ∈ wsL_law := inr2 (List.mem_of_getElem? (i := 14) rfl)
theorem tw2_15 : Cond.fieldLink RX7 54 "TallowHours" "slotCells" "[I" ∈ lw_tbl := tb2 (List.mem_of_getElem? (i := 5) rfl)
theorem mw2_15 : Cond.fieldLink RX7 54 "TallowHours" "slotCells" "[I" ∈ wsL_law := inr2 (List.mem_of_getElem? (i := 15) rfl)
theorem tw2_16 : Cond.arrayClass .boolean ∈ lw_tbl := tb1 (List.mem_of_getElem? (i := 237) rfl)
theorem mw2_16 : Cond.arrayClass .boolean ∈ wsL_law := inr2 (List.mem_of_getElem? (i := 16) rfl)
theorem tw2_17 : Cond.fieldLink RX7 58 "TallowHours" "slotFilled" "[Z" ∈ lw_tbl := tb2 (List.mem_of_getElem? (i := 6) rfl)
theorem mw2_17 : Cond.fieldLink RX7 58 "TallowHours" "slotFilled" "[Z" ∈ wsL_law := inr2 (List.mem_of_getElem? (i := 17) rfl)
theorem tw2_18 : Cond.classLink RX7 62 RX3 ∈ lw_tbl := tb1 (List.mem_of_getElem? (i := 160) rfl)
theorem mw2_18 : Cond.classLink RX7 62 RX3 ∈ wsL_law := inr2 (List.mem_of_getElem? (i := 18) rfl)
theorem tw2_19 : Cond.instantiable RX3 11 ∈ lw_tbl := tb1 (List.mem_of_getElem? (i := 161) rfl)
theorem mw2_19 : Cond.instantiable RX3 11 ∈ wsL_law := inr2 (List.mem_of_getElem? (i := 19) rfl)
theorem tw2_20 : Cond.initialized RX3 ∈ lw_tbl := tb1 (List.mem_of_getElem? (i := 8) rfl)
theorem mw2_20 : Cond.initialized RX3 ∈ wsL_law := inr2 (List.mem_of_getElem? (i := 20) rfl)
theorem tw2_21 : Cond.fieldLink RX7 65 "TallowHours" "told" "LTallowHours$Party;" ∈ lw_tbl := tb2 (List.mem_of_getElem? (i := 7) rfl)
theorem mw2_21 : Cond.fieldLink RX7 65 "TallowHours" "told" "LTallowHours$Party;" ∈ wsL_law := inr2 (List.mem_of_getElem? (i := 21) rfl)
theorem tw2_22 : Cond.fieldLink RX7 69 "TallowHours" "draft" "LTallowHours$Party;" ∈ lw_tbl := tb2 (List.mem_of_getElem? (i := 8) rfl)
theorem mw2_22 : Cond.fieldLink RX7 69 "TallowHours" "draft" "LTallowHours$Party;" ∈ wsL_law := inr2 (List.mem_of_getElem? (i := 22) rfl)
theorem tw2_23 : Cond.fieldLink RX7 72 "TallowHours" "seedNow" "J" ∈ lw_tbl := tb2 (List.mem_of_getElem? (i := 9) rfl)
theorem mw2_23 : Cond.fieldLink RX7 72 "TallowHours" "seedNow" "J" ∈ wsL_law := inr2 (List.mem_of_getElem? (i := 23) rfl)
theorem gdr2 : GoodIn lw_tbl wsL_law_r2 := List.forall_mem_cons.mpr ⟨⟨tw2_0, Or.inl rfl⟩, List.forall_mem_cons.mpr ⟨⟨tw2_1, Or.inl rfl⟩, List.forall_mem_cons.mpr ⟨⟨tw2_2, Or.inl rfl⟩, List.forall_mem_cons.mpr ⟨⟨tw2_3, Or.inl rfl⟩, List.forall_mem_cons.mpr ⟨⟨tw2_4, Or.inl rfl⟩, List.forall_mem_cons.mpr ⟨⟨tw2_5, Or.inl rfl⟩, List.forall_mem_cons.mpr ⟨⟨tw2_6, Or.inl rfl⟩, List.forall_mem_cons.mpr ⟨⟨tw2_7, Or.inl rfl⟩, List.forall_mem_cons.mpr ⟨⟨tw2_8, Or.inl rfl⟩, List.forall_mem_cons.mpr ⟨⟨tw2_9, Or.inl rfl⟩, List.forall_mem_cons.mpr ⟨⟨tw2_10, Or.inl rfl⟩, List.forall_mem_cons.mpr ⟨⟨tw2_11, Or.inl rfl⟩, List.forall_mem_cons.mpr ⟨⟨tw2_12, Or.inl rfl⟩, List.forall_mem_cons.mpr ⟨⟨tw2_13, Or.inl rfl⟩, List.forall_mem_cons.mpr ⟨⟨tw2_14, Or.inr ⟨_, rfl⟩⟩, List.forall_mem_cons.mpr ⟨⟨tw2_15, Or.inl rfl⟩, List.forall_mem_cons.mpr ⟨⟨tw2_16, Or.inr ⟨_, rfl⟩⟩, List.forall_mem_cons.mpr ⟨⟨tw2_17, Or.inl rfl⟩, List.forall_mem_cons.mpr ⟨⟨tw2_18, Or.inl rfl⟩, List.forall_mem_cons.mpr ⟨⟨tw2_19, Or.inl rfl⟩, List.forall_mem_cons.mpr ⟨⟨tw2_20, Or.inl rfl⟩, List.forall_mem_cons.mpr ⟨⟨tw2_21, Or.inl rfl⟩, List.forall_mem_cons.mpr ⟨⟨tw2_22, Or.inl rfl⟩, List.forall_mem_cons.mpr ⟨⟨tw2_23, Or.inl rfl⟩, fun _ h => absurd h List.not_mem_nil⟩⟩⟩⟩⟩⟩⟩⟩⟩⟩⟩⟩⟩⟩⟩⟩⟩⟩⟩⟩⟩⟩⟩⟩
theorem tw3_0 : Cond.methodLink RX7 9 yX6_init ∈ lw_tbl := tb1 (List.mem_of_getElem? (i := 24) rfl)
theorem mw3_0 : Cond.methodLink RX7 9 yX6_init ∈ wsL_law := inr3 (List.mem_of_getElem? (i := 0) rfl)
theorem tw3_1 : Cond.instanceMethod yX6_init ∈ lw_tbl := tb1 (List.mem_of_getElem? (i := 25) rfl)
theorem mw3_1 : Cond.instanceMethod yX6_init ∈ wsL_law := inr3 (List.mem_of_getElem? (i := 1) rfl)
theorem tw3_2 : Cond.code yX6_init cX6_init 1 none ∈ lw_tbl := tb1 (List.mem_of_getElem? (i := 26) rfl)
theorem mw3_2 : Cond.code yX6_init cX6_init 1 none ∈ wsL_law := inr3 (List.mem_of_getElem? (i := 2) rfl)
theorem tw3_3 : Cond.methodLink RX6 3 objectInit ∈ lw_tbl := tb1 (List.mem_of_getElem? (i := 27) rfl)
theorem mw3_3 : Cond.methodLink RX6 3 objectInit ∈ wsL_law := inr3 (List.mem_of_getElem? (i := 3) rfl)
theorem tw3_4 : Cond.fieldLink RX6 9 "TallowHours$Text" "letters" "[I" ∈ lw_tbl := tb1 (List.mem_of_getElem? (i := 28) rfl)
theorem mw3_4 : Cond.fieldLink RX6 9 "TallowHours$Text" "letters" "[I" ∈ wsL_law := inr3 (List.mem_of_getElem? (i := 4) rfl)
theorem tw3_5 : Cond.fieldLink RX6 15 "TallowHours$Text" "length" "I" ∈ lw_tbl := tb1 (List.mem_of_getElem? (i := 29) rfl)
theorem mw3_5 : Cond.fieldLink RX6 15 "TallowHours$Text" "length" "I" ∈ wsL_law := inr3 (List.mem_of_getElem? (i := 5) rfl)
theorem tw3_6 : Cond.methodLink RX7 18 yX2_init ∈ lw_tbl := tb1 (List.mem_of_getElem? (i := 39) rfl)
theorem mw3_6 : Cond.methodLink RX7 18 yX2_init ∈ wsL_law := inr3 (List.mem_of_getElem? (i := 6) rfl)
theorem tw3_7 : Cond.instanceMethod yX2_init ∈ lw_tbl := tb1 (List.mem_of_getElem? (i := 40) rfl)
theorem mw3_7 : Cond.instanceMethod yX2_init ∈ wsL_law := inr3 (List.mem_of_getElem? (i := 7) rfl)
theorem tw3_8 : Cond.code yX2_init cX2_init 1 none ∈ lw_tbl := tb1 (List.mem_of_getElem? (i := 41) rfl)
theorem mw3_8 : Cond.code yX2_init cX2_init 1 none ∈ wsL_law := inr3 (List.mem_of_getElem? (i := 8) rfl)
theorem tw3_9 : Cond.methodLink RX2 3 objectInit ∈ lw_tbl := tb1 (List.mem_of_getElem? (i := 42) rfl)
theorem mw3_9 : Cond.methodLink RX2 3 objectInit ∈ wsL_law := inr3 (List.mem_of_getElem? (i := 9) rfl)
theorem tw3_10 : Cond.fieldLink RX2 9 "TallowHours$Burning" "place" "[I" ∈ lw_tbl := tb1 (List.mem_of_getElem? (i := 43) rfl)
theorem mw3_10 : Cond.fieldLink RX2 9 "TallowHours$Burning" "place" "[I" ∈ wsL_law := inr3 (List.mem_of_getElem? (i := 10) rfl)
theorem tw3_11 : Cond.fieldLink RX2 15 "TallowHours$Burning" "left" "[I" ∈ lw_tbl := tb1 (List.mem_of_getElem? (i := 45) rfl)
theorem mw3_11 : Cond.fieldLink RX2 15 "TallowHours$Burning" "left" "[I" ∈ wsL_law := inr3 (List.mem_of_getElem? (i := 11) rfl)
theorem tw3_12 : Cond.fieldLink RX2 18 "TallowHours$Burning" "flame" "[I" ∈ lw_tbl := tb1 (List.mem_of_getElem? (i := 48) rfl)
theorem mw3_12 : Cond.fieldLink RX2 18 "TallowHours$Burning" "flame" "[I" ∈ wsL_law := inr3 (List.mem_of_getElem? (i := 12) rfl)
theorem tw3_13 : Cond.fieldLink RX2 21 "TallowHours$Burning" "had" "[I" ∈ lw_tbl := tb1 (List.mem_of_getElem? (i := 51) rfl)
theorem mw3_13 : Cond.fieldLink RX2 21 "TallowHours$Burning" "had" "[I" ∈ wsL_law := inr3 (List.mem_of_getElem? (i := 13) rfl)
theorem tw3_14 : Cond.fieldLink RX2 24 "TallowHours$Burning" "cost" "I" ∈ lw_tbl := tb1 (List.mem_of_getElem? (i := 54) rfl)
theorem mw3_14 : Cond.fieldLink RX2 24 "TallowHours$Burning" "cost" "I" ∈ wsL_law := inr3 (List.mem_of_getElem? (i := 14) rfl)
theorem tw3_15 : Cond.fieldLink RX2 28 "TallowHours$Burning" "steps" "I" ∈ lw_tbl := tb1 (List.mem_of_getElem? (i := 56) rfl)
theorem mw3_15 : Cond.fieldLink RX2 28 "TallowHours$Burning" "steps" "I" ∈ wsL_law := inr3 (List.mem_of_getElem? (i := 15) rfl)
theorem tw3_16 : Cond.methodLink RX7 28 yX0_init ∈ lw_tbl := tb1 (List.mem_of_getElem? (i := 74) rfl)
theorem mw3_16 : Cond.methodLink RX7 28 yX0_init ∈ wsL_law := inr3 (List.mem_of_getElem? (i := 16) rfl)
theorem tw3_17 : Cond.instanceMethod yX0_init ∈ lw_tbl := tb1 (List.mem_of_getElem? (i := 75) rfl)
theorem mw3_17 : Cond.instanceMethod yX0_init ∈ wsL_law := inr3 (List.mem_of_getElem? (i := 17) rfl)
theorem tw3_18 : Cond.code yX0_init cX0_init 1 none ∈ lw_tbl := tb1 (List.mem_of_getElem? (i := 76) rfl)
theorem mw3_18 : Cond.code yX0_init cX0_init 1 none ∈ wsL_law := inr3 (List.mem_of_getElem? (i := 18) rfl)
theorem tw3_19 : Cond.methodLink RX0 3 objectInit ∈ lw_tbl := tb1 (List.mem_of_getElem? (i := 77) rfl)
theorem mw3_19 : Cond.methodLink RX0 3 objectInit ∈ wsL_law := inr3 (List.mem_of_getElem? (i := 19) rfl)
theorem tw3_20 : Cond.fieldLink RX0 11 "TallowHours$Acts" "cells" "[I" ∈ lw_tbl := tb1 (List.mem_of_getElem? (i := 78) rfl)
theorem mw3_20 : Cond.fieldLink RX0 11 "TallowHours$Acts" "cells" "[I" ∈ wsL_law := inr3 (List.mem_of_getElem? (i := 20) rfl)
theorem tw3_21 : Cond.fieldLink RX0 17 "TallowHours$Acts" "first" "I" ∈ lw_tbl := tb1 (List.mem_of_getElem? (i := 79) rfl)
theorem mw3_21 : Cond.fieldLink RX0 17 "TallowHours$Acts" "first" "I" ∈ wsL_law := inr3 (List.mem_of_getElem? (i := 21) rfl)
theorem tw3_22 : Cond.fieldLink RX0 21 "TallowHours$Acts" "size" "I" ∈ lw_tbl := tb1 (List.mem_of_getElem? (i := 80) rfl)
theorem mw3_22 : Cond.fieldLink RX0 21 "TallowHours$Acts" "size" "I" ∈ wsL_law := inr3 (List.mem_of_getElem? (i := 22) rfl)
theorem tw3_23 : Cond.methodLink RX7 35 yX4_init ∈ lw_tbl := tb1 (List.mem_of_getElem? (i := 91) rfl)
theorem mw3_23 : Cond.methodLink RX7 35 yX4_init ∈ wsL_law := inr3 (List.mem_of_getElem? (i := 23) rfl)
theorem gdr3 : GoodIn lw_tbl wsL_law_r3 := List.forall_mem_cons.mpr ⟨⟨tw3_0, Or.inl rfl⟩, List.forall_mem_cons.mpr ⟨⟨tw3_1, Or.inl rfl⟩, List.forall_mem_cons.mpr ⟨⟨tw3_2, Or.inl rfl⟩, List.forall_mem_cons.mpr ⟨⟨tw3_3, Or.inl rfl⟩, List.forall_mem_cons.mpr ⟨⟨tw3_4, Or.inl rfl⟩, List.forall_mem_cons.mpr ⟨⟨tw3_5, Or.inl rfl⟩, List.forall_mem_cons.mpr ⟨⟨tw3_6, Or.inl rfl⟩, List.forall_mem_cons.mpr ⟨⟨tw3_7, Or.inl rfl⟩, List.forall_mem_cons.mpr ⟨⟨tw3_8, Or.inl rfl⟩, List.forall_mem_cons.mpr ⟨⟨tw3_9, Or.inl rfl⟩, List.forall_mem_cons.mpr ⟨⟨tw3_10, Or.inl rfl⟩, List.forall_mem_cons.mpr ⟨⟨tw3_11, Or.inl rfl⟩, List.forall_mem_cons.mpr ⟨⟨tw3_12, Or.inl rfl⟩, List.forall_mem_cons.mpr ⟨⟨tw3_13, Or.inl rfl⟩, List.forall_mem_cons.mpr ⟨⟨tw3_14, Or.inl rfl⟩, List.forall_mem_cons.mpr ⟨⟨tw3_15, Or.inl rfl⟩, List.forall_mem_cons.mpr ⟨⟨tw3_16, Or.inl rfl⟩, List.forall_mem_cons.mpr ⟨⟨tw3_17, Or.inl rfl⟩, List.forall_mem_cons.mpr ⟨⟨tw3_18, Or.inl rfl⟩, List.forall_mem_cons.mpr ⟨⟨tw3_19, Or.inl rfl⟩, List.forall_mem_cons.mpr ⟨⟨tw3_20, Or.inl rfl⟩, List.forall_mem_cons.mpr ⟨⟨tw3_21, Or.inl rfl⟩, List.forall_mem_cons.mpr ⟨⟨tw3_22, Or.inl rfl⟩, List.forall_mem_cons.mpr ⟨⟨tw3_23, Or.inl rfl⟩, fun _ h => absurd h List.not_mem_nil⟩⟩⟩⟩⟩⟩⟩⟩⟩⟩⟩⟩⟩⟩⟩⟩⟩⟩⟩⟩⟩⟩⟩⟩
theorem tw4_0 : Cond.instanceMethod yX4_init ∈ lw_tbl := tb1 (List.mem_of_getElem? (i := 92) rfl)
theorem mw4_0 : Cond.instanceMethod yX4_init ∈ wsL_law := inr4 (List.mem_of_getElem? (i := 0) rfl)
theorem tw4_1 : Cond.code yX4_init cX4_init 1 none ∈ lw_tbl := tb1 (List.mem_of_getElem? (i := 93) rfl)
theorem mw4_1 : Cond.code yX4_init cX4_init 1 none ∈ wsL_law := inr4 (List.mem_of_getElem? (i := 1) rfl)
theorem tw4_2 : Cond.methodLink RX4 3 objectInit ∈ lw_tbl := tb1 (List.mem_of_getElem? (i := 94) rfl)
theorem mw4_2 : Cond.methodLink RX4 3 objectInit ∈ wsL_law := inr4 (List.mem_of_getElem? (i := 2) rfl)
theorem tw4_3 : Cond.arrayClass .long ∈ lw_tbl := tb1 (List.mem_of_getElem? (i := 135) rfl)
theorem mw4_3 : Cond.arrayClass .long ∈ wsL_law := inr4 (List.mem_of_getElem? (i := 3) rfl)
theorem tw4_4 : Cond.fieldLink RX4 11 "TallowHours$Planner" "gives" "[J" ∈ lw_tbl := tb1 (List.mem_of_getElem? (i := 95) rfl)
theorem mw4_4 : Cond.fieldLink RX4 11 "TallowHours$Planner" "gives" "[J" ∈ wsL_law := inr4 (List.mem_of_getElem? (i := 4) rfl)
theorem tw4_5 : Cond.fieldLink RX4 15 "TallowHours$Planner" "price" "[I" ∈ lw_tbl := tb1 (List.mem_of_getElem? (i := 96) rfl)
theorem mw4_5 : Cond.fieldLink RX4 15 "TallowHours$Planner" "price" "[I" ∈ wsL_law := inr4 (List.mem_of_getElem? (i := 5) rfl)
theorem tw4_6 : Cond.fieldLink RX4 19 "TallowHours$Planner" "lastFigure" "[I" ∈ lw_tbl := tb1 (List.mem_of_getElem? (i := 97) rfl)
theorem mw4_6 : Cond.fieldLink RX4 19 "TallowHours$Planner" "lastFigure" "[I" ∈ wsL_law := inr4 (List.mem_of_getElem? (i := 6) rfl)
theorem tw4_7 : Cond.fieldLink RX4 22 "TallowHours$Planner" "takes" "[J" ∈ lw_tbl := tb1 (List.mem_of_getElem? (i := 98) rfl)
theorem mw4_7 : Cond.fieldLink RX4 22 "TallowHours$Planner" "takes" "[J" ∈ wsL_law := inr4 (List.mem_of_getElem? (i := 7) rfl)
theorem tw4_8 : Cond.fieldLink RX4 25 "TallowHours$Planner" "lacks" "[I" ∈ lw_tbl := tb1 (List.mem_of_getElem? (i := 99) rfl)
theorem mw4_8 : Cond.fieldLink RX4 25 "TallowHours$Planner" "lacks" "[I" ∈ wsL_law := inr4 (List.mem_of_getElem? (i := 8) rfl)
theorem tw4_9 : Cond.fieldLink RX4 28 "TallowHours$Planner" "figures" "[I" ∈ lw_tbl := tb1 (List.mem_of_getElem? (i := 100) rfl)
theorem mw4_9 : Cond.fieldLink RX4 28 "TallowHours$Planner" "figures" "[I" ∈ wsL_law := inr4 (List.mem_of_getElem? (i := 9) rfl)
theorem tw4_10 : Cond.fieldLink RX4 31 "TallowHours$Planner" "chosen" "[I" ∈ lw_tbl := tb1 (List.mem_of_getElem? (i := 101) rfl)
theorem mw4_10 : Cond.fieldLink RX4 31 "TallowHours$Planner" "chosen" "[I" ∈ wsL_law := inr4 (List.mem_of_getElem? (i := 10) rfl)
theorem tw4_11 : Cond.fieldLink RX4 34 "TallowHours$Planner" "cheapest" "[I" ∈ lw_tbl := tb1 (List.mem_of_getElem? (i := 103) rfl)
theorem mw4_11 : Cond.fieldLink RX4 34 "TallowHours$Planner" "cheapest" "[I" ∈ wsL_law := inr4 (List.mem_of_getElem? (i := 11) rfl)
theorem tw4_12 : Cond.fieldLink RX4 37 "TallowHours$Planner" "guests" "I" ∈ lw_tbl := tb1 (List.mem_of_getElem? (i := 104) rfl)
theorem mw4_12 : Cond.fieldLink RX4 37 "TallowHours$Planner" "guests" "I" ∈ wsL_law := inr4 (List.mem_of_getElem? (i := 12) rfl)
theorem tw4_13 : Cond.fieldLink RX4 41 "TallowHours$Planner" "all" "I" ∈ lw_tbl := tb1 (List.mem_of_getElem? (i := 105) rfl)
theorem mw4_13 : Cond.fieldLink RX4 41 "TallowHours$Planner" "all" "I" ∈ wsL_law := inr4 (List.mem_of_getElem? (i := 13) rfl)
theorem tw4_14 : Cond.fieldLink RX4 44 "TallowHours$Planner" "reached" "I" ∈ lw_tbl := tb1 (List.mem_of_getElem? (i := 106) rfl)
theorem mw4_14 : Cond.fieldLink RX4 44 "TallowHours$Planner" "reached" "I" ∈ wsL_law := inr4 (List.mem_of_getElem? (i := 14) rfl)
theorem tw4_15 : Cond.fieldLink RX4 47 "TallowHours$Planner" "fresh" "Z" ∈ lw_tbl := tb1 (List.mem_of_getElem? (i := 108) rfl)
theorem mw4_15 : Cond.fieldLink RX4 47 "TallowHours$Planner" "fresh" "Z" ∈ wsL_law := inr4 (List.mem_of_getElem? (i := 15) rfl)
theorem tw4_16 : Cond.methodLink RX7 42 yX1_init ∈ lw_tbl := tb1 (List.mem_of_getElem? (i := 138) rfl)
theorem mw4_16 : Cond.methodLink RX7 42 yX1_init ∈ wsL_law := inr4 (List.mem_of_getElem? (i := 16) rfl)
theorem tw4_17 : Cond.instanceMethod yX1_init ∈ lw_tbl := tb1 (List.mem_of_getElem? (i := 139) rfl)
theorem mw4_17 : Cond.instanceMethod yX1_init ∈ wsL_law := inr4 (List.mem_of_getElem? (i := 17) rfl)
theorem tw4_18 : Cond.code yX1_init cX1_init 1 none ∈ lw_tbl := tb1 (List.mem_of_getElem? (i := 140) rfl)
theorem mw4_18 : Cond.code yX1_init cX1_init 1 none ∈ wsL_law := inr4 (List.mem_of_getElem? (i := 18) rfl)
theorem tw4_19 : Cond.methodLink RX1 3 objectInit ∈ lw_tbl := tb1 (List.mem_of_getElem? (i := 141) rfl)
theorem mw4_19 : Cond.methodLink RX1 3 objectInit ∈ wsL_law := inr4 (List.mem_of_getElem? (i := 19) rfl)
theorem tw4_20 : Cond.fieldLink RX1 9 "TallowHours$Box" "seen" "[I" ∈ lw_tbl := tb1 (List.mem_of_getElem? (i := 142) rfl)
theorem mw4_20 : Cond.fieldLink RX1 9 "TallowHours$Box" "seen" "[I" ∈ wsL_law := inr4 (List.mem_of_getElem? (i := 20) rfl)
theorem tw4_21 : Cond.fieldLink RX1 15 "TallowHours$Box" "size" "I" ∈ lw_tbl := tb1 (List.mem_of_getElem? (i := 143) rfl)
theorem mw4_21 : Cond.fieldLink RX1 15 "TallowHours$Box" "size" "I" ∈ wsL_law := inr4 (List.mem_of_getElem? (i := 21) rfl)
theorem tw4_22 : Cond.methodLink RX7 49 yX5_init ∈ lw_tbl := tb1 (List.mem_of_getElem? (i := 152) rfl)
theorem mw4_22 : Cond.methodLink RX7 49 yX5_init ∈ wsL_law := inr4 (List.mem_of_getElem? (i := 22) rfl)
theorem tw4_23 : Cond.instanceMethod yX5_init ∈ lw_tbl := tb1 (List.mem_of_getElem? (i := 153) rfl)
theorem mw4_23 : Cond.instanceMethod yX5_init ∈ wsL_law := inr4 (List.mem_of_getElem? (i := 23) rfl)
theorem gdr4 : GoodIn lw_tbl wsL_law_r4 := List.forall_mem_cons.mpr ⟨⟨tw4_0, Or.inl rfl⟩, List.forall_mem_cons.mpr ⟨⟨tw4_1, Or.inl rfl⟩, List.forall_mem_cons.mpr ⟨⟨tw4_2, Or.inl rfl⟩, List.forall_mem_cons.mpr ⟨⟨tw4_3, Or.inr ⟨_, rfl⟩⟩, List.forall_mem_cons.mpr ⟨⟨tw4_4, Or.inl rfl⟩, List.forall_mem_cons.mpr ⟨⟨tw4_5, Or.inl rfl⟩, List.forall_mem_cons.mpr ⟨⟨tw4_6, Or.inl rfl⟩, List.forall_mem_cons.mpr ⟨⟨tw4_7, Or.inl rfl⟩, List.forall_mem_cons.mpr ⟨⟨tw4_8, Or.inl rfl⟩, List.forall_mem_cons.mpr ⟨⟨tw4_9, Or.inl rfl⟩, List.forall_mem_cons.mpr ⟨⟨tw4_10, Or.inl rfl⟩, List.forall_mem_cons.mpr ⟨⟨tw4_11, Or.inl rfl⟩, List.forall_mem_cons.mpr ⟨⟨tw4_12, Or.inl rfl⟩, List.forall_mem_cons.mpr ⟨⟨tw4_13, Or.inl rfl⟩, List.forall_mem_cons.mpr ⟨⟨tw4_14, Or.inl rfl⟩, List.forall_mem_cons.mpr ⟨⟨tw4_15, Or.inl rfl⟩, List.forall_mem_cons.mpr ⟨⟨tw4_16, Or.inl rfl⟩, List.forall_mem_cons.mpr ⟨⟨tw4_17, Or.inl rfl⟩, List.forall_mem_cons.mpr ⟨⟨tw4_18, Or.inl rfl⟩, List.forall_mem_cons.mpr ⟨⟨tw4_19, Or.inl rfl⟩, List.forall_mem_cons.mpr ⟨⟨tw4_20, Or.inl rfl⟩, List.forall_mem_cons.mpr ⟨⟨tw4_21, Or.inl rfl⟩, List.forall_mem_cons.mpr ⟨⟨tw4_22, Or.inl rfl⟩, List.forall_mem_cons.mpr ⟨⟨tw4_23, Or.inl rfl⟩, fun _ h => absurd h List.not_mem_nil⟩⟩⟩⟩⟩⟩⟩⟩⟩⟩⟩⟩⟩⟩⟩⟩⟩⟩⟩⟩⟩⟩⟩⟩
theorem tw5_0 : Cond.code yX5_init cX5_init 1 none ∈ lw_tbl := tb1 (List.mem_of_getElem? (i := 154) rfl)
theorem mw5_0 : Cond.code yX5_init cX5_init 1 none ∈ wsL_law := inr5 (List.mem_of_getElem? (i := 0) rfl)
theorem tw5_1 : Cond.methodLink RX5 3 objectInit ∈ lw_tbl := tb1 (List.mem_of_getElem? (i := 155) rfl)
theorem mw5_1 : Cond.methodLink RX5 3 objectInit ∈ wsL_law := inr5 (List.mem_of_getElem? (i := 1) rfl)
theorem tw5_2 : Cond.fieldLink RX5 9 "TallowHours$Saw" "least" "[I" ∈ lw_tbl := tb1 (List.mem_of_getElem? (i := 156) rfl)
theorem mw5_2 : Cond.fieldLink RX5 9 "TallowHours$Saw" "least" "[I" ∈ wsL_law := inr5 (List.mem_of_getElem? (i := 2) rfl)
theorem tw5_3 : Cond.methodLink RX7 64 yX3_init ∈ lw_tbl := tb1 (List.mem_of_getElem? (i := 162) rfl)
theorem mw5_3 : Cond.methodLink RX7 64 yX3_init ∈ wsL_law := inr5 (List.mem_of_getElem? (i := 3) rfl)
theorem tw5_4 : Cond.instanceMethod yX3_init ∈ lw_tbl := tb1 (List.mem_of_getElem? (i := 163) rfl)
theorem mw5_4 : Cond.instanceMethod yX3_init ∈ wsL_law := inr5 (List.mem_of_getElem? (i := 4) rfl)
theorem tw5_5 : Cond.code yX3_init cX3_init 1 none ∈ lw_tbl := tb1 (List.mem_of_getElem? (i := 164) rfl)
theorem mw5_5 : Cond.code yX3_init cX3_init 1 none ∈ wsL_law := inr5 (List.mem_of_getElem? (i := 5) rfl)
theorem tw5_6 : Cond.methodLink RX3 3 objectInit ∈ lw_tbl := tb1 (List.mem_of_getElem? (i := 165) rfl)
theorem mw5_6 : Cond.methodLink RX3 3 objectInit ∈ wsL_law := inr5 (List.mem_of_getElem? (i := 6) rfl)
theorem tw5_7 : Cond.fieldLink RX3 9 "TallowHours$Party" "evening" "[I" ∈ lw_tbl := tb1 (List.mem_of_getElem? (i := 166) rfl)
theorem mw5_7 : Cond.fieldLink RX3 9 "TallowHours$Party" "evening" "[I" ∈ wsL_law := inr5 (List.mem_of_getElem? (i := 7) rfl)
theorem tw5_8 : Cond.fieldLink RX3 15 "TallowHours$Party" "start" "[I" ∈ lw_tbl := tb1 (List.mem_of_getElem? (i := 168) rfl)
theorem mw5_8 : Cond.fieldLink RX3 15 "TallowHours$Party" "start" "[I" ∈ wsL_law := inr5 (List.mem_of_getElem? (i := 8) rfl)
theorem tw5_9 : Cond.fieldLink RX3 18 "TallowHours$Party" "inches" "[I" ∈ lw_tbl := tb1 (List.mem_of_getElem? (i := 172) rfl)
theorem mw5_9 : Cond.fieldLink RX3 18 "TallowHours$Party" "inches" "[I" ∈ wsL_law := inr5 (List.mem_of_getElem? (i := 9) rfl)
theorem tw5_10 : Cond.fieldLink RX3 21 "TallowHours$Party" "price" "[I" ∈ lw_tbl := tb1 (List.mem_of_getElem? (i := 176) rfl)
theorem mw5_10 : Cond.fieldLink RX3 21 "TallowHours$Party" "price" "[I" ∈ wsL_law := inr5 (List.mem_of_getElem? (i := 10) rfl)
theorem tw5_11 : Cond.fieldLink RX3 24 "TallowHours$Party" "wish" "[I" ∈ lw_tbl := tb1 (List.mem_of_getElem? (i := 181) rfl)
theorem mw5_11 : Cond.fieldLink RX3 24 "TallowHours$Party" "wish" "[I" ∈ wsL_law := inr5 (List.mem_of_getElem? (i := 11) rfl)
theorem tw5_12 : Cond.fieldLink RX3 27 "TallowHours$Party" "wanted" "[I" ∈ lw_tbl := tb1 (List.mem_of_getElem? (i := 186) rfl)
theorem mw5_12 : Cond.fieldLink RX3 27 "TallowHours$Party" "wanted" "[I" ∈ wsL_law := inr5 (List.mem_of_getElem? (i := 12) rfl)
theorem tw5_13 : Cond.fieldLink RX3 30 "TallowHours$Party" "comes" "[I" ∈ lw_tbl := tb1 (List.mem_of_getElem? (i := 191) rfl)
theorem mw5_13 : Cond.fieldLink RX3 30 "TallowHours$Party" "comes" "[I" ∈ wsL_law := inr5 (List.mem_of_getElem? (i := 13) rfl)
theorem tw5_14 : Cond.fieldLink RX3 33 "TallowHours$Party" "goes" "[I" ∈ lw_tbl := tb1 (List.mem_of_getElem? (i := 196) rfl)
theorem mw5_14 : Cond.fieldLink RX3 33 "TallowHours$Party" "goes" "[I" ∈ wsL_law := inr5 (List.mem_of_getElem? (i := 14) rfl)
theorem tw5_15 : Cond.fieldLink RX3 36 "TallowHours$Party" "moments" "I" ∈ lw_tbl := tb1 (List.mem_of_getElem? (i := 201) rfl)
theorem mw5_15 : Cond.fieldLink RX3 36 "TallowHours$Party" "moments" "I" ∈ wsL_law := inr5 (List.mem_of_getElem? (i := 15) rfl)
theorem tw5_16 : Cond.fieldLink RX3 40 "TallowHours$Party" "candles" "I" ∈ lw_tbl := tb1 (List.mem_of_getElem? (i := 205) rfl)
theorem mw5_16 : Cond.fieldLink RX3 40 "TallowHours$Party" "candles" "I" ∈ wsL_law := inr5 (List.mem_of_getElem? (i := 16) rfl)
theorem tw5_17 : Cond.fieldLink RX3 43 "TallowHours$Party" "guests" "I" ∈ lw_tbl := tb1 (List.mem_of_getElem? (i := 209) rfl)
theorem mw5_17 : Cond.fieldLink RX3 43 "TallowHours$Party" "guests" "I" ∈ wsL_law := inr5 (List.mem_of_getElem? (i := 17) rfl)
theorem tw5_18 : Cond.methodLink RL 12 yX8_init ∈ lw_tbl := tb3 (List.mem_of_getElem? (i := 171) rfl)
theorem mw5_18 : Cond.methodLink RL 12 yX8_init ∈ wsL_law := inr5 (List.mem_of_getElem? (i := 18) rfl)
theorem tw5_19 : Cond.instanceMethod yX8_init ∈ lw_tbl := tb3 (List.mem_of_getElem? (i := 172) rfl)
theorem mw5_19 : Cond.instanceMethod yX8_init ∈ wsL_law := inr5 (List.mem_of_getElem? (i := 19) rfl)
theorem tw5_20 : Cond.code yX8_init cX8_init 1 none ∈ lw_tbl := tb3 (List.mem_of_getElem? (i := 173) rfl)
theorem mw5_20 : Cond.code yX8_init cX8_init 1 none ∈ wsL_law := inr5 (List.mem_of_getElem? (i := 20) rfl)
theorem tw5_21 : Cond.methodLink RX8 1 objectInit ∈ lw_tbl := tb3 (List.mem_of_getElem? (i := 174) rfl)
theorem mw5_21 : Cond.methodLink RX8 1 objectInit ∈ wsL_law := inr5 (List.mem_of_getElem? (i := 21) rfl)
theorem tw5_22 : Cond.fieldLink RX8 7 "TallowHoursModel" "evening" "[I" ∈ lw_tbl := tb3 (List.mem_of_getElem? (i := 178) rfl)
theorem mw5_22 : Cond.fieldLink RX8 7 "TallowHoursModel" "evening" "[I" ∈ wsL_law := inr5 (List.mem_of_getElem? (i := 22) rfl)
theorem tw5_23 : Cond.fieldLink RX8 13 "TallowHoursModel" "first" "[I" ∈ lw_tbl := tb3 (List.mem_of_getElem? (i := 179) rfl)
theorem mw5_23 : Cond.fieldLink RX8 13 "TallowHoursModel" "first" "[I" ∈ wsL_law := inr5 (List.mem_of_getElem? (i := 23) rfl)
theorem gdr5 : GoodIn lw_tbl wsL_law_r5 := List.forall_mem_cons.mpr ⟨⟨tw5_0, Or.inl rfl⟩, List.forall_mem_cons.mpr ⟨⟨tw5_1, Or.inl rfl⟩, List.forall_mem_cons.mpr ⟨⟨tw5_2, Or.inl rfl⟩, List.forall_mem_cons.mpr ⟨⟨tw5_3, Or.inl rfl⟩, List.forall_mem_cons.mpr ⟨⟨tw5_4, Or.inl rfl⟩, List.forall_mem_cons.mpr ⟨⟨tw5_5, Or.inl rfl⟩, List.forall_mem_cons.mpr ⟨⟨tw5_6, Or.inl rfl⟩, List.forall_mem_cons.mpr ⟨⟨tw5_7, Or.inl rfl⟩, List.forall_mem_cons.mpr ⟨⟨tw5_8, Or.inl rfl⟩, List.forall_mem_cons.mpr ⟨⟨tw5_9, Or.inl rfl⟩, List.forall_mem_cons.mpr ⟨⟨tw5_10, Or.inl rfl⟩, List.forall_mem_cons.mpr ⟨⟨tw5_11, Or.inl rfl⟩, List.forall_mem_cons.mpr ⟨⟨tw5_12, Or.inl rfl⟩, List.forall_mem_cons.mpr ⟨⟨tw5_13, Or.inl rfl⟩, List.forall_mem_cons.mpr ⟨⟨tw5_14, Or.inl rfl⟩, List.forall_mem_cons.mpr ⟨⟨tw5_15, Or.inl rfl⟩, List.forall_mem_cons.mpr ⟨⟨tw5_16, Or.inl rfl⟩, List.forall_mem_cons.mpr ⟨⟨tw5_17, Or.inl rfl⟩, List.forall_mem_cons.mpr ⟨⟨tw5_18, Or.inl rfl⟩, List.forall_mem_cons.mpr ⟨⟨tw5_19, Or.inl rfl⟩, List.forall_mem_cons.mpr ⟨⟨tw5_20, Or.inl rfl⟩, List.forall_mem_cons.mpr ⟨⟨tw5_21, Or.inl rfl⟩, List.forall_mem_cons.mpr ⟨⟨tw5_22, Or.inl rfl⟩, List.forall_mem_cons.mpr ⟨⟨tw5_23, Or.inl rfl⟩, fun _ h => absurd h List.not_mem_nil⟩⟩⟩⟩⟩⟩⟩⟩⟩⟩⟩⟩⟩⟩⟩⟩⟩⟩⟩⟩⟩⟩⟩⟩
theorem tw6_0 : Cond.fieldLink RX8 16 "TallowHoursModel" "inches" "[I" ∈ lw_tbl := tb3 (List.mem_of_getElem? (i := 180) rfl)
theorem mw6_0 : Cond.fieldLink RX8 16 "TallowHoursModel" "inches" "[I" ∈ wsL_law := inr6 (List.mem_of_getElem? (i := 0) rfl)
theorem tw6_1 : Cond.fieldLink RX8 19 "TallowHoursModel" "price" "[I" ∈ lw_tbl := tb3 (List.mem_of_getElem? (i := 181) rfl)
theorem mw6_1 : Cond.fieldLink RX8 19 "TallowHoursModel" "price" "[I" ∈ wsL_law := inr6 (List.mem_of_getElem? (i := 1) rfl)
theorem tw6_2 : Cond.fieldLink RX8 22 "TallowHoursModel" "wants" "[I" ∈ lw_tbl := tb3 (List.mem_of_getElem? (i := 182) rfl)
theorem mw6_2 : Cond.fieldLink RX8 22 "TallowHoursModel" "wants" "[I" ∈ wsL_law := inr6 (List.mem_of_getElem? (i := 2) rfl)
theorem tw6_3 : Cond.fieldLink RX8 25 "TallowHoursModel" "needs" "[I" ∈ lw_tbl := tb3 (List.mem_of_getElem? (i := 183) rfl)
theorem mw6_3 : Cond.fieldLink RX8 25 "TallowHoursModel" "needs" "[I" ∈ wsL_law := inr6 (List.mem_of_getElem? (i := 3) rfl)
theorem tw6_4 : Cond.fieldLink RX8 28 "TallowHoursModel" "comes" "[I" ∈ lw_tbl := tb3 (List.mem_of_getElem? (i := 184) rfl)
theorem mw6_4 : Cond.fieldLink RX8 28 "TallowHoursModel" "comes" "[I" ∈ wsL_law := inr6 (List.mem_of_getElem? (i := 4) rfl)
theorem tw6_5 : Cond.fieldLink RX8 31 "TallowHoursModel" "goes" "[I" ∈ lw_tbl := tb3 (List.mem_of_getElem? (i := 185) rfl)
theorem mw6_5 : Cond.fieldLink RX8 31 "TallowHoursModel" "goes" "[I" ∈ wsL_law := inr6 (List.mem_of_getElem? (i := 5) rfl)
theorem tw6_6 : Cond.fieldLink RX8 34 "TallowHoursModel" "now" "[I" ∈ lw_tbl := tb3 (List.mem_of_getElem? (i := 186) rfl)
theorem mw6_6 : Cond.fieldLink RX8 34 "TallowHoursModel" "now" "[I" ∈ wsL_law := inr6 (List.mem_of_getElem? (i := 6) rfl)
theorem tw6_7 : Cond.fieldLink RX8 37 "TallowHoursModel" "text" "[I" ∈ lw_tbl := tb3 (List.mem_of_getElem? (i := 187) rfl)
theorem mw6_7 : Cond.fieldLink RX8 37 "TallowHoursModel" "text" "[I" ∈ wsL_law := inr6 (List.mem_of_getElem? (i := 7) rfl)
theorem tw6_8 : Cond.fieldLink RX8 40 "TallowHoursModel" "readEvening" "[I" ∈ lw_tbl := tb3 (List.mem_of_getElem? (i := 194) rfl)
theorem mw6_8 : Cond.fieldLink RX8 40 "TallowHoursModel" "readEvening" "[I" ∈ wsL_law := inr6 (List.mem_of_getElem? (i := 8) rfl)
theorem tw6_9 : Cond.fieldLink RX8 43 "TallowHoursModel" "readCandle" "[I" ∈ lw_tbl := tb3 (List.mem_of_getElem? (i := 195) rfl)
theorem mw6_9 : Cond.fieldLink RX8 43 "TallowHoursModel" "readCandle" "[I" ∈ wsL_law := inr6 (List.mem_of_getElem? (i := 9) rfl)
theorem tw6_10 : Cond.fieldLink RX8 46 "TallowHoursModel" "readGuest" "[I" ∈ lw_tbl := tb3 (List.mem_of_getElem? (i := 196) rfl)
theorem mw6_10 : Cond.fieldLink RX8 46 "TallowHoursModel" "readGuest" "[I" ∈ wsL_law := inr6 (List.mem_of_getElem? (i := 10) rfl)
theorem tw6_11 : Cond.fieldLink RX8 49 "TallowHoursModel" "row" "[I" ∈ lw_tbl := tb3 (List.mem_of_getElem? (i := 199) rfl)
theorem mw6_11 : Cond.fieldLink RX8 49 "TallowHoursModel" "row" "[I" ∈ wsL_law := inr6 (List.mem_of_getElem? (i := 11) rfl)
theorem tw6_12 : Cond.fieldLink RX8 52 "TallowHoursModel" "bestPlan" "[I" ∈ lw_tbl := tb3 (List.mem_of_getElem? (i := 200) rfl)
theorem mw6_12 : Cond.fieldLink RX8 52 "TallowHoursModel" "bestPlan" "[I" ∈ wsL_law := inr6 (List.mem_of_getElem? (i := 12) rfl)
theorem tw6_13 : Cond.fieldLink RX8 55 "TallowHoursModel" "bestCost" "[I" ∈ lw_tbl := tb3 (List.mem_of_getElem? (i := 201) rfl)
theorem mw6_13 : Cond.fieldLink RX8 55 "TallowHoursModel" "bestCost" "[I" ∈ wsL_law := inr6 (List.mem_of_getElem? (i := 13) rfl)
theorem tw6_14 : Cond.fieldLink RX8 58 "TallowHoursModel" "most" "[I" ∈ lw_tbl := tb3 (List.mem_of_getElem? (i := 202) rfl)
theorem mw6_14 : Cond.fieldLink RX8 58 "TallowHoursModel" "most" "[I" ∈ wsL_law := inr6 (List.mem_of_getElem? (i := 14) rfl)
theorem tw6_15 : Cond.fieldLink RX8 61 "TallowHoursModel" "sights" "[I" ∈ lw_tbl := tb3 (List.mem_of_getElem? (i := 204) rfl)
theorem mw6_15 : Cond.fieldLink RX8 61 "TallowHoursModel" "sights" "[I" ∈ wsL_law := inr6 (List.mem_of_getElem? (i := 15) rfl)
theorem tw6_16 : Cond.fieldLink RX8 64 "TallowHoursModel" "long1" "[I" ∈ lw_tbl := tb3 (List.mem_of_getElem? (i := 205) rfl)
theorem mw6_16 : Cond.fieldLink RX8 64 "TallowHoursModel" "long1" "[I" ∈ wsL_law := inr6 (List.mem_of_getElem? (i := 16) rfl)
theorem tw6_17 : Cond.fieldLink RX8 67 "TallowHoursModel" "isKept" "[Z" ∈ lw_tbl := tb3 (List.mem_of_getElem? (i := 207) rfl)
theorem mw6_17 : Cond.fieldLink RX8 67 "TallowHoursModel" "isKept" "[Z" ∈ wsL_law := inr6 (List.mem_of_getElem? (i := 17) rfl)
theorem tw6_18 : Cond.fieldLink RX8 71 "TallowHoursModel" "kept" "[I" ∈ lw_tbl := tb3 (List.mem_of_getElem? (i := 208) rfl)
theorem mw6_18 : Cond.fieldLink RX8 71 "TallowHoursModel" "kept" "[I" ∈ wsL_law := inr6 (List.mem_of_getElem? (i := 18) rfl)
theorem tw6_19 : Cond.fieldLink RX8 74 "TallowHoursModel" "moments" "I" ∈ lw_tbl := tb3 (List.mem_of_getElem? (i := 175) rfl)
theorem mw6_19 : Cond.fieldLink RX8 74 "TallowHoursModel" "moments" "I" ∈ wsL_law := inr6 (List.mem_of_getElem? (i := 19) rfl)
theorem tw6_20 : Cond.methodLink RL 13 yX7_write ∈ lw_tbl := tb2 (List.mem_of_getElem? (i := 35) rfl)
theorem mw6_20 : Cond.methodLink RL 13 yX7_write ∈ wsL_law := inr6 (List.mem_of_getElem? (i := 20) rfl)
theorem tw6_21 : Cond.instanceMethod yX7_write ∈ lw_tbl := tb2 (List.mem_of_getElem? (i := 36) rfl)
theorem mw6_21 : Cond.instanceMethod yX7_write ∈ wsL_law := inr6 (List.mem_of_getElem? (i := 21) rfl)
theorem tw6_22 : Cond.selects RX7 yX7_write yX7_write ∈ lw_tbl := tb2 (List.mem_of_getElem? (i := 37) rfl)
theorem mw6_22 : Cond.selects RX7 yX7_write yX7_write ∈ wsL_law := inr6 (List.mem_of_getElem? (i := 22) rfl)
theorem tw6_23 : Cond.code yX7_write cX7_write 2 (some .int) ∈ lw_tbl := tb2 (List.mem_of_getElem? (i := 38) rfl)
theorem mw6_23 : Cond.code yX7_write cX7_write 2 (some .int) ∈ wsL_law := inr6 (List.mem_of_getElem? (i := 23) rfl)
theorem gdr6 : GoodIn lw_tbl wsL_law_r6 := List.forall_mem_cons.mpr ⟨⟨tw6_0, Or.inl rfl⟩, List.forall_mem_cons.mpr ⟨⟨tw6_1, Or.inl rfl⟩, List.forall_mem_cons.mpr ⟨⟨tw6_2, Or.inl rfl⟩, List.forall_mem_cons.mpr ⟨⟨tw6_3, Or.inl rfl⟩, List.forall_mem_cons.mpr ⟨⟨tw6_4, Or.inl rfl⟩, List.forall_mem_cons.mpr ⟨⟨tw6_5, Or.inl rfl⟩, List.forall_mem_cons.mpr ⟨⟨tw6_6, Or.inl rfl⟩, List.forall_mem_cons.mpr ⟨⟨tw6_7, Or.inl rfl⟩, List.forall_mem_cons.mpr ⟨⟨tw6_8, Or.inl rfl⟩, List.forall_mem_cons.mpr ⟨⟨tw6_9, Or.inl rfl⟩, List.forall_mem_cons.mpr ⟨⟨tw6_10, Or.inl rfl⟩, List.forall_mem_cons.mpr ⟨⟨tw6_11, Or.inl rfl⟩, List.forall_mem_cons.mpr ⟨⟨tw6_12, Or.inl rfl⟩, List.forall_mem_cons.mpr ⟨⟨tw6_13, Or.inl rfl⟩, List.forall_mem_cons.mpr ⟨⟨tw6_14, Or.inl rfl⟩, List.forall_mem_cons.mpr ⟨⟨tw6_15, Or.inl rfl⟩, List.forall_mem_cons.mpr ⟨⟨tw6_16, Or.inl rfl⟩, List.forall_mem_cons.mpr ⟨⟨tw6_17, Or.inl rfl⟩, List.forall_mem_cons.mpr ⟨⟨tw6_18, Or.inl rfl⟩, List.forall_mem_cons.mpr ⟨⟨tw6_19, Or.inl rfl⟩, List.forall_mem_cons.mpr ⟨⟨tw6_20, Or.inl rfl⟩, List.forall_mem_cons.mpr ⟨⟨tw6_21, Or.inl rfl⟩, List.forall_mem_cons.mpr ⟨⟨tw6_22, Or.inl rfl⟩, List.forall_mem_cons.mpr ⟨⟨tw6_23, Or.inl rfl⟩, fun _ h => absurd h List.not_mem_nil⟩⟩⟩⟩⟩⟩⟩⟩⟩⟩⟩⟩⟩⟩⟩⟩⟩⟩⟩⟩⟩⟩⟩⟩
theorem tw7_0 : Cond.methodLink RX7 76 yX6_append ∈ lw_tbl := tb2 (List.mem_of_getElem? (i := 39) rfl)
theorem mw7_0 : Cond.methodLink RX7 76 yX6_append ∈ wsL_law := inr7 (List.mem_of_getElem? (i := 0) rfl)
theorem tw7_1 : Cond.instanceMethod yX6_append ∈ lw_tbl := tb2 (List.mem_of_getElem? (i := 40) rfl)
theorem mw7_1 : Cond.instanceMethod yX6_append ∈ wsL_law := inr7 (List.mem_of_getElem? (i := 1) rfl)
theorem tw7_2 : Cond.selects RX6 yX6_append yX6_append ∈ lw_tbl := tb2 (List.mem_of_getElem? (i := 41) rfl)
theorem mw7_2 : Cond.selects RX6 yX6_append yX6_append ∈ wsL_law := inr7 (List.mem_of_getElem? (i := 2) rfl)
theorem tw7_3 : Cond.code yX6_append cX6_append 2 (some .int) ∈ lw_tbl := tb2 (List.mem_of_getElem? (i := 42) rfl)
theorem mw7_3 : Cond.code yX6_append cX6_append 2 (some .int) ∈ wsL_law := inr7 (List.mem_of_getElem? (i := 3) rfl)
theorem tw7_4 : Cond.methodLink RL 17 yX8_write ∈ lw_tbl := tb4 (List.mem_of_getElem? (i := 38) rfl)
theorem mw7_4 : Cond.methodLink RL 17 yX8_write ∈ wsL_law := inr7 (List.mem_of_getElem? (i := 4) rfl)
theorem tw7_5 : Cond.instanceMethod yX8_write ∈ lw_tbl := tb4 (List.mem_of_getElem? (i := 39) rfl)
theorem mw7_5 : Cond.instanceMethod yX8_write ∈ wsL_law := inr7 (List.mem_of_getElem? (i := 5) rfl)
theorem tw7_6 : Cond.selects RX8 yX8_write yX8_write ∈ lw_tbl := tb4 (List.mem_of_getElem? (i := 40) rfl)
theorem mw7_6 : Cond.selects RX8 yX8_write yX8_write ∈ wsL_law := inr7 (List.mem_of_getElem? (i := 6) rfl)
theorem tw7_7 : Cond.code yX8_write cX8_write 2 (some .int) ∈ lw_tbl := tb4 (List.mem_of_getElem? (i := 41) rfl)
theorem mw7_7 : Cond.code yX8_write cX8_write 2 (some .int) ∈ wsL_law := inr7 (List.mem_of_getElem? (i := 7) rfl)
theorem tw7_8 : Cond.constantLong RX8 78 (255) ∈ lw_tbl := tb4 (List.mem_of_getElem? (i := 42) rfl)
theorem mw7_8 : Cond.constantLong RX8 78 (255) ∈ wsL_law := inr7 (List.mem_of_getElem? (i := 8) rfl)
theorem tw7_9 : Cond.fieldLink RX8 84 "TallowHoursModel" "length" "I" ∈ lw_tbl := tb3 (List.mem_of_getElem? (i := 188) rfl)
theorem mw7_9 : Cond.fieldLink RX8 84 "TallowHoursModel" "length" "I" ∈ wsL_law := inr7 (List.mem_of_getElem? (i := 9) rfl)
theorem tw7_10 : Cond.methodLink RX8 80 yX8_in ∈ lw_tbl := tb4 (List.mem_of_getElem? (i := 43) rfl)
theorem mw7_10 : Cond.methodLink RX8 80 yX8_in ∈ wsL_law := inr7 (List.mem_of_getElem? (i := 10) rfl)
theorem tw7_11 : Cond.static yX8_in ∈ lw_tbl := tb4 (List.mem_of_getElem? (i := 44) rfl)
theorem mw7_11 : Cond.static yX8_in ∈ wsL_law := inr7 (List.mem_of_getElem? (i := 11) rfl)
theorem tw7_12 : Cond.code yX8_in cX8_in 6 (some .boolean) ∈ lw_tbl := tb4 (List.mem_of_getElem? (i := 45) rfl)
theorem mw7_12 : Cond.code yX8_in cX8_in 6 (some .boolean) ∈ wsL_law := inr7 (List.mem_of_getElem? (i := 12) rfl)
theorem tw7_13 : Cond.methodLink RL 18 yX7_wipe ∈ lw_tbl := tb2 (List.mem_of_getElem? (i := 43) rfl)
theorem mw7_13 : Cond.methodLink RL 18 yX7_wipe ∈ wsL_law := inr7 (List.mem_of_getElem? (i := 13) rfl)
theorem tw7_14 : Cond.instanceMethod yX7_wipe ∈ lw_tbl := tb2 (List.mem_of_getElem? (i := 44) rfl)
theorem mw7_14 : Cond.instanceMethod yX7_wipe ∈ wsL_law := inr7 (List.mem_of_getElem? (i := 14) rfl)
theorem tw7_15 : Cond.selects RX7 yX7_wipe yX7_wipe ∈ lw_tbl := tb2 (List.mem_of_getElem? (i := 45) rfl)
theorem mw7_15 : Cond.selects RX7 yX7_wipe yX7_wipe ∈ wsL_law := inr7 (List.mem_of_getElem? (i := 15) rfl)
theorem tw7_16 : Cond.code yX7_wipe cX7_wipe 1 (some .int) ∈ lw_tbl := tb2 (List.mem_of_getElem? (i := 46) rfl)
theorem mw7_16 : Cond.code yX7_wipe cX7_wipe 1 (some .int) ∈ wsL_law := inr7 (List.mem_of_getElem? (i := 16) rfl)
theorem tw7_17 : Cond.methodLink RX7 80 yX6_clear ∈ lw_tbl := tb2 (List.mem_of_getElem? (i := 47) rfl)
theorem mw7_17 : Cond.methodLink RX7 80 yX6_clear ∈ wsL_law := inr7 (List.mem_of_getElem? (i := 17) rfl)
theorem tw7_18 : Cond.instanceMethod yX6_clear ∈ lw_tbl := tb2 (List.mem_of_getElem? (i := 48) rfl)
theorem mw7_18 : Cond.instanceMethod yX6_clear ∈ wsL_law := inr7 (List.mem_of_getElem? (i := 18) rfl)
theorem tw7_19 : Cond.selects RX6 yX6_clear yX6_clear ∈ lw_tbl := tb2 (List.mem_of_getElem? (i := 49) rfl)
theorem mw7_19 : Cond.selects RX6 yX6_clear yX6_clear ∈ wsL_law := inr7 (List.mem_of_getElem? (i := 19) rfl)
theorem tw7_20 : Cond.code yX6_clear cX6_clear 2 (some .int) ∈ lw_tbl := tb2 (List.mem_of_getElem? (i := 50) rfl)
theorem mw7_20 : Cond.code yX6_clear cX6_clear 2 (some .int) ∈ wsL_law := inr7 (List.mem_of_getElem? (i := 20) rfl)
theorem tw7_21 : Cond.methodLink RL 22 yX8_wipe ∈ lw_tbl := tb4 (List.mem_of_getElem? (i := 46) rfl)
theorem mw7_21 : Cond.methodLink RL 22 yX8_wipe ∈ wsL_law := inr7 (List.mem_of_getElem? (i := 21) rfl)
theorem tw7_22 : Cond.instanceMethod yX8_wipe ∈ lw_tbl := tb4 (List.mem_of_getElem? (i := 47) rfl)
theorem mw7_22 : Cond.instanceMethod yX8_wipe ∈ wsL_law := inr7 (List.mem_of_getElem? (i := 22) rfl)
theorem tw7_23 : Cond.selects RX8 yX8_wipe yX8_wipe ∈ lw_tbl := tb4 (List.mem_of_getElem? (i := 48) rfl)
theorem mw7_23 : Cond.selects RX8 yX8_wipe yX8_wipe ∈ wsL_law := inr7 (List.mem_of_getElem? (i := 23) rfl)
theorem gdr7 : GoodIn lw_tbl wsL_law_r7 := List.forall_mem_cons.mpr ⟨⟨tw7_0, Or.inl rfl⟩, List.forall_mem_cons.mpr ⟨⟨tw7_1, Or.inl rfl⟩, List.forall_mem_cons.mpr ⟨⟨tw7_2, Or.inl rfl⟩, List.forall_mem_cons.mpr ⟨⟨tw7_3, Or.inl rfl⟩, List.forall_mem_cons.mpr ⟨⟨tw7_4, Or.inl rfl⟩, List.forall_mem_cons.mpr ⟨⟨tw7_5, Or.inl rfl⟩, List.forall_mem_cons.mpr ⟨⟨tw7_6, Or.inl rfl⟩, List.forall_mem_cons.mpr ⟨⟨tw7_7, Or.inl rfl⟩, List.forall_mem_cons.mpr ⟨⟨tw7_8, Or.inl rfl⟩, List.forall_mem_cons.mpr ⟨⟨tw7_9, Or.inl rfl⟩, List.forall_mem_cons.mpr ⟨⟨tw7_10, Or.inl rfl⟩, List.forall_mem_cons.mpr ⟨⟨tw7_11, Or.inl rfl⟩, List.forall_mem_cons.mpr ⟨⟨tw7_12, Or.inl rfl⟩, List.forall_mem_cons.mpr ⟨⟨tw7_13, Or.inl rfl⟩, List.forall_mem_cons.mpr ⟨⟨tw7_14, Or.inl rfl⟩, List.forall_mem_cons.mpr ⟨⟨tw7_15, Or.inl rfl⟩, List.forall_mem_cons.mpr ⟨⟨tw7_16, Or.inl rfl⟩, List.forall_mem_cons.mpr ⟨⟨tw7_17, Or.inl rfl⟩, List.forall_mem_cons.mpr ⟨⟨tw7_18, Or.inl rfl⟩, List.forall_mem_cons.mpr ⟨⟨tw7_19, Or.inl rfl⟩, List.forall_mem_cons.mpr ⟨⟨tw7_20, Or.inl rfl⟩, List.forall_mem_cons.mpr ⟨⟨tw7_21, Or.inl rfl⟩, List.forall_mem_cons.mpr ⟨⟨tw7_22, Or.inl rfl⟩, List.forall_mem_cons.mpr ⟨⟨tw7_23, Or.inl rfl⟩, fun _ h => absurd h List.not_mem_nil⟩⟩⟩⟩⟩⟩⟩⟩⟩⟩⟩⟩⟩⟩⟩⟩⟩⟩⟩⟩⟩⟩⟩⟩
theorem tw8_0 : Cond.code yX8_wipe cX8_wipe 2 (some .int) ∈ lw_tbl := tb4 (List.mem_of_getElem? (i := 49) rfl)
theorem mw8_0 : Cond.code yX8_wipe cX8_wipe 2 (some .int) ∈ wsL_law := inr8 (List.mem_of_getElem? (i := 0) rfl)
theorem tw8_1 : Cond.methodLink RL 23 yX7_fault ∈ lw_tbl := tb2 (List.mem_of_getElem? (i := 51) rfl)
theorem mw8_1 : Cond.methodLink RL 23 yX7_fault ∈ wsL_law := inr8 (List.mem_of_getElem? (i := 1) rfl)
theorem tw8_2 : Cond.instanceMethod yX7_fault ∈ lw_tbl := tb2 (List.mem_of_getElem? (i := 52) rfl)
theorem mw8_2 : Cond.instanceMethod yX7_fault ∈ wsL_law := inr8 (List.mem_of_getElem? (i := 2) rfl)
theorem tw8_3 : Cond.selects RX7 yX7_fault yX7_fault ∈ lw_tbl := tb2 (List.mem_of_getElem? (i := 53) rfl)
theorem mw8_3 : Cond.selects RX7 yX7_fault yX7_fault ∈ wsL_law := inr8 (List.mem_of_getElem? (i := 3) rfl)
theorem tw8_4 : Cond.code yX7_fault cX7_fault 1 (some .int) ∈ lw_tbl := tb2 (List.mem_of_getElem? (i := 54) rfl)
theorem mw8_4 : Cond.code yX7_fault cX7_fault 1 (some .int) ∈ wsL_law := inr8 (List.mem_of_getElem? (i := 4) rfl)
theorem tw8_5 : Cond.methodLink RX7 84 yX6_readInto ∈ lw_tbl := tb2 (List.mem_of_getElem? (i := 55) rfl)
theorem mw8_5 : Cond.methodLink RX7 84 yX6_readInto ∈ wsL_law := inr8 (List.mem_of_getElem? (i := 5) rfl)
theorem tw8_6 : Cond.instanceMethod yX6_readInto ∈ lw_tbl := tb2 (List.mem_of_getElem? (i := 56) rfl)
theorem mw8_6 : Cond.instanceMethod yX6_readInto ∈ wsL_law := inr8 (List.mem_of_getElem? (i := 6) rfl)
theorem tw8_7 : Cond.selects RX6 yX6_readInto yX6_readInto ∈ lw_tbl := tb2 (List.mem_of_getElem? (i := 57) rfl)
theorem mw8_7 : Cond.selects RX6 yX6_readInto yX6_readInto ∈ wsL_law := inr8 (List.mem_of_getElem? (i := 7) rfl)
theorem tw8_8 : Cond.code yX6_readInto cX6_readInto 4 (some .int) ∈ lw_tbl := tb2 (List.mem_of_getElem? (i := 58) rfl)
theorem mw8_8 : Cond.code yX6_readInto cX6_readInto 4 (some .int) ∈ wsL_law := inr8 (List.mem_of_getElem? (i := 8) rfl)
theorem tw8_9 : Cond.fieldLink RX6 31 "TallowHours$Party" "moments" "I" ∈ lw_tbl := tb1 (List.mem_of_getElem? (i := 203) rfl)
theorem mw8_9 : Cond.fieldLink RX6 31 "TallowHours$Party" "moments" "I" ∈ wsL_law := inr8 (List.mem_of_getElem? (i := 9) rfl)
theorem tw8_10 : Cond.fieldLink RX6 34 "TallowHours$Party" "evening" "[I" ∈ lw_tbl := tb1 (List.mem_of_getElem? (i := 167) rfl)
theorem mw8_10 : Cond.fieldLink RX6 34 "TallowHours$Party" "evening" "[I" ∈ wsL_law := inr8 (List.mem_of_getElem? (i := 10) rfl)
theorem tw8_11 : Cond.methodLink RX6 19 yX3_clear ∈ lw_tbl := tb2 (List.mem_of_getElem? (i := 59) rfl)
theorem mw8_11 : Cond.methodLink RX6 19 yX3_clear ∈ wsL_law := inr8 (List.mem_of_getElem? (i := 11) rfl)
theorem tw8_12 : Cond.instanceMethod yX3_clear ∈ lw_tbl := tb2 (List.mem_of_getElem? (i := 60) rfl)
theorem mw8_12 : Cond.instanceMethod yX3_clear ∈ wsL_law := inr8 (List.mem_of_getElem? (i := 12) rfl)
theorem tw8_13 : Cond.selects RX3 yX3_clear yX3_clear ∈ lw_tbl := tb2 (List.mem_of_getElem? (i := 61) rfl)
theorem mw8_13 : Cond.selects RX3 yX3_clear yX3_clear ∈ wsL_law := inr8 (List.mem_of_getElem? (i := 13) rfl)
theorem tw8_14 : Cond.code yX3_clear cX3_clear 1 none ∈ lw_tbl := tb2 (List.mem_of_getElem? (i := 62) rfl)
theorem mw8_14 : Cond.code yX3_clear cX3_clear 1 none ∈ wsL_law := inr8 (List.mem_of_getElem? (i := 14) rfl)
theorem tw8_15 : Cond.methodLink RX6 24 yX6_letterAt ∈ lw_tbl := tb2 (List.mem_of_getElem? (i := 63) rfl)
theorem mw8_15 : Cond.methodLink RX6 24 yX6_letterAt ∈ wsL_law := inr8 (List.mem_of_getElem? (i := 15) rfl)
theorem tw8_16 : Cond.instanceMethod yX6_letterAt ∈ lw_tbl := tb2 (List.mem_of_getElem? (i := 65) rfl)
theorem mw8_16 : Cond.instanceMethod yX6_letterAt ∈ wsL_law := inr8 (List.mem_of_getElem? (i := 16) rfl)
theorem tw8_17 : Cond.selects RX6 yX6_letterAt yX6_letterAt ∈ lw_tbl := List.mem_append_left _ (List.mem_of_getElem? (i := 0) rfl)
theorem mw8_17 : Cond.selects RX6 yX6_letterAt yX6_letterAt ∈ wsL_law := inr8 (List.mem_of_getElem? (i := 17) rfl)
theorem tw8_18 : Cond.code yX6_letterAt cX6_letterAt 2 (some .int) ∈ lw_tbl := tb2 (List.mem_of_getElem? (i := 66) rfl)
theorem mw8_18 : Cond.code yX6_letterAt cX6_letterAt 2 (some .int) ∈ wsL_law := inr8 (List.mem_of_getElem? (i := 18) rfl)
theorem tw8_19 : Cond.methodLink RX6 28 yX6_momentAt ∈ lw_tbl := tb2 (List.mem_of_getElem? (i := 67) rfl)
theorem mw8_19 : Cond.methodLink RX6 28 yX6_momentAt ∈ wsL_law := inr8 (List.mem_of_getElem? (i := 19) rfl)
theorem tw8_20 : Cond.instanceMethod yX6_momentAt ∈ lw_tbl := tb2 (List.mem_of_getElem? (i := 69) rfl)
theorem mw8_20 : Cond.instanceMethod yX6_momentAt ∈ wsL_law := inr8 (List.mem_of_getElem? (i := 20) rfl)
theorem tw8_21 : Cond.selects RX6 yX6_momentAt yX6_momentAt ∈ lw_tbl := List.mem_append_left _ (List.mem_of_getElem? (i := 1) rfl)
theorem mw8_21 : Cond.selects RX6 yX6_momentAt yX6_momentAt ∈ wsL_law := inr8 (List.mem_of_getElem? (i := 21) rfl)
theorem tw8_22 : Cond.code yX6_momentAt cX6_momentAt 3 (some .int) ∈ lw_tbl := tb2 (List.mem_of_getElem? (i := 70) rfl)
theorem mw8_22 : Cond.code yX6_momentAt cX6_momentAt 3 (some .int) ∈ wsL_law := inr8 (List.mem_of_getElem? (i := 22) rfl)
theorem tw8_23 : Cond.methodLink RX6 37 yX6_readPart ∈ lw_tbl := tb2 (List.mem_of_getElem? (i := 71) rfl)
theorem mw8_23 : Cond.methodLink RX6 37 yX6_readPart ∈ wsL_law := inr8 (List.mem_of_getElem? (i := 23) rfl)
theorem gdr8 : GoodIn lw_tbl wsL_law_r8 := List.forall_mem_cons.mpr ⟨⟨tw8_0, Or.inl rfl⟩, List.forall_mem_cons.mpr ⟨⟨tw8_1, Or.inl rfl⟩, List.forall_mem_cons.mpr ⟨⟨tw8_2, Or.inl rfl⟩, List.forall_mem_cons.mpr ⟨⟨tw8_3, Or.inl rfl⟩, List.forall_mem_cons.mpr ⟨⟨tw8_4, Or.inl rfl⟩, List.forall_mem_cons.mpr ⟨⟨tw8_5, Or.inl rfl⟩, List.forall_mem_cons.mpr ⟨⟨tw8_6, Or.inl rfl⟩, List.forall_mem_cons.mpr ⟨⟨tw8_7, Or.inl rfl⟩, List.forall_mem_cons.mpr ⟨⟨tw8_8, Or.inl rfl⟩, List.forall_mem_cons.mpr ⟨⟨tw8_9, Or.inl rfl⟩, List.forall_mem_cons.mpr ⟨⟨tw8_10, Or.inl rfl⟩, List.forall_mem_cons.mpr ⟨⟨tw8_11, Or.inl rfl⟩, List.forall_mem_cons.mpr ⟨⟨tw8_12, Or.inl rfl⟩, List.forall_mem_cons.mpr ⟨⟨tw8_13, Or.inl rfl⟩, List.forall_mem_cons.mpr ⟨⟨tw8_14, Or.inl rfl⟩, List.forall_mem_cons.mpr ⟨⟨tw8_15, Or.inl rfl⟩, List.forall_mem_cons.mpr ⟨⟨tw8_16, Or.inl rfl⟩, List.forall_mem_cons.mpr ⟨⟨tw8_17, Or.inl rfl⟩, List.forall_mem_cons.mpr ⟨⟨tw8_18, Or.inl rfl⟩, List.forall_mem_cons.mpr ⟨⟨tw8_19, Or.inl rfl⟩, List.forall_mem_cons.mpr ⟨⟨tw8_20, Or.inl rfl⟩, List.forall_mem_cons.mpr ⟨⟨tw8_21, Or.inl rfl⟩, List.forall_mem_cons.mpr ⟨⟨tw8_22, Or.inl rfl⟩, List.forall_mem_cons.mpr ⟨⟨tw8_23, Or.inl rfl⟩, fun _ h => absurd h List.not_mem_nil⟩⟩⟩⟩⟩⟩⟩⟩⟩⟩⟩⟩⟩⟩⟩⟩⟩⟩⟩⟩⟩⟩⟩⟩
theorem tw9_0 : Cond.instanceMethod yX6_readPart ∈ lw_tbl := tb2 (List.mem_of_getElem? (i := 73) rfl)
theorem mw9_0 : Cond.instanceMethod yX6_readPart ∈ wsL_law := inr9 (List.mem_of_getElem? (i := 0) rfl)
theorem tw9_1 : Cond.selects RX6 yX6_readPart yX6_readPart ∈ lw_tbl := List.mem_append_left _ (List.mem_of_getElem? (i := 2) rfl)
theorem mw9_1 : Cond.selects RX6 yX6_readPart yX6_readPart ∈ wsL_law := inr9 (List.mem_of_getElem? (i := 1) rfl)
theorem tw9_2 : Cond.code yX6_readPart cX6_readPart 4 (some .int) ∈ lw_tbl := tb2 (List.mem_of_getElem? (i := 74) rfl)
theorem mw9_2 : Cond.code yX6_readPart cX6_readPart 4 (some .int) ∈ wsL_law := inr9 (List.mem_of_getElem? (i := 2) rfl)
theorem tw9_3 : Cond.fieldLink RX6 41 "TallowHours$Party" "candles" "I" ∈ lw_tbl := tb1 (List.mem_of_getElem? (i := 206) rfl)
theorem mw9_3 : Cond.fieldLink RX6 41 "TallowHours$Party" "candles" "I" ∈ wsL_law := inr9 (List.mem_of_getElem? (i := 3) rfl)
theorem tw9_4 : Cond.fieldLink RX6 47 "TallowHours$Party" "guests" "I" ∈ lw_tbl := tb1 (List.mem_of_getElem? (i := 211) rfl)
theorem mw9_4 : Cond.fieldLink RX6 47 "TallowHours$Party" "guests" "I" ∈ wsL_law := inr9 (List.mem_of_getElem? (i := 4) rfl)
theorem tw9_5 : Cond.methodLink RX6 44 yX6_readCandle ∈ lw_tbl := tb2 (List.mem_of_getElem? (i := 75) rfl)
theorem mw9_5 : Cond.methodLink RX6 44 yX6_readCandle ∈ wsL_law := inr9 (List.mem_of_getElem? (i := 5) rfl)
theorem tw9_6 : Cond.instanceMethod yX6_readCandle ∈ lw_tbl := tb2 (List.mem_of_getElem? (i := 77) rfl)
theorem mw9_6 : Cond.instanceMethod yX6_readCandle ∈ wsL_law := inr9 (List.mem_of_getElem? (i := 6) rfl)
theorem tw9_7 : Cond.selects RX6 yX6_readCandle yX6_readCandle ∈ lw_tbl := List.mem_append_left _ (List.mem_of_getElem? (i := 3) rfl)
theorem mw9_7 : Cond.selects RX6 yX6_readCandle yX6_readCandle ∈ wsL_law := inr9 (List.mem_of_getElem? (i := 7) rfl)
theorem tw9_8 : Cond.code yX6_readCandle cX6_readCandle 9 (some .int) ∈ lw_tbl := tb2 (List.mem_of_getElem? (i := 78) rfl)
theorem mw9_8 : Cond.code yX6_readCandle cX6_readCandle 9 (some .int) ∈ wsL_law := inr9 (List.mem_of_getElem? (i := 8) rfl)
theorem tw9_9 : Cond.methodLink RX6 57 Lib.Math.min.name ∈ lw_tbl := tb2 (List.mem_of_getElem? (i := 83) rfl)
theorem mw9_9 : Cond.methodLink RX6 57 Lib.Math.min.name ∈ wsL_law := inr9 (List.mem_of_getElem? (i := 9) rfl)
theorem tw9_10 : Cond.static Lib.Math.min.name ∈ lw_tbl := tb2 (List.mem_of_getElem? (i := 84) rfl)
theorem mw9_10 : Cond.static Lib.Math.min.name ∈ wsL_law := inr9 (List.mem_of_getElem? (i := 10) rfl)
theorem tw9_11 : Cond.initialized "java/lang/Math" ∈ lw_tbl := tb1 (List.mem_of_getElem? (i := 10) rfl)
theorem mw9_11 : Cond.initialized "java/lang/Math" ∈ wsL_law := inr9 (List.mem_of_getElem? (i := 11) rfl)
theorem tw9_12 : Cond.code Lib.Math.min.name Lib.Math.min.code 2 (some .int) ∈ lw_tbl := tb2 (List.mem_of_getElem? (i := 85) rfl)
theorem mw9_12 : Cond.code Lib.Math.min.name Lib.Math.min.code 2 (some .int) ∈ wsL_law := inr9 (List.mem_of_getElem? (i := 12) rfl)
theorem tw9_13 : Cond.fieldLink RX6 63 "TallowHours$Party" "start" "[I" ∈ lw_tbl := tb1 (List.mem_of_getElem? (i := 170) rfl)
theorem mw9_13 : Cond.fieldLink RX6 63 "TallowHours$Party" "start" "[I" ∈ wsL_law := inr9 (List.mem_of_getElem? (i := 13) rfl)
theorem tw9_14 : Cond.fieldLink RX6 66 "TallowHours$Party" "inches" "[I" ∈ lw_tbl := tb1 (List.mem_of_getElem? (i := 174) rfl)
theorem mw9_14 : Cond.fieldLink RX6 66 "TallowHours$Party" "inches" "[I" ∈ wsL_law := inr9 (List.mem_of_getElem? (i := 14) rfl)
theorem tw9_15 : Cond.fieldLink RX6 69 "TallowHours$Party" "price" "[I" ∈ lw_tbl := tb1 (List.mem_of_getElem? (i := 178) rfl)
theorem mw9_15 : Cond.fieldLink RX6 69 "TallowHours$Party" "price" "[I" ∈ wsL_law := inr9 (List.mem_of_getElem? (i := 15) rfl)
theorem tw9_16 : Cond.methodLink RX6 53 yX6_figureAt ∈ lw_tbl := tb2 (List.mem_of_getElem? (i := 79) rfl)
theorem mw9_16 : Cond.methodLink RX6 53 yX6_figureAt ∈ wsL_law := inr9 (List.mem_of_getElem? (i := 16) rfl)
theorem tw9_17 : Cond.instanceMethod yX6_figureAt ∈ lw_tbl := tb2 (List.mem_of_getElem? (i := 81) rfl)
theorem mw9_17 : Cond.instanceMethod yX6_figureAt ∈ wsL_law := inr9 (List.mem_of_getElem? (i := 17) rfl)
theorem tw9_18 : Cond.selects RX6 yX6_figureAt yX6_figureAt ∈ lw_tbl := List.mem_append_left _ (List.mem_of_getElem? (i := 4) rfl)
theorem mw9_18 : Cond.selects RX6 yX6_figureAt yX6_figureAt ∈ wsL_law := inr9 (List.mem_of_getElem? (i := 18) rfl)
theorem tw9_19 : Cond.code yX6_figureAt cX6_figureAt 6 (some .int) ∈ lw_tbl := tb2 (List.mem_of_getElem? (i := 82) rfl)
theorem mw9_19 : Cond.code yX6_figureAt cX6_figureAt 6 (some .int) ∈ wsL_law := inr9 (List.mem_of_getElem? (i := 19) rfl)
theorem tw9_20 : Cond.methodLink RX6 50 yX6_readGuest ∈ lw_tbl := tb2 (List.mem_of_getElem? (i := 86) rfl)
theorem mw9_20 : Cond.methodLink RX6 50 yX6_readGuest ∈ wsL_law := inr9 (List.mem_of_getElem? (i := 20) rfl)
theorem tw9_21 : Cond.instanceMethod yX6_readGuest ∈ lw_tbl := tb2 (List.mem_of_getElem? (i := 88) rfl)
theorem mw9_21 : Cond.instanceMethod yX6_readGuest ∈ wsL_law := inr9 (List.mem_of_getElem? (i := 21) rfl)
theorem tw9_22 : Cond.selects RX6 yX6_readGuest yX6_readGuest ∈ lw_tbl := List.mem_append_left _ (List.mem_of_getElem? (i := 5) rfl)
theorem mw9_22 : Cond.selects RX6 yX6_readGuest yX6_readGuest ∈ wsL_law := inr9 (List.mem_of_getElem? (i := 22) rfl)
theorem tw9_23 : Cond.code yX6_readGuest cX6_readGuest 7 (some .int) ∈ lw_tbl := tb2 (List.mem_of_getElem? (i := 89) rfl)
theorem mw9_23 : Cond.code yX6_readGuest cX6_readGuest 7 (some .int) ∈ wsL_law := inr9 (List.mem_of_getElem? (i := 23) rfl)
theorem gdr9 : GoodIn lw_tbl wsL_law_r9 := List.forall_mem_cons.mpr ⟨⟨tw9_0, Or.inl rfl⟩, List.forall_mem_cons.mpr ⟨⟨tw9_1, Or.inl rfl⟩, List.forall_mem_cons.mpr ⟨⟨tw9_2, Or.inl rfl⟩, List.forall_mem_cons.mpr ⟨⟨tw9_3, Or.inl rfl⟩, List.forall_mem_cons.mpr ⟨⟨tw9_4, Or.inl rfl⟩, List.forall_mem_cons.mpr ⟨⟨tw9_5, Or.inl rfl⟩, List.forall_mem_cons.mpr ⟨⟨tw9_6, Or.inl rfl⟩, List.forall_mem_cons.mpr ⟨⟨tw9_7, Or.inl rfl⟩, List.forall_mem_cons.mpr ⟨⟨tw9_8, Or.inl rfl⟩, List.forall_mem_cons.mpr ⟨⟨tw9_9, Or.inl rfl⟩, List.forall_mem_cons.mpr ⟨⟨tw9_10, Or.inl rfl⟩, List.forall_mem_cons.mpr ⟨⟨tw9_11, Or.inl rfl⟩, List.forall_mem_cons.mpr ⟨⟨tw9_12, Or.inl rfl⟩, List.forall_mem_cons.mpr ⟨⟨tw9_13, Or.inl rfl⟩, List.forall_mem_cons.mpr ⟨⟨tw9_14, Or.inl rfl⟩, List.forall_mem_cons.mpr ⟨⟨tw9_15, Or.inl rfl⟩, List.forall_mem_cons.mpr ⟨⟨tw9_16, Or.inl rfl⟩, List.forall_mem_cons.mpr ⟨⟨tw9_17, Or.inl rfl⟩, List.forall_mem_cons.mpr ⟨⟨tw9_18, Or.inl rfl⟩, List.forall_mem_cons.mpr ⟨⟨tw9_19, Or.inl rfl⟩, List.forall_mem_cons.mpr ⟨⟨tw9_20, Or.inl rfl⟩, List.forall_mem_cons.mpr ⟨⟨tw9_21, Or.inl rfl⟩, List.forall_mem_cons.mpr ⟨⟨tw9_22, Or.inl rfl⟩, List.forall_mem_cons.mpr ⟨⟨tw9_23, Or.inl rfl⟩, fun _ h => absurd h List.not_mem_nil⟩⟩⟩⟩⟩⟩⟩⟩⟩⟩⟩⟩⟩⟩⟩⟩⟩⟩⟩⟩⟩⟩⟩⟩
theorem tw10_0 : Cond.fieldLink RX6 72 "TallowHours$Party" "wish" "[I" ∈ lw_tbl := tb1 (List.mem_of_getElem? (i := 183) rfl)
theorem mw10_0 : Cond.fieldLink RX6 72 "TallowHours$Party" "wish" "[I" ∈ wsL_law := inr10 (List.mem_of_getElem? (i := 0) rfl)
theorem tw10_1 : Cond.fieldLink RX6 75 "TallowHours$Party" "wanted" "[I" ∈ lw_tbl := tb1 (List.mem_of_getElem? (i := 188) rfl)
theorem mw10_1 : Cond.fieldLink RX6 75 "TallowHours$Party" "wanted" "[I" ∈ wsL_law := inr10 (List.mem_of_getElem? (i := 1) rfl)
theorem tw10_2 : Cond.fieldLink RX6 78 "TallowHours$Party" "comes" "[I" ∈ lw_tbl := tb1 (List.mem_of_getElem? (i := 194) rfl)
theorem mw10_2 : Cond.fieldLink RX6 78 "TallowHours$Party" "comes" "[I" ∈ wsL_law := inr10 (List.mem_of_getElem? (i := 2) rfl)
theorem tw10_3 : Cond.fieldLink RX6 81 "TallowHours$Party" "goes" "[I" ∈ lw_tbl := tb1 (List.mem_of_getElem? (i := 199) rfl)
theorem mw10_3 : Cond.fieldLink RX6 81 "TallowHours$Party" "goes" "[I" ∈ wsL_law := inr10 (List.mem_of_getElem? (i := 3) rfl)
theorem tw10_4 : Cond.methodLink RL 26 yX8_fault ∈ lw_tbl := tb4 (List.mem_of_getElem? (i := 50) rfl)
theorem mw10_4 : Cond.methodLink RL 26 yX8_fault ∈ wsL_law := inr10 (List.mem_of_getElem? (i := 4) rfl)
theorem tw10_5 : Cond.instanceMethod yX8_fault ∈ lw_tbl := tb4 (List.mem_of_getElem? (i := 51) rfl)
theorem mw10_5 : Cond.instanceMethod yX8_fault ∈ wsL_law := inr10 (List.mem_of_getElem? (i := 5) rfl)
theorem tw10_6 : Cond.selects RX8 yX8_fault yX8_fault ∈ lw_tbl := tb4 (List.mem_of_getElem? (i := 52) rfl)
theorem mw10_6 : Cond.selects RX8 yX8_fault yX8_fault ∈ wsL_law := inr10 (List.mem_of_getElem? (i := 6) rfl)
theorem tw10_7 : Cond.code yX8_fault cX8_fault 1 (some .int) ∈ lw_tbl := tb4 (List.mem_of_getElem? (i := 53) rfl)
theorem mw10_7 : Cond.code yX8_fault cX8_fault 1 (some .int) ∈ wsL_law := inr10 (List.mem_of_getElem? (i := 7) rfl)
theorem tw10_8 : Cond.methodLink RX8 118 yX8_readText ∈ lw_tbl := tb4 (List.mem_of_getElem? (i := 54) rfl)
theorem mw10_8 : Cond.methodLink RX8 118 yX8_readText ∈ wsL_law := inr10 (List.mem_of_getElem? (i := 8) rfl)
theorem tw10_9 : Cond.instanceMethod yX8_readText ∈ lw_tbl := tb4 (List.mem_of_getElem? (i := 56) rfl)
theorem mw10_9 : Cond.instanceMethod yX8_readText ∈ wsL_law := inr10 (List.mem_of_getElem? (i := 9) rfl)
theorem tw10_10 : Cond.selects RX8 yX8_readText yX8_readText ∈ lw_tbl := List.mem_append_left _ (List.mem_of_getElem? (i := 20) rfl)
theorem mw10_10 : Cond.selects RX8 yX8_readText yX8_readText ∈ wsL_law := inr10 (List.mem_of_getElem? (i := 10) rfl)
theorem tw10_11 : Cond.code yX8_readText cX8_readText 1 (some .int) ∈ lw_tbl := tb4 (List.mem_of_getElem? (i := 57) rfl)
theorem mw10_11 : Cond.code yX8_readText cX8_readText 1 (some .int) ∈ wsL_law := inr10 (List.mem_of_getElem? (i := 11) rfl)
theorem tw10_12 : Cond.fieldLink RX8 90 "TallowHoursModel" "at" "I" ∈ lw_tbl := tb3 (List.mem_of_getElem? (i := 189) rfl)
theorem mw10_12 : Cond.fieldLink RX8 90 "TallowHoursModel" "at" "I" ∈ wsL_law := inr10 (List.mem_of_getElem? (i := 12) rfl)
theorem tw10_13 : Cond.fieldLink RX8 87 "TallowHoursModel" "faultAt" "I" ∈ lw_tbl := tb3 (List.mem_of_getElem? (i := 190) rfl)
theorem mw10_13 : Cond.fieldLink RX8 87 "TallowHoursModel" "faultAt" "I" ∈ wsL_law := inr10 (List.mem_of_getElem? (i := 13) rfl)
theorem tw10_14 : Cond.fieldLink RX8 97 "TallowHoursModel" "readMoments" "I" ∈ lw_tbl := tb3 (List.mem_of_getElem? (i := 191) rfl)
theorem mw10_14 : Cond.fieldLink RX8 97 "TallowHoursModel" "readMoments" "I" ∈ wsL_law := inr10 (List.mem_of_getElem? (i := 14) rfl)
theorem tw10_15 : Cond.fieldLink RX8 100 "TallowHoursModel" "readCandles" "I" ∈ lw_tbl := tb3 (List.mem_of_getElem? (i := 192) rfl)
theorem mw10_15 : Cond.fieldLink RX8 100 "TallowHoursModel" "readCandles" "I" ∈ wsL_law := inr10 (List.mem_of_getElem? (i := 15) rfl)
theorem tw10_16 : Cond.fieldLink RX8 103 "TallowHoursModel" "readGuests" "I" ∈ lw_tbl := tb3 (List.mem_of_getElem? (i := 193) rfl)
theorem mw10_16 : Cond.fieldLink RX8 103 "TallowHoursModel" "readGuests" "I" ∈ wsL_law := inr10 (List.mem_of_getElem? (i := 16) rfl)
theorem tw10_17 : Cond.methodLink RX8 106 yX8_giftOf ∈ lw_tbl := tb4 (List.mem_of_getElem? (i := 58) rfl)
theorem mw10_17 : Cond.methodLink RX8 106 yX8_giftOf ∈ wsL_law := inr10 (List.mem_of_getElem? (i := 17) rfl)
theorem tw10_18 : Cond.static yX8_giftOf ∈ lw_tbl := tb4 (List.mem_of_getElem? (i := 59) rfl)
theorem mw10_18 : Cond.static yX8_giftOf ∈ wsL_law := inr10 (List.mem_of_getElem? (i := 18) rfl)
theorem tw10_19 : Cond.code yX8_giftOf cX8_giftOf 1 (some .int) ∈ lw_tbl := tb4 (List.mem_of_getElem? (i := 60) rfl)
theorem mw10_19 : Cond.code yX8_giftOf cX8_giftOf 1 (some .int) ∈ wsL_law := inr10 (List.mem_of_getElem? (i := 19) rfl)
theorem tw10_20 : Cond.constantLong RX8 93 (97) ∈ lw_tbl := tb4 (List.mem_of_getElem? (i := 61) rfl)
theorem mw10_20 : Cond.constantLong RX8 93 (97) ∈ wsL_law := inr10 (List.mem_of_getElem? (i := 20) rfl)
theorem tw10_21 : Cond.constantLong RX8 95 (100) ∈ lw_tbl := tb4 (List.mem_of_getElem? (i := 62) rfl)
theorem mw10_21 : Cond.constantLong RX8 95 (100) ∈ wsL_law := inr10 (List.mem_of_getElem? (i := 21) rfl)
theorem tw10_22 : Cond.methodLink RX8 110 yX8_readPart ∈ lw_tbl := tb4 (List.mem_of_getElem? (i := 63) rfl)
theorem mw10_22 : Cond.methodLink RX8 110 yX8_readPart ∈ wsL_law := inr10 (List.mem_of_getElem? (i := 22) rfl)
theorem tw10_23 : Cond.instanceMethod yX8_readPart ∈ lw_tbl := tb4 (List.mem_of_getElem? (i := 65) rfl)
theorem mw10_23 : Cond.instanceMethod yX8_readPart ∈ wsL_law := inr10 (List.mem_of_getElem? (i := 23) rfl)
theorem gdr10 : GoodIn lw_tbl wsL_law_r10 := List.forall_mem_cons.mpr ⟨⟨tw10_0, Or.inl rfl⟩, List.forall_mem_cons.mpr ⟨⟨tw10_1, Or.inl rfl⟩, List.forall_mem_cons.mpr ⟨⟨tw10_2, Or.inl rfl⟩, List.forall_mem_cons.mpr ⟨⟨tw10_3, Or.inl rfl⟩, List.forall_mem_cons.mpr ⟨⟨tw10_4, Or.inl rfl⟩, List.forall_mem_cons.mpr ⟨⟨tw10_5, Or.inl rfl⟩, List.forall_mem_cons.mpr ⟨⟨tw10_6, Or.inl rfl⟩, List.forall_mem_cons.mpr ⟨⟨tw10_7, Or.inl rfl⟩, List.forall_mem_cons.mpr ⟨⟨tw10_8, Or.inl rfl⟩, List.forall_mem_cons.mpr ⟨⟨tw10_9, Or.inl rfl⟩, List.forall_mem_cons.mpr ⟨⟨tw10_10, Or.inl rfl⟩, List.forall_mem_cons.mpr ⟨⟨tw10_11, Or.inl rfl⟩, List.forall_mem_cons.mpr ⟨⟨tw10_12, Or.inl rfl⟩, List.forall_mem_cons.mpr ⟨⟨tw10_13, Or.inl rfl⟩, List.forall_mem_cons.mpr ⟨⟨tw10_14, Or.inl rfl⟩, List.forall_mem_cons.mpr ⟨⟨tw10_15, Or.inl rfl⟩, List.forall_mem_cons.mpr ⟨⟨tw10_16, Or.inl rfl⟩, List.forall_mem_cons.mpr ⟨⟨tw10_17, Or.inl rfl⟩, List.forall_mem_cons.mpr ⟨⟨tw10_18, Or.inl rfl⟩, List.forall_mem_cons.mpr ⟨⟨tw10_19, Or.inl rfl⟩, List.forall_mem_cons.mpr ⟨⟨tw10_20, Or.inl rfl⟩, List.forall_mem_cons.mpr ⟨⟨tw10_21, Or.inl rfl⟩, List.forall_mem_cons.mpr ⟨⟨tw10_22, Or.inl rfl⟩, List.forall_mem_cons.mpr ⟨⟨tw10_23, Or.inl rfl⟩, fun _ h => absurd h List.not_mem_nil⟩⟩⟩⟩⟩⟩⟩⟩⟩⟩⟩⟩⟩⟩⟩⟩⟩⟩⟩⟩⟩⟩⟩⟩
theorem tw11_0 : Cond.selects RX8 yX8_readPart yX8_readPart ∈ lw_tbl := List.mem_append_left _ (List.mem_of_getElem? (i := 21) rfl)
theorem mw11_0 : Cond.selects RX8 yX8_readPart yX8_readPart ∈ wsL_law := inr11 (List.mem_of_getElem? (i := 0) rfl)
theorem tw11_1 : Cond.code yX8_readPart cX8_readPart 6 none ∈ lw_tbl := tb4 (List.mem_of_getElem? (i := 66) rfl)
theorem mw11_1 : Cond.code yX8_readPart cX8_readPart 6 none ∈ wsL_law := inr11 (List.mem_of_getElem? (i := 1) rfl)
theorem tw11_2 : Cond.methodLink RX8 114 yX8_figure ∈ lw_tbl := tb4 (List.mem_of_getElem? (i := 67) rfl)
theorem mw11_2 : Cond.methodLink RX8 114 yX8_figure ∈ wsL_law := inr11 (List.mem_of_getElem? (i := 2) rfl)
theorem tw11_3 : Cond.instanceMethod yX8_figure ∈ lw_tbl := tb4 (List.mem_of_getElem? (i := 69) rfl)
theorem mw11_3 : Cond.instanceMethod yX8_figure ∈ wsL_law := inr11 (List.mem_of_getElem? (i := 3) rfl)
theorem tw11_4 : Cond.selects RX8 yX8_figure yX8_figure ∈ lw_tbl := List.mem_append_left _ (List.mem_of_getElem? (i := 22) rfl)
theorem mw11_4 : Cond.selects RX8 yX8_figure yX8_figure ∈ wsL_law := inr11 (List.mem_of_getElem? (i := 4) rfl)
theorem tw11_5 : Cond.code yX8_figure cX8_figure 5 (some .int) ∈ lw_tbl := tb4 (List.mem_of_getElem? (i := 70) rfl)
theorem mw11_5 : Cond.code yX8_figure cX8_figure 5 (some .int) ∈ wsL_law := inr11 (List.mem_of_getElem? (i := 5) rfl)
theorem tw11_6 : Cond.methodLink RL 27 yX7_party ∈ lw_tbl := tb2 (List.mem_of_getElem? (i := 90) rfl)
theorem mw11_6 : Cond.methodLink RL 27 yX7_party ∈ wsL_law := inr11 (List.mem_of_getElem? (i := 6) rfl)
theorem tw11_7 : Cond.instanceMethod yX7_party ∈ lw_tbl := tb2 (List.mem_of_getElem? (i := 91) rfl)
theorem mw11_7 : Cond.instanceMethod yX7_party ∈ wsL_law := inr11 (List.mem_of_getElem? (i := 7) rfl)
theorem tw11_8 : Cond.selects RX7 yX7_party yX7_party ∈ lw_tbl := tb2 (List.mem_of_getElem? (i := 92) rfl)
theorem mw11_8 : Cond.selects RX7 yX7_party yX7_party ∈ wsL_law := inr11 (List.mem_of_getElem? (i := 8) rfl)
theorem tw11_9 : Cond.code yX7_party cX7_party 3 (some .int) ∈ lw_tbl := tb2 (List.mem_of_getElem? (i := 93) rfl)
theorem mw11_9 : Cond.code yX7_party cX7_party 3 (some .int) ∈ wsL_law := inr11 (List.mem_of_getElem? (i := 9) rfl)
theorem tw11_10 : Cond.fieldLink RX7 94 "TallowHours$Planner" "fresh" "Z" ∈ lw_tbl := tb1 (List.mem_of_getElem? (i := 109) rfl)
theorem mw11_10 : Cond.fieldLink RX7 94 "TallowHours$Planner" "fresh" "Z" ∈ wsL_law := inr11 (List.mem_of_getElem? (i := 10) rfl)
theorem tw11_11 : Cond.fieldLink RX7 98 "TallowHours$Party" "candles" "I" ∈ lw_tbl := tb1 (List.mem_of_getElem? (i := 207) rfl)
theorem mw11_11 : Cond.fieldLink RX7 98 "TallowHours$Party" "candles" "I" ∈ wsL_law := inr11 (List.mem_of_getElem? (i := 11) rfl)
theorem tw11_12 : Cond.fieldLink RX7 102 "TallowHours$Party" "guests" "I" ∈ lw_tbl := tb1 (List.mem_of_getElem? (i := 212) rfl)
theorem mw11_12 : Cond.fieldLink RX7 102 "TallowHours$Party" "guests" "I" ∈ wsL_law := inr11 (List.mem_of_getElem? (i := 12) rfl)
theorem tw11_13 : Cond.methodLink RX7 88 yX2_begin ∈ lw_tbl := tb2 (List.mem_of_getElem? (i := 94) rfl)
theorem mw11_13 : Cond.methodLink RX7 88 yX2_begin ∈ wsL_law := inr11 (List.mem_of_getElem? (i := 13) rfl)
theorem tw11_14 : Cond.instanceMethod yX2_begin ∈ lw_tbl := tb2 (List.mem_of_getElem? (i := 95) rfl)
theorem mw11_14 : Cond.instanceMethod yX2_begin ∈ wsL_law := inr11 (List.mem_of_getElem? (i := 14) rfl)
theorem tw11_15 : Cond.selects RX2 yX2_begin yX2_begin ∈ lw_tbl := tb2 (List.mem_of_getElem? (i := 96) rfl)
theorem mw11_15 : Cond.selects RX2 yX2_begin yX2_begin ∈ wsL_law := inr11 (List.mem_of_getElem? (i := 15) rfl)
theorem tw11_16 : Cond.code yX2_begin cX2_begin 3 none ∈ lw_tbl := tb2 (List.mem_of_getElem? (i := 97) rfl)
theorem mw11_16 : Cond.code yX2_begin cX2_begin 3 none ∈ wsL_law := inr11 (List.mem_of_getElem? (i := 16) rfl)
theorem tw11_17 : Cond.fieldLink RX2 31 "TallowHours$Party" "start" "[I" ∈ lw_tbl := tb1 (List.mem_of_getElem? (i := 169) rfl)
theorem mw11_17 : Cond.fieldLink RX2 31 "TallowHours$Party" "start" "[I" ∈ wsL_law := inr11 (List.mem_of_getElem? (i := 17) rfl)
theorem tw11_18 : Cond.fieldLink RX2 36 "TallowHours$Party" "inches" "[I" ∈ lw_tbl := tb1 (List.mem_of_getElem? (i := 173) rfl)
theorem mw11_18 : Cond.fieldLink RX2 36 "TallowHours$Party" "inches" "[I" ∈ wsL_law := inr11 (List.mem_of_getElem? (i := 18) rfl)
theorem tw11_19 : Cond.methodLink RX7 92 yX0_clear ∈ lw_tbl := tb2 (List.mem_of_getElem? (i := 98) rfl)
theorem mw11_19 : Cond.methodLink RX7 92 yX0_clear ∈ wsL_law := inr11 (List.mem_of_getElem? (i := 19) rfl)
theorem tw11_20 : Cond.instanceMethod yX0_clear ∈ lw_tbl := tb2 (List.mem_of_getElem? (i := 99) rfl)
theorem mw11_20 : Cond.instanceMethod yX0_clear ∈ wsL_law := inr11 (List.mem_of_getElem? (i := 20) rfl)
theorem tw11_21 : Cond.selects RX0 yX0_clear yX0_clear ∈ lw_tbl := tb2 (List.mem_of_getElem? (i := 100) rfl)
theorem mw11_21 : Cond.selects RX0 yX0_clear yX0_clear ∈ wsL_law := inr11 (List.mem_of_getElem? (i := 21) rfl)
theorem tw11_22 : Cond.code yX0_clear cX0_clear 1 none ∈ lw_tbl := tb2 (List.mem_of_getElem? (i := 101) rfl)
theorem mw11_22 : Cond.code yX0_clear cX0_clear 1 none ∈ wsL_law := inr11 (List.mem_of_getElem? (i := 22) rfl)
theorem tw11_23 : Cond.methodLink RL 30 yX8_party ∈ lw_tbl := tb4 (List.mem_of_getElem? (i := 71) rfl)
theorem mw11_23 : Cond.methodLink RL 30 yX8_party ∈ wsL_law := inr11 (List.mem_of_getElem? (i := 23) rfl)
theorem gdr11 : GoodIn lw_tbl wsL_law_r11 := List.forall_mem_cons.mpr ⟨⟨tw11_0, Or.inl rfl⟩, List.forall_mem_cons.mpr ⟨⟨tw11_1, Or.inl rfl⟩, List.forall_mem_cons.mpr ⟨⟨tw11_2, Or.inl rfl⟩, List.forall_mem_cons.mpr ⟨⟨tw11_3, Or.inl rfl⟩, List.forall_mem_cons.mpr ⟨⟨tw11_4, Or.inl rfl⟩, List.forall_mem_cons.mpr ⟨⟨tw11_5, Or.inl rfl⟩, List.forall_mem_cons.mpr ⟨⟨tw11_6, Or.inl rfl⟩, List.forall_mem_cons.mpr ⟨⟨tw11_7, Or.inl rfl⟩, List.forall_mem_cons.mpr ⟨⟨tw11_8, Or.inl rfl⟩, List.forall_mem_cons.mpr ⟨⟨tw11_9, Or.inl rfl⟩, List.forall_mem_cons.mpr ⟨⟨tw11_10, Or.inl rfl⟩, List.forall_mem_cons.mpr ⟨⟨tw11_11, Or.inl rfl⟩, List.forall_mem_cons.mpr ⟨⟨tw11_12, Or.inl rfl⟩, List.forall_mem_cons.mpr ⟨⟨tw11_13, Or.inl rfl⟩, List.forall_mem_cons.mpr ⟨⟨tw11_14, Or.inl rfl⟩, List.forall_mem_cons.mpr ⟨⟨tw11_15, Or.inl rfl⟩, List.forall_mem_cons.mpr ⟨⟨tw11_16, Or.inl rfl⟩, List.forall_mem_cons.mpr ⟨⟨tw11_17, Or.inl rfl⟩, List.forall_mem_cons.mpr ⟨⟨tw11_18, Or.inl rfl⟩, List.forall_mem_cons.mpr ⟨⟨tw11_19, Or.inl rfl⟩, List.forall_mem_cons.mpr ⟨⟨tw11_20, Or.inl rfl⟩, List.forall_mem_cons.mpr ⟨⟨tw11_21, Or.inl rfl⟩, List.forall_mem_cons.mpr ⟨⟨tw11_22, Or.inl rfl⟩, List.forall_mem_cons.mpr ⟨⟨tw11_23, Or.inl rfl⟩, fun _ h => absurd h List.not_mem_nil⟩⟩⟩⟩⟩⟩⟩⟩⟩⟩⟩⟩⟩⟩⟩⟩⟩⟩⟩⟩⟩⟩⟩⟩
theorem tw12_0 : Cond.instanceMethod yX8_party ∈ lw_tbl := tb4 (List.mem_of_getElem? (i := 72) rfl)
theorem mw12_0 : Cond.instanceMethod yX8_party ∈ wsL_law := inr12 (List.mem_of_getElem? (i := 0) rfl)
theorem tw12_1 : Cond.selects RX8 yX8_party yX8_party ∈ lw_tbl := tb4 (List.mem_of_getElem? (i := 73) rfl)
theorem mw12_1 : Cond.selects RX8 yX8_party yX8_party ∈ wsL_law := inr12 (List.mem_of_getElem? (i := 1) rfl)
theorem tw12_2 : Cond.code yX8_party cX8_party 2 (some .int) ∈ lw_tbl := tb4 (List.mem_of_getElem? (i := 74) rfl)
theorem mw12_2 : Cond.code yX8_party cX8_party 2 (some .int) ∈ wsL_law := inr12 (List.mem_of_getElem? (i := 2) rfl)
theorem tw12_3 : Cond.fieldLink RX8 122 "TallowHoursModel" "candles" "I" ∈ lw_tbl := tb3 (List.mem_of_getElem? (i := 176) rfl)
theorem mw12_3 : Cond.fieldLink RX8 122 "TallowHoursModel" "candles" "I" ∈ wsL_law := inr12 (List.mem_of_getElem? (i := 3) rfl)
theorem tw12_4 : Cond.fieldLink RX8 125 "TallowHoursModel" "guests" "I" ∈ lw_tbl := tb3 (List.mem_of_getElem? (i := 177) rfl)
theorem mw12_4 : Cond.fieldLink RX8 125 "TallowHoursModel" "guests" "I" ∈ wsL_law := inr12 (List.mem_of_getElem? (i := 4) rfl)
theorem tw12_5 : Cond.fieldLink RX8 128 "TallowHoursModel" "acts" "I" ∈ lw_tbl := tb3 (List.mem_of_getElem? (i := 197) rfl)
theorem mw12_5 : Cond.fieldLink RX8 128 "TallowHoursModel" "acts" "I" ∈ wsL_law := inr12 (List.mem_of_getElem? (i := 5) rfl)
theorem tw12_6 : Cond.methodLink RL 31 yX7_moment ∈ lw_tbl := tb2 (List.mem_of_getElem? (i := 102) rfl)
theorem mw12_6 : Cond.methodLink RL 31 yX7_moment ∈ wsL_law := inr12 (List.mem_of_getElem? (i := 6) rfl)
theorem tw12_7 : Cond.instanceMethod yX7_moment ∈ lw_tbl := tb2 (List.mem_of_getElem? (i := 103) rfl)
theorem mw12_7 : Cond.instanceMethod yX7_moment ∈ wsL_law := inr12 (List.mem_of_getElem? (i := 7) rfl)
theorem tw12_8 : Cond.selects RX7 yX7_moment yX7_moment ∈ lw_tbl := tb2 (List.mem_of_getElem? (i := 104) rfl)
theorem mw12_8 : Cond.selects RX7 yX7_moment yX7_moment ∈ wsL_law := inr12 (List.mem_of_getElem? (i := 8) rfl)
theorem tw12_9 : Cond.code yX7_moment cX7_moment 2 (some .int) ∈ lw_tbl := tb2 (List.mem_of_getElem? (i := 105) rfl)
theorem mw12_9 : Cond.code yX7_moment cX7_moment 2 (some .int) ∈ wsL_law := inr12 (List.mem_of_getElem? (i := 9) rfl)
theorem tw12_10 : Cond.fieldLink RX7 105 "TallowHours$Party" "moments" "I" ∈ lw_tbl := tb1 (List.mem_of_getElem? (i := 204) rfl)
theorem mw12_10 : Cond.fieldLink RX7 105 "TallowHours$Party" "moments" "I" ∈ wsL_law := inr12 (List.mem_of_getElem? (i := 10) rfl)
theorem tw12_11 : Cond.methodLink RX7 108 yX3_giftAt ∈ lw_tbl := tb2 (List.mem_of_getElem? (i := 106) rfl)
theorem mw12_11 : Cond.methodLink RX7 108 yX3_giftAt ∈ wsL_law := inr12 (List.mem_of_getElem? (i := 11) rfl)
theorem tw12_12 : Cond.instanceMethod yX3_giftAt ∈ lw_tbl := tb2 (List.mem_of_getElem? (i := 107) rfl)
theorem mw12_12 : Cond.instanceMethod yX3_giftAt ∈ wsL_law := inr12 (List.mem_of_getElem? (i := 12) rfl)
theorem tw12_13 : Cond.selects RX3 yX3_giftAt yX3_giftAt ∈ lw_tbl := tb2 (List.mem_of_getElem? (i := 108) rfl)
theorem mw12_13 : Cond.selects RX3 yX3_giftAt yX3_giftAt ∈ wsL_law := inr12 (List.mem_of_getElem? (i := 13) rfl)
theorem tw12_14 : Cond.code yX3_giftAt cX3_giftAt 2 (some .int) ∈ lw_tbl := tb2 (List.mem_of_getElem? (i := 109) rfl)
theorem mw12_14 : Cond.code yX3_giftAt cX3_giftAt 2 (some .int) ∈ wsL_law := inr12 (List.mem_of_getElem? (i := 14) rfl)
theorem tw12_15 : Cond.methodLink RL 34 yX8_moment ∈ lw_tbl := tb4 (List.mem_of_getElem? (i := 75) rfl)
theorem mw12_15 : Cond.methodLink RL 34 yX8_moment ∈ wsL_law := inr12 (List.mem_of_getElem? (i := 15) rfl)
theorem tw12_16 : Cond.instanceMethod yX8_moment ∈ lw_tbl := tb4 (List.mem_of_getElem? (i := 76) rfl)
theorem mw12_16 : Cond.instanceMethod yX8_moment ∈ wsL_law := inr12 (List.mem_of_getElem? (i := 16) rfl)
theorem tw12_17 : Cond.selects RX8 yX8_moment yX8_moment ∈ lw_tbl := tb4 (List.mem_of_getElem? (i := 77) rfl)
theorem mw12_17 : Cond.selects RX8 yX8_moment yX8_moment ∈ wsL_law := inr12 (List.mem_of_getElem? (i := 17) rfl)
theorem tw12_18 : Cond.code yX8_moment cX8_moment 2 (some .int) ∈ lw_tbl := tb4 (List.mem_of_getElem? (i := 78) rfl)
theorem mw12_18 : Cond.code yX8_moment cX8_moment 2 (some .int) ∈ wsL_law := inr12 (List.mem_of_getElem? (i := 18) rfl)
theorem tw12_19 : Cond.methodLink RL 35 yX7_candle ∈ lw_tbl := tb2 (List.mem_of_getElem? (i := 110) rfl)
theorem mw12_19 : Cond.methodLink RL 35 yX7_candle ∈ wsL_law := inr12 (List.mem_of_getElem? (i := 19) rfl)
theorem tw12_20 : Cond.instanceMethod yX7_candle ∈ lw_tbl := tb2 (List.mem_of_getElem? (i := 111) rfl)
theorem mw12_20 : Cond.instanceMethod yX7_candle ∈ wsL_law := inr12 (List.mem_of_getElem? (i := 20) rfl)
theorem tw12_21 : Cond.selects RX7 yX7_candle yX7_candle ∈ lw_tbl := tb2 (List.mem_of_getElem? (i := 112) rfl)
theorem mw12_21 : Cond.selects RX7 yX7_candle yX7_candle ∈ wsL_law := inr12 (List.mem_of_getElem? (i := 21) rfl)
theorem tw12_22 : Cond.code yX7_candle cX7_candle 3 (some .int) ∈ lw_tbl := tb2 (List.mem_of_getElem? (i := 113) rfl)
theorem mw12_22 : Cond.code yX7_candle cX7_candle 3 (some .int) ∈ wsL_law := inr12 (List.mem_of_getElem? (i := 22) rfl)
theorem tw12_23 : Cond.fieldLink RX7 115 "TallowHours$Burning" "left" "[I" ∈ lw_tbl := tb1 (List.mem_of_getElem? (i := 47) rfl)
theorem mw12_23 : Cond.fieldLink RX7 115 "TallowHours$Burning" "left" "[I" ∈ wsL_law := inr12 (List.mem_of_getElem? (i := 23) rfl)
theorem gdr12 : GoodIn lw_tbl wsL_law_r12 := List.forall_mem_cons.mpr ⟨⟨tw12_0, Or.inl rfl⟩, List.forall_mem_cons.mpr ⟨⟨tw12_1, Or.inl rfl⟩, List.forall_mem_cons.mpr ⟨⟨tw12_2, Or.inl rfl⟩, List.forall_mem_cons.mpr ⟨⟨tw12_3, Or.inl rfl⟩, List.forall_mem_cons.mpr ⟨⟨tw12_4, Or.inl rfl⟩, List.forall_mem_cons.mpr ⟨⟨tw12_5, Or.inl rfl⟩, List.forall_mem_cons.mpr ⟨⟨tw12_6, Or.inl rfl⟩, List.forall_mem_cons.mpr ⟨⟨tw12_7, Or.inl rfl⟩, List.forall_mem_cons.mpr ⟨⟨tw12_8, Or.inl rfl⟩, List.forall_mem_cons.mpr ⟨⟨tw12_9, Or.inl rfl⟩, List.forall_mem_cons.mpr ⟨⟨tw12_10, Or.inl rfl⟩, List.forall_mem_cons.mpr ⟨⟨tw12_11, Or.inl rfl⟩, List.forall_mem_cons.mpr ⟨⟨tw12_12, Or.inl rfl⟩, List.forall_mem_cons.mpr ⟨⟨tw12_13, Or.inl rfl⟩, List.forall_mem_cons.mpr ⟨⟨tw12_14, Or.inl rfl⟩, List.forall_mem_cons.mpr ⟨⟨tw12_15, Or.inl rfl⟩, List.forall_mem_cons.mpr ⟨⟨tw12_16, Or.inl rfl⟩, List.forall_mem_cons.mpr ⟨⟨tw12_17, Or.inl rfl⟩, List.forall_mem_cons.mpr ⟨⟨tw12_18, Or.inl rfl⟩, List.forall_mem_cons.mpr ⟨⟨tw12_19, Or.inl rfl⟩, List.forall_mem_cons.mpr ⟨⟨tw12_20, Or.inl rfl⟩, List.forall_mem_cons.mpr ⟨⟨tw12_21, Or.inl rfl⟩, List.forall_mem_cons.mpr ⟨⟨tw12_22, Or.inl rfl⟩, List.forall_mem_cons.mpr ⟨⟨tw12_23, Or.inl rfl⟩, fun _ h => absurd h List.not_mem_nil⟩⟩⟩⟩⟩⟩⟩⟩⟩⟩⟩⟩⟩⟩⟩⟩⟩⟩⟩⟩⟩⟩⟩⟩
theorem tw13_0 : Cond.fieldLink RX7 118 "TallowHours$Burning" "place" "[I" ∈ lw_tbl := tb1 (List.mem_of_getElem? (i := 44) rfl)
theorem mw13_0 : Cond.fieldLink RX7 118 "TallowHours$Burning" "place" "[I" ∈ wsL_law := inr13 (List.mem_of_getElem? (i := 0) rfl)
theorem tw13_1 : Cond.fieldLink RX7 121 "TallowHours$Party" "price" "[I" ∈ lw_tbl := tb1 (List.mem_of_getElem? (i := 179) rfl)
theorem mw13_1 : Cond.fieldLink RX7 121 "TallowHours$Party" "price" "[I" ∈ wsL_law := inr13 (List.mem_of_getElem? (i := 1) rfl)
theorem tw13_2 : Cond.fieldLink RX7 124 "TallowHours$Burning" "flame" "[I" ∈ lw_tbl := tb1 (List.mem_of_getElem? (i := 50) rfl)
theorem mw13_2 : Cond.fieldLink RX7 124 "TallowHours$Burning" "flame" "[I" ∈ wsL_law := inr13 (List.mem_of_getElem? (i := 2) rfl)
theorem tw13_3 : Cond.methodLink RX7 111 yX3_hasCandle ∈ lw_tbl := tb2 (List.mem_of_getElem? (i := 114) rfl)
theorem mw13_3 : Cond.methodLink RX7 111 yX3_hasCandle ∈ wsL_law := inr13 (List.mem_of_getElem? (i := 3) rfl)
theorem tw13_4 : Cond.instanceMethod yX3_hasCandle ∈ lw_tbl := tb2 (List.mem_of_getElem? (i := 115) rfl)
theorem mw13_4 : Cond.instanceMethod yX3_hasCandle ∈ wsL_law := inr13 (List.mem_of_getElem? (i := 4) rfl)
theorem tw13_5 : Cond.selects RX3 yX3_hasCandle yX3_hasCandle ∈ lw_tbl := tb2 (List.mem_of_getElem? (i := 116) rfl)
theorem mw13_5 : Cond.selects RX3 yX3_hasCandle yX3_hasCandle ∈ wsL_law := inr13 (List.mem_of_getElem? (i := 5) rfl)
theorem tw13_6 : Cond.code yX3_hasCandle cX3_hasCandle 2 (some .boolean) ∈ lw_tbl := tb2 (List.mem_of_getElem? (i := 117) rfl)
theorem mw13_6 : Cond.code yX3_hasCandle cX3_hasCandle 2 (some .boolean) ∈ wsL_law := inr13 (List.mem_of_getElem? (i := 6) rfl)
theorem tw13_7 : Cond.methodLink RL 39 yX8_candle ∈ lw_tbl := tb4 (List.mem_of_getElem? (i := 79) rfl)
theorem mw13_7 : Cond.methodLink RL 39 yX8_candle ∈ wsL_law := inr13 (List.mem_of_getElem? (i := 7) rfl)
theorem tw13_8 : Cond.instanceMethod yX8_candle ∈ lw_tbl := tb4 (List.mem_of_getElem? (i := 80) rfl)
theorem mw13_8 : Cond.instanceMethod yX8_candle ∈ wsL_law := inr13 (List.mem_of_getElem? (i := 8) rfl)
theorem tw13_9 : Cond.selects RX8 yX8_candle yX8_candle ∈ lw_tbl := tb4 (List.mem_of_getElem? (i := 81) rfl)
theorem mw13_9 : Cond.selects RX8 yX8_candle yX8_candle ∈ wsL_law := inr13 (List.mem_of_getElem? (i := 9) rfl)
theorem tw13_10 : Cond.code yX8_candle cX8_candle 3 (some .int) ∈ lw_tbl := tb4 (List.mem_of_getElem? (i := 82) rfl)
theorem mw13_10 : Cond.code yX8_candle cX8_candle 3 (some .int) ∈ wsL_law := inr13 (List.mem_of_getElem? (i := 10) rfl)
theorem tw13_11 : Cond.methodLink RX8 131 yX8_isCandle ∈ lw_tbl := tb4 (List.mem_of_getElem? (i := 83) rfl)
theorem mw13_11 : Cond.methodLink RX8 131 yX8_isCandle ∈ wsL_law := inr13 (List.mem_of_getElem? (i := 11) rfl)
theorem tw13_12 : Cond.instanceMethod yX8_isCandle ∈ lw_tbl := tb4 (List.mem_of_getElem? (i := 85) rfl)
theorem mw13_12 : Cond.instanceMethod yX8_isCandle ∈ wsL_law := inr13 (List.mem_of_getElem? (i := 12) rfl)
theorem tw13_13 : Cond.selects RX8 yX8_isCandle yX8_isCandle ∈ lw_tbl := List.mem_append_left _ (List.mem_of_getElem? (i := 23) rfl)
theorem mw13_13 : Cond.selects RX8 yX8_isCandle yX8_isCandle ∈ wsL_law := inr13 (List.mem_of_getElem? (i := 13) rfl)
theorem tw13_14 : Cond.code yX8_isCandle cX8_isCandle 2 (some .boolean) ∈ lw_tbl := tb4 (List.mem_of_getElem? (i := 86) rfl)
theorem mw13_14 : Cond.code yX8_isCandle cX8_isCandle 2 (some .boolean) ∈ wsL_law := inr13 (List.mem_of_getElem? (i := 14) rfl)
theorem tw13_15 : Cond.methodLink RL 40 yX7_guest ∈ lw_tbl := tb2 (List.mem_of_getElem? (i := 118) rfl)
theorem mw13_15 : Cond.methodLink RL 40 yX7_guest ∈ wsL_law := inr13 (List.mem_of_getElem? (i := 15) rfl)
theorem tw13_16 : Cond.instanceMethod yX7_guest ∈ lw_tbl := tb2 (List.mem_of_getElem? (i := 119) rfl)
theorem mw13_16 : Cond.instanceMethod yX7_guest ∈ wsL_law := inr13 (List.mem_of_getElem? (i := 16) rfl)
theorem tw13_17 : Cond.selects RX7 yX7_guest yX7_guest ∈ lw_tbl := tb2 (List.mem_of_getElem? (i := 120) rfl)
theorem mw13_17 : Cond.selects RX7 yX7_guest yX7_guest ∈ wsL_law := inr13 (List.mem_of_getElem? (i := 17) rfl)
theorem tw13_18 : Cond.code yX7_guest cX7_guest 3 (some .int) ∈ lw_tbl := tb2 (List.mem_of_getElem? (i := 121) rfl)
theorem mw13_18 : Cond.code yX7_guest cX7_guest 3 (some .int) ∈ wsL_law := inr13 (List.mem_of_getElem? (i := 18) rfl)
theorem tw13_19 : Cond.fieldLink RX7 130 "TallowHours$Party" "wish" "[I" ∈ lw_tbl := tb1 (List.mem_of_getElem? (i := 185) rfl)
theorem mw13_19 : Cond.fieldLink RX7 130 "TallowHours$Party" "wish" "[I" ∈ wsL_law := inr13 (List.mem_of_getElem? (i := 19) rfl)
theorem tw13_20 : Cond.fieldLink RX7 133 "TallowHours$Party" "wanted" "[I" ∈ lw_tbl := tb1 (List.mem_of_getElem? (i := 189) rfl)
theorem mw13_20 : Cond.fieldLink RX7 133 "TallowHours$Party" "wanted" "[I" ∈ wsL_law := inr13 (List.mem_of_getElem? (i := 20) rfl)
theorem tw13_21 : Cond.fieldLink RX7 136 "TallowHours$Party" "comes" "[I" ∈ lw_tbl := tb1 (List.mem_of_getElem? (i := 195) rfl)
theorem mw13_21 : Cond.fieldLink RX7 136 "TallowHours$Party" "comes" "[I" ∈ wsL_law := inr13 (List.mem_of_getElem? (i := 21) rfl)
theorem tw13_22 : Cond.fieldLink RX7 139 "TallowHours$Party" "goes" "[I" ∈ lw_tbl := tb1 (List.mem_of_getElem? (i := 200) rfl)
theorem mw13_22 : Cond.fieldLink RX7 139 "TallowHours$Party" "goes" "[I" ∈ wsL_law := inr13 (List.mem_of_getElem? (i := 22) rfl)
theorem tw13_23 : Cond.fieldLink RX7 142 "TallowHours$Burning" "had" "[I" ∈ lw_tbl := tb1 (List.mem_of_getElem? (i := 53) rfl)
theorem mw13_23 : Cond.fieldLink RX7 142 "TallowHours$Burning" "had" "[I" ∈ wsL_law := inr13 (List.mem_of_getElem? (i := 23) rfl)
theorem gdr13 : GoodIn lw_tbl wsL_law_r13 := List.forall_mem_cons.mpr ⟨⟨tw13_0, Or.inl rfl⟩, List.forall_mem_cons.mpr ⟨⟨tw13_1, Or.inl rfl⟩, List.forall_mem_cons.mpr ⟨⟨tw13_2, Or.inl rfl⟩, List.forall_mem_cons.mpr ⟨⟨tw13_3, Or.inl rfl⟩, List.forall_mem_cons.mpr ⟨⟨tw13_4, Or.inl rfl⟩, List.forall_mem_cons.mpr ⟨⟨tw13_5, Or.inl rfl⟩, List.forall_mem_cons.mpr ⟨⟨tw13_6, Or.inl rfl⟩, List.forall_mem_cons.mpr ⟨⟨tw13_7, Or.inl rfl⟩, List.forall_mem_cons.mpr ⟨⟨tw13_8, Or.inl rfl⟩, List.forall_mem_cons.mpr ⟨⟨tw13_9, Or.inl rfl⟩, List.forall_mem_cons.mpr ⟨⟨tw13_10, Or.inl rfl⟩, List.forall_mem_cons.mpr ⟨⟨tw13_11, Or.inl rfl⟩, List.forall_mem_cons.mpr ⟨⟨tw13_12, Or.inl rfl⟩, List.forall_mem_cons.mpr ⟨⟨tw13_13, Or.inl rfl⟩, List.forall_mem_cons.mpr ⟨⟨tw13_14, Or.inl rfl⟩, List.forall_mem_cons.mpr ⟨⟨tw13_15, Or.inl rfl⟩, List.forall_mem_cons.mpr ⟨⟨tw13_16, Or.inl rfl⟩, List.forall_mem_cons.mpr ⟨⟨tw13_17, Or.inl rfl⟩, List.forall_mem_cons.mpr ⟨⟨tw13_18, Or.inl rfl⟩, List.forall_mem_cons.mpr ⟨⟨tw13_19, Or.inl rfl⟩, List.forall_mem_cons.mpr ⟨⟨tw13_20, Or.inl rfl⟩, List.forall_mem_cons.mpr ⟨⟨tw13_21, Or.inl rfl⟩, List.forall_mem_cons.mpr ⟨⟨tw13_22, Or.inl rfl⟩, List.forall_mem_cons.mpr ⟨⟨tw13_23, Or.inl rfl⟩, fun _ h => absurd h List.not_mem_nil⟩⟩⟩⟩⟩⟩⟩⟩⟩⟩⟩⟩⟩⟩⟩⟩⟩⟩⟩⟩⟩⟩⟩⟩
theorem tw14_0 : Cond.methodLink RX7 127 yX3_hasGuest ∈ lw_tbl := tb2 (List.mem_of_getElem? (i := 122) rfl)
theorem mw14_0 : Cond.methodLink RX7 127 yX3_hasGuest ∈ wsL_law := inr14 (List.mem_of_getElem? (i := 0) rfl)
theorem tw14_1 : Cond.instanceMethod yX3_hasGuest ∈ lw_tbl := tb2 (List.mem_of_getElem? (i := 123) rfl)
theorem mw14_1 : Cond.instanceMethod yX3_hasGuest ∈ wsL_law := inr14 (List.mem_of_getElem? (i := 1) rfl)
theorem tw14_2 : Cond.selects RX3 yX3_hasGuest yX3_hasGuest ∈ lw_tbl := tb2 (List.mem_of_getElem? (i := 124) rfl)
theorem mw14_2 : Cond.selects RX3 yX3_hasGuest yX3_hasGuest ∈ wsL_law := inr14 (List.mem_of_getElem? (i := 2) rfl)
theorem tw14_3 : Cond.code yX3_hasGuest cX3_hasGuest 2 (some .boolean) ∈ lw_tbl := tb2 (List.mem_of_getElem? (i := 125) rfl)
theorem mw14_3 : Cond.code yX3_hasGuest cX3_hasGuest 2 (some .boolean) ∈ wsL_law := inr14 (List.mem_of_getElem? (i := 3) rfl)
theorem tw14_4 : Cond.methodLink RX7 145 yX2_isContent ∈ lw_tbl := tb2 (List.mem_of_getElem? (i := 126) rfl)
theorem mw14_4 : Cond.methodLink RX7 145 yX2_isContent ∈ wsL_law := inr14 (List.mem_of_getElem? (i := 4) rfl)
theorem tw14_5 : Cond.instanceMethod yX2_isContent ∈ lw_tbl := tb2 (List.mem_of_getElem? (i := 127) rfl)
theorem mw14_5 : Cond.instanceMethod yX2_isContent ∈ wsL_law := inr14 (List.mem_of_getElem? (i := 5) rfl)
theorem tw14_6 : Cond.selects RX2 yX2_isContent yX2_isContent ∈ lw_tbl := tb2 (List.mem_of_getElem? (i := 128) rfl)
theorem mw14_6 : Cond.selects RX2 yX2_isContent yX2_isContent ∈ wsL_law := inr14 (List.mem_of_getElem? (i := 6) rfl)
theorem tw14_7 : Cond.code yX2_isContent cX2_isContent 3 (some .boolean) ∈ lw_tbl := tb2 (List.mem_of_getElem? (i := 129) rfl)
theorem mw14_7 : Cond.code yX2_isContent cX2_isContent 3 (some .boolean) ∈ wsL_law := inr14 (List.mem_of_getElem? (i := 7) rfl)
theorem tw14_8 : Cond.fieldLink RX2 76 "TallowHours$Party" "wanted" "[I" ∈ lw_tbl := tb1 (List.mem_of_getElem? (i := 190) rfl)
theorem mw14_8 : Cond.fieldLink RX2 76 "TallowHours$Party" "wanted" "[I" ∈ wsL_law := inr14 (List.mem_of_getElem? (i := 8) rfl)
theorem tw14_9 : Cond.methodLink RX2 73 yX3_hasGuest ∈ lw_tbl := tb2 (List.mem_of_getElem? (i := 130) rfl)
theorem mw14_9 : Cond.methodLink RX2 73 yX3_hasGuest ∈ wsL_law := inr14 (List.mem_of_getElem? (i := 9) rfl)
theorem tw14_10 : Cond.methodLink RL 43 yX8_guest ∈ lw_tbl := tb4 (List.mem_of_getElem? (i := 87) rfl)
theorem mw14_10 : Cond.methodLink RL 43 yX8_guest ∈ wsL_law := inr14 (List.mem_of_getElem? (i := 10) rfl)
theorem tw14_11 : Cond.instanceMethod yX8_guest ∈ lw_tbl := tb4 (List.mem_of_getElem? (i := 88) rfl)
theorem mw14_11 : Cond.instanceMethod yX8_guest ∈ wsL_law := inr14 (List.mem_of_getElem? (i := 11) rfl)
theorem tw14_12 : Cond.selects RX8 yX8_guest yX8_guest ∈ lw_tbl := tb4 (List.mem_of_getElem? (i := 89) rfl)
theorem mw14_12 : Cond.selects RX8 yX8_guest yX8_guest ∈ wsL_law := inr14 (List.mem_of_getElem? (i := 12) rfl)
theorem tw14_13 : Cond.code yX8_guest cX8_guest 3 (some .int) ∈ lw_tbl := tb4 (List.mem_of_getElem? (i := 90) rfl)
theorem mw14_13 : Cond.code yX8_guest cX8_guest 3 (some .int) ∈ wsL_law := inr14 (List.mem_of_getElem? (i := 13) rfl)
theorem tw14_14 : Cond.methodLink RX8 135 yX8_isGuest ∈ lw_tbl := tb4 (List.mem_of_getElem? (i := 91) rfl)
theorem mw14_14 : Cond.methodLink RX8 135 yX8_isGuest ∈ wsL_law := inr14 (List.mem_of_getElem? (i := 14) rfl)
theorem tw14_15 : Cond.instanceMethod yX8_isGuest ∈ lw_tbl := tb4 (List.mem_of_getElem? (i := 93) rfl)
theorem mw14_15 : Cond.instanceMethod yX8_isGuest ∈ wsL_law := inr14 (List.mem_of_getElem? (i := 15) rfl)
theorem tw14_16 : Cond.selects RX8 yX8_isGuest yX8_isGuest ∈ lw_tbl := List.mem_append_left _ (List.mem_of_getElem? (i := 24) rfl)
theorem mw14_16 : Cond.selects RX8 yX8_isGuest yX8_isGuest ∈ wsL_law := inr14 (List.mem_of_getElem? (i := 16) rfl)
theorem tw14_17 : Cond.code yX8_isGuest cX8_isGuest 2 (some .boolean) ∈ lw_tbl := tb4 (List.mem_of_getElem? (i := 94) rfl)
theorem mw14_17 : Cond.code yX8_isGuest cX8_isGuest 2 (some .boolean) ∈ wsL_law := inr14 (List.mem_of_getElem? (i := 17) rfl)
theorem tw14_18 : Cond.methodLink RX8 138 yX8_isContent ∈ lw_tbl := tb4 (List.mem_of_getElem? (i := 95) rfl)
theorem mw14_18 : Cond.methodLink RX8 138 yX8_isContent ∈ wsL_law := inr14 (List.mem_of_getElem? (i := 18) rfl)
theorem tw14_19 : Cond.instanceMethod yX8_isContent ∈ lw_tbl := tb4 (List.mem_of_getElem? (i := 97) rfl)
theorem mw14_19 : Cond.instanceMethod yX8_isContent ∈ wsL_law := inr14 (List.mem_of_getElem? (i := 19) rfl)
theorem tw14_20 : Cond.selects RX8 yX8_isContent yX8_isContent ∈ lw_tbl := List.mem_append_left _ (List.mem_of_getElem? (i := 25) rfl)
theorem mw14_20 : Cond.selects RX8 yX8_isContent yX8_isContent ∈ wsL_law := inr14 (List.mem_of_getElem? (i := 20) rfl)
theorem tw14_21 : Cond.code yX8_isContent cX8_isContent 3 (some .boolean) ∈ lw_tbl := tb4 (List.mem_of_getElem? (i := 98) rfl)
theorem mw14_21 : Cond.code yX8_isContent cX8_isContent 3 (some .boolean) ∈ wsL_law := inr14 (List.mem_of_getElem? (i := 21) rfl)
theorem tw14_22 : Cond.methodLink RL 44 yX7_light ∈ lw_tbl := tb2 (List.mem_of_getElem? (i := 131) rfl)
theorem mw14_22 : Cond.methodLink RL 44 yX7_light ∈ wsL_law := inr14 (List.mem_of_getElem? (i := 22) rfl)
theorem tw14_23 : Cond.instanceMethod yX7_light ∈ lw_tbl := tb2 (List.mem_of_getElem? (i := 132) rfl)
theorem mw14_23 : Cond.instanceMethod yX7_light ∈ wsL_law := inr14 (List.mem_of_getElem? (i := 23) rfl)
theorem gdr14 : GoodIn lw_tbl wsL_law_r14 := List.forall_mem_cons.mpr ⟨⟨tw14_0, Or.inl rfl⟩, List.forall_mem_cons.mpr ⟨⟨tw14_1, Or.inl rfl⟩, List.forall_mem_cons.mpr ⟨⟨tw14_2, Or.inl rfl⟩, List.forall_mem_cons.mpr ⟨⟨tw14_3, Or.inl rfl⟩, List.forall_mem_cons.mpr ⟨⟨tw14_4, Or.inl rfl⟩, List.forall_mem_cons.mpr ⟨⟨tw14_5, Or.inl rfl⟩, List.forall_mem_cons.mpr ⟨⟨tw14_6, Or.inl rfl⟩, List.forall_mem_cons.mpr ⟨⟨tw14_7, Or.inl rfl⟩, List.forall_mem_cons.mpr ⟨⟨tw14_8, Or.inl rfl⟩, List.forall_mem_cons.mpr ⟨⟨tw14_9, Or.inl rfl⟩, List.forall_mem_cons.mpr ⟨⟨tw14_10, Or.inl rfl⟩, List.forall_mem_cons.mpr ⟨⟨tw14_11, Or.inl rfl⟩, List.forall_mem_cons.mpr ⟨⟨tw14_12, Or.inl rfl⟩, List.forall_mem_cons.mpr ⟨⟨tw14_13, Or.inl rfl⟩, List.forall_mem_cons.mpr ⟨⟨tw14_14, Or.inl rfl⟩, List.forall_mem_cons.mpr ⟨⟨tw14_15, Or.inl rfl⟩, List.forall_mem_cons.mpr ⟨⟨tw14_16, Or.inl rfl⟩, List.forall_mem_cons.mpr ⟨⟨tw14_17, Or.inl rfl⟩, List.forall_mem_cons.mpr ⟨⟨tw14_18, Or.inl rfl⟩, List.forall_mem_cons.mpr ⟨⟨tw14_19, Or.inl rfl⟩, List.forall_mem_cons.mpr ⟨⟨tw14_20, Or.inl rfl⟩, List.forall_mem_cons.mpr ⟨⟨tw14_21, Or.inl rfl⟩, List.forall_mem_cons.mpr ⟨⟨tw14_22, Or.inl rfl⟩, List.forall_mem_cons.mpr ⟨⟨tw14_23, Or.inl rfl⟩, fun _ h => absurd h List.not_mem_nil⟩⟩⟩⟩⟩⟩⟩⟩⟩⟩⟩⟩⟩⟩⟩⟩⟩⟩⟩⟩⟩⟩⟩⟩
theorem tw15_0 : Cond.selects RX7 yX7_light yX7_light ∈ lw_tbl := tb2 (List.mem_of_getElem? (i := 133) rfl)
theorem mw15_0 : Cond.selects RX7 yX7_light yX7_light ∈ wsL_law := inr15 (List.mem_of_getElem? (i := 0) rfl)
theorem tw15_1 : Cond.code yX7_light cX7_light 2 (some .int) ∈ lw_tbl := tb2 (List.mem_of_getElem? (i := 134) rfl)
theorem mw15_1 : Cond.code yX7_light cX7_light 2 (some .int) ∈ wsL_law := inr15 (List.mem_of_getElem? (i := 1) rfl)
theorem tw15_2 : Cond.methodLink RX7 149 yX7_rememberAct ∈ lw_tbl := tb2 (List.mem_of_getElem? (i := 135) rfl)
theorem mw15_2 : Cond.methodLink RX7 149 yX7_rememberAct ∈ wsL_law := inr15 (List.mem_of_getElem? (i := 2) rfl)
theorem tw15_3 : Cond.instanceMethod yX7_rememberAct ∈ lw_tbl := tb2 (List.mem_of_getElem? (i := 137) rfl)
theorem mw15_3 : Cond.instanceMethod yX7_rememberAct ∈ wsL_law := inr15 (List.mem_of_getElem? (i := 3) rfl)
theorem tw15_4 : Cond.selects RX7 yX7_rememberAct yX7_rememberAct ∈ lw_tbl := List.mem_append_left _ (List.mem_of_getElem? (i := 6) rfl)
theorem mw15_4 : Cond.selects RX7 yX7_rememberAct yX7_rememberAct ∈ wsL_law := inr15 (List.mem_of_getElem? (i := 4) rfl)
theorem tw15_5 : Cond.code yX7_rememberAct cX7_rememberAct 1 none ∈ lw_tbl := tb2 (List.mem_of_getElem? (i := 138) rfl)
theorem mw15_5 : Cond.code yX7_rememberAct cX7_rememberAct 1 none ∈ wsL_law := inr15 (List.mem_of_getElem? (i := 5) rfl)
theorem tw15_6 : Cond.methodLink RX7 174 yX0_add ∈ lw_tbl := tb2 (List.mem_of_getElem? (i := 139) rfl)
theorem mw15_6 : Cond.methodLink RX7 174 yX0_add ∈ wsL_law := inr15 (List.mem_of_getElem? (i := 6) rfl)
theorem tw15_7 : Cond.instanceMethod yX0_add ∈ lw_tbl := tb2 (List.mem_of_getElem? (i := 140) rfl)
theorem mw15_7 : Cond.instanceMethod yX0_add ∈ wsL_law := inr15 (List.mem_of_getElem? (i := 7) rfl)
theorem tw15_8 : Cond.selects RX0 yX0_add yX0_add ∈ lw_tbl := tb2 (List.mem_of_getElem? (i := 141) rfl)
theorem mw15_8 : Cond.selects RX0 yX0_add yX0_add ∈ wsL_law := inr15 (List.mem_of_getElem? (i := 8) rfl)
theorem tw15_9 : Cond.code yX0_add cX0_add 2 none ∈ lw_tbl := tb2 (List.mem_of_getElem? (i := 142) rfl)
theorem mw15_9 : Cond.code yX0_add cX0_add 2 none ∈ wsL_law := inr15 (List.mem_of_getElem? (i := 9) rfl)
theorem tw15_10 : Cond.methodLink RX0 24 yX2_saveTo ∈ lw_tbl := tb2 (List.mem_of_getElem? (i := 143) rfl)
theorem mw15_10 : Cond.methodLink RX0 24 yX2_saveTo ∈ wsL_law := inr15 (List.mem_of_getElem? (i := 10) rfl)
theorem tw15_11 : Cond.instanceMethod yX2_saveTo ∈ lw_tbl := tb2 (List.mem_of_getElem? (i := 144) rfl)
theorem mw15_11 : Cond.instanceMethod yX2_saveTo ∈ wsL_law := inr15 (List.mem_of_getElem? (i := 11) rfl)
theorem tw15_12 : Cond.selects RX2 yX2_saveTo yX2_saveTo ∈ lw_tbl := tb2 (List.mem_of_getElem? (i := 145) rfl)
theorem mw15_12 : Cond.selects RX2 yX2_saveTo yX2_saveTo ∈ wsL_law := inr15 (List.mem_of_getElem? (i := 12) rfl)
theorem tw15_13 : Cond.code yX2_saveTo cX2_saveTo 4 none ∈ lw_tbl := tb2 (List.mem_of_getElem? (i := 146) rfl)
theorem mw15_13 : Cond.code yX2_saveTo cX2_saveTo 4 none ∈ wsL_law := inr15 (List.mem_of_getElem? (i := 13) rfl)
theorem tw15_14 : Cond.methodLink RX7 152 yX2_withFlame ∈ lw_tbl := tb2 (List.mem_of_getElem? (i := 147) rfl)
theorem mw15_14 : Cond.methodLink RX7 152 yX2_withFlame ∈ wsL_law := inr15 (List.mem_of_getElem? (i := 14) rfl)
theorem tw15_15 : Cond.instanceMethod yX2_withFlame ∈ lw_tbl := tb2 (List.mem_of_getElem? (i := 148) rfl)
theorem mw15_15 : Cond.instanceMethod yX2_withFlame ∈ wsL_law := inr15 (List.mem_of_getElem? (i := 15) rfl)
theorem tw15_16 : Cond.selects RX2 yX2_withFlame yX2_withFlame ∈ lw_tbl := tb2 (List.mem_of_getElem? (i := 149) rfl)
theorem mw15_16 : Cond.selects RX2 yX2_withFlame yX2_withFlame ∈ wsL_law := inr15 (List.mem_of_getElem? (i := 16) rfl)
theorem tw15_17 : Cond.code yX2_withFlame cX2_withFlame 5 (some .int) ∈ lw_tbl := tb2 (List.mem_of_getElem? (i := 150) rfl)
theorem mw15_17 : Cond.code yX2_withFlame cX2_withFlame 5 (some .int) ∈ wsL_law := inr15 (List.mem_of_getElem? (i := 17) rfl)
theorem tw15_18 : Cond.fieldLink RX2 43 "TallowHours$Party" "candles" "I" ∈ lw_tbl := tb1 (List.mem_of_getElem? (i := 208) rfl)
theorem mw15_18 : Cond.fieldLink RX2 43 "TallowHours$Party" "candles" "I" ∈ wsL_law := inr15 (List.mem_of_getElem? (i := 18) rfl)
theorem tw15_19 : Cond.methodLink RX7 156 yJ6_bitCount_0f7a4 ∈ lw_tbl := tb2 (List.mem_of_getElem? (i := 151) rfl)
theorem mw15_19 : Cond.methodLink RX7 156 yJ6_bitCount_0f7a4 ∈ wsL_law := inr15 (List.mem_of_getElem? (i := 19) rfl)
theorem tw15_20 : Cond.static yJ6_bitCount_0f7a4 ∈ lw_tbl := tb2 (List.mem_of_getElem? (i := 152) rfl)
theorem mw15_20 : Cond.static yJ6_bitCount_0f7a4 ∈ wsL_law := inr15 (List.mem_of_getElem? (i := 20) rfl)
theorem tw15_21 : Cond.initialized RJ6 ∈ lw_tbl := tb1 (List.mem_of_getElem? (i := 11) rfl)
theorem mw15_21 : Cond.initialized RJ6 ∈ wsL_law := inr15 (List.mem_of_getElem? (i := 21) rfl)
theorem tw15_22 : Cond.code yJ6_bitCount_0f7a4 cJ6_bitCount_0f7a4 1 (some .int) ∈ lw_tbl := tb2 (List.mem_of_getElem? (i := 153) rfl)
theorem mw15_22 : Cond.code yJ6_bitCount_0f7a4 cJ6_bitCount_0f7a4 1 (some .int) ∈ wsL_law := inr15 (List.mem_of_getElem? (i := 22) rfl)
theorem tw15_23 : Cond.constant RJ6 265 (1431655765) ∈ lw_tbl := tb2 (List.mem_of_getElem? (i := 154) rfl)
theorem mw15_23 : Cond.constant RJ6 265 (1431655765) ∈ wsL_law := inr15 (List.mem_of_getElem? (i := 23) rfl)
theorem gdr15 : GoodIn lw_tbl wsL_law_r15 := List.forall_mem_cons.mpr ⟨⟨tw15_0, Or.inl rfl⟩, List.forall_mem_cons.mpr ⟨⟨tw15_1, Or.inl rfl⟩, List.forall_mem_cons.mpr ⟨⟨tw15_2, Or.inl rfl⟩, List.forall_mem_cons.mpr ⟨⟨tw15_3, Or.inl rfl⟩, List.forall_mem_cons.mpr ⟨⟨tw15_4, Or.inl rfl⟩, List.forall_mem_cons.mpr ⟨⟨tw15_5, Or.inl rfl⟩, List.forall_mem_cons.mpr ⟨⟨tw15_6, Or.inl rfl⟩, List.forall_mem_cons.mpr ⟨⟨tw15_7, Or.inl rfl⟩, List.forall_mem_cons.mpr ⟨⟨tw15_8, Or.inl rfl⟩, List.forall_mem_cons.mpr ⟨⟨tw15_9, Or.inl rfl⟩, List.forall_mem_cons.mpr ⟨⟨tw15_10, Or.inl rfl⟩, List.forall_mem_cons.mpr ⟨⟨tw15_11, Or.inl rfl⟩, List.forall_mem_cons.mpr ⟨⟨tw15_12, Or.inl rfl⟩, List.forall_mem_cons.mpr ⟨⟨tw15_13, Or.inl rfl⟩, List.forall_mem_cons.mpr ⟨⟨tw15_14, Or.inl rfl⟩, List.forall_mem_cons.mpr ⟨⟨tw15_15, Or.inl rfl⟩, List.forall_mem_cons.mpr ⟨⟨tw15_16, Or.inl rfl⟩, List.forall_mem_cons.mpr ⟨⟨tw15_17, Or.inl rfl⟩, List.forall_mem_cons.mpr ⟨⟨tw15_18, Or.inl rfl⟩, List.forall_mem_cons.mpr ⟨⟨tw15_19, Or.inl rfl⟩, List.forall_mem_cons.mpr ⟨⟨tw15_20, Or.inl rfl⟩, List.forall_mem_cons.mpr ⟨⟨tw15_21, Or.inl rfl⟩, List.forall_mem_cons.mpr ⟨⟨tw15_22, Or.inl rfl⟩, List.forall_mem_cons.mpr ⟨⟨tw15_23, Or.inl rfl⟩, fun _ h => absurd h List.not_mem_nil⟩⟩⟩⟩⟩⟩⟩⟩⟩⟩⟩⟩⟩⟩⟩⟩⟩⟩⟩⟩⟩⟩⟩⟩
theorem tw16_0 : Cond.constant RJ6 266 (858993459) ∈ lw_tbl := tb2 (List.mem_of_getElem? (i := 155) rfl)
theorem mw16_0 : Cond.constant RJ6 266 (858993459) ∈ wsL_law := inr16 (List.mem_of_getElem? (i := 0) rfl)
theorem tw16_1 : Cond.constant RJ6 267 (252645135) ∈ lw_tbl := tb2 (List.mem_of_getElem? (i := 156) rfl)
theorem mw16_1 : Cond.constant RJ6 267 (252645135) ∈ wsL_law := inr16 (List.mem_of_getElem? (i := 1) rfl)
theorem tw16_2 : Cond.methodLink RL 47 yX8_light ∈ lw_tbl := tb4 (List.mem_of_getElem? (i := 99) rfl)
theorem mw16_2 : Cond.methodLink RL 47 yX8_light ∈ wsL_law := inr16 (List.mem_of_getElem? (i := 2) rfl)
theorem tw16_3 : Cond.instanceMethod yX8_light ∈ lw_tbl := tb4 (List.mem_of_getElem? (i := 100) rfl)
theorem mw16_3 : Cond.instanceMethod yX8_light ∈ wsL_law := inr16 (List.mem_of_getElem? (i := 3) rfl)
theorem tw16_4 : Cond.selects RX8 yX8_light yX8_light ∈ lw_tbl := tb4 (List.mem_of_getElem? (i := 101) rfl)
theorem mw16_4 : Cond.selects RX8 yX8_light yX8_light ∈ wsL_law := inr16 (List.mem_of_getElem? (i := 4) rfl)
theorem tw16_5 : Cond.code yX8_light cX8_light 2 (some .int) ∈ lw_tbl := tb4 (List.mem_of_getElem? (i := 102) rfl)
theorem mw16_5 : Cond.code yX8_light cX8_light 2 (some .int) ∈ wsL_law := inr16 (List.mem_of_getElem? (i := 5) rfl)
theorem tw16_6 : Cond.methodLink RX8 148 yX8_keepAct ∈ lw_tbl := tb4 (List.mem_of_getElem? (i := 103) rfl)
theorem mw16_6 : Cond.methodLink RX8 148 yX8_keepAct ∈ wsL_law := inr16 (List.mem_of_getElem? (i := 6) rfl)
theorem tw16_7 : Cond.instanceMethod yX8_keepAct ∈ lw_tbl := tb4 (List.mem_of_getElem? (i := 105) rfl)
theorem mw16_7 : Cond.instanceMethod yX8_keepAct ∈ wsL_law := inr16 (List.mem_of_getElem? (i := 7) rfl)
theorem tw16_8 : Cond.selects RX8 yX8_keepAct yX8_keepAct ∈ lw_tbl := List.mem_append_left _ (List.mem_of_getElem? (i := 26) rfl)
theorem mw16_8 : Cond.selects RX8 yX8_keepAct yX8_keepAct ∈ wsL_law := inr16 (List.mem_of_getElem? (i := 8) rfl)
theorem tw16_9 : Cond.code yX8_keepAct cX8_keepAct 2 none ∈ lw_tbl := tb4 (List.mem_of_getElem? (i := 106) rfl)
theorem mw16_9 : Cond.code yX8_keepAct cX8_keepAct 2 none ∈ wsL_law := inr16 (List.mem_of_getElem? (i := 9) rfl)
theorem tw16_10 : Cond.fieldLink RX8 145 "TallowHoursModel" "nextAct" "I" ∈ lw_tbl := tb3 (List.mem_of_getElem? (i := 198) rfl)
theorem mw16_10 : Cond.fieldLink RX8 145 "TallowHoursModel" "nextAct" "I" ∈ wsL_law := inr16 (List.mem_of_getElem? (i := 10) rfl)
theorem tw16_11 : Cond.methodLink RX8 151 yX8_burning ∈ lw_tbl := tb4 (List.mem_of_getElem? (i := 107) rfl)
theorem mw16_11 : Cond.methodLink RX8 151 yX8_burning ∈ wsL_law := inr16 (List.mem_of_getElem? (i := 11) rfl)
theorem tw16_12 : Cond.instanceMethod yX8_burning ∈ lw_tbl := tb4 (List.mem_of_getElem? (i := 109) rfl)
theorem mw16_12 : Cond.instanceMethod yX8_burning ∈ wsL_law := inr16 (List.mem_of_getElem? (i := 12) rfl)
theorem tw16_13 : Cond.selects RX8 yX8_burning yX8_burning ∈ lw_tbl := List.mem_append_left _ (List.mem_of_getElem? (i := 27) rfl)
theorem mw16_13 : Cond.selects RX8 yX8_burning yX8_burning ∈ wsL_law := inr16 (List.mem_of_getElem? (i := 13) rfl)
theorem tw16_14 : Cond.code yX8_burning cX8_burning 4 (some .int) ∈ lw_tbl := tb4 (List.mem_of_getElem? (i := 110) rfl)
theorem mw16_14 : Cond.code yX8_burning cX8_burning 4 (some .int) ∈ wsL_law := inr16 (List.mem_of_getElem? (i := 14) rfl)
theorem tw16_15 : Cond.methodLink RL 48 yX7_out ∈ lw_tbl := tb2 (List.mem_of_getElem? (i := 157) rfl)
theorem mw16_15 : Cond.methodLink RL 48 yX7_out ∈ wsL_law := inr16 (List.mem_of_getElem? (i := 15) rfl)
theorem tw16_16 : Cond.instanceMethod yX7_out ∈ lw_tbl := tb2 (List.mem_of_getElem? (i := 158) rfl)
theorem mw16_16 : Cond.instanceMethod yX7_out ∈ wsL_law := inr16 (List.mem_of_getElem? (i := 16) rfl)
theorem tw16_17 : Cond.selects RX7 yX7_out yX7_out ∈ lw_tbl := tb2 (List.mem_of_getElem? (i := 159) rfl)
theorem mw16_17 : Cond.selects RX7 yX7_out yX7_out ∈ wsL_law := inr16 (List.mem_of_getElem? (i := 17) rfl)
theorem tw16_18 : Cond.code yX7_out cX7_out 2 (some .int) ∈ lw_tbl := tb2 (List.mem_of_getElem? (i := 160) rfl)
theorem mw16_18 : Cond.code yX7_out cX7_out 2 (some .int) ∈ wsL_law := inr16 (List.mem_of_getElem? (i := 18) rfl)
theorem tw16_19 : Cond.methodLink RL 51 yX8_out ∈ lw_tbl := tb4 (List.mem_of_getElem? (i := 111) rfl)
theorem mw16_19 : Cond.methodLink RL 51 yX8_out ∈ wsL_law := inr16 (List.mem_of_getElem? (i := 19) rfl)
theorem tw16_20 : Cond.instanceMethod yX8_out ∈ lw_tbl := tb4 (List.mem_of_getElem? (i := 112) rfl)
theorem mw16_20 : Cond.instanceMethod yX8_out ∈ wsL_law := inr16 (List.mem_of_getElem? (i := 20) rfl)
theorem tw16_21 : Cond.selects RX8 yX8_out yX8_out ∈ lw_tbl := tb4 (List.mem_of_getElem? (i := 113) rfl)
theorem mw16_21 : Cond.selects RX8 yX8_out yX8_out ∈ wsL_law := inr16 (List.mem_of_getElem? (i := 21) rfl)
theorem tw16_22 : Cond.code yX8_out cX8_out 2 (some .int) ∈ lw_tbl := tb4 (List.mem_of_getElem? (i := 114) rfl)
theorem mw16_22 : Cond.code yX8_out cX8_out 2 (some .int) ∈ wsL_law := inr16 (List.mem_of_getElem? (i := 22) rfl)
theorem tw16_23 : Cond.methodLink RL 52 yX7_trim ∈ lw_tbl := tb2 (List.mem_of_getElem? (i := 161) rfl)
theorem mw16_23 : Cond.methodLink RL 52 yX7_trim ∈ wsL_law := inr16 (List.mem_of_getElem? (i := 23) rfl)
theorem gdr16 : GoodIn lw_tbl wsL_law_r16 := List.forall_mem_cons.mpr ⟨⟨tw16_0, Or.inl rfl⟩, List.forall_mem_cons.mpr ⟨⟨tw16_1, Or.inl rfl⟩, List.forall_mem_cons.mpr ⟨⟨tw16_2, Or.inl rfl⟩, List.forall_mem_cons.mpr ⟨⟨tw16_3, Or.inl rfl⟩, List.forall_mem_cons.mpr ⟨⟨tw16_4, Or.inl rfl⟩, List.forall_mem_cons.mpr ⟨⟨tw16_5, Or.inl rfl⟩, List.forall_mem_cons.mpr ⟨⟨tw16_6, Or.inl rfl⟩, List.forall_mem_cons.mpr ⟨⟨tw16_7, Or.inl rfl⟩, List.forall_mem_cons.mpr ⟨⟨tw16_8, Or.inl rfl⟩, List.forall_mem_cons.mpr ⟨⟨tw16_9, Or.inl rfl⟩, List.forall_mem_cons.mpr ⟨⟨tw16_10, Or.inl rfl⟩, List.forall_mem_cons.mpr ⟨⟨tw16_11, Or.inl rfl⟩, List.forall_mem_cons.mpr ⟨⟨tw16_12, Or.inl rfl⟩, List.forall_mem_cons.mpr ⟨⟨tw16_13, Or.inl rfl⟩, List.forall_mem_cons.mpr ⟨⟨tw16_14, Or.inl rfl⟩, List.forall_mem_cons.mpr ⟨⟨tw16_15, Or.inl rfl⟩, List.forall_mem_cons.mpr ⟨⟨tw16_16, Or.inl rfl⟩, List.forall_mem_cons.mpr ⟨⟨tw16_17, Or.inl rfl⟩, List.forall_mem_cons.mpr ⟨⟨tw16_18, Or.inl rfl⟩, List.forall_mem_cons.mpr ⟨⟨tw16_19, Or.inl rfl⟩, List.forall_mem_cons.mpr ⟨⟨tw16_20, Or.inl rfl⟩, List.forall_mem_cons.mpr ⟨⟨tw16_21, Or.inl rfl⟩, List.forall_mem_cons.mpr ⟨⟨tw16_22, Or.inl rfl⟩, List.forall_mem_cons.mpr ⟨⟨tw16_23, Or.inl rfl⟩, fun _ h => absurd h List.not_mem_nil⟩⟩⟩⟩⟩⟩⟩⟩⟩⟩⟩⟩⟩⟩⟩⟩⟩⟩⟩⟩⟩⟩⟩⟩
theorem tw17_0 : Cond.instanceMethod yX7_trim ∈ lw_tbl := tb2 (List.mem_of_getElem? (i := 162) rfl)
theorem mw17_0 : Cond.instanceMethod yX7_trim ∈ wsL_law := inr17 (List.mem_of_getElem? (i := 0) rfl)
theorem tw17_1 : Cond.selects RX7 yX7_trim yX7_trim ∈ lw_tbl := tb2 (List.mem_of_getElem? (i := 163) rfl)
theorem mw17_1 : Cond.selects RX7 yX7_trim yX7_trim ∈ wsL_law := inr17 (List.mem_of_getElem? (i := 1) rfl)
theorem tw17_2 : Cond.code yX7_trim cX7_trim 3 (some .int) ∈ lw_tbl := tb2 (List.mem_of_getElem? (i := 164) rfl)
theorem mw17_2 : Cond.code yX7_trim cX7_trim 3 (some .int) ∈ wsL_law := inr17 (List.mem_of_getElem? (i := 2) rfl)
theorem tw17_3 : Cond.methodLink RL 55 yX8_trim ∈ lw_tbl := tb4 (List.mem_of_getElem? (i := 115) rfl)
theorem mw17_3 : Cond.methodLink RL 55 yX8_trim ∈ wsL_law := inr17 (List.mem_of_getElem? (i := 3) rfl)
theorem tw17_4 : Cond.instanceMethod yX8_trim ∈ lw_tbl := tb4 (List.mem_of_getElem? (i := 116) rfl)
theorem mw17_4 : Cond.instanceMethod yX8_trim ∈ wsL_law := inr17 (List.mem_of_getElem? (i := 4) rfl)
theorem tw17_5 : Cond.selects RX8 yX8_trim yX8_trim ∈ lw_tbl := tb4 (List.mem_of_getElem? (i := 117) rfl)
theorem mw17_5 : Cond.selects RX8 yX8_trim yX8_trim ∈ wsL_law := inr17 (List.mem_of_getElem? (i := 5) rfl)
theorem tw17_6 : Cond.code yX8_trim cX8_trim 3 (some .int) ∈ lw_tbl := tb4 (List.mem_of_getElem? (i := 118) rfl)
theorem mw17_6 : Cond.code yX8_trim cX8_trim 3 (some .int) ∈ wsL_law := inr17 (List.mem_of_getElem? (i := 6) rfl)
theorem tw17_7 : Cond.constantLong RX8 154 (5) ∈ lw_tbl := tb4 (List.mem_of_getElem? (i := 119) rfl)
theorem mw17_7 : Cond.constantLong RX8 154 (5) ∈ wsL_law := inr17 (List.mem_of_getElem? (i := 7) rfl)
theorem tw17_8 : Cond.methodLink RL 56 yX7_step ∈ lw_tbl := tb2 (List.mem_of_getElem? (i := 165) rfl)
theorem mw17_8 : Cond.methodLink RL 56 yX7_step ∈ wsL_law := inr17 (List.mem_of_getElem? (i := 8) rfl)
theorem tw17_9 : Cond.instanceMethod yX7_step ∈ lw_tbl := tb2 (List.mem_of_getElem? (i := 166) rfl)
theorem mw17_9 : Cond.instanceMethod yX7_step ∈ wsL_law := inr17 (List.mem_of_getElem? (i := 9) rfl)
theorem tw17_10 : Cond.selects RX7 yX7_step yX7_step ∈ lw_tbl := tb2 (List.mem_of_getElem? (i := 167) rfl)
theorem mw17_10 : Cond.selects RX7 yX7_step yX7_step ∈ wsL_law := inr17 (List.mem_of_getElem? (i := 10) rfl)
theorem tw17_11 : Cond.code yX7_step cX7_step 1 (some .int) ∈ lw_tbl := tb2 (List.mem_of_getElem? (i := 168) rfl)
theorem mw17_11 : Cond.code yX7_step cX7_step 1 (some .int) ∈ wsL_law := inr17 (List.mem_of_getElem? (i := 11) rfl)
theorem tw17_12 : Cond.fieldLink RX7 161 "TallowHours$Burning" "steps" "I" ∈ lw_tbl := tb1 (List.mem_of_getElem? (i := 58) rfl)
theorem mw17_12 : Cond.fieldLink RX7 161 "TallowHours$Burning" "steps" "I" ∈ wsL_law := inr17 (List.mem_of_getElem? (i := 12) rfl)
theorem tw17_13 : Cond.methodLink RX7 164 yX2_goBy ∈ lw_tbl := tb2 (List.mem_of_getElem? (i := 169) rfl)
theorem mw17_13 : Cond.methodLink RX7 164 yX2_goBy ∈ wsL_law := inr17 (List.mem_of_getElem? (i := 13) rfl)
theorem tw17_14 : Cond.instanceMethod yX2_goBy ∈ lw_tbl := tb2 (List.mem_of_getElem? (i := 170) rfl)
theorem mw17_14 : Cond.instanceMethod yX2_goBy ∈ wsL_law := inr17 (List.mem_of_getElem? (i := 14) rfl)
theorem tw17_15 : Cond.selects RX2 yX2_goBy yX2_goBy ∈ lw_tbl := tb2 (List.mem_of_getElem? (i := 171) rfl)
theorem mw17_15 : Cond.selects RX2 yX2_goBy yX2_goBy ∈ wsL_law := inr17 (List.mem_of_getElem? (i := 15) rfl)
theorem tw17_16 : Cond.code yX2_goBy cX2_goBy 6 (some .int) ∈ lw_tbl := tb2 (List.mem_of_getElem? (i := 172) rfl)
theorem mw17_16 : Cond.code yX2_goBy cX2_goBy 6 (some .int) ∈ wsL_law := inr17 (List.mem_of_getElem? (i := 16) rfl)
theorem tw17_17 : Cond.fieldLink RX2 54 "TallowHours$Party" "guests" "I" ∈ lw_tbl := tb1 (List.mem_of_getElem? (i := 213) rfl)
theorem mw17_17 : Cond.fieldLink RX2 54 "TallowHours$Party" "guests" "I" ∈ wsL_law := inr17 (List.mem_of_getElem? (i := 17) rfl)
theorem tw17_18 : Cond.fieldLink RX2 57 "TallowHours$Party" "comes" "[I" ∈ lw_tbl := tb1 (List.mem_of_getElem? (i := 193) rfl)
theorem mw17_18 : Cond.fieldLink RX2 57 "TallowHours$Party" "comes" "[I" ∈ wsL_law := inr17 (List.mem_of_getElem? (i := 18) rfl)
theorem tw17_19 : Cond.fieldLink RX2 60 "TallowHours$Party" "goes" "[I" ∈ lw_tbl := tb1 (List.mem_of_getElem? (i := 198) rfl)
theorem mw17_19 : Cond.fieldLink RX2 60 "TallowHours$Party" "goes" "[I" ∈ wsL_law := inr17 (List.mem_of_getElem? (i := 19) rfl)
theorem tw17_20 : Cond.fieldLink RX2 63 "TallowHours$Party" "wish" "[I" ∈ lw_tbl := tb1 (List.mem_of_getElem? (i := 184) rfl)
theorem mw17_20 : Cond.fieldLink RX2 63 "TallowHours$Party" "wish" "[I" ∈ wsL_law := inr17 (List.mem_of_getElem? (i := 20) rfl)
theorem tw17_21 : Cond.methodLink RX2 46 yX2_giftBit ∈ lw_tbl := tb2 (List.mem_of_getElem? (i := 173) rfl)
theorem mw17_21 : Cond.methodLink RX2 46 yX2_giftBit ∈ wsL_law := inr17 (List.mem_of_getElem? (i := 21) rfl)
theorem tw17_22 : Cond.instanceMethod yX2_giftBit ∈ lw_tbl := tb2 (List.mem_of_getElem? (i := 174) rfl)
theorem mw17_22 : Cond.instanceMethod yX2_giftBit ∈ wsL_law := inr17 (List.mem_of_getElem? (i := 22) rfl)
theorem tw17_23 : Cond.selects RX2 yX2_giftBit yX2_giftBit ∈ lw_tbl := tb2 (List.mem_of_getElem? (i := 175) rfl)
theorem mw17_23 : Cond.selects RX2 yX2_giftBit yX2_giftBit ∈ wsL_law := inr17 (List.mem_of_getElem? (i := 23) rfl)
theorem gdr17 : GoodIn lw_tbl wsL_law_r17 := List.forall_mem_cons.mpr ⟨⟨tw17_0, Or.inl rfl⟩, List.forall_mem_cons.mpr ⟨⟨tw17_1, Or.inl rfl⟩, List.forall_mem_cons.mpr ⟨⟨tw17_2, Or.inl rfl⟩, List.forall_mem_cons.mpr ⟨⟨tw17_3, Or.inl rfl⟩, List.forall_mem_cons.mpr ⟨⟨tw17_4, Or.inl rfl⟩, List.forall_mem_cons.mpr ⟨⟨tw17_5, Or.inl rfl⟩, List.forall_mem_cons.mpr ⟨⟨tw17_6, Or.inl rfl⟩, List.forall_mem_cons.mpr ⟨⟨tw17_7, Or.inl rfl⟩, List.forall_mem_cons.mpr ⟨⟨tw17_8, Or.inl rfl⟩, List.forall_mem_cons.mpr ⟨⟨tw17_9, Or.inl rfl⟩, List.forall_mem_cons.mpr ⟨⟨tw17_10, Or.inl rfl⟩, List.forall_mem_cons.mpr ⟨⟨tw17_11, Or.inl rfl⟩, List.forall_mem_cons.mpr ⟨⟨tw17_12, Or.inl rfl⟩, List.forall_mem_cons.mpr ⟨⟨tw17_13, Or.inl rfl⟩, List.forall_mem_cons.mpr ⟨⟨tw17_14, Or.inl rfl⟩, List.forall_mem_cons.mpr ⟨⟨tw17_15, Or.inl rfl⟩, List.forall_mem_cons.mpr ⟨⟨tw17_16, Or.inl rfl⟩, List.forall_mem_cons.mpr ⟨⟨tw17_17, Or.inl rfl⟩, List.forall_mem_cons.mpr ⟨⟨tw17_18, Or.inl rfl⟩, List.forall_mem_cons.mpr ⟨⟨tw17_19, Or.inl rfl⟩, List.forall_mem_cons.mpr ⟨⟨tw17_20, Or.inl rfl⟩, List.forall_mem_cons.mpr ⟨⟨tw17_21, Or.inl rfl⟩, List.forall_mem_cons.mpr ⟨⟨tw17_22, Or.inl rfl⟩, List.forall_mem_cons.mpr ⟨⟨tw17_23, Or.inl rfl⟩, fun _ h => absurd h List.not_mem_nil⟩⟩⟩⟩⟩⟩⟩⟩⟩⟩⟩⟩⟩⟩⟩⟩⟩⟩⟩⟩⟩⟩⟩⟩
theorem tw18_0 : Cond.code yX2_giftBit cX2_giftBit 5 (some .int) ∈ lw_tbl := tb2 (List.mem_of_getElem? (i := 176) rfl)
theorem mw18_0 : Cond.code yX2_giftBit cX2_giftBit 5 (some .int) ∈ wsL_law := inr18 (List.mem_of_getElem? (i := 0) rfl)
theorem tw18_1 : Cond.methodLink RX2 39 yX3_hasCandle ∈ lw_tbl := tb2 (List.mem_of_getElem? (i := 177) rfl)
theorem mw18_1 : Cond.methodLink RX2 39 yX3_hasCandle ∈ wsL_law := inr18 (List.mem_of_getElem? (i := 1) rfl)
theorem tw18_2 : Cond.methodLink RX2 69 yX3_giftAt ∈ lw_tbl := tb2 (List.mem_of_getElem? (i := 178) rfl)
theorem mw18_2 : Cond.methodLink RX2 69 yX3_giftAt ∈ wsL_law := inr18 (List.mem_of_getElem? (i := 2) rfl)
theorem tw18_3 : Cond.methodLink RX2 50 yX2_burnInch ∈ lw_tbl := tb2 (List.mem_of_getElem? (i := 179) rfl)
theorem mw18_3 : Cond.methodLink RX2 50 yX2_burnInch ∈ wsL_law := inr18 (List.mem_of_getElem? (i := 3) rfl)
theorem tw18_4 : Cond.instanceMethod yX2_burnInch ∈ lw_tbl := tb2 (List.mem_of_getElem? (i := 181) rfl)
theorem mw18_4 : Cond.instanceMethod yX2_burnInch ∈ wsL_law := inr18 (List.mem_of_getElem? (i := 4) rfl)
theorem tw18_5 : Cond.selects RX2 yX2_burnInch yX2_burnInch ∈ lw_tbl := List.mem_append_left _ (List.mem_of_getElem? (i := 7) rfl)
theorem mw18_5 : Cond.selects RX2 yX2_burnInch yX2_burnInch ∈ wsL_law := inr18 (List.mem_of_getElem? (i := 5) rfl)
theorem tw18_6 : Cond.code yX2_burnInch cX2_burnInch 3 none ∈ lw_tbl := tb2 (List.mem_of_getElem? (i := 182) rfl)
theorem mw18_6 : Cond.code yX2_burnInch cX2_burnInch 3 none ∈ wsL_law := inr18 (List.mem_of_getElem? (i := 6) rfl)
theorem tw18_7 : Cond.fieldLink RX2 66 "TallowHours$Party" "price" "[I" ∈ lw_tbl := tb1 (List.mem_of_getElem? (i := 180) rfl)
theorem mw18_7 : Cond.fieldLink RX2 66 "TallowHours$Party" "price" "[I" ∈ wsL_law := inr18 (List.mem_of_getElem? (i := 7) rfl)
theorem tw18_8 : Cond.methodLink RL 59 yX8_step ∈ lw_tbl := tb4 (List.mem_of_getElem? (i := 120) rfl)
theorem mw18_8 : Cond.methodLink RL 59 yX8_step ∈ wsL_law := inr18 (List.mem_of_getElem? (i := 8) rfl)
theorem tw18_9 : Cond.instanceMethod yX8_step ∈ lw_tbl := tb4 (List.mem_of_getElem? (i := 121) rfl)
theorem mw18_9 : Cond.instanceMethod yX8_step ∈ wsL_law := inr18 (List.mem_of_getElem? (i := 9) rfl)
theorem tw18_10 : Cond.selects RX8 yX8_step yX8_step ∈ lw_tbl := tb4 (List.mem_of_getElem? (i := 122) rfl)
theorem mw18_10 : Cond.selects RX8 yX8_step yX8_step ∈ wsL_law := inr18 (List.mem_of_getElem? (i := 10) rfl)
theorem tw18_11 : Cond.code yX8_step cX8_step 1 (some .int) ∈ lw_tbl := tb4 (List.mem_of_getElem? (i := 123) rfl)
theorem mw18_11 : Cond.code yX8_step cX8_step 1 (some .int) ∈ wsL_law := inr18 (List.mem_of_getElem? (i := 11) rfl)
theorem tw18_12 : Cond.methodLink RX8 156 yX8_pass ∈ lw_tbl := tb4 (List.mem_of_getElem? (i := 124) rfl)
theorem mw18_12 : Cond.methodLink RX8 156 yX8_pass ∈ wsL_law := inr18 (List.mem_of_getElem? (i := 12) rfl)
theorem tw18_13 : Cond.instanceMethod yX8_pass ∈ lw_tbl := tb4 (List.mem_of_getElem? (i := 126) rfl)
theorem mw18_13 : Cond.instanceMethod yX8_pass ∈ wsL_law := inr18 (List.mem_of_getElem? (i := 13) rfl)
theorem tw18_14 : Cond.selects RX8 yX8_pass yX8_pass ∈ lw_tbl := List.mem_append_left _ (List.mem_of_getElem? (i := 28) rfl)
theorem mw18_14 : Cond.selects RX8 yX8_pass yX8_pass ∈ wsL_law := inr18 (List.mem_of_getElem? (i := 14) rfl)
theorem tw18_15 : Cond.code yX8_pass cX8_pass 7 (some .int) ∈ lw_tbl := tb4 (List.mem_of_getElem? (i := 127) rfl)
theorem mw18_15 : Cond.code yX8_pass cX8_pass 7 (some .int) ∈ wsL_law := inr18 (List.mem_of_getElem? (i := 15) rfl)
theorem tw18_16 : Cond.methodLink RX8 142 yX8_has ∈ lw_tbl := tb4 (List.mem_of_getElem? (i := 128) rfl)
theorem mw18_16 : Cond.methodLink RX8 142 yX8_has ∈ wsL_law := inr18 (List.mem_of_getElem? (i := 16) rfl)
theorem tw18_17 : Cond.static yX8_has ∈ lw_tbl := tb4 (List.mem_of_getElem? (i := 129) rfl)
theorem mw18_17 : Cond.static yX8_has ∈ wsL_law := inr18 (List.mem_of_getElem? (i := 17) rfl)
theorem tw18_18 : Cond.code yX8_has cX8_has 2 (some .boolean) ∈ lw_tbl := tb4 (List.mem_of_getElem? (i := 130) rfl)
theorem mw18_18 : Cond.code yX8_has cX8_has 2 (some .boolean) ∈ wsL_law := inr18 (List.mem_of_getElem? (i := 18) rfl)
theorem tw18_19 : Cond.methodLink RL 60 yX7_undo ∈ lw_tbl := tb2 (List.mem_of_getElem? (i := 183) rfl)
theorem mw18_19 : Cond.methodLink RL 60 yX7_undo ∈ wsL_law := inr18 (List.mem_of_getElem? (i := 19) rfl)
theorem tw18_20 : Cond.instanceMethod yX7_undo ∈ lw_tbl := tb2 (List.mem_of_getElem? (i := 184) rfl)
theorem mw18_20 : Cond.instanceMethod yX7_undo ∈ wsL_law := inr18 (List.mem_of_getElem? (i := 20) rfl)
theorem tw18_21 : Cond.selects RX7 yX7_undo yX7_undo ∈ lw_tbl := tb2 (List.mem_of_getElem? (i := 185) rfl)
theorem mw18_21 : Cond.selects RX7 yX7_undo yX7_undo ∈ wsL_law := inr18 (List.mem_of_getElem? (i := 21) rfl)
theorem tw18_22 : Cond.code yX7_undo cX7_undo 1 (some .int) ∈ lw_tbl := tb2 (List.mem_of_getElem? (i := 186) rfl)
theorem mw18_22 : Cond.code yX7_undo cX7_undo 1 (some .int) ∈ wsL_law := inr18 (List.mem_of_getElem? (i := 22) rfl)
theorem tw18_23 : Cond.fieldLink RX7 167 "TallowHours$Acts" "size" "I" ∈ lw_tbl := tb1 (List.mem_of_getElem? (i := 81) rfl)
theorem mw18_23 : Cond.fieldLink RX7 167 "TallowHours$Acts" "size" "I" ∈ wsL_law := inr18 (List.mem_of_getElem? (i := 23) rfl)
theorem gdr18 : GoodIn lw_tbl wsL_law_r18 := List.forall_mem_cons.mpr ⟨⟨tw18_0, Or.inl rfl⟩, List.forall_mem_cons.mpr ⟨⟨tw18_1, Or.inl rfl⟩, List.forall_mem_cons.mpr ⟨⟨tw18_2, Or.inl rfl⟩, List.forall_mem_cons.mpr ⟨⟨tw18_3, Or.inl rfl⟩, List.forall_mem_cons.mpr ⟨⟨tw18_4, Or.inl rfl⟩, List.forall_mem_cons.mpr ⟨⟨tw18_5, Or.inl rfl⟩, List.forall_mem_cons.mpr ⟨⟨tw18_6, Or.inl rfl⟩, List.forall_mem_cons.mpr ⟨⟨tw18_7, Or.inl rfl⟩, List.forall_mem_cons.mpr ⟨⟨tw18_8, Or.inl rfl⟩, List.forall_mem_cons.mpr ⟨⟨tw18_9, Or.inl rfl⟩, List.forall_mem_cons.mpr ⟨⟨tw18_10, Or.inl rfl⟩, List.forall_mem_cons.mpr ⟨⟨tw18_11, Or.inl rfl⟩, List.forall_mem_cons.mpr ⟨⟨tw18_12, Or.inl rfl⟩, List.forall_mem_cons.mpr ⟨⟨tw18_13, Or.inl rfl⟩, List.forall_mem_cons.mpr ⟨⟨tw18_14, Or.inl rfl⟩, List.forall_mem_cons.mpr ⟨⟨tw18_15, Or.inl rfl⟩, List.forall_mem_cons.mpr ⟨⟨tw18_16, Or.inl rfl⟩, List.forall_mem_cons.mpr ⟨⟨tw18_17, Or.inl rfl⟩, List.forall_mem_cons.mpr ⟨⟨tw18_18, Or.inl rfl⟩, List.forall_mem_cons.mpr ⟨⟨tw18_19, Or.inl rfl⟩, List.forall_mem_cons.mpr ⟨⟨tw18_20, Or.inl rfl⟩, List.forall_mem_cons.mpr ⟨⟨tw18_21, Or.inl rfl⟩, List.forall_mem_cons.mpr ⟨⟨tw18_22, Or.inl rfl⟩, List.forall_mem_cons.mpr ⟨⟨tw18_23, Or.inl rfl⟩, fun _ h => absurd h List.not_mem_nil⟩⟩⟩⟩⟩⟩⟩⟩⟩⟩⟩⟩⟩⟩⟩⟩⟩⟩⟩⟩⟩⟩⟩⟩
theorem tw19_0 : Cond.methodLink RX7 170 yX0_takeBack ∈ lw_tbl := tb2 (List.mem_of_getElem? (i := 187) rfl)
theorem mw19_0 : Cond.methodLink RX7 170 yX0_takeBack ∈ wsL_law := inr19 (List.mem_of_getElem? (i := 0) rfl)
theorem tw19_1 : Cond.instanceMethod yX0_takeBack ∈ lw_tbl := tb2 (List.mem_of_getElem? (i := 188) rfl)
theorem mw19_1 : Cond.instanceMethod yX0_takeBack ∈ wsL_law := inr19 (List.mem_of_getElem? (i := 1) rfl)
theorem tw19_2 : Cond.selects RX0 yX0_takeBack yX0_takeBack ∈ lw_tbl := tb2 (List.mem_of_getElem? (i := 189) rfl)
theorem mw19_2 : Cond.selects RX0 yX0_takeBack yX0_takeBack ∈ wsL_law := inr19 (List.mem_of_getElem? (i := 2) rfl)
theorem tw19_3 : Cond.code yX0_takeBack cX0_takeBack 2 none ∈ lw_tbl := tb2 (List.mem_of_getElem? (i := 190) rfl)
theorem mw19_3 : Cond.code yX0_takeBack cX0_takeBack 2 none ∈ wsL_law := inr19 (List.mem_of_getElem? (i := 3) rfl)
theorem tw19_4 : Cond.methodLink RX0 28 yX2_loadFrom ∈ lw_tbl := tb2 (List.mem_of_getElem? (i := 191) rfl)
theorem mw19_4 : Cond.methodLink RX0 28 yX2_loadFrom ∈ wsL_law := inr19 (List.mem_of_getElem? (i := 4) rfl)
theorem tw19_5 : Cond.instanceMethod yX2_loadFrom ∈ lw_tbl := tb2 (List.mem_of_getElem? (i := 192) rfl)
theorem mw19_5 : Cond.instanceMethod yX2_loadFrom ∈ wsL_law := inr19 (List.mem_of_getElem? (i := 5) rfl)
theorem tw19_6 : Cond.selects RX2 yX2_loadFrom yX2_loadFrom ∈ lw_tbl := tb2 (List.mem_of_getElem? (i := 193) rfl)
theorem mw19_6 : Cond.selects RX2 yX2_loadFrom yX2_loadFrom ∈ wsL_law := inr19 (List.mem_of_getElem? (i := 6) rfl)
theorem tw19_7 : Cond.code yX2_loadFrom cX2_loadFrom 4 none ∈ lw_tbl := tb2 (List.mem_of_getElem? (i := 194) rfl)
theorem mw19_7 : Cond.code yX2_loadFrom cX2_loadFrom 4 none ∈ wsL_law := inr19 (List.mem_of_getElem? (i := 7) rfl)
theorem tw19_8 : Cond.methodLink RL 63 yX8_undo ∈ lw_tbl := tb4 (List.mem_of_getElem? (i := 131) rfl)
theorem mw19_8 : Cond.methodLink RL 63 yX8_undo ∈ wsL_law := inr19 (List.mem_of_getElem? (i := 8) rfl)
theorem tw19_9 : Cond.instanceMethod yX8_undo ∈ lw_tbl := tb4 (List.mem_of_getElem? (i := 132) rfl)
theorem mw19_9 : Cond.instanceMethod yX8_undo ∈ wsL_law := inr19 (List.mem_of_getElem? (i := 9) rfl)
theorem tw19_10 : Cond.selects RX8 yX8_undo yX8_undo ∈ lw_tbl := tb4 (List.mem_of_getElem? (i := 133) rfl)
theorem mw19_10 : Cond.selects RX8 yX8_undo yX8_undo ∈ wsL_law := inr19 (List.mem_of_getElem? (i := 10) rfl)
theorem tw19_11 : Cond.code yX8_undo cX8_undo 2 (some .int) ∈ lw_tbl := tb4 (List.mem_of_getElem? (i := 134) rfl)
theorem mw19_11 : Cond.code yX8_undo cX8_undo 2 (some .int) ∈ wsL_law := inr19 (List.mem_of_getElem? (i := 11) rfl)
theorem tw19_12 : Cond.methodLink RL 64 yX7_plan ∈ lw_tbl := tb2 (List.mem_of_getElem? (i := 195) rfl)
theorem mw19_12 : Cond.methodLink RL 64 yX7_plan ∈ wsL_law := inr19 (List.mem_of_getElem? (i := 12) rfl)
theorem tw19_13 : Cond.instanceMethod yX7_plan ∈ lw_tbl := tb2 (List.mem_of_getElem? (i := 196) rfl)
theorem mw19_13 : Cond.instanceMethod yX7_plan ∈ wsL_law := inr19 (List.mem_of_getElem? (i := 13) rfl)
theorem tw19_14 : Cond.selects RX7 yX7_plan yX7_plan ∈ lw_tbl := tb2 (List.mem_of_getElem? (i := 197) rfl)
theorem mw19_14 : Cond.selects RX7 yX7_plan yX7_plan ∈ wsL_law := inr19 (List.mem_of_getElem? (i := 14) rfl)
theorem tw19_15 : Cond.code yX7_plan cX7_plan 1 (some .int) ∈ lw_tbl := tb2 (List.mem_of_getElem? (i := 198) rfl)
theorem mw19_15 : Cond.code yX7_plan cX7_plan 1 (some .int) ∈ wsL_law := inr19 (List.mem_of_getElem? (i := 15) rfl)
theorem tw19_16 : Cond.methodLink RX7 177 yX4_work ∈ lw_tbl := tb2 (List.mem_of_getElem? (i := 199) rfl)
theorem mw19_16 : Cond.methodLink RX7 177 yX4_work ∈ wsL_law := inr19 (List.mem_of_getElem? (i := 16) rfl)
theorem tw19_17 : Cond.instanceMethod yX4_work ∈ lw_tbl := tb2 (List.mem_of_getElem? (i := 200) rfl)
theorem mw19_17 : Cond.instanceMethod yX4_work ∈ wsL_law := inr19 (List.mem_of_getElem? (i := 17) rfl)
theorem tw19_18 : Cond.selects RX4 yX4_work yX4_work ∈ lw_tbl := tb2 (List.mem_of_getElem? (i := 201) rfl)
theorem mw19_18 : Cond.selects RX4 yX4_work yX4_work ∈ wsL_law := inr19 (List.mem_of_getElem? (i := 18) rfl)
theorem tw19_19 : Cond.code yX4_work cX4_work 6 none ∈ lw_tbl := tb2 (List.mem_of_getElem? (i := 202) rfl)
theorem mw19_19 : Cond.code yX4_work cX4_work 6 none ∈ wsL_law := inr19 (List.mem_of_getElem? (i := 19) rfl)
theorem tw19_20 : Cond.fieldLink RX4 51 "TallowHours$Party" "guests" "I" ∈ lw_tbl := tb1 (List.mem_of_getElem? (i := 210) rfl)
theorem mw19_20 : Cond.fieldLink RX4 51 "TallowHours$Party" "guests" "I" ∈ wsL_law := inr19 (List.mem_of_getElem? (i := 20) rfl)
theorem tw19_21 : Cond.constant RX4 54 (1000000) ∈ lw_tbl := tb2 (List.mem_of_getElem? (i := 203) rfl)
theorem mw19_21 : Cond.constant RX4 54 (1000000) ∈ wsL_law := inr19 (List.mem_of_getElem? (i := 21) rfl)
theorem tw19_22 : Cond.methodLink RX4 55 yX4_layGuest ∈ lw_tbl := tb2 (List.mem_of_getElem? (i := 204) rfl)
theorem mw19_22 : Cond.methodLink RX4 55 yX4_layGuest ∈ wsL_law := inr19 (List.mem_of_getElem? (i := 22) rfl)
theorem tw19_23 : Cond.instanceMethod yX4_layGuest ∈ lw_tbl := tb2 (List.mem_of_getElem? (i := 206) rfl)
theorem mw19_23 : Cond.instanceMethod yX4_layGuest ∈ wsL_law := inr19 (List.mem_of_getElem? (i := 23) rfl)
theorem gdr19 : GoodIn lw_tbl wsL_law_r19 := List.forall_mem_cons.mpr ⟨⟨tw19_0, Or.inl rfl⟩, List.forall_mem_cons.mpr ⟨⟨tw19_1, Or.inl rfl⟩, List.forall_mem_cons.mpr ⟨⟨tw19_2, Or.inl rfl⟩, List.forall_mem_cons.mpr ⟨⟨tw19_3, Or.inl rfl⟩, List.forall_mem_cons.mpr ⟨⟨tw19_4, Or.inl rfl⟩, List.forall_mem_cons.mpr ⟨⟨tw19_5, Or.inl rfl⟩, List.forall_mem_cons.mpr ⟨⟨tw19_6, Or.inl rfl⟩, List.forall_mem_cons.mpr ⟨⟨tw19_7, Or.inl rfl⟩, List.forall_mem_cons.mpr ⟨⟨tw19_8, Or.inl rfl⟩, List.forall_mem_cons.mpr ⟨⟨tw19_9, Or.inl rfl⟩, List.forall_mem_cons.mpr ⟨⟨tw19_10, Or.inl rfl⟩, List.forall_mem_cons.mpr ⟨⟨tw19_11, Or.inl rfl⟩, List.forall_mem_cons.mpr ⟨⟨tw19_12, Or.inl rfl⟩, List.forall_mem_cons.mpr ⟨⟨tw19_13, Or.inl rfl⟩, List.forall_mem_cons.mpr ⟨⟨tw19_14, Or.inl rfl⟩, List.forall_mem_cons.mpr ⟨⟨tw19_15, Or.inl rfl⟩, List.forall_mem_cons.mpr ⟨⟨tw19_16, Or.inl rfl⟩, List.forall_mem_cons.mpr ⟨⟨tw19_17, Or.inl rfl⟩, List.forall_mem_cons.mpr ⟨⟨tw19_18, Or.inl rfl⟩, List.forall_mem_cons.mpr ⟨⟨tw19_19, Or.inl rfl⟩, List.forall_mem_cons.mpr ⟨⟨tw19_20, Or.inl rfl⟩, List.forall_mem_cons.mpr ⟨⟨tw19_21, Or.inl rfl⟩, List.forall_mem_cons.mpr ⟨⟨tw19_22, Or.inl rfl⟩, List.forall_mem_cons.mpr ⟨⟨tw19_23, Or.inl rfl⟩, fun _ h => absurd h List.not_mem_nil⟩⟩⟩⟩⟩⟩⟩⟩⟩⟩⟩⟩⟩⟩⟩⟩⟩⟩⟩⟩⟩⟩⟩⟩
theorem tw20_0 : Cond.selects RX4 yX4_layGuest yX4_layGuest ∈ lw_tbl := List.mem_append_left _ (List.mem_of_getElem? (i := 8) rfl)
theorem mw20_0 : Cond.selects RX4 yX4_layGuest yX4_layGuest ∈ wsL_law := inr20 (List.mem_of_getElem? (i := 0) rfl)
theorem tw20_1 : Cond.code yX4_layGuest cX4_layGuest 8 none ∈ lw_tbl := tb2 (List.mem_of_getElem? (i := 207) rfl)
theorem mw20_1 : Cond.code yX4_layGuest cX4_layGuest 8 none ∈ wsL_law := inr20 (List.mem_of_getElem? (i := 1) rfl)
theorem tw20_2 : Cond.fieldLink RX4 70 "TallowHours$Burning" "steps" "I" ∈ lw_tbl := tb1 (List.mem_of_getElem? (i := 57) rfl)
theorem mw20_2 : Cond.fieldLink RX4 70 "TallowHours$Burning" "steps" "I" ∈ wsL_law := inr20 (List.mem_of_getElem? (i := 2) rfl)
theorem tw20_3 : Cond.fieldLink RX4 75 "TallowHours$Party" "comes" "[I" ∈ lw_tbl := tb1 (List.mem_of_getElem? (i := 192) rfl)
theorem mw20_3 : Cond.fieldLink RX4 75 "TallowHours$Party" "comes" "[I" ∈ wsL_law := inr20 (List.mem_of_getElem? (i := 3) rfl)
theorem tw20_4 : Cond.fieldLink RX4 78 "TallowHours$Party" "goes" "[I" ∈ lw_tbl := tb1 (List.mem_of_getElem? (i := 197) rfl)
theorem mw20_4 : Cond.fieldLink RX4 78 "TallowHours$Party" "goes" "[I" ∈ wsL_law := inr20 (List.mem_of_getElem? (i := 4) rfl)
theorem tw20_5 : Cond.fieldLink RX4 81 "TallowHours$Party" "wish" "[I" ∈ lw_tbl := tb1 (List.mem_of_getElem? (i := 182) rfl)
theorem mw20_5 : Cond.fieldLink RX4 81 "TallowHours$Party" "wish" "[I" ∈ wsL_law := inr20 (List.mem_of_getElem? (i := 5) rfl)
theorem tw20_6 : Cond.fieldLink RX4 84 "TallowHours$Party" "wanted" "[I" ∈ lw_tbl := tb1 (List.mem_of_getElem? (i := 187) rfl)
theorem mw20_6 : Cond.fieldLink RX4 84 "TallowHours$Party" "wanted" "[I" ∈ wsL_law := inr20 (List.mem_of_getElem? (i := 6) rfl)
theorem tw20_7 : Cond.fieldLink RX4 87 "TallowHours$Burning" "had" "[I" ∈ lw_tbl := tb1 (List.mem_of_getElem? (i := 52) rfl)
theorem mw20_7 : Cond.fieldLink RX4 87 "TallowHours$Burning" "had" "[I" ∈ wsL_law := inr20 (List.mem_of_getElem? (i := 7) rfl)
theorem tw20_8 : Cond.methodLink RX4 59 yX4_layCandle ∈ lw_tbl := tb2 (List.mem_of_getElem? (i := 208) rfl)
theorem mw20_8 : Cond.methodLink RX4 59 yX4_layCandle ∈ wsL_law := inr20 (List.mem_of_getElem? (i := 8) rfl)
theorem tw20_9 : Cond.instanceMethod yX4_layCandle ∈ lw_tbl := tb2 (List.mem_of_getElem? (i := 210) rfl)
theorem mw20_9 : Cond.instanceMethod yX4_layCandle ∈ wsL_law := inr20 (List.mem_of_getElem? (i := 9) rfl)
theorem tw20_10 : Cond.selects RX4 yX4_layCandle yX4_layCandle ∈ lw_tbl := List.mem_append_left _ (List.mem_of_getElem? (i := 9) rfl)
theorem mw20_10 : Cond.selects RX4 yX4_layCandle yX4_layCandle ∈ wsL_law := inr20 (List.mem_of_getElem? (i := 10) rfl)
theorem tw20_11 : Cond.code yX4_layCandle cX4_layCandle 10 (some .long) ∈ lw_tbl := tb2 (List.mem_of_getElem? (i := 211) rfl)
theorem mw20_11 : Cond.code yX4_layCandle cX4_layCandle 10 (some .long) ∈ wsL_law := inr20 (List.mem_of_getElem? (i := 11) rfl)
theorem tw20_12 : Cond.fieldLink RX4 94 "TallowHours$Burning" "flame" "[I" ∈ lw_tbl := tb1 (List.mem_of_getElem? (i := 49) rfl)
theorem mw20_12 : Cond.fieldLink RX4 94 "TallowHours$Burning" "flame" "[I" ∈ wsL_law := inr20 (List.mem_of_getElem? (i := 12) rfl)
theorem tw20_13 : Cond.fieldLink RX4 107 "TallowHours$Party" "price" "[I" ∈ lw_tbl := tb1 (List.mem_of_getElem? (i := 177) rfl)
theorem mw20_13 : Cond.fieldLink RX4 107 "TallowHours$Party" "price" "[I" ∈ wsL_law := inr20 (List.mem_of_getElem? (i := 13) rfl)
theorem tw20_14 : Cond.fieldLink RX4 108 "TallowHours$Burning" "left" "[I" ∈ lw_tbl := tb1 (List.mem_of_getElem? (i := 46) rfl)
theorem mw20_14 : Cond.fieldLink RX4 108 "TallowHours$Burning" "left" "[I" ∈ wsL_law := inr20 (List.mem_of_getElem? (i := 14) rfl)
theorem tw20_15 : Cond.methodLink RX4 90 yX3_hasCandle ∈ lw_tbl := tb2 (List.mem_of_getElem? (i := 212) rfl)
theorem mw20_15 : Cond.methodLink RX4 90 yX3_hasCandle ∈ wsL_law := inr20 (List.mem_of_getElem? (i := 15) rfl)
theorem tw20_16 : Cond.methodLink RX4 97 yX2_giftBit ∈ lw_tbl := tb2 (List.mem_of_getElem? (i := 213) rfl)
theorem mw20_16 : Cond.methodLink RX4 97 yX2_giftBit ∈ wsL_law := inr20 (List.mem_of_getElem? (i := 16) rfl)
theorem tw20_17 : Cond.methodLink RX4 101 yJ6_numberOfTrailingZeros_0f7a4 ∈ lw_tbl := tb2 (List.mem_of_getElem? (i := 214) rfl)
theorem mw20_17 : Cond.methodLink RX4 101 yJ6_numberOfTrailingZeros_0f7a4 ∈ wsL_law := inr20 (List.mem_of_getElem? (i := 17) rfl)
theorem tw20_18 : Cond.static yJ6_numberOfTrailingZeros_0f7a4 ∈ lw_tbl := tb2 (List.mem_of_getElem? (i := 215) rfl)
theorem mw20_18 : Cond.static yJ6_numberOfTrailingZeros_0f7a4 ∈ wsL_law := inr20 (List.mem_of_getElem? (i := 18) rfl)
theorem tw20_19 : Cond.code yJ6_numberOfTrailingZeros_0f7a4 cJ6_numberOfTrailingZeros_0f7a4 2 (some .int) ∈ lw_tbl := tb2 (List.mem_of_getElem? (i := 216) rfl)
theorem mw20_19 : Cond.code yJ6_numberOfTrailingZeros_0f7a4 cJ6_numberOfTrailingZeros_0f7a4 2 (some .int) ∈ wsL_law := inr20 (List.mem_of_getElem? (i := 19) rfl)
theorem tw20_20 : Cond.constant RJ6 264 (65536) ∈ lw_tbl := tb2 (List.mem_of_getElem? (i := 217) rfl)
theorem mw20_20 : Cond.constant RJ6 264 (65536) ∈ wsL_law := inr20 (List.mem_of_getElem? (i := 20) rfl)
theorem tw20_21 : Cond.methodLink RX4 63 yX4_tryCandle ∈ lw_tbl := tb2 (List.mem_of_getElem? (i := 218) rfl)
theorem mw20_21 : Cond.methodLink RX4 63 yX4_tryCandle ∈ wsL_law := inr20 (List.mem_of_getElem? (i := 21) rfl)
theorem tw20_22 : Cond.instanceMethod yX4_tryCandle ∈ lw_tbl := tb2 (List.mem_of_getElem? (i := 220) rfl)
theorem mw20_22 : Cond.instanceMethod yX4_tryCandle ∈ wsL_law := inr20 (List.mem_of_getElem? (i := 22) rfl)
theorem tw20_23 : Cond.selects RX4 yX4_tryCandle yX4_tryCandle ∈ lw_tbl := List.mem_append_left _ (List.mem_of_getElem? (i := 10) rfl)
theorem mw20_23 : Cond.selects RX4 yX4_tryCandle yX4_tryCandle ∈ wsL_law := inr20 (List.mem_of_getElem? (i := 23) rfl)
theorem gdr20 : GoodIn lw_tbl wsL_law_r20 := List.forall_mem_cons.mpr ⟨⟨tw20_0, Or.inl rfl⟩, List.forall_mem_cons.mpr ⟨⟨tw20_1, Or.inl rfl⟩, List.forall_mem_cons.mpr ⟨⟨tw20_2, Or.inl rfl⟩, List.forall_mem_cons.mpr ⟨⟨tw20_3, Or.inl rfl⟩, List.forall_mem_cons.mpr ⟨⟨tw20_4, Or.inl rfl⟩, List.forall_mem_cons.mpr ⟨⟨tw20_5, Or.inl rfl⟩, List.forall_mem_cons.mpr ⟨⟨tw20_6, Or.inl rfl⟩, List.forall_mem_cons.mpr ⟨⟨tw20_7, Or.inl rfl⟩, List.forall_mem_cons.mpr ⟨⟨tw20_8, Or.inl rfl⟩, List.forall_mem_cons.mpr ⟨⟨tw20_9, Or.inl rfl⟩, List.forall_mem_cons.mpr ⟨⟨tw20_10, Or.inl rfl⟩, List.forall_mem_cons.mpr ⟨⟨tw20_11, Or.inl rfl⟩, List.forall_mem_cons.mpr ⟨⟨tw20_12, Or.inl rfl⟩, List.forall_mem_cons.mpr ⟨⟨tw20_13, Or.inl rfl⟩, List.forall_mem_cons.mpr ⟨⟨tw20_14, Or.inl rfl⟩, List.forall_mem_cons.mpr ⟨⟨tw20_15, Or.inl rfl⟩, List.forall_mem_cons.mpr ⟨⟨tw20_16, Or.inl rfl⟩, List.forall_mem_cons.mpr ⟨⟨tw20_17, Or.inl rfl⟩, List.forall_mem_cons.mpr ⟨⟨tw20_18, Or.inl rfl⟩, List.forall_mem_cons.mpr ⟨⟨tw20_19, Or.inl rfl⟩, List.forall_mem_cons.mpr ⟨⟨tw20_20, Or.inl rfl⟩, List.forall_mem_cons.mpr ⟨⟨tw20_21, Or.inl rfl⟩, List.forall_mem_cons.mpr ⟨⟨tw20_22, Or.inl rfl⟩, List.forall_mem_cons.mpr ⟨⟨tw20_23, Or.inl rfl⟩, fun _ h => absurd h List.not_mem_nil⟩⟩⟩⟩⟩⟩⟩⟩⟩⟩⟩⟩⟩⟩⟩⟩⟩⟩⟩⟩⟩⟩⟩⟩
theorem tw21_0 : Cond.code yX4_tryCandle cX4_tryCandle 7 none ∈ lw_tbl := tb2 (List.mem_of_getElem? (i := 221) rfl)
theorem mw21_0 : Cond.code yX4_tryCandle cX4_tryCandle 7 none ∈ wsL_law := inr21 (List.mem_of_getElem? (i := 0) rfl)
theorem tw21_1 : Cond.methodLink RX4 111 yX4_weigh ∈ lw_tbl := tb2 (List.mem_of_getElem? (i := 222) rfl)
theorem mw21_1 : Cond.methodLink RX4 111 yX4_weigh ∈ wsL_law := inr21 (List.mem_of_getElem? (i := 1) rfl)
theorem tw21_2 : Cond.instanceMethod yX4_weigh ∈ lw_tbl := tb2 (List.mem_of_getElem? (i := 224) rfl)
theorem mw21_2 : Cond.instanceMethod yX4_weigh ∈ wsL_law := inr21 (List.mem_of_getElem? (i := 2) rfl)
theorem tw21_3 : Cond.selects RX4 yX4_weigh yX4_weigh ∈ lw_tbl := List.mem_append_left _ (List.mem_of_getElem? (i := 11) rfl)
theorem mw21_3 : Cond.selects RX4 yX4_weigh yX4_weigh ∈ wsL_law := inr21 (List.mem_of_getElem? (i := 3) rfl)
theorem tw21_4 : Cond.code yX4_weigh cX4_weigh 6 none ∈ lw_tbl := tb2 (List.mem_of_getElem? (i := 225) rfl)
theorem mw21_4 : Cond.code yX4_weigh cX4_weigh 6 none ∈ wsL_law := inr21 (List.mem_of_getElem? (i := 4) rfl)
theorem tw21_5 : Cond.methodLink RX4 121 arraycopyName ∈ lw_tbl := tb2 (List.mem_of_getElem? (i := 232) rfl)
theorem mw21_5 : Cond.methodLink RX4 121 arraycopyName ∈ wsL_law := inr21 (List.mem_of_getElem? (i := 5) rfl)
theorem tw21_6 : Cond.native arraycopyName ∈ lw_tbl := tb2 (List.mem_of_getElem? (i := 234) rfl)
theorem mw21_6 : Cond.native arraycopyName ∈ wsL_law := inr21 (List.mem_of_getElem? (i := 6) rfl)
theorem tw21_7 : Cond.static arraycopyName ∈ lw_tbl := tb2 (List.mem_of_getElem? (i := 233) rfl)
theorem mw21_7 : Cond.static arraycopyName ∈ wsL_law := inr21 (List.mem_of_getElem? (i := 7) rfl)
theorem tw21_8 : Cond.initialized "java/lang/System" ∈ lw_tbl := tb1 (List.mem_of_getElem? (i := 13) rfl)
theorem mw21_8 : Cond.initialized "java/lang/System" ∈ wsL_law := inr21 (List.mem_of_getElem? (i := 8) rfl)
theorem tw21_9 : Cond.methodLink RX4 115 yJ13_bitCount_95d88 ∈ lw_tbl := tb2 (List.mem_of_getElem? (i := 226) rfl)
theorem mw21_9 : Cond.methodLink RX4 115 yJ13_bitCount_95d88 ∈ wsL_law := inr21 (List.mem_of_getElem? (i := 9) rfl)
theorem tw21_10 : Cond.static yJ13_bitCount_95d88 ∈ lw_tbl := tb2 (List.mem_of_getElem? (i := 227) rfl)
theorem mw21_10 : Cond.static yJ13_bitCount_95d88 ∈ wsL_law := inr21 (List.mem_of_getElem? (i := 10) rfl)
theorem tw21_11 : Cond.initialized RJ13 ∈ lw_tbl := tb1 (List.mem_of_getElem? (i := 12) rfl)
theorem mw21_11 : Cond.initialized RJ13 ∈ wsL_law := inr21 (List.mem_of_getElem? (i := 11) rfl)
theorem tw21_12 : Cond.code yJ13_bitCount_95d88 cJ13_bitCount_95d88 2 (some .int) ∈ lw_tbl := tb2 (List.mem_of_getElem? (i := 228) rfl)
theorem mw21_12 : Cond.code yJ13_bitCount_95d88 cJ13_bitCount_95d88 2 (some .int) ∈ wsL_law := inr21 (List.mem_of_getElem? (i := 12) rfl)
theorem tw21_13 : Cond.constantLong RJ13 314 (6148914691236517205) ∈ lw_tbl := tb2 (List.mem_of_getElem? (i := 229) rfl)
theorem mw21_13 : Cond.constantLong RJ13 314 (6148914691236517205) ∈ wsL_law := inr21 (List.mem_of_getElem? (i := 13) rfl)
theorem tw21_14 : Cond.constantLong RJ13 316 (3689348814741910323) ∈ lw_tbl := tb2 (List.mem_of_getElem? (i := 230) rfl)
theorem mw21_14 : Cond.constantLong RJ13 316 (3689348814741910323) ∈ wsL_law := inr21 (List.mem_of_getElem? (i := 14) rfl)
theorem tw21_15 : Cond.constantLong RJ13 318 (1085102592571150095) ∈ lw_tbl := tb2 (List.mem_of_getElem? (i := 231) rfl)
theorem mw21_15 : Cond.constantLong RJ13 318 (1085102592571150095) ∈ wsL_law := inr21 (List.mem_of_getElem? (i := 15) rfl)
theorem tw21_16 : Cond.methodLink RX4 67 yX4_spreadToFewerGuests ∈ lw_tbl := tb2 (List.mem_of_getElem? (i := 235) rfl)
theorem mw21_16 : Cond.methodLink RX4 67 yX4_spreadToFewerGuests ∈ wsL_law := inr21 (List.mem_of_getElem? (i := 16) rfl)
theorem tw21_17 : Cond.instanceMethod yX4_spreadToFewerGuests ∈ lw_tbl := tb2 (List.mem_of_getElem? (i := 237) rfl)
theorem mw21_17 : Cond.instanceMethod yX4_spreadToFewerGuests ∈ wsL_law := inr21 (List.mem_of_getElem? (i := 17) rfl)
theorem tw21_18 : Cond.selects RX4 yX4_spreadToFewerGuests yX4_spreadToFewerGuests ∈ lw_tbl := List.mem_append_left _ (List.mem_of_getElem? (i := 12) rfl)
theorem mw21_18 : Cond.selects RX4 yX4_spreadToFewerGuests yX4_spreadToFewerGuests ∈ wsL_law := inr21 (List.mem_of_getElem? (i := 18) rfl)
theorem tw21_19 : Cond.code yX4_spreadToFewerGuests cX4_spreadToFewerGuests 3 none ∈ lw_tbl := tb2 (List.mem_of_getElem? (i := 238) rfl)
theorem mw21_19 : Cond.code yX4_spreadToFewerGuests cX4_spreadToFewerGuests 3 none ∈ wsL_law := inr21 (List.mem_of_getElem? (i := 19) rfl)
theorem tw21_20 : Cond.methodLink RX4 127 Lib.Math.min.name ∈ lw_tbl := tb2 (List.mem_of_getElem? (i := 239) rfl)
theorem mw21_20 : Cond.methodLink RX4 127 Lib.Math.min.name ∈ wsL_law := inr21 (List.mem_of_getElem? (i := 20) rfl)
theorem tw21_21 : Cond.methodLink RX7 181 yX4_costForAll ∈ lw_tbl := tb3 (List.mem_of_getElem? (i := 0) rfl)
theorem mw21_21 : Cond.methodLink RX7 181 yX4_costForAll ∈ wsL_law := inr21 (List.mem_of_getElem? (i := 21) rfl)
theorem tw21_22 : Cond.instanceMethod yX4_costForAll ∈ lw_tbl := tb3 (List.mem_of_getElem? (i := 1) rfl)
theorem mw21_22 : Cond.instanceMethod yX4_costForAll ∈ wsL_law := inr21 (List.mem_of_getElem? (i := 22) rfl)
theorem tw21_23 : Cond.selects RX4 yX4_costForAll yX4_costForAll ∈ lw_tbl := tb3 (List.mem_of_getElem? (i := 2) rfl)
theorem mw21_23 : Cond.selects RX4 yX4_costForAll yX4_costForAll ∈ wsL_law := inr21 (List.mem_of_getElem? (i := 23) rfl)
theorem gdr21 : GoodIn lw_tbl wsL_law_r21 := List.forall_mem_cons.mpr ⟨⟨tw21_0, Or.inl rfl⟩, List.forall_mem_cons.mpr ⟨⟨tw21_1, Or.inl rfl⟩, List.forall_mem_cons.mpr ⟨⟨tw21_2, Or.inl rfl⟩, List.forall_mem_cons.mpr ⟨⟨tw21_3, Or.inl rfl⟩, List.forall_mem_cons.mpr ⟨⟨tw21_4, Or.inl rfl⟩, List.forall_mem_cons.mpr ⟨⟨tw21_5, Or.inl rfl⟩, List.forall_mem_cons.mpr ⟨⟨tw21_6, Or.inl rfl⟩, List.forall_mem_cons.mpr ⟨⟨tw21_7, Or.inl rfl⟩, List.forall_mem_cons.mpr ⟨⟨tw21_8, Or.inl rfl⟩, List.forall_mem_cons.mpr ⟨⟨tw21_9, Or.inl rfl⟩, List.forall_mem_cons.mpr ⟨⟨tw21_10, Or.inl rfl⟩, List.forall_mem_cons.mpr ⟨⟨tw21_11, Or.inl rfl⟩, List.forall_mem_cons.mpr ⟨⟨tw21_12, Or.inl rfl⟩, List.forall_mem_cons.mpr ⟨⟨tw21_13, Or.inl rfl⟩, List.forall_mem_cons.mpr ⟨⟨tw21_14, Or.inl rfl⟩, List.forall_mem_cons.mpr ⟨⟨tw21_15, Or.inl rfl⟩, List.forall_mem_cons.mpr ⟨⟨tw21_16, Or.inl rfl⟩, List.forall_mem_cons.mpr ⟨⟨tw21_17, Or.inl rfl⟩, List.forall_mem_cons.mpr ⟨⟨tw21_18, Or.inl rfl⟩, List.forall_mem_cons.mpr ⟨⟨tw21_19, Or.inl rfl⟩, List.forall_mem_cons.mpr ⟨⟨tw21_20, Or.inl rfl⟩, List.forall_mem_cons.mpr ⟨⟨tw21_21, Or.inl rfl⟩, List.forall_mem_cons.mpr ⟨⟨tw21_22, Or.inl rfl⟩, List.forall_mem_cons.mpr ⟨⟨tw21_23, Or.inl rfl⟩, fun _ h => absurd h List.not_mem_nil⟩⟩⟩⟩⟩⟩⟩⟩⟩⟩⟩⟩⟩⟩⟩⟩⟩⟩⟩⟩⟩⟩⟩⟩
theorem tw22_0 : Cond.code yX4_costForAll cX4_costForAll 1 (some .int) ∈ lw_tbl := tb3 (List.mem_of_getElem? (i := 3) rfl)
theorem mw22_0 : Cond.code yX4_costForAll cX4_costForAll 1 (some .int) ∈ wsL_law := inr22 (List.mem_of_getElem? (i := 0) rfl)
theorem tw22_1 : Cond.methodLink RL 67 yX8_plan ∈ lw_tbl := tb4 (List.mem_of_getElem? (i := 135) rfl)
theorem mw22_1 : Cond.methodLink RL 67 yX8_plan ∈ wsL_law := inr22 (List.mem_of_getElem? (i := 1) rfl)
theorem tw22_2 : Cond.instanceMethod yX8_plan ∈ lw_tbl := tb4 (List.mem_of_getElem? (i := 136) rfl)
theorem mw22_2 : Cond.instanceMethod yX8_plan ∈ wsL_law := inr22 (List.mem_of_getElem? (i := 2) rfl)
theorem tw22_3 : Cond.selects RX8 yX8_plan yX8_plan ∈ lw_tbl := tb4 (List.mem_of_getElem? (i := 137) rfl)
theorem mw22_3 : Cond.selects RX8 yX8_plan yX8_plan ∈ wsL_law := inr22 (List.mem_of_getElem? (i := 3) rfl)
theorem tw22_4 : Cond.code yX8_plan cX8_plan 1 (some .int) ∈ lw_tbl := tb4 (List.mem_of_getElem? (i := 138) rfl)
theorem mw22_4 : Cond.code yX8_plan cX8_plan 1 (some .int) ∈ wsL_law := inr22 (List.mem_of_getElem? (i := 4) rfl)
theorem tw22_5 : Cond.methodLink RX8 179 yX8_layPlans ∈ lw_tbl := tb4 (List.mem_of_getElem? (i := 139) rfl)
theorem mw22_5 : Cond.methodLink RX8 179 yX8_layPlans ∈ wsL_law := inr22 (List.mem_of_getElem? (i := 5) rfl)
theorem tw22_6 : Cond.instanceMethod yX8_layPlans ∈ lw_tbl := tb4 (List.mem_of_getElem? (i := 141) rfl)
theorem mw22_6 : Cond.instanceMethod yX8_layPlans ∈ wsL_law := inr22 (List.mem_of_getElem? (i := 6) rfl)
theorem tw22_7 : Cond.selects RX8 yX8_layPlans yX8_layPlans ∈ lw_tbl := List.mem_append_left _ (List.mem_of_getElem? (i := 29) rfl)
theorem mw22_7 : Cond.selects RX8 yX8_layPlans yX8_layPlans ∈ wsL_law := inr22 (List.mem_of_getElem? (i := 7) rfl)
theorem tw22_8 : Cond.code yX8_layPlans cX8_layPlans 6 none ∈ lw_tbl := tb4 (List.mem_of_getElem? (i := 142) rfl)
theorem mw22_8 : Cond.code yX8_layPlans cX8_layPlans 6 none ∈ wsL_law := inr22 (List.mem_of_getElem? (i := 8) rfl)
theorem tw22_9 : Cond.methodLink RX8 170 yX8_isPlan ∈ lw_tbl := tb4 (List.mem_of_getElem? (i := 143) rfl)
theorem mw22_9 : Cond.methodLink RX8 170 yX8_isPlan ∈ wsL_law := inr22 (List.mem_of_getElem? (i := 9) rfl)
theorem tw22_10 : Cond.instanceMethod yX8_isPlan ∈ lw_tbl := tb4 (List.mem_of_getElem? (i := 145) rfl)
theorem mw22_10 : Cond.instanceMethod yX8_isPlan ∈ wsL_law := inr22 (List.mem_of_getElem? (i := 10) rfl)
theorem tw22_11 : Cond.selects RX8 yX8_isPlan yX8_isPlan ∈ lw_tbl := List.mem_append_left _ (List.mem_of_getElem? (i := 30) rfl)
theorem mw22_11 : Cond.selects RX8 yX8_isPlan yX8_isPlan ∈ wsL_law := inr22 (List.mem_of_getElem? (i := 11) rfl)
theorem tw22_12 : Cond.code yX8_isPlan cX8_isPlan 4 (some .boolean) ∈ lw_tbl := tb4 (List.mem_of_getElem? (i := 146) rfl)
theorem mw22_12 : Cond.code yX8_isPlan cX8_isPlan 4 (some .boolean) ∈ wsL_law := inr22 (List.mem_of_getElem? (i := 12) rfl)
theorem tw22_13 : Cond.methodLink RX8 163 yX8_figureOf ∈ lw_tbl := tb4 (List.mem_of_getElem? (i := 147) rfl)
theorem mw22_13 : Cond.methodLink RX8 163 yX8_figureOf ∈ wsL_law := inr22 (List.mem_of_getElem? (i := 13) rfl)
theorem tw22_14 : Cond.static yX8_figureOf ∈ lw_tbl := tb4 (List.mem_of_getElem? (i := 148) rfl)
theorem mw22_14 : Cond.static yX8_figureOf ∈ wsL_law := inr22 (List.mem_of_getElem? (i := 14) rfl)
theorem tw22_15 : Cond.code yX8_figureOf cX8_figureOf 2 (some .int) ∈ lw_tbl := tb4 (List.mem_of_getElem? (i := 149) rfl)
theorem mw22_15 : Cond.code yX8_figureOf cX8_figureOf 2 (some .int) ∈ wsL_law := inr22 (List.mem_of_getElem? (i := 15) rfl)
theorem tw22_16 : Cond.methodLink RX8 159 yX8_power ∈ lw_tbl := tb4 (List.mem_of_getElem? (i := 150) rfl)
theorem mw22_16 : Cond.methodLink RX8 159 yX8_power ∈ wsL_law := inr22 (List.mem_of_getElem? (i := 16) rfl)
theorem tw22_17 : Cond.static yX8_power ∈ lw_tbl := tb4 (List.mem_of_getElem? (i := 151) rfl)
theorem mw22_17 : Cond.static yX8_power ∈ wsL_law := inr22 (List.mem_of_getElem? (i := 17) rfl)
theorem tw22_18 : Cond.code yX8_power cX8_power 4 (some .int) ∈ lw_tbl := tb4 (List.mem_of_getElem? (i := 152) rfl)
theorem mw22_18 : Cond.code yX8_power cX8_power 4 (some .int) ∈ wsL_law := inr22 (List.mem_of_getElem? (i := 18) rfl)
theorem tw22_19 : Cond.methodLink RX8 173 yX8_contentBy ∈ lw_tbl := tb4 (List.mem_of_getElem? (i := 153) rfl)
theorem mw22_19 : Cond.methodLink RX8 173 yX8_contentBy ∈ wsL_law := inr22 (List.mem_of_getElem? (i := 19) rfl)
theorem tw22_20 : Cond.instanceMethod yX8_contentBy ∈ lw_tbl := tb4 (List.mem_of_getElem? (i := 155) rfl)
theorem mw22_20 : Cond.instanceMethod yX8_contentBy ∈ wsL_law := inr22 (List.mem_of_getElem? (i := 20) rfl)
theorem tw22_21 : Cond.selects RX8 yX8_contentBy yX8_contentBy ∈ lw_tbl := List.mem_append_left _ (List.mem_of_getElem? (i := 31) rfl)
theorem mw22_21 : Cond.selects RX8 yX8_contentBy yX8_contentBy ∈ wsL_law := inr22 (List.mem_of_getElem? (i := 21) rfl)
theorem tw22_22 : Cond.code yX8_contentBy cX8_contentBy 6 (some .int) ∈ lw_tbl := tb4 (List.mem_of_getElem? (i := 156) rfl)
theorem mw22_22 : Cond.code yX8_contentBy cX8_contentBy 6 (some .int) ∈ wsL_law := inr22 (List.mem_of_getElem? (i := 22) rfl)
theorem tw22_23 : Cond.methodLink RX8 166 yX8_lay ∈ lw_tbl := tb4 (List.mem_of_getElem? (i := 157) rfl)
theorem mw22_23 : Cond.methodLink RX8 166 yX8_lay ∈ wsL_law := inr22 (List.mem_of_getElem? (i := 23) rfl)
theorem gdr22 : GoodIn lw_tbl wsL_law_r22 := List.forall_mem_cons.mpr ⟨⟨tw22_0, Or.inl rfl⟩, List.forall_mem_cons.mpr ⟨⟨tw22_1, Or.inl rfl⟩, List.forall_mem_cons.mpr ⟨⟨tw22_2, Or.inl rfl⟩, List.forall_mem_cons.mpr ⟨⟨tw22_3, Or.inl rfl⟩, List.forall_mem_cons.mpr ⟨⟨tw22_4, Or.inl rfl⟩, List.forall_mem_cons.mpr ⟨⟨tw22_5, Or.inl rfl⟩, List.forall_mem_cons.mpr ⟨⟨tw22_6, Or.inl rfl⟩, List.forall_mem_cons.mpr ⟨⟨tw22_7, Or.inl rfl⟩, List.forall_mem_cons.mpr ⟨⟨tw22_8, Or.inl rfl⟩, List.forall_mem_cons.mpr ⟨⟨tw22_9, Or.inl rfl⟩, List.forall_mem_cons.mpr ⟨⟨tw22_10, Or.inl rfl⟩, List.forall_mem_cons.mpr ⟨⟨tw22_11, Or.inl rfl⟩, List.forall_mem_cons.mpr ⟨⟨tw22_12, Or.inl rfl⟩, List.forall_mem_cons.mpr ⟨⟨tw22_13, Or.inl rfl⟩, List.forall_mem_cons.mpr ⟨⟨tw22_14, Or.inl rfl⟩, List.forall_mem_cons.mpr ⟨⟨tw22_15, Or.inl rfl⟩, List.forall_mem_cons.mpr ⟨⟨tw22_16, Or.inl rfl⟩, List.forall_mem_cons.mpr ⟨⟨tw22_17, Or.inl rfl⟩, List.forall_mem_cons.mpr ⟨⟨tw22_18, Or.inl rfl⟩, List.forall_mem_cons.mpr ⟨⟨tw22_19, Or.inl rfl⟩, List.forall_mem_cons.mpr ⟨⟨tw22_20, Or.inl rfl⟩, List.forall_mem_cons.mpr ⟨⟨tw22_21, Or.inl rfl⟩, List.forall_mem_cons.mpr ⟨⟨tw22_22, Or.inl rfl⟩, List.forall_mem_cons.mpr ⟨⟨tw22_23, Or.inl rfl⟩, fun _ h => absurd h List.not_mem_nil⟩⟩⟩⟩⟩⟩⟩⟩⟩⟩⟩⟩⟩⟩⟩⟩⟩⟩⟩⟩⟩⟩⟩⟩
theorem tw23_0 : Cond.instanceMethod yX8_lay ∈ lw_tbl := tb4 (List.mem_of_getElem? (i := 159) rfl)
theorem mw23_0 : Cond.instanceMethod yX8_lay ∈ wsL_law := inr23 (List.mem_of_getElem? (i := 0) rfl)
theorem tw23_1 : Cond.selects RX8 yX8_lay yX8_lay ∈ lw_tbl := List.mem_append_left _ (List.mem_of_getElem? (i := 32) rfl)
theorem mw23_1 : Cond.selects RX8 yX8_lay yX8_lay ∈ wsL_law := inr23 (List.mem_of_getElem? (i := 1) rfl)
theorem tw23_2 : Cond.code yX8_lay cX8_lay 4 none ∈ lw_tbl := tb4 (List.mem_of_getElem? (i := 160) rfl)
theorem mw23_2 : Cond.code yX8_lay cX8_lay 4 none ∈ wsL_law := inr23 (List.mem_of_getElem? (i := 2) rfl)
theorem tw23_3 : Cond.methodLink RX8 176 yX8_costOf ∈ lw_tbl := tb4 (List.mem_of_getElem? (i := 161) rfl)
theorem mw23_3 : Cond.methodLink RX8 176 yX8_costOf ∈ wsL_law := inr23 (List.mem_of_getElem? (i := 3) rfl)
theorem tw23_4 : Cond.instanceMethod yX8_costOf ∈ lw_tbl := tb4 (List.mem_of_getElem? (i := 163) rfl)
theorem mw23_4 : Cond.instanceMethod yX8_costOf ∈ wsL_law := inr23 (List.mem_of_getElem? (i := 4) rfl)
theorem tw23_5 : Cond.selects RX8 yX8_costOf yX8_costOf ∈ lw_tbl := List.mem_append_left _ (List.mem_of_getElem? (i := 33) rfl)
theorem mw23_5 : Cond.selects RX8 yX8_costOf yX8_costOf ∈ wsL_law := inr23 (List.mem_of_getElem? (i := 5) rfl)
theorem tw23_6 : Cond.code yX8_costOf cX8_costOf 4 (some .int) ∈ lw_tbl := tb4 (List.mem_of_getElem? (i := 164) rfl)
theorem mw23_6 : Cond.code yX8_costOf cX8_costOf 4 (some .int) ∈ wsL_law := inr23 (List.mem_of_getElem? (i := 6) rfl)
theorem tw23_7 : Cond.methodLink RX8 182 yX8_all ∈ lw_tbl := tb4 (List.mem_of_getElem? (i := 165) rfl)
theorem mw23_7 : Cond.methodLink RX8 182 yX8_all ∈ wsL_law := inr23 (List.mem_of_getElem? (i := 7) rfl)
theorem tw23_8 : Cond.instanceMethod yX8_all ∈ lw_tbl := tb4 (List.mem_of_getElem? (i := 167) rfl)
theorem mw23_8 : Cond.instanceMethod yX8_all ∈ wsL_law := inr23 (List.mem_of_getElem? (i := 8) rfl)
theorem tw23_9 : Cond.selects RX8 yX8_all yX8_all ∈ lw_tbl := List.mem_append_left _ (List.mem_of_getElem? (i := 34) rfl)
theorem mw23_9 : Cond.selects RX8 yX8_all yX8_all ∈ wsL_law := inr23 (List.mem_of_getElem? (i := 9) rfl)
theorem tw23_10 : Cond.code yX8_all cX8_all 1 (some .int) ∈ lw_tbl := tb4 (List.mem_of_getElem? (i := 168) rfl)
theorem mw23_10 : Cond.code yX8_all cX8_all 1 (some .int) ∈ wsL_law := inr23 (List.mem_of_getElem? (i := 10) rfl)
theorem tw23_11 : Cond.methodLink RL 68 yX7_planOf ∈ lw_tbl := tb3 (List.mem_of_getElem? (i := 4) rfl)
theorem mw23_11 : Cond.methodLink RL 68 yX7_planOf ∈ wsL_law := inr23 (List.mem_of_getElem? (i := 11) rfl)
theorem tw23_12 : Cond.instanceMethod yX7_planOf ∈ lw_tbl := tb3 (List.mem_of_getElem? (i := 5) rfl)
theorem mw23_12 : Cond.instanceMethod yX7_planOf ∈ wsL_law := inr23 (List.mem_of_getElem? (i := 12) rfl)
theorem tw23_13 : Cond.selects RX7 yX7_planOf yX7_planOf ∈ lw_tbl := tb3 (List.mem_of_getElem? (i := 6) rfl)
theorem mw23_13 : Cond.selects RX7 yX7_planOf yX7_planOf ∈ wsL_law := inr23 (List.mem_of_getElem? (i := 13) rfl)
theorem tw23_14 : Cond.code yX7_planOf cX7_planOf 2 (some .int) ∈ lw_tbl := tb3 (List.mem_of_getElem? (i := 7) rfl)
theorem mw23_14 : Cond.code yX7_planOf cX7_planOf 2 (some .int) ∈ wsL_law := inr23 (List.mem_of_getElem? (i := 14) rfl)
theorem tw23_15 : Cond.fieldLink RX7 184 "TallowHours$Planner" "chosen" "[I" ∈ lw_tbl := tb1 (List.mem_of_getElem? (i := 102) rfl)
theorem mw23_15 : Cond.fieldLink RX7 184 "TallowHours$Planner" "chosen" "[I" ∈ wsL_law := inr23 (List.mem_of_getElem? (i := 15) rfl)
theorem tw23_16 : Cond.methodLink RL 71 yX8_planOf ∈ lw_tbl := tb4 (List.mem_of_getElem? (i := 169) rfl)
theorem mw23_16 : Cond.methodLink RL 71 yX8_planOf ∈ wsL_law := inr23 (List.mem_of_getElem? (i := 16) rfl)
theorem tw23_17 : Cond.instanceMethod yX8_planOf ∈ lw_tbl := tb4 (List.mem_of_getElem? (i := 170) rfl)
theorem mw23_17 : Cond.instanceMethod yX8_planOf ∈ wsL_law := inr23 (List.mem_of_getElem? (i := 17) rfl)
theorem tw23_18 : Cond.selects RX8 yX8_planOf yX8_planOf ∈ lw_tbl := tb4 (List.mem_of_getElem? (i := 171) rfl)
theorem mw23_18 : Cond.selects RX8 yX8_planOf yX8_planOf ∈ wsL_law := inr23 (List.mem_of_getElem? (i := 18) rfl)
theorem tw23_19 : Cond.code yX8_planOf cX8_planOf 2 (some .int) ∈ lw_tbl := tb4 (List.mem_of_getElem? (i := 172) rfl)
theorem mw23_19 : Cond.code yX8_planOf cX8_planOf 2 (some .int) ∈ wsL_law := inr23 (List.mem_of_getElem? (i := 19) rfl)
theorem tw23_20 : Cond.methodLink RL 72 yX7_bars ∈ lw_tbl := tb3 (List.mem_of_getElem? (i := 8) rfl)
theorem mw23_20 : Cond.methodLink RL 72 yX7_bars ∈ wsL_law := inr23 (List.mem_of_getElem? (i := 20) rfl)
theorem tw23_21 : Cond.instanceMethod yX7_bars ∈ lw_tbl := tb3 (List.mem_of_getElem? (i := 9) rfl)
theorem mw23_21 : Cond.instanceMethod yX7_bars ∈ wsL_law := inr23 (List.mem_of_getElem? (i := 21) rfl)
theorem tw23_22 : Cond.selects RX7 yX7_bars yX7_bars ∈ lw_tbl := tb3 (List.mem_of_getElem? (i := 10) rfl)
theorem mw23_22 : Cond.selects RX7 yX7_bars yX7_bars ∈ wsL_law := inr23 (List.mem_of_getElem? (i := 22) rfl)
theorem tw23_23 : Cond.code yX7_bars cX7_bars 2 (some .int) ∈ lw_tbl := tb3 (List.mem_of_getElem? (i := 11) rfl)
theorem mw23_23 : Cond.code yX7_bars cX7_bars 2 (some .int) ∈ wsL_law := inr23 (List.mem_of_getElem? (i := 23) rfl)
theorem gdr23 : GoodIn lw_tbl wsL_law_r23 := List.forall_mem_cons.mpr ⟨⟨tw23_0, Or.inl rfl⟩, List.forall_mem_cons.mpr ⟨⟨tw23_1, Or.inl rfl⟩, List.forall_mem_cons.mpr ⟨⟨tw23_2, Or.inl rfl⟩, List.forall_mem_cons.mpr ⟨⟨tw23_3, Or.inl rfl⟩, List.forall_mem_cons.mpr ⟨⟨tw23_4, Or.inl rfl⟩, List.forall_mem_cons.mpr ⟨⟨tw23_5, Or.inl rfl⟩, List.forall_mem_cons.mpr ⟨⟨tw23_6, Or.inl rfl⟩, List.forall_mem_cons.mpr ⟨⟨tw23_7, Or.inl rfl⟩, List.forall_mem_cons.mpr ⟨⟨tw23_8, Or.inl rfl⟩, List.forall_mem_cons.mpr ⟨⟨tw23_9, Or.inl rfl⟩, List.forall_mem_cons.mpr ⟨⟨tw23_10, Or.inl rfl⟩, List.forall_mem_cons.mpr ⟨⟨tw23_11, Or.inl rfl⟩, List.forall_mem_cons.mpr ⟨⟨tw23_12, Or.inl rfl⟩, List.forall_mem_cons.mpr ⟨⟨tw23_13, Or.inl rfl⟩, List.forall_mem_cons.mpr ⟨⟨tw23_14, Or.inl rfl⟩, List.forall_mem_cons.mpr ⟨⟨tw23_15, Or.inl rfl⟩, List.forall_mem_cons.mpr ⟨⟨tw23_16, Or.inl rfl⟩, List.forall_mem_cons.mpr ⟨⟨tw23_17, Or.inl rfl⟩, List.forall_mem_cons.mpr ⟨⟨tw23_18, Or.inl rfl⟩, List.forall_mem_cons.mpr ⟨⟨tw23_19, Or.inl rfl⟩, List.forall_mem_cons.mpr ⟨⟨tw23_20, Or.inl rfl⟩, List.forall_mem_cons.mpr ⟨⟨tw23_21, Or.inl rfl⟩, List.forall_mem_cons.mpr ⟨⟨tw23_22, Or.inl rfl⟩, List.forall_mem_cons.mpr ⟨⟨tw23_23, Or.inl rfl⟩, fun _ h => absurd h List.not_mem_nil⟩⟩⟩⟩⟩⟩⟩⟩⟩⟩⟩⟩⟩⟩⟩⟩⟩⟩⟩⟩⟩⟩⟩⟩
theorem tw24_0 : Cond.fieldLink RX7 187 "TallowHours$Planner" "reached" "I" ∈ lw_tbl := tb1 (List.mem_of_getElem? (i := 107) rfl)
theorem mw24_0 : Cond.fieldLink RX7 187 "TallowHours$Planner" "reached" "I" ∈ wsL_law := inr24 (List.mem_of_getElem? (i := 0) rfl)
theorem tw24_1 : Cond.methodLink RL 75 yX8_bars ∈ lw_tbl := tb4 (List.mem_of_getElem? (i := 173) rfl)
theorem mw24_1 : Cond.methodLink RL 75 yX8_bars ∈ wsL_law := inr24 (List.mem_of_getElem? (i := 1) rfl)
theorem tw24_2 : Cond.instanceMethod yX8_bars ∈ lw_tbl := tb4 (List.mem_of_getElem? (i := 174) rfl)
theorem mw24_2 : Cond.instanceMethod yX8_bars ∈ wsL_law := inr24 (List.mem_of_getElem? (i := 2) rfl)
theorem tw24_3 : Cond.selects RX8 yX8_bars yX8_bars ∈ lw_tbl := tb4 (List.mem_of_getElem? (i := 175) rfl)
theorem mw24_3 : Cond.selects RX8 yX8_bars yX8_bars ∈ wsL_law := inr24 (List.mem_of_getElem? (i := 3) rfl)
theorem tw24_4 : Cond.code yX8_bars cX8_bars 2 (some .int) ∈ lw_tbl := tb4 (List.mem_of_getElem? (i := 176) rfl)
theorem mw24_4 : Cond.code yX8_bars cX8_bars 2 (some .int) ∈ wsL_law := inr24 (List.mem_of_getElem? (i := 4) rfl)
theorem tw24_5 : Cond.methodLink RL 76 yX7_share ∈ lw_tbl := tb3 (List.mem_of_getElem? (i := 12) rfl)
theorem mw24_5 : Cond.methodLink RL 76 yX7_share ∈ wsL_law := inr24 (List.mem_of_getElem? (i := 5) rfl)
theorem tw24_6 : Cond.instanceMethod yX7_share ∈ lw_tbl := tb3 (List.mem_of_getElem? (i := 13) rfl)
theorem mw24_6 : Cond.instanceMethod yX7_share ∈ wsL_law := inr24 (List.mem_of_getElem? (i := 6) rfl)
theorem tw24_7 : Cond.selects RX7 yX7_share yX7_share ∈ lw_tbl := tb3 (List.mem_of_getElem? (i := 14) rfl)
theorem mw24_7 : Cond.selects RX7 yX7_share yX7_share ∈ wsL_law := inr24 (List.mem_of_getElem? (i := 7) rfl)
theorem tw24_8 : Cond.code yX7_share cX7_share 3 (some .int) ∈ lw_tbl := tb3 (List.mem_of_getElem? (i := 15) rfl)
theorem mw24_8 : Cond.code yX7_share cX7_share 3 (some .int) ∈ wsL_law := inr24 (List.mem_of_getElem? (i := 8) rfl)
theorem tw24_9 : Cond.fieldLink RX7 193 "TallowHours" "FACTORIALS" "[I" ∈ lw_tbl := tb3 (List.mem_of_getElem? (i := 23) rfl)
theorem mw24_9 : Cond.fieldLink RX7 193 "TallowHours" "FACTORIALS" "[I" ∈ wsL_law := inr24 (List.mem_of_getElem? (i := 9) rfl)
theorem tw24_10 : Cond.methodLink RX7 190 yX4_sharesOf ∈ lw_tbl := tb3 (List.mem_of_getElem? (i := 16) rfl)
theorem mw24_10 : Cond.methodLink RX7 190 yX4_sharesOf ∈ wsL_law := inr24 (List.mem_of_getElem? (i := 10) rfl)
theorem tw24_11 : Cond.instanceMethod yX4_sharesOf ∈ lw_tbl := tb3 (List.mem_of_getElem? (i := 17) rfl)
theorem mw24_11 : Cond.instanceMethod yX4_sharesOf ∈ wsL_law := inr24 (List.mem_of_getElem? (i := 11) rfl)
theorem tw24_12 : Cond.selects RX4 yX4_sharesOf yX4_sharesOf ∈ lw_tbl := tb3 (List.mem_of_getElem? (i := 18) rfl)
theorem mw24_12 : Cond.selects RX4 yX4_sharesOf yX4_sharesOf ∈ wsL_law := inr24 (List.mem_of_getElem? (i := 12) rfl)
theorem tw24_13 : Cond.code yX4_sharesOf cX4_sharesOf 6 (some .int) ∈ lw_tbl := tb3 (List.mem_of_getElem? (i := 19) rfl)
theorem mw24_13 : Cond.code yX4_sharesOf cX4_sharesOf 6 (some .int) ∈ wsL_law := inr24 (List.mem_of_getElem? (i := 13) rfl)
theorem tw24_14 : Cond.methodLink RX4 133 yJ6_bitCount_0f7a4 ∈ lw_tbl := tb3 (List.mem_of_getElem? (i := 20) rfl)
theorem mw24_14 : Cond.methodLink RX4 133 yJ6_bitCount_0f7a4 ∈ wsL_law := inr24 (List.mem_of_getElem? (i := 14) rfl)
theorem tw24_15 : Cond.methodLink RX7 196 yX7_fraction ∈ lw_tbl := tb3 (List.mem_of_getElem? (i := 24) rfl)
theorem mw24_15 : Cond.methodLink RX7 196 yX7_fraction ∈ wsL_law := inr24 (List.mem_of_getElem? (i := 15) rfl)
theorem tw24_16 : Cond.static yX7_fraction ∈ lw_tbl := tb3 (List.mem_of_getElem? (i := 25) rfl)
theorem mw24_16 : Cond.static yX7_fraction ∈ wsL_law := inr24 (List.mem_of_getElem? (i := 16) rfl)
theorem tw24_17 : Cond.code yX7_fraction cX7_fraction 7 (some .int) ∈ lw_tbl := tb3 (List.mem_of_getElem? (i := 26) rfl)
theorem mw24_17 : Cond.code yX7_fraction cX7_fraction 7 (some .int) ∈ wsL_law := inr24 (List.mem_of_getElem? (i := 17) rfl)
theorem tw24_18 : Cond.methodLink RL 80 yX8_share ∈ lw_tbl := tb4 (List.mem_of_getElem? (i := 177) rfl)
theorem mw24_18 : Cond.methodLink RL 80 yX8_share ∈ wsL_law := inr24 (List.mem_of_getElem? (i := 18) rfl)
theorem tw24_19 : Cond.instanceMethod yX8_share ∈ lw_tbl := tb4 (List.mem_of_getElem? (i := 178) rfl)
theorem mw24_19 : Cond.instanceMethod yX8_share ∈ wsL_law := inr24 (List.mem_of_getElem? (i := 19) rfl)
theorem tw24_20 : Cond.selects RX8 yX8_share yX8_share ∈ lw_tbl := tb4 (List.mem_of_getElem? (i := 179) rfl)
theorem mw24_20 : Cond.selects RX8 yX8_share yX8_share ∈ wsL_law := inr24 (List.mem_of_getElem? (i := 20) rfl)
theorem tw24_21 : Cond.code yX8_share cX8_share 5 (some .int) ∈ lw_tbl := tb4 (List.mem_of_getElem? (i := 180) rfl)
theorem mw24_21 : Cond.code yX8_share cX8_share 5 (some .int) ∈ wsL_law := inr24 (List.mem_of_getElem? (i := 21) rfl)
theorem tw24_22 : Cond.methodLink RX8 185 yX8_ones ∈ lw_tbl := tb4 (List.mem_of_getElem? (i := 181) rfl)
theorem mw24_22 : Cond.methodLink RX8 185 yX8_ones ∈ wsL_law := inr24 (List.mem_of_getElem? (i := 22) rfl)
theorem tw24_23 : Cond.static yX8_ones ∈ lw_tbl := tb4 (List.mem_of_getElem? (i := 182) rfl)
theorem mw24_23 : Cond.static yX8_ones ∈ wsL_law := inr24 (List.mem_of_getElem? (i := 23) rfl)
theorem gdr24 : GoodIn lw_tbl wsL_law_r24 := List.forall_mem_cons.mpr ⟨⟨tw24_0, Or.inl rfl⟩, List.forall_mem_cons.mpr ⟨⟨tw24_1, Or.inl rfl⟩, List.forall_mem_cons.mpr ⟨⟨tw24_2, Or.inl rfl⟩, List.forall_mem_cons.mpr ⟨⟨tw24_3, Or.inl rfl⟩, List.forall_mem_cons.mpr ⟨⟨tw24_4, Or.inl rfl⟩, List.forall_mem_cons.mpr ⟨⟨tw24_5, Or.inl rfl⟩, List.forall_mem_cons.mpr ⟨⟨tw24_6, Or.inl rfl⟩, List.forall_mem_cons.mpr ⟨⟨tw24_7, Or.inl rfl⟩, List.forall_mem_cons.mpr ⟨⟨tw24_8, Or.inl rfl⟩, List.forall_mem_cons.mpr ⟨⟨tw24_9, Or.inl rfl⟩, List.forall_mem_cons.mpr ⟨⟨tw24_10, Or.inl rfl⟩, List.forall_mem_cons.mpr ⟨⟨tw24_11, Or.inl rfl⟩, List.forall_mem_cons.mpr ⟨⟨tw24_12, Or.inl rfl⟩, List.forall_mem_cons.mpr ⟨⟨tw24_13, Or.inl rfl⟩, List.forall_mem_cons.mpr ⟨⟨tw24_14, Or.inl rfl⟩, List.forall_mem_cons.mpr ⟨⟨tw24_15, Or.inl rfl⟩, List.forall_mem_cons.mpr ⟨⟨tw24_16, Or.inl rfl⟩, List.forall_mem_cons.mpr ⟨⟨tw24_17, Or.inl rfl⟩, List.forall_mem_cons.mpr ⟨⟨tw24_18, Or.inl rfl⟩, List.forall_mem_cons.mpr ⟨⟨tw24_19, Or.inl rfl⟩, List.forall_mem_cons.mpr ⟨⟨tw24_20, Or.inl rfl⟩, List.forall_mem_cons.mpr ⟨⟨tw24_21, Or.inl rfl⟩, List.forall_mem_cons.mpr ⟨⟨tw24_22, Or.inl rfl⟩, List.forall_mem_cons.mpr ⟨⟨tw24_23, Or.inl rfl⟩, fun _ h => absurd h List.not_mem_nil⟩⟩⟩⟩⟩⟩⟩⟩⟩⟩⟩⟩⟩⟩⟩⟩⟩⟩⟩⟩⟩⟩⟩⟩
theorem tw25_0 : Cond.code yX8_ones cX8_ones 1 (some .int) ∈ lw_tbl := tb4 (List.mem_of_getElem? (i := 183) rfl)
theorem mw25_0 : Cond.code yX8_ones cX8_ones 1 (some .int) ∈ wsL_law := inr25 (List.mem_of_getElem? (i := 0) rfl)
theorem tw25_1 : Cond.methodLink RX8 188 yX8_factorial ∈ lw_tbl := tb4 (List.mem_of_getElem? (i := 184) rfl)
theorem mw25_1 : Cond.methodLink RX8 188 yX8_factorial ∈ wsL_law := inr25 (List.mem_of_getElem? (i := 1) rfl)
theorem tw25_2 : Cond.static yX8_factorial ∈ lw_tbl := tb4 (List.mem_of_getElem? (i := 185) rfl)
theorem mw25_2 : Cond.static yX8_factorial ∈ wsL_law := inr25 (List.mem_of_getElem? (i := 2) rfl)
theorem tw25_3 : Cond.code yX8_factorial cX8_factorial 3 (some .int) ∈ lw_tbl := tb4 (List.mem_of_getElem? (i := 186) rfl)
theorem mw25_3 : Cond.code yX8_factorial cX8_factorial 3 (some .int) ∈ wsL_law := inr25 (List.mem_of_getElem? (i := 3) rfl)
theorem tw25_4 : Cond.methodLink RX8 191 yX8_common ∈ lw_tbl := tb4 (List.mem_of_getElem? (i := 187) rfl)
theorem mw25_4 : Cond.methodLink RX8 191 yX8_common ∈ wsL_law := inr25 (List.mem_of_getElem? (i := 4) rfl)
theorem tw25_5 : Cond.static yX8_common ∈ lw_tbl := tb4 (List.mem_of_getElem? (i := 188) rfl)
theorem mw25_5 : Cond.static yX8_common ∈ wsL_law := inr25 (List.mem_of_getElem? (i := 5) rfl)
theorem tw25_6 : Cond.code yX8_common cX8_common 5 (some .int) ∈ lw_tbl := tb4 (List.mem_of_getElem? (i := 189) rfl)
theorem mw25_6 : Cond.code yX8_common cX8_common 5 (some .int) ∈ wsL_law := inr25 (List.mem_of_getElem? (i := 6) rfl)
theorem tw25_7 : Cond.methodLink RL 81 yX7_table ∈ lw_tbl := tb3 (List.mem_of_getElem? (i := 27) rfl)
theorem mw25_7 : Cond.methodLink RL 81 yX7_table ∈ wsL_law := inr25 (List.mem_of_getElem? (i := 7) rfl)
theorem tw25_8 : Cond.instanceMethod yX7_table ∈ lw_tbl := tb3 (List.mem_of_getElem? (i := 28) rfl)
theorem mw25_8 : Cond.instanceMethod yX7_table ∈ wsL_law := inr25 (List.mem_of_getElem? (i := 8) rfl)
theorem tw25_9 : Cond.selects RX7 yX7_table yX7_table ∈ lw_tbl := tb3 (List.mem_of_getElem? (i := 29) rfl)
theorem mw25_9 : Cond.selects RX7 yX7_table yX7_table ∈ wsL_law := inr25 (List.mem_of_getElem? (i := 9) rfl)
theorem tw25_10 : Cond.code yX7_table cX7_table 3 (some .int) ∈ lw_tbl := tb3 (List.mem_of_getElem? (i := 30) rfl)
theorem mw25_10 : Cond.code yX7_table cX7_table 3 (some .int) ∈ wsL_law := inr25 (List.mem_of_getElem? (i := 10) rfl)
theorem tw25_11 : Cond.methodLink RX7 200 yX7_giftsTogether ∈ lw_tbl := tb3 (List.mem_of_getElem? (i := 31) rfl)
theorem mw25_11 : Cond.methodLink RX7 200 yX7_giftsTogether ∈ wsL_law := inr25 (List.mem_of_getElem? (i := 11) rfl)
theorem tw25_12 : Cond.instanceMethod yX7_giftsTogether ∈ lw_tbl := tb3 (List.mem_of_getElem? (i := 33) rfl)
theorem mw25_12 : Cond.instanceMethod yX7_giftsTogether ∈ wsL_law := inr25 (List.mem_of_getElem? (i := 12) rfl)
theorem tw25_13 : Cond.selects RX7 yX7_giftsTogether yX7_giftsTogether ∈ lw_tbl := List.mem_append_left _ (List.mem_of_getElem? (i := 13) rfl)
theorem mw25_13 : Cond.selects RX7 yX7_giftsTogether yX7_giftsTogether ∈ wsL_law := inr25 (List.mem_of_getElem? (i := 13) rfl)
theorem tw25_14 : Cond.code yX7_giftsTogether cX7_giftsTogether 5 (some .int) ∈ lw_tbl := tb3 (List.mem_of_getElem? (i := 34) rfl)
theorem mw25_14 : Cond.code yX7_giftsTogether cX7_giftsTogether 5 (some .int) ∈ wsL_law := inr25 (List.mem_of_getElem? (i := 14) rfl)
theorem tw25_15 : Cond.methodLink RX7 234 yX2_giftBit ∈ lw_tbl := tb3 (List.mem_of_getElem? (i := 35) rfl)
theorem mw25_15 : Cond.methodLink RX7 234 yX2_giftBit ∈ wsL_law := inr25 (List.mem_of_getElem? (i := 15) rfl)
theorem tw25_16 : Cond.methodLink RL 84 yX8_table ∈ lw_tbl := tb4 (List.mem_of_getElem? (i := 190) rfl)
theorem mw25_16 : Cond.methodLink RL 84 yX8_table ∈ wsL_law := inr25 (List.mem_of_getElem? (i := 16) rfl)
theorem tw25_17 : Cond.instanceMethod yX8_table ∈ lw_tbl := tb4 (List.mem_of_getElem? (i := 191) rfl)
theorem mw25_17 : Cond.instanceMethod yX8_table ∈ wsL_law := inr25 (List.mem_of_getElem? (i := 17) rfl)
theorem tw25_18 : Cond.selects RX8 yX8_table yX8_table ∈ lw_tbl := tb4 (List.mem_of_getElem? (i := 192) rfl)
theorem mw25_18 : Cond.selects RX8 yX8_table yX8_table ∈ wsL_law := inr25 (List.mem_of_getElem? (i := 18) rfl)
theorem tw25_19 : Cond.code yX8_table cX8_table 3 (some .int) ∈ lw_tbl := tb4 (List.mem_of_getElem? (i := 193) rfl)
theorem mw25_19 : Cond.code yX8_table cX8_table 3 (some .int) ∈ wsL_law := inr25 (List.mem_of_getElem? (i := 19) rfl)
theorem tw25_20 : Cond.methodLink RX8 197 yX8_tableOf ∈ lw_tbl := tb4 (List.mem_of_getElem? (i := 194) rfl)
theorem mw25_20 : Cond.methodLink RX8 197 yX8_tableOf ∈ wsL_law := inr25 (List.mem_of_getElem? (i := 20) rfl)
theorem tw25_21 : Cond.instanceMethod yX8_tableOf ∈ lw_tbl := tb4 (List.mem_of_getElem? (i := 196) rfl)
theorem mw25_21 : Cond.instanceMethod yX8_tableOf ∈ wsL_law := inr25 (List.mem_of_getElem? (i := 21) rfl)
theorem tw25_22 : Cond.selects RX8 yX8_tableOf yX8_tableOf ∈ lw_tbl := List.mem_append_left _ (List.mem_of_getElem? (i := 35) rfl)
theorem mw25_22 : Cond.selects RX8 yX8_tableOf yX8_tableOf ∈ wsL_law := inr25 (List.mem_of_getElem? (i := 22) rfl)
theorem tw25_23 : Cond.code yX8_tableOf cX8_tableOf 5 (some .int) ∈ lw_tbl := tb4 (List.mem_of_getElem? (i := 197) rfl)
theorem mw25_23 : Cond.code yX8_tableOf cX8_tableOf 5 (some .int) ∈ wsL_law := inr25 (List.mem_of_getElem? (i := 23) rfl)
theorem gdr25 : GoodIn lw_tbl wsL_law_r25 := List.forall_mem_cons.mpr ⟨⟨tw25_0, Or.inl rfl⟩, List.forall_mem_cons.mpr ⟨⟨tw25_1, Or.inl rfl⟩, List.forall_mem_cons.mpr ⟨⟨tw25_2, Or.inl rfl⟩, List.forall_mem_cons.mpr ⟨⟨tw25_3, Or.inl rfl⟩, List.forall_mem_cons.mpr ⟨⟨tw25_4, Or.inl rfl⟩, List.forall_mem_cons.mpr ⟨⟨tw25_5, Or.inl rfl⟩, List.forall_mem_cons.mpr ⟨⟨tw25_6, Or.inl rfl⟩, List.forall_mem_cons.mpr ⟨⟨tw25_7, Or.inl rfl⟩, List.forall_mem_cons.mpr ⟨⟨tw25_8, Or.inl rfl⟩, List.forall_mem_cons.mpr ⟨⟨tw25_9, Or.inl rfl⟩, List.forall_mem_cons.mpr ⟨⟨tw25_10, Or.inl rfl⟩, List.forall_mem_cons.mpr ⟨⟨tw25_11, Or.inl rfl⟩, List.forall_mem_cons.mpr ⟨⟨tw25_12, Or.inl rfl⟩, List.forall_mem_cons.mpr ⟨⟨tw25_13, Or.inl rfl⟩, List.forall_mem_cons.mpr ⟨⟨tw25_14, Or.inl rfl⟩, List.forall_mem_cons.mpr ⟨⟨tw25_15, Or.inl rfl⟩, List.forall_mem_cons.mpr ⟨⟨tw25_16, Or.inl rfl⟩, List.forall_mem_cons.mpr ⟨⟨tw25_17, Or.inl rfl⟩, List.forall_mem_cons.mpr ⟨⟨tw25_18, Or.inl rfl⟩, List.forall_mem_cons.mpr ⟨⟨tw25_19, Or.inl rfl⟩, List.forall_mem_cons.mpr ⟨⟨tw25_20, Or.inl rfl⟩, List.forall_mem_cons.mpr ⟨⟨tw25_21, Or.inl rfl⟩, List.forall_mem_cons.mpr ⟨⟨tw25_22, Or.inl rfl⟩, List.forall_mem_cons.mpr ⟨⟨tw25_23, Or.inl rfl⟩, fun _ h => absurd h List.not_mem_nil⟩⟩⟩⟩⟩⟩⟩⟩⟩⟩⟩⟩⟩⟩⟩⟩⟩⟩⟩⟩⟩⟩⟩⟩
theorem tw26_0 : Cond.methodLink RX8 194 yX8_gives ∈ lw_tbl := tb4 (List.mem_of_getElem? (i := 198) rfl)
theorem mw26_0 : Cond.methodLink RX8 194 yX8_gives ∈ wsL_law := inr26 (List.mem_of_getElem? (i := 0) rfl)
theorem tw26_1 : Cond.instanceMethod yX8_gives ∈ lw_tbl := tb4 (List.mem_of_getElem? (i := 200) rfl)
theorem mw26_1 : Cond.instanceMethod yX8_gives ∈ wsL_law := inr26 (List.mem_of_getElem? (i := 1) rfl)
theorem tw26_2 : Cond.selects RX8 yX8_gives yX8_gives ∈ lw_tbl := List.mem_append_left _ (List.mem_of_getElem? (i := 36) rfl)
theorem mw26_2 : Cond.selects RX8 yX8_gives yX8_gives ∈ wsL_law := inr26 (List.mem_of_getElem? (i := 2) rfl)
theorem tw26_3 : Cond.code yX8_gives cX8_gives 3 (some .int) ∈ lw_tbl := tb4 (List.mem_of_getElem? (i := 201) rfl)
theorem mw26_3 : Cond.code yX8_gives cX8_gives 3 (some .int) ∈ wsL_law := inr26 (List.mem_of_getElem? (i := 3) rfl)
theorem tw26_4 : Cond.methodLink RL 85 yX7_pairs ∈ lw_tbl := tb3 (List.mem_of_getElem? (i := 36) rfl)
theorem mw26_4 : Cond.methodLink RL 85 yX7_pairs ∈ wsL_law := inr26 (List.mem_of_getElem? (i := 4) rfl)
theorem tw26_5 : Cond.instanceMethod yX7_pairs ∈ lw_tbl := tb3 (List.mem_of_getElem? (i := 37) rfl)
theorem mw26_5 : Cond.instanceMethod yX7_pairs ∈ wsL_law := inr26 (List.mem_of_getElem? (i := 5) rfl)
theorem tw26_6 : Cond.selects RX7 yX7_pairs yX7_pairs ∈ lw_tbl := tb3 (List.mem_of_getElem? (i := 38) rfl)
theorem mw26_6 : Cond.selects RX7 yX7_pairs yX7_pairs ∈ wsL_law := inr26 (List.mem_of_getElem? (i := 6) rfl)
theorem tw26_7 : Cond.code yX7_pairs cX7_pairs 2 (some .int) ∈ lw_tbl := tb3 (List.mem_of_getElem? (i := 39) rfl)
theorem mw26_7 : Cond.code yX7_pairs cX7_pairs 2 (some .int) ∈ wsL_law := inr26 (List.mem_of_getElem? (i := 7) rfl)
theorem tw26_8 : Cond.methodLink RX7 204 yX7_mostOfPairs ∈ lw_tbl := tb3 (List.mem_of_getElem? (i := 40) rfl)
theorem mw26_8 : Cond.methodLink RX7 204 yX7_mostOfPairs ∈ wsL_law := inr26 (List.mem_of_getElem? (i := 8) rfl)
theorem tw26_9 : Cond.instanceMethod yX7_mostOfPairs ∈ lw_tbl := tb3 (List.mem_of_getElem? (i := 42) rfl)
theorem mw26_9 : Cond.instanceMethod yX7_mostOfPairs ∈ wsL_law := inr26 (List.mem_of_getElem? (i := 9) rfl)
theorem tw26_10 : Cond.selects RX7 yX7_mostOfPairs yX7_mostOfPairs ∈ lw_tbl := List.mem_append_left _ (List.mem_of_getElem? (i := 14) rfl)
theorem mw26_10 : Cond.selects RX7 yX7_mostOfPairs yX7_mostOfPairs ∈ wsL_law := inr26 (List.mem_of_getElem? (i := 10) rfl)
theorem tw26_11 : Cond.code yX7_mostOfPairs cX7_mostOfPairs 8 (some .int) ∈ lw_tbl := tb3 (List.mem_of_getElem? (i := 43) rfl)
theorem mw26_11 : Cond.code yX7_mostOfPairs cX7_mostOfPairs 8 (some .int) ∈ wsL_law := inr26 (List.mem_of_getElem? (i := 11) rfl)
theorem tw26_12 : Cond.methodLink RX7 229 Lib.Math.max.name ∈ lw_tbl := tb3 (List.mem_of_getElem? (i := 48) rfl)
theorem mw26_12 : Cond.methodLink RX7 229 Lib.Math.max.name ∈ wsL_law := inr26 (List.mem_of_getElem? (i := 12) rfl)
theorem tw26_13 : Cond.static Lib.Math.max.name ∈ lw_tbl := tb3 (List.mem_of_getElem? (i := 49) rfl)
theorem mw26_13 : Cond.static Lib.Math.max.name ∈ wsL_law := inr26 (List.mem_of_getElem? (i := 13) rfl)
theorem tw26_14 : Cond.code Lib.Math.max.name Lib.Math.max.code 2 (some .int) ∈ lw_tbl := tb3 (List.mem_of_getElem? (i := 50) rfl)
theorem mw26_14 : Cond.code Lib.Math.max.name Lib.Math.max.code 2 (some .int) ∈ wsL_law := inr26 (List.mem_of_getElem? (i := 14) rfl)
theorem tw26_15 : Cond.methodLink RX7 223 yJ6_numberOfTrailingZeros_0f7a4 ∈ lw_tbl := tb3 (List.mem_of_getElem? (i := 44) rfl)
theorem mw26_15 : Cond.methodLink RX7 223 yJ6_numberOfTrailingZeros_0f7a4 ∈ wsL_law := inr26 (List.mem_of_getElem? (i := 15) rfl)
theorem tw26_16 : Cond.methodLink RX7 226 yJ6_numberOfLeadingZeros_0f7a4 ∈ lw_tbl := tb3 (List.mem_of_getElem? (i := 45) rfl)
theorem mw26_16 : Cond.methodLink RX7 226 yJ6_numberOfLeadingZeros_0f7a4 ∈ wsL_law := inr26 (List.mem_of_getElem? (i := 16) rfl)
theorem tw26_17 : Cond.static yJ6_numberOfLeadingZeros_0f7a4 ∈ lw_tbl := tb3 (List.mem_of_getElem? (i := 46) rfl)
theorem mw26_17 : Cond.static yJ6_numberOfLeadingZeros_0f7a4 ∈ wsL_law := inr26 (List.mem_of_getElem? (i := 17) rfl)
theorem tw26_18 : Cond.code yJ6_numberOfLeadingZeros_0f7a4 cJ6_numberOfLeadingZeros_0f7a4 2 (some .int) ∈ lw_tbl := tb3 (List.mem_of_getElem? (i := 47) rfl)
theorem mw26_18 : Cond.code yJ6_numberOfLeadingZeros_0f7a4 cJ6_numberOfLeadingZeros_0f7a4 2 (some .int) ∈ wsL_law := inr26 (List.mem_of_getElem? (i := 18) rfl)
theorem tw26_19 : Cond.methodLink RL 88 yX8_pairs ∈ lw_tbl := tb4 (List.mem_of_getElem? (i := 202) rfl)
theorem mw26_19 : Cond.methodLink RL 88 yX8_pairs ∈ wsL_law := inr26 (List.mem_of_getElem? (i := 19) rfl)
theorem tw26_20 : Cond.instanceMethod yX8_pairs ∈ lw_tbl := tb4 (List.mem_of_getElem? (i := 203) rfl)
theorem mw26_20 : Cond.instanceMethod yX8_pairs ∈ wsL_law := inr26 (List.mem_of_getElem? (i := 20) rfl)
theorem tw26_21 : Cond.selects RX8 yX8_pairs yX8_pairs ∈ lw_tbl := tb4 (List.mem_of_getElem? (i := 204) rfl)
theorem mw26_21 : Cond.selects RX8 yX8_pairs yX8_pairs ∈ wsL_law := inr26 (List.mem_of_getElem? (i := 21) rfl)
theorem tw26_22 : Cond.code yX8_pairs cX8_pairs 9 (some .int) ∈ lw_tbl := tb4 (List.mem_of_getElem? (i := 205) rfl)
theorem mw26_22 : Cond.code yX8_pairs cX8_pairs 9 (some .int) ∈ wsL_law := inr26 (List.mem_of_getElem? (i := 22) rfl)
theorem tw26_23 : Cond.methodLink RL 89 yX7_judge ∈ lw_tbl := tb3 (List.mem_of_getElem? (i := 51) rfl)
theorem mw26_23 : Cond.methodLink RL 89 yX7_judge ∈ wsL_law := inr26 (List.mem_of_getElem? (i := 23) rfl)
theorem gdr26 : GoodIn lw_tbl wsL_law_r26 := List.forall_mem_cons.mpr ⟨⟨tw26_0, Or.inl rfl⟩, List.forall_mem_cons.mpr ⟨⟨tw26_1, Or.inl rfl⟩, List.forall_mem_cons.mpr ⟨⟨tw26_2, Or.inl rfl⟩, List.forall_mem_cons.mpr ⟨⟨tw26_3, Or.inl rfl⟩, List.forall_mem_cons.mpr ⟨⟨tw26_4, Or.inl rfl⟩, List.forall_mem_cons.mpr ⟨⟨tw26_5, Or.inl rfl⟩, List.forall_mem_cons.mpr ⟨⟨tw26_6, Or.inl rfl⟩, List.forall_mem_cons.mpr ⟨⟨tw26_7, Or.inl rfl⟩, List.forall_mem_cons.mpr ⟨⟨tw26_8, Or.inl rfl⟩, List.forall_mem_cons.mpr ⟨⟨tw26_9, Or.inl rfl⟩, List.forall_mem_cons.mpr ⟨⟨tw26_10, Or.inl rfl⟩, List.forall_mem_cons.mpr ⟨⟨tw26_11, Or.inl rfl⟩, List.forall_mem_cons.mpr ⟨⟨tw26_12, Or.inl rfl⟩, List.forall_mem_cons.mpr ⟨⟨tw26_13, Or.inl rfl⟩, List.forall_mem_cons.mpr ⟨⟨tw26_14, Or.inl rfl⟩, List.forall_mem_cons.mpr ⟨⟨tw26_15, Or.inl rfl⟩, List.forall_mem_cons.mpr ⟨⟨tw26_16, Or.inl rfl⟩, List.forall_mem_cons.mpr ⟨⟨tw26_17, Or.inl rfl⟩, List.forall_mem_cons.mpr ⟨⟨tw26_18, Or.inl rfl⟩, List.forall_mem_cons.mpr ⟨⟨tw26_19, Or.inl rfl⟩, List.forall_mem_cons.mpr ⟨⟨tw26_20, Or.inl rfl⟩, List.forall_mem_cons.mpr ⟨⟨tw26_21, Or.inl rfl⟩, List.forall_mem_cons.mpr ⟨⟨tw26_22, Or.inl rfl⟩, List.forall_mem_cons.mpr ⟨⟨tw26_23, Or.inl rfl⟩, fun _ h => absurd h List.not_mem_nil⟩⟩⟩⟩⟩⟩⟩⟩⟩⟩⟩⟩⟩⟩⟩⟩⟩⟩⟩⟩⟩⟩⟩⟩
theorem tw27_0 : Cond.instanceMethod yX7_judge ∈ lw_tbl := tb3 (List.mem_of_getElem? (i := 52) rfl)
theorem mw27_0 : Cond.instanceMethod yX7_judge ∈ wsL_law := inr27 (List.mem_of_getElem? (i := 0) rfl)
theorem tw27_1 : Cond.selects RX7 yX7_judge yX7_judge ∈ lw_tbl := tb3 (List.mem_of_getElem? (i := 53) rfl)
theorem mw27_1 : Cond.selects RX7 yX7_judge yX7_judge ∈ wsL_law := inr27 (List.mem_of_getElem? (i := 1) rfl)
theorem tw27_2 : Cond.code yX7_judge cX7_judge 4 (some .int) ∈ lw_tbl := tb3 (List.mem_of_getElem? (i := 54) rfl)
theorem mw27_2 : Cond.code yX7_judge cX7_judge 4 (some .int) ∈ wsL_law := inr27 (List.mem_of_getElem? (i := 2) rfl)
theorem tw27_3 : Cond.fieldLink RX7 207 "TallowHours" "TENS" "[I" ∈ lw_tbl := tb3 (List.mem_of_getElem? (i := 55) rfl)
theorem mw27_3 : Cond.fieldLink RX7 207 "TallowHours" "TENS" "[I" ∈ wsL_law := inr27 (List.mem_of_getElem? (i := 3) rfl)
theorem tw27_4 : Cond.methodLink RX7 210 yX2_copy ∈ lw_tbl := tb3 (List.mem_of_getElem? (i := 57) rfl)
theorem mw27_4 : Cond.methodLink RX7 210 yX2_copy ∈ wsL_law := inr27 (List.mem_of_getElem? (i := 4) rfl)
theorem tw27_5 : Cond.instanceMethod yX2_copy ∈ lw_tbl := tb3 (List.mem_of_getElem? (i := 58) rfl)
theorem mw27_5 : Cond.instanceMethod yX2_copy ∈ wsL_law := inr27 (List.mem_of_getElem? (i := 5) rfl)
theorem tw27_6 : Cond.selects RX2 yX2_copy yX2_copy ∈ lw_tbl := tb3 (List.mem_of_getElem? (i := 59) rfl)
theorem mw27_6 : Cond.selects RX2 yX2_copy yX2_copy ∈ wsL_law := inr27 (List.mem_of_getElem? (i := 6) rfl)
theorem tw27_7 : Cond.code yX2_copy cX2_copy 3 none ∈ lw_tbl := tb3 (List.mem_of_getElem? (i := 60) rfl)
theorem mw27_7 : Cond.code yX2_copy cX2_copy 3 none ∈ wsL_law := inr27 (List.mem_of_getElem? (i := 7) rfl)
theorem tw27_8 : Cond.methodLink RX7 213 yX7_figure ∈ lw_tbl := tb3 (List.mem_of_getElem? (i := 61) rfl)
theorem mw27_8 : Cond.methodLink RX7 213 yX7_figure ∈ wsL_law := inr27 (List.mem_of_getElem? (i := 8) rfl)
theorem tw27_9 : Cond.static yX7_figure ∈ lw_tbl := tb3 (List.mem_of_getElem? (i := 62) rfl)
theorem mw27_9 : Cond.static yX7_figure ∈ wsL_law := inr27 (List.mem_of_getElem? (i := 9) rfl)
theorem tw27_10 : Cond.code yX7_figure cX7_figure 4 (some .int) ∈ lw_tbl := tb3 (List.mem_of_getElem? (i := 63) rfl)
theorem mw27_10 : Cond.code yX7_figure cX7_figure 4 (some .int) ∈ wsL_law := inr27 (List.mem_of_getElem? (i := 10) rfl)
theorem tw27_11 : Cond.methodLink RX7 217 yX7_goesWell ∈ lw_tbl := tb3 (List.mem_of_getElem? (i := 64) rfl)
theorem mw27_11 : Cond.methodLink RX7 217 yX7_goesWell ∈ wsL_law := inr27 (List.mem_of_getElem? (i := 11) rfl)
theorem tw27_12 : Cond.instanceMethod yX7_goesWell ∈ lw_tbl := tb3 (List.mem_of_getElem? (i := 66) rfl)
theorem mw27_12 : Cond.instanceMethod yX7_goesWell ∈ wsL_law := inr27 (List.mem_of_getElem? (i := 12) rfl)
theorem tw27_13 : Cond.selects RX7 yX7_goesWell yX7_goesWell ∈ lw_tbl := List.mem_append_left _ (List.mem_of_getElem? (i := 15) rfl)
theorem mw27_13 : Cond.selects RX7 yX7_goesWell yX7_goesWell ∈ wsL_law := inr27 (List.mem_of_getElem? (i := 13) rfl)
theorem tw27_14 : Cond.code yX7_goesWell cX7_goesWell 2 (some .boolean) ∈ lw_tbl := tb3 (List.mem_of_getElem? (i := 67) rfl)
theorem mw27_14 : Cond.code yX7_goesWell cX7_goesWell 2 (some .boolean) ∈ wsL_law := inr27 (List.mem_of_getElem? (i := 14) rfl)
theorem tw27_15 : Cond.methodLink RX7 220 yX2_lightIfCan ∈ lw_tbl := tb3 (List.mem_of_getElem? (i := 68) rfl)
theorem mw27_15 : Cond.methodLink RX7 220 yX2_lightIfCan ∈ wsL_law := inr27 (List.mem_of_getElem? (i := 15) rfl)
theorem tw27_16 : Cond.instanceMethod yX2_lightIfCan ∈ lw_tbl := tb3 (List.mem_of_getElem? (i := 69) rfl)
theorem mw27_16 : Cond.instanceMethod yX2_lightIfCan ∈ wsL_law := inr27 (List.mem_of_getElem? (i := 16) rfl)
theorem tw27_17 : Cond.selects RX2 yX2_lightIfCan yX2_lightIfCan ∈ lw_tbl := tb3 (List.mem_of_getElem? (i := 70) rfl)
theorem mw27_17 : Cond.selects RX2 yX2_lightIfCan yX2_lightIfCan ∈ wsL_law := inr27 (List.mem_of_getElem? (i := 17) rfl)
theorem tw27_18 : Cond.code yX2_lightIfCan cX2_lightIfCan 3 (some .boolean) ∈ lw_tbl := tb3 (List.mem_of_getElem? (i := 71) rfl)
theorem mw27_18 : Cond.code yX2_lightIfCan cX2_lightIfCan 3 (some .boolean) ∈ wsL_law := inr27 (List.mem_of_getElem? (i := 18) rfl)
theorem tw27_19 : Cond.methodLink RL 92 yX8_judge ∈ lw_tbl := tb4 (List.mem_of_getElem? (i := 206) rfl)
theorem mw27_19 : Cond.methodLink RL 92 yX8_judge ∈ wsL_law := inr27 (List.mem_of_getElem? (i := 19) rfl)
theorem tw27_20 : Cond.instanceMethod yX8_judge ∈ lw_tbl := tb4 (List.mem_of_getElem? (i := 207) rfl)
theorem mw27_20 : Cond.instanceMethod yX8_judge ∈ wsL_law := inr27 (List.mem_of_getElem? (i := 20) rfl)
theorem tw27_21 : Cond.selects RX8 yX8_judge yX8_judge ∈ lw_tbl := tb4 (List.mem_of_getElem? (i := 208) rfl)
theorem mw27_21 : Cond.selects RX8 yX8_judge yX8_judge ∈ wsL_law := inr27 (List.mem_of_getElem? (i := 21) rfl)
theorem tw27_22 : Cond.code yX8_judge cX8_judge 6 (some .int) ∈ lw_tbl := tb4 (List.mem_of_getElem? (i := 209) rfl)
theorem mw27_22 : Cond.code yX8_judge cX8_judge 6 (some .int) ∈ wsL_law := inr27 (List.mem_of_getElem? (i := 22) rfl)
theorem tw27_23 : Cond.constantLong RX8 200 (8) ∈ lw_tbl := tb4 (List.mem_of_getElem? (i := 210) rfl)
theorem mw27_23 : Cond.constantLong RX8 200 (8) ∈ wsL_law := inr27 (List.mem_of_getElem? (i := 23) rfl)
theorem gdr27 : GoodIn lw_tbl wsL_law_r27 := List.forall_mem_cons.mpr ⟨⟨tw27_0, Or.inl rfl⟩, List.forall_mem_cons.mpr ⟨⟨tw27_1, Or.inl rfl⟩, List.forall_mem_cons.mpr ⟨⟨tw27_2, Or.inl rfl⟩, List.forall_mem_cons.mpr ⟨⟨tw27_3, Or.inl rfl⟩, List.forall_mem_cons.mpr ⟨⟨tw27_4, Or.inl rfl⟩, List.forall_mem_cons.mpr ⟨⟨tw27_5, Or.inl rfl⟩, List.forall_mem_cons.mpr ⟨⟨tw27_6, Or.inl rfl⟩, List.forall_mem_cons.mpr ⟨⟨tw27_7, Or.inl rfl⟩, List.forall_mem_cons.mpr ⟨⟨tw27_8, Or.inl rfl⟩, List.forall_mem_cons.mpr ⟨⟨tw27_9, Or.inl rfl⟩, List.forall_mem_cons.mpr ⟨⟨tw27_10, Or.inl rfl⟩, List.forall_mem_cons.mpr ⟨⟨tw27_11, Or.inl rfl⟩, List.forall_mem_cons.mpr ⟨⟨tw27_12, Or.inl rfl⟩, List.forall_mem_cons.mpr ⟨⟨tw27_13, Or.inl rfl⟩, List.forall_mem_cons.mpr ⟨⟨tw27_14, Or.inl rfl⟩, List.forall_mem_cons.mpr ⟨⟨tw27_15, Or.inl rfl⟩, List.forall_mem_cons.mpr ⟨⟨tw27_16, Or.inl rfl⟩, List.forall_mem_cons.mpr ⟨⟨tw27_17, Or.inl rfl⟩, List.forall_mem_cons.mpr ⟨⟨tw27_18, Or.inl rfl⟩, List.forall_mem_cons.mpr ⟨⟨tw27_19, Or.inl rfl⟩, List.forall_mem_cons.mpr ⟨⟨tw27_20, Or.inl rfl⟩, List.forall_mem_cons.mpr ⟨⟨tw27_21, Or.inl rfl⟩, List.forall_mem_cons.mpr ⟨⟨tw27_22, Or.inl rfl⟩, List.forall_mem_cons.mpr ⟨⟨tw27_23, Or.inl rfl⟩, fun _ h => absurd h List.not_mem_nil⟩⟩⟩⟩⟩⟩⟩⟩⟩⟩⟩⟩⟩⟩⟩⟩⟩⟩⟩⟩⟩⟩⟩⟩
theorem tw28_0 : Cond.methodLink RL 93 yX7_stub ∈ lw_tbl := tb3 (List.mem_of_getElem? (i := 72) rfl)
theorem mw28_0 : Cond.methodLink RL 93 yX7_stub ∈ wsL_law := inr28 (List.mem_of_getElem? (i := 0) rfl)
theorem tw28_1 : Cond.instanceMethod yX7_stub ∈ lw_tbl := tb3 (List.mem_of_getElem? (i := 73) rfl)
theorem mw28_1 : Cond.instanceMethod yX7_stub ∈ wsL_law := inr28 (List.mem_of_getElem? (i := 1) rfl)
theorem tw28_2 : Cond.selects RX7 yX7_stub yX7_stub ∈ lw_tbl := tb3 (List.mem_of_getElem? (i := 74) rfl)
theorem mw28_2 : Cond.selects RX7 yX7_stub yX7_stub ∈ wsL_law := inr28 (List.mem_of_getElem? (i := 2) rfl)
theorem tw28_3 : Cond.code yX7_stub cX7_stub 5 (some .int) ∈ lw_tbl := tb3 (List.mem_of_getElem? (i := 75) rfl)
theorem mw28_3 : Cond.code yX7_stub cX7_stub 5 (some .int) ∈ wsL_law := inr28 (List.mem_of_getElem? (i := 3) rfl)
theorem tw28_4 : Cond.methodLink RX7 238 yX7_candlesEndingSo ∈ lw_tbl := tb3 (List.mem_of_getElem? (i := 76) rfl)
theorem mw28_4 : Cond.methodLink RX7 238 yX7_candlesEndingSo ∈ wsL_law := inr28 (List.mem_of_getElem? (i := 4) rfl)
theorem tw28_5 : Cond.instanceMethod yX7_candlesEndingSo ∈ lw_tbl := tb3 (List.mem_of_getElem? (i := 78) rfl)
theorem mw28_5 : Cond.instanceMethod yX7_candlesEndingSo ∈ wsL_law := inr28 (List.mem_of_getElem? (i := 5) rfl)
theorem tw28_6 : Cond.selects RX7 yX7_candlesEndingSo yX7_candlesEndingSo ∈ lw_tbl := List.mem_append_left _ (List.mem_of_getElem? (i := 16) rfl)
theorem mw28_6 : Cond.selects RX7 yX7_candlesEndingSo yX7_candlesEndingSo ∈ wsL_law := inr28 (List.mem_of_getElem? (i := 6) rfl)
theorem tw28_7 : Cond.code yX7_candlesEndingSo cX7_candlesEndingSo 5 (some .int) ∈ lw_tbl := tb3 (List.mem_of_getElem? (i := 79) rfl)
theorem mw28_7 : Cond.code yX7_candlesEndingSo cX7_candlesEndingSo 5 (some .int) ∈ wsL_law := inr28 (List.mem_of_getElem? (i := 7) rfl)
theorem tw28_8 : Cond.fieldLink RX7 244 "TallowHours$Party" "inches" "[I" ∈ lw_tbl := tb1 (List.mem_of_getElem? (i := 175) rfl)
theorem mw28_8 : Cond.fieldLink RX7 244 "TallowHours$Party" "inches" "[I" ∈ wsL_law := inr28 (List.mem_of_getElem? (i := 8) rfl)
theorem tw28_9 : Cond.fieldLink RX7 247 "TallowHours$Party" "start" "[I" ∈ lw_tbl := tb1 (List.mem_of_getElem? (i := 171) rfl)
theorem mw28_9 : Cond.fieldLink RX7 247 "TallowHours$Party" "start" "[I" ∈ wsL_law := inr28 (List.mem_of_getElem? (i := 9) rfl)
theorem tw28_10 : Cond.methodLink RX7 250 yX7_endsSo ∈ lw_tbl := tb3 (List.mem_of_getElem? (i := 80) rfl)
theorem mw28_10 : Cond.methodLink RX7 250 yX7_endsSo ∈ wsL_law := inr28 (List.mem_of_getElem? (i := 10) rfl)
theorem tw28_11 : Cond.instanceMethod yX7_endsSo ∈ lw_tbl := tb3 (List.mem_of_getElem? (i := 82) rfl)
theorem mw28_11 : Cond.instanceMethod yX7_endsSo ∈ wsL_law := inr28 (List.mem_of_getElem? (i := 11) rfl)
theorem tw28_12 : Cond.selects RX7 yX7_endsSo yX7_endsSo ∈ lw_tbl := List.mem_append_left _ (List.mem_of_getElem? (i := 17) rfl)
theorem mw28_12 : Cond.selects RX7 yX7_endsSo yX7_endsSo ∈ wsL_law := inr28 (List.mem_of_getElem? (i := 12) rfl)
theorem tw28_13 : Cond.code yX7_endsSo cX7_endsSo 6 (some .boolean) ∈ lw_tbl := tb3 (List.mem_of_getElem? (i := 83) rfl)
theorem mw28_13 : Cond.code yX7_endsSo cX7_endsSo 6 (some .boolean) ∈ wsL_law := inr28 (List.mem_of_getElem? (i := 13) rfl)
theorem tw28_14 : Cond.methodLink RX7 241 yX7_placesEndingSo ∈ lw_tbl := tb3 (List.mem_of_getElem? (i := 84) rfl)
theorem mw28_14 : Cond.methodLink RX7 241 yX7_placesEndingSo ∈ wsL_law := inr28 (List.mem_of_getElem? (i := 14) rfl)
theorem tw28_15 : Cond.instanceMethod yX7_placesEndingSo ∈ lw_tbl := tb3 (List.mem_of_getElem? (i := 86) rfl)
theorem mw28_15 : Cond.instanceMethod yX7_placesEndingSo ∈ wsL_law := inr28 (List.mem_of_getElem? (i := 15) rfl)
theorem tw28_16 : Cond.selects RX7 yX7_placesEndingSo yX7_placesEndingSo ∈ lw_tbl := List.mem_append_left _ (List.mem_of_getElem? (i := 18) rfl)
theorem mw28_16 : Cond.selects RX7 yX7_placesEndingSo yX7_placesEndingSo ∈ wsL_law := inr28 (List.mem_of_getElem? (i := 16) rfl)
theorem tw28_17 : Cond.code yX7_placesEndingSo cX7_placesEndingSo 5 (some .int) ∈ lw_tbl := tb3 (List.mem_of_getElem? (i := 87) rfl)
theorem mw28_17 : Cond.code yX7_placesEndingSo cX7_placesEndingSo 5 (some .int) ∈ wsL_law := inr28 (List.mem_of_getElem? (i := 17) rfl)
theorem tw28_18 : Cond.methodLink RL 97 yX8_stub ∈ lw_tbl := tb4 (List.mem_of_getElem? (i := 211) rfl)
theorem mw28_18 : Cond.methodLink RL 97 yX8_stub ∈ wsL_law := inr28 (List.mem_of_getElem? (i := 18) rfl)
theorem tw28_19 : Cond.instanceMethod yX8_stub ∈ lw_tbl := tb4 (List.mem_of_getElem? (i := 212) rfl)
theorem mw28_19 : Cond.instanceMethod yX8_stub ∈ wsL_law := inr28 (List.mem_of_getElem? (i := 19) rfl)
theorem tw28_20 : Cond.selects RX8 yX8_stub yX8_stub ∈ lw_tbl := tb4 (List.mem_of_getElem? (i := 213) rfl)
theorem mw28_20 : Cond.selects RX8 yX8_stub yX8_stub ∈ wsL_law := inr28 (List.mem_of_getElem? (i := 20) rfl)
theorem tw28_21 : Cond.code yX8_stub cX8_stub 7 (some .int) ∈ lw_tbl := tb4 (List.mem_of_getElem? (i := 214) rfl)
theorem mw28_21 : Cond.code yX8_stub cX8_stub 7 (some .int) ∈ wsL_law := inr28 (List.mem_of_getElem? (i := 21) rfl)
theorem tw28_22 : Cond.constantLong RX8 202 (3) ∈ lw_tbl := tb4 (List.mem_of_getElem? (i := 215) rfl)
theorem mw28_22 : Cond.constantLong RX8 202 (3) ∈ wsL_law := inr28 (List.mem_of_getElem? (i := 22) rfl)
theorem tw28_23 : Cond.methodLink RX8 204 yX8_isSo ∈ lw_tbl := tb4 (List.mem_of_getElem? (i := 216) rfl)
theorem mw28_23 : Cond.methodLink RX8 204 yX8_isSo ∈ wsL_law := inr28 (List.mem_of_getElem? (i := 23) rfl)
theorem gdr28 : GoodIn lw_tbl wsL_law_r28 := List.forall_mem_cons.mpr ⟨⟨tw28_0, Or.inl rfl⟩, List.forall_mem_cons.mpr ⟨⟨tw28_1, Or.inl rfl⟩, List.forall_mem_cons.mpr ⟨⟨tw28_2, Or.inl rfl⟩, List.forall_mem_cons.mpr ⟨⟨tw28_3, Or.inl rfl⟩, List.forall_mem_cons.mpr ⟨⟨tw28_4, Or.inl rfl⟩, List.forall_mem_cons.mpr ⟨⟨tw28_5, Or.inl rfl⟩, List.forall_mem_cons.mpr ⟨⟨tw28_6, Or.inl rfl⟩, List.forall_mem_cons.mpr ⟨⟨tw28_7, Or.inl rfl⟩, List.forall_mem_cons.mpr ⟨⟨tw28_8, Or.inl rfl⟩, List.forall_mem_cons.mpr ⟨⟨tw28_9, Or.inl rfl⟩, List.forall_mem_cons.mpr ⟨⟨tw28_10, Or.inl rfl⟩, List.forall_mem_cons.mpr ⟨⟨tw28_11, Or.inl rfl⟩, List.forall_mem_cons.mpr ⟨⟨tw28_12, Or.inl rfl⟩, List.forall_mem_cons.mpr ⟨⟨tw28_13, Or.inl rfl⟩, List.forall_mem_cons.mpr ⟨⟨tw28_14, Or.inl rfl⟩, List.forall_mem_cons.mpr ⟨⟨tw28_15, Or.inl rfl⟩, List.forall_mem_cons.mpr ⟨⟨tw28_16, Or.inl rfl⟩, List.forall_mem_cons.mpr ⟨⟨tw28_17, Or.inl rfl⟩, List.forall_mem_cons.mpr ⟨⟨tw28_18, Or.inl rfl⟩, List.forall_mem_cons.mpr ⟨⟨tw28_19, Or.inl rfl⟩, List.forall_mem_cons.mpr ⟨⟨tw28_20, Or.inl rfl⟩, List.forall_mem_cons.mpr ⟨⟨tw28_21, Or.inl rfl⟩, List.forall_mem_cons.mpr ⟨⟨tw28_22, Or.inl rfl⟩, List.forall_mem_cons.mpr ⟨⟨tw28_23, Or.inl rfl⟩, fun _ h => absurd h List.not_mem_nil⟩⟩⟩⟩⟩⟩⟩⟩⟩⟩⟩⟩⟩⟩⟩⟩⟩⟩⟩⟩⟩⟩⟩⟩
theorem tw29_0 : Cond.instanceMethod yX8_isSo ∈ lw_tbl := tb4 (List.mem_of_getElem? (i := 218) rfl)
theorem mw29_0 : Cond.instanceMethod yX8_isSo ∈ wsL_law := inr29 (List.mem_of_getElem? (i := 0) rfl)
theorem tw29_1 : Cond.selects RX8 yX8_isSo yX8_isSo ∈ lw_tbl := List.mem_append_left _ (List.mem_of_getElem? (i := 37) rfl)
theorem mw29_1 : Cond.selects RX8 yX8_isSo yX8_isSo ∈ wsL_law := inr29 (List.mem_of_getElem? (i := 1) rfl)
theorem tw29_2 : Cond.code yX8_isSo cX8_isSo 7 (some .boolean) ∈ lw_tbl := tb4 (List.mem_of_getElem? (i := 219) rfl)
theorem mw29_2 : Cond.code yX8_isSo cX8_isSo 7 (some .boolean) ∈ wsL_law := inr29 (List.mem_of_getElem? (i := 2) rfl)
theorem tw29_3 : Cond.methodLink RL 98 yX7_see ∈ lw_tbl := tb3 (List.mem_of_getElem? (i := 88) rfl)
theorem mw29_3 : Cond.methodLink RL 98 yX7_see ∈ wsL_law := inr29 (List.mem_of_getElem? (i := 3) rfl)
theorem tw29_4 : Cond.instanceMethod yX7_see ∈ lw_tbl := tb3 (List.mem_of_getElem? (i := 89) rfl)
theorem mw29_4 : Cond.instanceMethod yX7_see ∈ wsL_law := inr29 (List.mem_of_getElem? (i := 4) rfl)
theorem tw29_5 : Cond.selects RX7 yX7_see yX7_see ∈ lw_tbl := tb3 (List.mem_of_getElem? (i := 90) rfl)
theorem mw29_5 : Cond.selects RX7 yX7_see yX7_see ∈ wsL_law := inr29 (List.mem_of_getElem? (i := 5) rfl)
theorem tw29_6 : Cond.code yX7_see cX7_see 2 (some .int) ∈ lw_tbl := tb3 (List.mem_of_getElem? (i := 91) rfl)
theorem mw29_6 : Cond.code yX7_see cX7_see 2 (some .int) ∈ wsL_law := inr29 (List.mem_of_getElem? (i := 6) rfl)
theorem tw29_7 : Cond.methodLink RX7 254 yX1_add ∈ lw_tbl := tb3 (List.mem_of_getElem? (i := 92) rfl)
theorem mw29_7 : Cond.methodLink RX7 254 yX1_add ∈ wsL_law := inr29 (List.mem_of_getElem? (i := 7) rfl)
theorem tw29_8 : Cond.instanceMethod yX1_add ∈ lw_tbl := tb3 (List.mem_of_getElem? (i := 93) rfl)
theorem mw29_8 : Cond.instanceMethod yX1_add ∈ wsL_law := inr29 (List.mem_of_getElem? (i := 8) rfl)
theorem tw29_9 : Cond.selects RX1 yX1_add yX1_add ∈ lw_tbl := tb3 (List.mem_of_getElem? (i := 94) rfl)
theorem mw29_9 : Cond.selects RX1 yX1_add yX1_add ∈ wsL_law := inr29 (List.mem_of_getElem? (i := 9) rfl)
theorem tw29_10 : Cond.code yX1_add cX1_add 2 (some .int) ∈ lw_tbl := tb3 (List.mem_of_getElem? (i := 95) rfl)
theorem mw29_10 : Cond.code yX1_add cX1_add 2 (some .int) ∈ wsL_law := inr29 (List.mem_of_getElem? (i := 10) rfl)
theorem tw29_11 : Cond.methodLink RL 101 yX8_see ∈ lw_tbl := tb4 (List.mem_of_getElem? (i := 220) rfl)
theorem mw29_11 : Cond.methodLink RL 101 yX8_see ∈ wsL_law := inr29 (List.mem_of_getElem? (i := 11) rfl)
theorem tw29_12 : Cond.instanceMethod yX8_see ∈ lw_tbl := tb4 (List.mem_of_getElem? (i := 221) rfl)
theorem mw29_12 : Cond.instanceMethod yX8_see ∈ wsL_law := inr29 (List.mem_of_getElem? (i := 12) rfl)
theorem tw29_13 : Cond.selects RX8 yX8_see yX8_see ∈ lw_tbl := tb4 (List.mem_of_getElem? (i := 222) rfl)
theorem mw29_13 : Cond.selects RX8 yX8_see yX8_see ∈ wsL_law := inr29 (List.mem_of_getElem? (i := 13) rfl)
theorem tw29_14 : Cond.code yX8_see cX8_see 2 (some .int) ∈ lw_tbl := tb4 (List.mem_of_getElem? (i := 223) rfl)
theorem mw29_14 : Cond.code yX8_see cX8_see 2 (some .int) ∈ wsL_law := inr29 (List.mem_of_getElem? (i := 14) rfl)
theorem tw29_15 : Cond.constantLong RX8 208 (4) ∈ lw_tbl := tb4 (List.mem_of_getElem? (i := 224) rfl)
theorem mw29_15 : Cond.constantLong RX8 208 (4) ∈ wsL_law := inr29 (List.mem_of_getElem? (i := 15) rfl)
theorem tw29_16 : Cond.fieldLink RX8 210 "TallowHoursModel" "seen" "I" ∈ lw_tbl := tb3 (List.mem_of_getElem? (i := 203) rfl)
theorem mw29_16 : Cond.fieldLink RX8 210 "TallowHoursModel" "seen" "I" ∈ wsL_law := inr29 (List.mem_of_getElem? (i := 16) rfl)
theorem tw29_17 : Cond.methodLink RL 102 yX7_unsee ∈ lw_tbl := tb3 (List.mem_of_getElem? (i := 96) rfl)
theorem mw29_17 : Cond.methodLink RL 102 yX7_unsee ∈ wsL_law := inr29 (List.mem_of_getElem? (i := 17) rfl)
theorem tw29_18 : Cond.instanceMethod yX7_unsee ∈ lw_tbl := tb3 (List.mem_of_getElem? (i := 97) rfl)
theorem mw29_18 : Cond.instanceMethod yX7_unsee ∈ wsL_law := inr29 (List.mem_of_getElem? (i := 18) rfl)
theorem tw29_19 : Cond.selects RX7 yX7_unsee yX7_unsee ∈ lw_tbl := tb3 (List.mem_of_getElem? (i := 98) rfl)
theorem mw29_19 : Cond.selects RX7 yX7_unsee yX7_unsee ∈ wsL_law := inr29 (List.mem_of_getElem? (i := 19) rfl)
theorem tw29_20 : Cond.code yX7_unsee cX7_unsee 1 (some .int) ∈ lw_tbl := tb3 (List.mem_of_getElem? (i := 99) rfl)
theorem mw29_20 : Cond.code yX7_unsee cX7_unsee 1 (some .int) ∈ wsL_law := inr29 (List.mem_of_getElem? (i := 20) rfl)
theorem tw29_21 : Cond.methodLink RX7 256 yX1_clear ∈ lw_tbl := tb3 (List.mem_of_getElem? (i := 100) rfl)
theorem mw29_21 : Cond.methodLink RX7 256 yX1_clear ∈ wsL_law := inr29 (List.mem_of_getElem? (i := 21) rfl)
theorem tw29_22 : Cond.instanceMethod yX1_clear ∈ lw_tbl := tb3 (List.mem_of_getElem? (i := 101) rfl)
theorem mw29_22 : Cond.instanceMethod yX1_clear ∈ wsL_law := inr29 (List.mem_of_getElem? (i := 22) rfl)
theorem tw29_23 : Cond.selects RX1 yX1_clear yX1_clear ∈ lw_tbl := tb3 (List.mem_of_getElem? (i := 102) rfl)
theorem mw29_23 : Cond.selects RX1 yX1_clear yX1_clear ∈ wsL_law := inr29 (List.mem_of_getElem? (i := 23) rfl)
theorem gdr29 : GoodIn lw_tbl wsL_law_r29 := List.forall_mem_cons.mpr ⟨⟨tw29_0, Or.inl rfl⟩, List.forall_mem_cons.mpr ⟨⟨tw29_1, Or.inl rfl⟩, List.forall_mem_cons.mpr ⟨⟨tw29_2, Or.inl rfl⟩, List.forall_mem_cons.mpr ⟨⟨tw29_3, Or.inl rfl⟩, List.forall_mem_cons.mpr ⟨⟨tw29_4, Or.inl rfl⟩, List.forall_mem_cons.mpr ⟨⟨tw29_5, Or.inl rfl⟩, List.forall_mem_cons.mpr ⟨⟨tw29_6, Or.inl rfl⟩, List.forall_mem_cons.mpr ⟨⟨tw29_7, Or.inl rfl⟩, List.forall_mem_cons.mpr ⟨⟨tw29_8, Or.inl rfl⟩, List.forall_mem_cons.mpr ⟨⟨tw29_9, Or.inl rfl⟩, List.forall_mem_cons.mpr ⟨⟨tw29_10, Or.inl rfl⟩, List.forall_mem_cons.mpr ⟨⟨tw29_11, Or.inl rfl⟩, List.forall_mem_cons.mpr ⟨⟨tw29_12, Or.inl rfl⟩, List.forall_mem_cons.mpr ⟨⟨tw29_13, Or.inl rfl⟩, List.forall_mem_cons.mpr ⟨⟨tw29_14, Or.inl rfl⟩, List.forall_mem_cons.mpr ⟨⟨tw29_15, Or.inl rfl⟩, List.forall_mem_cons.mpr ⟨⟨tw29_16, Or.inl rfl⟩, List.forall_mem_cons.mpr ⟨⟨tw29_17, Or.inl rfl⟩, List.forall_mem_cons.mpr ⟨⟨tw29_18, Or.inl rfl⟩, List.forall_mem_cons.mpr ⟨⟨tw29_19, Or.inl rfl⟩, List.forall_mem_cons.mpr ⟨⟨tw29_20, Or.inl rfl⟩, List.forall_mem_cons.mpr ⟨⟨tw29_21, Or.inl rfl⟩, List.forall_mem_cons.mpr ⟨⟨tw29_22, Or.inl rfl⟩, List.forall_mem_cons.mpr ⟨⟨tw29_23, Or.inl rfl⟩, fun _ h => absurd h List.not_mem_nil⟩⟩⟩⟩⟩⟩⟩⟩⟩⟩⟩⟩⟩⟩⟩⟩⟩⟩⟩⟩⟩⟩⟩⟩
theorem tw30_0 : Cond.code yX1_clear cX1_clear 2 (some .int) ∈ lw_tbl := tb3 (List.mem_of_getElem? (i := 103) rfl)
theorem mw30_0 : Cond.code yX1_clear cX1_clear 2 (some .int) ∈ wsL_law := inr30 (List.mem_of_getElem? (i := 0) rfl)
theorem tw30_1 : Cond.methodLink RL 105 yX8_unsee ∈ lw_tbl := tb4 (List.mem_of_getElem? (i := 225) rfl)
theorem mw30_1 : Cond.methodLink RL 105 yX8_unsee ∈ wsL_law := inr30 (List.mem_of_getElem? (i := 1) rfl)
theorem tw30_2 : Cond.instanceMethod yX8_unsee ∈ lw_tbl := tb4 (List.mem_of_getElem? (i := 226) rfl)
theorem mw30_2 : Cond.instanceMethod yX8_unsee ∈ wsL_law := inr30 (List.mem_of_getElem? (i := 2) rfl)
theorem tw30_3 : Cond.selects RX8 yX8_unsee yX8_unsee ∈ lw_tbl := tb4 (List.mem_of_getElem? (i := 227) rfl)
theorem mw30_3 : Cond.selects RX8 yX8_unsee yX8_unsee ∈ wsL_law := inr30 (List.mem_of_getElem? (i := 3) rfl)
theorem tw30_4 : Cond.code yX8_unsee cX8_unsee 2 (some .int) ∈ lw_tbl := tb4 (List.mem_of_getElem? (i := 228) rfl)
theorem mw30_4 : Cond.code yX8_unsee cX8_unsee 2 (some .int) ∈ wsL_law := inr30 (List.mem_of_getElem? (i := 4) rfl)
theorem tw30_5 : Cond.methodLink RL 106 yX7_from ∈ lw_tbl := tb3 (List.mem_of_getElem? (i := 104) rfl)
theorem mw30_5 : Cond.methodLink RL 106 yX7_from ∈ wsL_law := inr30 (List.mem_of_getElem? (i := 5) rfl)
theorem tw30_6 : Cond.instanceMethod yX7_from ∈ lw_tbl := tb3 (List.mem_of_getElem? (i := 105) rfl)
theorem mw30_6 : Cond.instanceMethod yX7_from ∈ wsL_law := inr30 (List.mem_of_getElem? (i := 6) rfl)
theorem tw30_7 : Cond.selects RX7 yX7_from yX7_from ∈ lw_tbl := tb3 (List.mem_of_getElem? (i := 106) rfl)
theorem mw30_7 : Cond.selects RX7 yX7_from yX7_from ∈ wsL_law := inr30 (List.mem_of_getElem? (i := 7) rfl)
theorem tw30_8 : Cond.code yX7_from cX7_from 2 (some .int) ∈ lw_tbl := tb3 (List.mem_of_getElem? (i := 107) rfl)
theorem mw30_8 : Cond.code yX7_from cX7_from 2 (some .int) ∈ wsL_law := inr30 (List.mem_of_getElem? (i := 8) rfl)
theorem tw30_9 : Cond.methodLink RX7 257 yX1_origins ∈ lw_tbl := tb3 (List.mem_of_getElem? (i := 108) rfl)
theorem mw30_9 : Cond.methodLink RX7 257 yX1_origins ∈ wsL_law := inr30 (List.mem_of_getElem? (i := 9) rfl)
theorem tw30_10 : Cond.instanceMethod yX1_origins ∈ lw_tbl := tb3 (List.mem_of_getElem? (i := 109) rfl)
theorem mw30_10 : Cond.instanceMethod yX1_origins ∈ wsL_law := inr30 (List.mem_of_getElem? (i := 10) rfl)
theorem tw30_11 : Cond.selects RX1 yX1_origins yX1_origins ∈ lw_tbl := tb3 (List.mem_of_getElem? (i := 110) rfl)
theorem mw30_11 : Cond.selects RX1 yX1_origins yX1_origins ∈ wsL_law := inr30 (List.mem_of_getElem? (i := 11) rfl)
theorem tw30_12 : Cond.code yX1_origins cX1_origins 5 (some .int) ∈ lw_tbl := tb3 (List.mem_of_getElem? (i := 111) rfl)
theorem mw30_12 : Cond.code yX1_origins cX1_origins 5 (some .int) ∈ wsL_law := inr30 (List.mem_of_getElem? (i := 12) rfl)
theorem tw30_13 : Cond.fieldLink RX1 19 "TallowHours$Party" "moments" "I" ∈ lw_tbl := tb1 (List.mem_of_getElem? (i := 202) rfl)
theorem mw30_13 : Cond.fieldLink RX1 19 "TallowHours$Party" "moments" "I" ∈ wsL_law := inr30 (List.mem_of_getElem? (i := 13) rfl)
theorem tw30_14 : Cond.methodLink RX1 24 yX1_canBeFrom ∈ lw_tbl := tb3 (List.mem_of_getElem? (i := 112) rfl)
theorem mw30_14 : Cond.methodLink RX1 24 yX1_canBeFrom ∈ wsL_law := inr30 (List.mem_of_getElem? (i := 14) rfl)
theorem tw30_15 : Cond.instanceMethod yX1_canBeFrom ∈ lw_tbl := tb3 (List.mem_of_getElem? (i := 114) rfl)
theorem mw30_15 : Cond.instanceMethod yX1_canBeFrom ∈ wsL_law := inr30 (List.mem_of_getElem? (i := 15) rfl)
theorem tw30_16 : Cond.selects RX1 yX1_canBeFrom yX1_canBeFrom ∈ lw_tbl := List.mem_append_left _ (List.mem_of_getElem? (i := 19) rfl)
theorem mw30_16 : Cond.selects RX1 yX1_canBeFrom yX1_canBeFrom ∈ wsL_law := inr30 (List.mem_of_getElem? (i := 16) rfl)
theorem tw30_17 : Cond.code yX1_canBeFrom cX1_canBeFrom 4 (some .boolean) ∈ lw_tbl := tb3 (List.mem_of_getElem? (i := 115) rfl)
theorem mw30_17 : Cond.code yX1_canBeFrom cX1_canBeFrom 4 (some .boolean) ∈ wsL_law := inr30 (List.mem_of_getElem? (i := 17) rfl)
theorem tw30_18 : Cond.methodLink RX1 28 yX3_giftAt ∈ lw_tbl := tb3 (List.mem_of_getElem? (i := 116) rfl)
theorem mw30_18 : Cond.methodLink RX1 28 yX3_giftAt ∈ wsL_law := inr30 (List.mem_of_getElem? (i := 18) rfl)
theorem tw30_19 : Cond.methodLink RL 109 yX8_from ∈ lw_tbl := tb4 (List.mem_of_getElem? (i := 229) rfl)
theorem mw30_19 : Cond.methodLink RL 109 yX8_from ∈ wsL_law := inr30 (List.mem_of_getElem? (i := 19) rfl)
theorem tw30_20 : Cond.instanceMethod yX8_from ∈ lw_tbl := tb4 (List.mem_of_getElem? (i := 230) rfl)
theorem mw30_20 : Cond.instanceMethod yX8_from ∈ wsL_law := inr30 (List.mem_of_getElem? (i := 20) rfl)
theorem tw30_21 : Cond.selects RX8 yX8_from yX8_from ∈ lw_tbl := tb4 (List.mem_of_getElem? (i := 231) rfl)
theorem mw30_21 : Cond.selects RX8 yX8_from yX8_from ∈ wsL_law := inr30 (List.mem_of_getElem? (i := 21) rfl)
theorem tw30_22 : Cond.code yX8_from cX8_from 2 (some .int) ∈ lw_tbl := tb4 (List.mem_of_getElem? (i := 232) rfl)
theorem mw30_22 : Cond.code yX8_from cX8_from 2 (some .int) ∈ wsL_law := inr30 (List.mem_of_getElem? (i := 22) rfl)
theorem tw30_23 : Cond.constantLong RX8 213 (6) ∈ lw_tbl := tb4 (List.mem_of_getElem? (i := 233) rfl)
theorem mw30_23 : Cond.constantLong RX8 213 (6) ∈ wsL_law := inr30 (List.mem_of_getElem? (i := 23) rfl)
theorem gdr30 : GoodIn lw_tbl wsL_law_r30 := List.forall_mem_cons.mpr ⟨⟨tw30_0, Or.inl rfl⟩, List.forall_mem_cons.mpr ⟨⟨tw30_1, Or.inl rfl⟩, List.forall_mem_cons.mpr ⟨⟨tw30_2, Or.inl rfl⟩, List.forall_mem_cons.mpr ⟨⟨tw30_3, Or.inl rfl⟩, List.forall_mem_cons.mpr ⟨⟨tw30_4, Or.inl rfl⟩, List.forall_mem_cons.mpr ⟨⟨tw30_5, Or.inl rfl⟩, List.forall_mem_cons.mpr ⟨⟨tw30_6, Or.inl rfl⟩, List.forall_mem_cons.mpr ⟨⟨tw30_7, Or.inl rfl⟩, List.forall_mem_cons.mpr ⟨⟨tw30_8, Or.inl rfl⟩, List.forall_mem_cons.mpr ⟨⟨tw30_9, Or.inl rfl⟩, List.forall_mem_cons.mpr ⟨⟨tw30_10, Or.inl rfl⟩, List.forall_mem_cons.mpr ⟨⟨tw30_11, Or.inl rfl⟩, List.forall_mem_cons.mpr ⟨⟨tw30_12, Or.inl rfl⟩, List.forall_mem_cons.mpr ⟨⟨tw30_13, Or.inl rfl⟩, List.forall_mem_cons.mpr ⟨⟨tw30_14, Or.inl rfl⟩, List.forall_mem_cons.mpr ⟨⟨tw30_15, Or.inl rfl⟩, List.forall_mem_cons.mpr ⟨⟨tw30_16, Or.inl rfl⟩, List.forall_mem_cons.mpr ⟨⟨tw30_17, Or.inl rfl⟩, List.forall_mem_cons.mpr ⟨⟨tw30_18, Or.inl rfl⟩, List.forall_mem_cons.mpr ⟨⟨tw30_19, Or.inl rfl⟩, List.forall_mem_cons.mpr ⟨⟨tw30_20, Or.inl rfl⟩, List.forall_mem_cons.mpr ⟨⟨tw30_21, Or.inl rfl⟩, List.forall_mem_cons.mpr ⟨⟨tw30_22, Or.inl rfl⟩, List.forall_mem_cons.mpr ⟨⟨tw30_23, Or.inl rfl⟩, fun _ h => absurd h List.not_mem_nil⟩⟩⟩⟩⟩⟩⟩⟩⟩⟩⟩⟩⟩⟩⟩⟩⟩⟩⟩⟩⟩⟩⟩⟩
theorem tw31_0 : Cond.methodLink RX8 215 yX8_fromOf ∈ lw_tbl := tb4 (List.mem_of_getElem? (i := 234) rfl)
theorem mw31_0 : Cond.methodLink RX8 215 yX8_fromOf ∈ wsL_law := inr31 (List.mem_of_getElem? (i := 0) rfl)
theorem tw31_1 : Cond.instanceMethod yX8_fromOf ∈ lw_tbl := tb4 (List.mem_of_getElem? (i := 236) rfl)
theorem mw31_1 : Cond.instanceMethod yX8_fromOf ∈ wsL_law := inr31 (List.mem_of_getElem? (i := 1) rfl)
theorem tw31_2 : Cond.selects RX8 yX8_fromOf yX8_fromOf ∈ lw_tbl := List.mem_append_left _ (List.mem_of_getElem? (i := 38) rfl)
theorem mw31_2 : Cond.selects RX8 yX8_fromOf yX8_fromOf ∈ wsL_law := inr31 (List.mem_of_getElem? (i := 2) rfl)
theorem tw31_3 : Cond.code yX8_fromOf cX8_fromOf 6 (some .int) ∈ lw_tbl := tb4 (List.mem_of_getElem? (i := 237) rfl)
theorem mw31_3 : Cond.code yX8_fromOf cX8_fromOf 6 (some .int) ∈ wsL_law := inr31 (List.mem_of_getElem? (i := 3) rfl)
theorem tw31_4 : Cond.methodLink RL 110 yX7_next ∈ lw_tbl := tb3 (List.mem_of_getElem? (i := 117) rfl)
theorem mw31_4 : Cond.methodLink RL 110 yX7_next ∈ wsL_law := inr31 (List.mem_of_getElem? (i := 4) rfl)
theorem tw31_5 : Cond.instanceMethod yX7_next ∈ lw_tbl := tb3 (List.mem_of_getElem? (i := 118) rfl)
theorem mw31_5 : Cond.instanceMethod yX7_next ∈ wsL_law := inr31 (List.mem_of_getElem? (i := 5) rfl)
theorem tw31_6 : Cond.selects RX7 yX7_next yX7_next ∈ lw_tbl := tb3 (List.mem_of_getElem? (i := 119) rfl)
theorem mw31_6 : Cond.selects RX7 yX7_next yX7_next ∈ wsL_law := inr31 (List.mem_of_getElem? (i := 6) rfl)
theorem tw31_7 : Cond.code yX7_next cX7_next 7 (some .int) ∈ lw_tbl := tb3 (List.mem_of_getElem? (i := 120) rfl)
theorem mw31_7 : Cond.code yX7_next cX7_next 7 (some .int) ∈ wsL_law := inr31 (List.mem_of_getElem? (i := 7) rfl)
theorem tw31_8 : Cond.fieldLink RX7 260 "TallowHours$Box" "size" "I" ∈ lw_tbl := tb1 (List.mem_of_getElem? (i := 144) rfl)
theorem mw31_8 : Cond.fieldLink RX7 260 "TallowHours$Box" "size" "I" ∈ wsL_law := inr31 (List.mem_of_getElem? (i := 8) rfl)
theorem tw31_9 : Cond.methodLink RL 113 yX8_next ∈ lw_tbl := tb4 (List.mem_of_getElem? (i := 238) rfl)
theorem mw31_9 : Cond.methodLink RL 113 yX8_next ∈ wsL_law := inr31 (List.mem_of_getElem? (i := 9) rfl)
theorem tw31_10 : Cond.instanceMethod yX8_next ∈ lw_tbl := tb4 (List.mem_of_getElem? (i := 239) rfl)
theorem mw31_10 : Cond.instanceMethod yX8_next ∈ wsL_law := inr31 (List.mem_of_getElem? (i := 10) rfl)
theorem tw31_11 : Cond.selects RX8 yX8_next yX8_next ∈ lw_tbl := tb5 (List.mem_of_getElem? (i := 0) rfl)
theorem mw31_11 : Cond.selects RX8 yX8_next yX8_next ∈ wsL_law := inr31 (List.mem_of_getElem? (i := 11) rfl)
theorem tw31_12 : Cond.code yX8_next cX8_next 8 (some .int) ∈ lw_tbl := tb5 (List.mem_of_getElem? (i := 1) rfl)
theorem mw31_12 : Cond.code yX8_next cX8_next 8 (some .int) ∈ wsL_law := inr31 (List.mem_of_getElem? (i := 12) rfl)
theorem tw31_13 : Cond.methodLink RL 114 yX7_cut ∈ lw_tbl := tb3 (List.mem_of_getElem? (i := 121) rfl)
theorem mw31_13 : Cond.methodLink RL 114 yX7_cut ∈ wsL_law := inr31 (List.mem_of_getElem? (i := 13) rfl)
theorem tw31_14 : Cond.instanceMethod yX7_cut ∈ lw_tbl := tb3 (List.mem_of_getElem? (i := 122) rfl)
theorem mw31_14 : Cond.instanceMethod yX7_cut ∈ wsL_law := inr31 (List.mem_of_getElem? (i := 14) rfl)
theorem tw31_15 : Cond.selects RX7 yX7_cut yX7_cut ∈ lw_tbl := tb3 (List.mem_of_getElem? (i := 123) rfl)
theorem mw31_15 : Cond.selects RX7 yX7_cut yX7_cut ∈ wsL_law := inr31 (List.mem_of_getElem? (i := 15) rfl)
theorem tw31_16 : Cond.code yX7_cut cX7_cut 7 (some .int) ∈ lw_tbl := tb3 (List.mem_of_getElem? (i := 124) rfl)
theorem mw31_16 : Cond.code yX7_cut cX7_cut 7 (some .int) ∈ wsL_law := inr31 (List.mem_of_getElem? (i := 16) rfl)
theorem tw31_17 : Cond.methodLink RX7 261 yX5_fewest ∈ lw_tbl := tb3 (List.mem_of_getElem? (i := 125) rfl)
theorem mw31_17 : Cond.methodLink RX7 261 yX5_fewest ∈ wsL_law := inr31 (List.mem_of_getElem? (i := 17) rfl)
theorem tw31_18 : Cond.instanceMethod yX5_fewest ∈ lw_tbl := tb3 (List.mem_of_getElem? (i := 126) rfl)
theorem mw31_18 : Cond.instanceMethod yX5_fewest ∈ wsL_law := inr31 (List.mem_of_getElem? (i := 18) rfl)
theorem tw31_19 : Cond.selects RX5 yX5_fewest yX5_fewest ∈ lw_tbl := tb3 (List.mem_of_getElem? (i := 127) rfl)
theorem mw31_19 : Cond.selects RX5 yX5_fewest yX5_fewest ∈ wsL_law := inr31 (List.mem_of_getElem? (i := 19) rfl)
theorem tw31_20 : Cond.code yX5_fewest cX5_fewest 8 (some .int) ∈ lw_tbl := tb3 (List.mem_of_getElem? (i := 128) rfl)
theorem mw31_20 : Cond.code yX5_fewest cX5_fewest 8 (some .int) ∈ wsL_law := inr31 (List.mem_of_getElem? (i := 20) rfl)
theorem tw31_21 : Cond.constant RX5 15 (1000000) ∈ lw_tbl := tb3 (List.mem_of_getElem? (i := 129) rfl)
theorem mw31_21 : Cond.constant RX5 15 (1000000) ∈ wsL_law := inr31 (List.mem_of_getElem? (i := 21) rfl)
theorem tw31_22 : Cond.methodLink RX5 23 Lib.Math.min.name ∈ lw_tbl := tb3 (List.mem_of_getElem? (i := 134) rfl)
theorem mw31_22 : Cond.methodLink RX5 23 Lib.Math.min.name ∈ wsL_law := inr31 (List.mem_of_getElem? (i := 22) rfl)
theorem tw31_23 : Cond.methodLink RX5 20 yX5_withOrder ∈ lw_tbl := tb3 (List.mem_of_getElem? (i := 131) rfl)
theorem mw31_23 : Cond.methodLink RX5 20 yX5_withOrder ∈ wsL_law := inr31 (List.mem_of_getElem? (i := 23) rfl)
theorem gdr31 : GoodIn lw_tbl wsL_law_r31 := List.forall_mem_cons.mpr ⟨⟨tw31_0, Or.inl rfl⟩, List.forall_mem_cons.mpr ⟨⟨tw31_1, Or.inl rfl⟩, List.forall_mem_cons.mpr ⟨⟨tw31_2, Or.inl rfl⟩, List.forall_mem_cons.mpr ⟨⟨tw31_3, Or.inl rfl⟩, List.forall_mem_cons.mpr ⟨⟨tw31_4, Or.inl rfl⟩, List.forall_mem_cons.mpr ⟨⟨tw31_5, Or.inl rfl⟩, List.forall_mem_cons.mpr ⟨⟨tw31_6, Or.inl rfl⟩, List.forall_mem_cons.mpr ⟨⟨tw31_7, Or.inl rfl⟩, List.forall_mem_cons.mpr ⟨⟨tw31_8, Or.inl rfl⟩, List.forall_mem_cons.mpr ⟨⟨tw31_9, Or.inl rfl⟩, List.forall_mem_cons.mpr ⟨⟨tw31_10, Or.inl rfl⟩, List.forall_mem_cons.mpr ⟨⟨tw31_11, Or.inl rfl⟩, List.forall_mem_cons.mpr ⟨⟨tw31_12, Or.inl rfl⟩, List.forall_mem_cons.mpr ⟨⟨tw31_13, Or.inl rfl⟩, List.forall_mem_cons.mpr ⟨⟨tw31_14, Or.inl rfl⟩, List.forall_mem_cons.mpr ⟨⟨tw31_15, Or.inl rfl⟩, List.forall_mem_cons.mpr ⟨⟨tw31_16, Or.inl rfl⟩, List.forall_mem_cons.mpr ⟨⟨tw31_17, Or.inl rfl⟩, List.forall_mem_cons.mpr ⟨⟨tw31_18, Or.inl rfl⟩, List.forall_mem_cons.mpr ⟨⟨tw31_19, Or.inl rfl⟩, List.forall_mem_cons.mpr ⟨⟨tw31_20, Or.inl rfl⟩, List.forall_mem_cons.mpr ⟨⟨tw31_21, Or.inl rfl⟩, List.forall_mem_cons.mpr ⟨⟨tw31_22, Or.inl rfl⟩, List.forall_mem_cons.mpr ⟨⟨tw31_23, Or.inl rfl⟩, fun _ h => absurd h List.not_mem_nil⟩⟩⟩⟩⟩⟩⟩⟩⟩⟩⟩⟩⟩⟩⟩⟩⟩⟩⟩⟩⟩⟩⟩⟩
theorem tw32_0 : Cond.static yX5_withOrder ∈ lw_tbl := tb3 (List.mem_of_getElem? (i := 132) rfl)
theorem mw32_0 : Cond.static yX5_withOrder ∈ wsL_law := inr32 (List.mem_of_getElem? (i := 0) rfl)
theorem tw32_1 : Cond.code yX5_withOrder cX5_withOrder 4 (some .int) ∈ lw_tbl := tb3 (List.mem_of_getElem? (i := 133) rfl)
theorem mw32_1 : Cond.code yX5_withOrder cX5_withOrder 4 (some .int) ∈ wsL_law := inr32 (List.mem_of_getElem? (i := 1) rfl)
theorem tw32_2 : Cond.methodLink RL 118 yX8_cut ∈ lw_tbl := tb5 (List.mem_of_getElem? (i := 2) rfl)
theorem mw32_2 : Cond.methodLink RL 118 yX8_cut ∈ wsL_law := inr32 (List.mem_of_getElem? (i := 2) rfl)
theorem tw32_3 : Cond.instanceMethod yX8_cut ∈ lw_tbl := tb5 (List.mem_of_getElem? (i := 3) rfl)
theorem mw32_3 : Cond.instanceMethod yX8_cut ∈ wsL_law := inr32 (List.mem_of_getElem? (i := 3) rfl)
theorem tw32_4 : Cond.selects RX8 yX8_cut yX8_cut ∈ lw_tbl := tb5 (List.mem_of_getElem? (i := 4) rfl)
theorem mw32_4 : Cond.selects RX8 yX8_cut yX8_cut ∈ wsL_law := inr32 (List.mem_of_getElem? (i := 4) rfl)
theorem tw32_5 : Cond.code yX8_cut cX8_cut 7 (some .int) ∈ lw_tbl := tb5 (List.mem_of_getElem? (i := 5) rfl)
theorem mw32_5 : Cond.code yX8_cut cX8_cut 7 (some .int) ∈ wsL_law := inr32 (List.mem_of_getElem? (i := 5) rfl)
theorem tw32_6 : Cond.constantLong RX8 218 (30) ∈ lw_tbl := tb5 (List.mem_of_getElem? (i := 6) rfl)
theorem mw32_6 : Cond.constantLong RX8 218 (30) ∈ wsL_law := inr32 (List.mem_of_getElem? (i := 6) rfl)
theorem tw32_7 : Cond.methodLink RX8 220 yX8_sum ∈ lw_tbl := tb5 (List.mem_of_getElem? (i := 7) rfl)
theorem mw32_7 : Cond.methodLink RX8 220 yX8_sum ∈ wsL_law := inr32 (List.mem_of_getElem? (i := 7) rfl)
theorem tw32_8 : Cond.static yX8_sum ∈ lw_tbl := tb5 (List.mem_of_getElem? (i := 8) rfl)
theorem mw32_8 : Cond.static yX8_sum ∈ wsL_law := inr32 (List.mem_of_getElem? (i := 8) rfl)
theorem tw32_9 : Cond.code yX8_sum cX8_sum 5 (some .int) ∈ lw_tbl := tb5 (List.mem_of_getElem? (i := 9) rfl)
theorem mw32_9 : Cond.code yX8_sum cX8_sum 5 (some .int) ∈ wsL_law := inr32 (List.mem_of_getElem? (i := 9) rfl)
theorem tw32_10 : Cond.methodLink RL 119 yX7_draught ∈ lw_tbl := tb3 (List.mem_of_getElem? (i := 135) rfl)
theorem mw32_10 : Cond.methodLink RL 119 yX7_draught ∈ wsL_law := inr32 (List.mem_of_getElem? (i := 10) rfl)
theorem tw32_11 : Cond.instanceMethod yX7_draught ∈ lw_tbl := tb3 (List.mem_of_getElem? (i := 136) rfl)
theorem mw32_11 : Cond.instanceMethod yX7_draught ∈ wsL_law := inr32 (List.mem_of_getElem? (i := 11) rfl)
theorem tw32_12 : Cond.selects RX7 yX7_draught yX7_draught ∈ lw_tbl := tb3 (List.mem_of_getElem? (i := 137) rfl)
theorem mw32_12 : Cond.selects RX7 yX7_draught yX7_draught ∈ wsL_law := inr32 (List.mem_of_getElem? (i := 12) rfl)
theorem tw32_13 : Cond.code yX7_draught cX7_draught 8 (some .int) ∈ lw_tbl := tb3 (List.mem_of_getElem? (i := 138) rfl)
theorem mw32_13 : Cond.code yX7_draught cX7_draught 8 (some .int) ∈ wsL_law := inr32 (List.mem_of_getElem? (i := 13) rfl)
theorem tw32_14 : Cond.methodLink RL 123 yX8_draught ∈ lw_tbl := tb5 (List.mem_of_getElem? (i := 10) rfl)
theorem mw32_14 : Cond.methodLink RL 123 yX8_draught ∈ wsL_law := inr32 (List.mem_of_getElem? (i := 14) rfl)
theorem tw32_15 : Cond.instanceMethod yX8_draught ∈ lw_tbl := tb5 (List.mem_of_getElem? (i := 11) rfl)
theorem mw32_15 : Cond.instanceMethod yX8_draught ∈ wsL_law := inr32 (List.mem_of_getElem? (i := 15) rfl)
theorem tw32_16 : Cond.selects RX8 yX8_draught yX8_draught ∈ lw_tbl := tb5 (List.mem_of_getElem? (i := 12) rfl)
theorem mw32_16 : Cond.selects RX8 yX8_draught yX8_draught ∈ wsL_law := inr32 (List.mem_of_getElem? (i := 16) rfl)
theorem tw32_17 : Cond.code yX8_draught cX8_draught 8 (some .int) ∈ lw_tbl := tb5 (List.mem_of_getElem? (i := 13) rfl)
theorem mw32_17 : Cond.code yX8_draught cX8_draught 8 (some .int) ∈ wsL_law := inr32 (List.mem_of_getElem? (i := 17) rfl)
theorem tw32_18 : Cond.constantLong RX8 223 (10) ∈ lw_tbl := tb5 (List.mem_of_getElem? (i := 14) rfl)
theorem mw32_18 : Cond.constantLong RX8 223 (10) ∈ wsL_law := inr32 (List.mem_of_getElem? (i := 18) rfl)
theorem tw32_19 : Cond.methodLink RL 126 yX7_seed ∈ lw_tbl := tb3 (List.mem_of_getElem? (i := 139) rfl)
theorem mw32_19 : Cond.methodLink RL 126 yX7_seed ∈ wsL_law := inr32 (List.mem_of_getElem? (i := 19) rfl)
theorem tw32_20 : Cond.instanceMethod yX7_seed ∈ lw_tbl := tb3 (List.mem_of_getElem? (i := 140) rfl)
theorem mw32_20 : Cond.instanceMethod yX7_seed ∈ wsL_law := inr32 (List.mem_of_getElem? (i := 20) rfl)
theorem tw32_21 : Cond.selects RX7 yX7_seed yX7_seed ∈ lw_tbl := tb3 (List.mem_of_getElem? (i := 141) rfl)
theorem mw32_21 : Cond.selects RX7 yX7_seed yX7_seed ∈ wsL_law := inr32 (List.mem_of_getElem? (i := 21) rfl)
theorem tw32_22 : Cond.code yX7_seed cX7_seed 5 (some .long) ∈ lw_tbl := tb3 (List.mem_of_getElem? (i := 142) rfl)
theorem mw32_22 : Cond.code yX7_seed cX7_seed 5 (some .long) ∈ wsL_law := inr32 (List.mem_of_getElem? (i := 22) rfl)
theorem tw32_23 : Cond.methodLink RL 130 yX8_seed ∈ lw_tbl := tb5 (List.mem_of_getElem? (i := 15) rfl)
theorem mw32_23 : Cond.methodLink RL 130 yX8_seed ∈ wsL_law := inr32 (List.mem_of_getElem? (i := 23) rfl)
theorem gdr32 : GoodIn lw_tbl wsL_law_r32 := List.forall_mem_cons.mpr ⟨⟨tw32_0, Or.inl rfl⟩, List.forall_mem_cons.mpr ⟨⟨tw32_1, Or.inl rfl⟩, List.forall_mem_cons.mpr ⟨⟨tw32_2, Or.inl rfl⟩, List.forall_mem_cons.mpr ⟨⟨tw32_3, Or.inl rfl⟩, List.forall_mem_cons.mpr ⟨⟨tw32_4, Or.inl rfl⟩, List.forall_mem_cons.mpr ⟨⟨tw32_5, Or.inl rfl⟩, List.forall_mem_cons.mpr ⟨⟨tw32_6, Or.inl rfl⟩, List.forall_mem_cons.mpr ⟨⟨tw32_7, Or.inl rfl⟩, List.forall_mem_cons.mpr ⟨⟨tw32_8, Or.inl rfl⟩, List.forall_mem_cons.mpr ⟨⟨tw32_9, Or.inl rfl⟩, List.forall_mem_cons.mpr ⟨⟨tw32_10, Or.inl rfl⟩, List.forall_mem_cons.mpr ⟨⟨tw32_11, Or.inl rfl⟩, List.forall_mem_cons.mpr ⟨⟨tw32_12, Or.inl rfl⟩, List.forall_mem_cons.mpr ⟨⟨tw32_13, Or.inl rfl⟩, List.forall_mem_cons.mpr ⟨⟨tw32_14, Or.inl rfl⟩, List.forall_mem_cons.mpr ⟨⟨tw32_15, Or.inl rfl⟩, List.forall_mem_cons.mpr ⟨⟨tw32_16, Or.inl rfl⟩, List.forall_mem_cons.mpr ⟨⟨tw32_17, Or.inl rfl⟩, List.forall_mem_cons.mpr ⟨⟨tw32_18, Or.inl rfl⟩, List.forall_mem_cons.mpr ⟨⟨tw32_19, Or.inl rfl⟩, List.forall_mem_cons.mpr ⟨⟨tw32_20, Or.inl rfl⟩, List.forall_mem_cons.mpr ⟨⟨tw32_21, Or.inl rfl⟩, List.forall_mem_cons.mpr ⟨⟨tw32_22, Or.inl rfl⟩, List.forall_mem_cons.mpr ⟨⟨tw32_23, Or.inl rfl⟩, fun _ h => absurd h List.not_mem_nil⟩⟩⟩⟩⟩⟩⟩⟩⟩⟩⟩⟩⟩⟩⟩⟩⟩⟩⟩⟩⟩⟩⟩⟩
theorem tw33_0 : Cond.instanceMethod yX8_seed ∈ lw_tbl := tb5 (List.mem_of_getElem? (i := 16) rfl)
theorem mw33_0 : Cond.instanceMethod yX8_seed ∈ wsL_law := inr33 (List.mem_of_getElem? (i := 0) rfl)
theorem tw33_1 : Cond.selects RX8 yX8_seed yX8_seed ∈ lw_tbl := tb5 (List.mem_of_getElem? (i := 17) rfl)
theorem mw33_1 : Cond.selects RX8 yX8_seed yX8_seed ∈ wsL_law := inr33 (List.mem_of_getElem? (i := 1) rfl)
theorem tw33_2 : Cond.code yX8_seed cX8_seed 5 (some .long) ∈ lw_tbl := tb5 (List.mem_of_getElem? (i := 18) rfl)
theorem mw33_2 : Cond.code yX8_seed cX8_seed 5 (some .long) ∈ wsL_law := inr33 (List.mem_of_getElem? (i := 2) rfl)
theorem tw33_3 : Cond.fieldLink RX8 225 "TallowHoursModel" "seed" "J" ∈ lw_tbl := tb3 (List.mem_of_getElem? (i := 206) rfl)
theorem mw33_3 : Cond.fieldLink RX8 225 "TallowHoursModel" "seed" "J" ∈ wsL_law := inr33 (List.mem_of_getElem? (i := 3) rfl)
theorem tw33_4 : Cond.methodLink RL 131 yX7_night ∈ lw_tbl := tb3 (List.mem_of_getElem? (i := 143) rfl)
theorem mw33_4 : Cond.methodLink RL 131 yX7_night ∈ wsL_law := inr33 (List.mem_of_getElem? (i := 4) rfl)
theorem tw33_5 : Cond.instanceMethod yX7_night ∈ lw_tbl := tb3 (List.mem_of_getElem? (i := 144) rfl)
theorem mw33_5 : Cond.instanceMethod yX7_night ∈ wsL_law := inr33 (List.mem_of_getElem? (i := 5) rfl)
theorem tw33_6 : Cond.selects RX7 yX7_night yX7_night ∈ lw_tbl := tb3 (List.mem_of_getElem? (i := 145) rfl)
theorem mw33_6 : Cond.selects RX7 yX7_night yX7_night ∈ wsL_law := inr33 (List.mem_of_getElem? (i := 6) rfl)
theorem tw33_7 : Cond.code yX7_night cX7_night 4 (some .int) ∈ lw_tbl := tb3 (List.mem_of_getElem? (i := 146) rfl)
theorem mw33_7 : Cond.code yX7_night cX7_night 4 (some .int) ∈ wsL_law := inr33 (List.mem_of_getElem? (i := 7) rfl)
theorem tw33_8 : Cond.constantLong RX7 264 (6364136223846793005) ∈ lw_tbl := tb3 (List.mem_of_getElem? (i := 147) rfl)
theorem mw33_8 : Cond.constantLong RX7 264 (6364136223846793005) ∈ wsL_law := inr33 (List.mem_of_getElem? (i := 8) rfl)
theorem tw33_9 : Cond.constantLong RX7 266 (1442695040888963407) ∈ lw_tbl := tb3 (List.mem_of_getElem? (i := 148) rfl)
theorem mw33_9 : Cond.constantLong RX7 266 (1442695040888963407) ∈ wsL_law := inr33 (List.mem_of_getElem? (i := 9) rfl)
theorem tw33_10 : Cond.constantLong RX7 268 (4) ∈ lw_tbl := tb3 (List.mem_of_getElem? (i := 149) rfl)
theorem mw33_10 : Cond.constantLong RX7 268 (4) ∈ wsL_law := inr33 (List.mem_of_getElem? (i := 10) rfl)
theorem tw33_11 : Cond.methodLink RL 134 yX8_night ∈ lw_tbl := tb5 (List.mem_of_getElem? (i := 19) rfl)
theorem mw33_11 : Cond.methodLink RL 134 yX8_night ∈ wsL_law := inr33 (List.mem_of_getElem? (i := 11) rfl)
theorem tw33_12 : Cond.instanceMethod yX8_night ∈ lw_tbl := tb5 (List.mem_of_getElem? (i := 20) rfl)
theorem mw33_12 : Cond.instanceMethod yX8_night ∈ wsL_law := inr33 (List.mem_of_getElem? (i := 12) rfl)
theorem tw33_13 : Cond.selects RX8 yX8_night yX8_night ∈ lw_tbl := tb5 (List.mem_of_getElem? (i := 21) rfl)
theorem mw33_13 : Cond.selects RX8 yX8_night yX8_night ∈ wsL_law := inr33 (List.mem_of_getElem? (i := 13) rfl)
theorem tw33_14 : Cond.code yX8_night cX8_night 4 (some .int) ∈ lw_tbl := tb5 (List.mem_of_getElem? (i := 22) rfl)
theorem mw33_14 : Cond.code yX8_night cX8_night 4 (some .int) ∈ wsL_law := inr33 (List.mem_of_getElem? (i := 14) rfl)
theorem tw33_15 : Cond.constantLong RX8 229 (20) ∈ lw_tbl := tb5 (List.mem_of_getElem? (i := 23) rfl)
theorem mw33_15 : Cond.constantLong RX8 229 (20) ∈ wsL_law := inr33 (List.mem_of_getElem? (i := 15) rfl)
theorem tw33_16 : Cond.constantLong RX8 231 (6364136223846793005) ∈ lw_tbl := tb5 (List.mem_of_getElem? (i := 24) rfl)
theorem mw33_16 : Cond.constantLong RX8 231 (6364136223846793005) ∈ wsL_law := inr33 (List.mem_of_getElem? (i := 16) rfl)
theorem tw33_17 : Cond.constantLong RX8 233 (1442695040888963407) ∈ lw_tbl := tb5 (List.mem_of_getElem? (i := 25) rfl)
theorem mw33_17 : Cond.constantLong RX8 233 (1442695040888963407) ∈ wsL_law := inr33 (List.mem_of_getElem? (i := 17) rfl)
theorem tw33_18 : Cond.methodLink RL 135 yX7_keep ∈ lw_tbl := tb3 (List.mem_of_getElem? (i := 150) rfl)
theorem mw33_18 : Cond.methodLink RL 135 yX7_keep ∈ wsL_law := inr33 (List.mem_of_getElem? (i := 18) rfl)
theorem tw33_19 : Cond.instanceMethod yX7_keep ∈ lw_tbl := tb3 (List.mem_of_getElem? (i := 151) rfl)
theorem mw33_19 : Cond.instanceMethod yX7_keep ∈ wsL_law := inr33 (List.mem_of_getElem? (i := 19) rfl)
theorem tw33_20 : Cond.selects RX7 yX7_keep yX7_keep ∈ lw_tbl := tb3 (List.mem_of_getElem? (i := 152) rfl)
theorem mw33_20 : Cond.selects RX7 yX7_keep yX7_keep ∈ wsL_law := inr33 (List.mem_of_getElem? (i := 20) rfl)
theorem tw33_21 : Cond.code yX7_keep cX7_keep 2 (some .int) ∈ lw_tbl := tb3 (List.mem_of_getElem? (i := 153) rfl)
theorem mw33_21 : Cond.code yX7_keep cX7_keep 2 (some .int) ∈ wsL_law := inr33 (List.mem_of_getElem? (i := 21) rfl)
theorem tw33_22 : Cond.methodLink RX7 270 yX2_saveTo ∈ lw_tbl := tb3 (List.mem_of_getElem? (i := 154) rfl)
theorem mw33_22 : Cond.methodLink RX7 270 yX2_saveTo ∈ wsL_law := inr33 (List.mem_of_getElem? (i := 22) rfl)
theorem tw33_23 : Cond.methodLink RL 138 yX8_keep ∈ lw_tbl := tb5 (List.mem_of_getElem? (i := 26) rfl)
theorem mw33_23 : Cond.methodLink RL 138 yX8_keep ∈ wsL_law := inr33 (List.mem_of_getElem? (i := 23) rfl)
theorem gdr33 : GoodIn lw_tbl wsL_law_r33 := List.forall_mem_cons.mpr ⟨⟨tw33_0, Or.inl rfl⟩, List.forall_mem_cons.mpr ⟨⟨tw33_1, Or.inl rfl⟩, List.forall_mem_cons.mpr ⟨⟨tw33_2, Or.inl rfl⟩, List.forall_mem_cons.mpr ⟨⟨tw33_3, Or.inl rfl⟩, List.forall_mem_cons.mpr ⟨⟨tw33_4, Or.inl rfl⟩, List.forall_mem_cons.mpr ⟨⟨tw33_5, Or.inl rfl⟩, List.forall_mem_cons.mpr ⟨⟨tw33_6, Or.inl rfl⟩, List.forall_mem_cons.mpr ⟨⟨tw33_7, Or.inl rfl⟩, List.forall_mem_cons.mpr ⟨⟨tw33_8, Or.inl rfl⟩, List.forall_mem_cons.mpr ⟨⟨tw33_9, Or.inl rfl⟩, List.forall_mem_cons.mpr ⟨⟨tw33_10, Or.inl rfl⟩, List.forall_mem_cons.mpr ⟨⟨tw33_11, Or.inl rfl⟩, List.forall_mem_cons.mpr ⟨⟨tw33_12, Or.inl rfl⟩, List.forall_mem_cons.mpr ⟨⟨tw33_13, Or.inl rfl⟩, List.forall_mem_cons.mpr ⟨⟨tw33_14, Or.inl rfl⟩, List.forall_mem_cons.mpr ⟨⟨tw33_15, Or.inl rfl⟩, List.forall_mem_cons.mpr ⟨⟨tw33_16, Or.inl rfl⟩, List.forall_mem_cons.mpr ⟨⟨tw33_17, Or.inl rfl⟩, List.forall_mem_cons.mpr ⟨⟨tw33_18, Or.inl rfl⟩, List.forall_mem_cons.mpr ⟨⟨tw33_19, Or.inl rfl⟩, List.forall_mem_cons.mpr ⟨⟨tw33_20, Or.inl rfl⟩, List.forall_mem_cons.mpr ⟨⟨tw33_21, Or.inl rfl⟩, List.forall_mem_cons.mpr ⟨⟨tw33_22, Or.inl rfl⟩, List.forall_mem_cons.mpr ⟨⟨tw33_23, Or.inl rfl⟩, fun _ h => absurd h List.not_mem_nil⟩⟩⟩⟩⟩⟩⟩⟩⟩⟩⟩⟩⟩⟩⟩⟩⟩⟩⟩⟩⟩⟩⟩⟩
theorem tw34_0 : Cond.instanceMethod yX8_keep ∈ lw_tbl := tb5 (List.mem_of_getElem? (i := 27) rfl)
theorem mw34_0 : Cond.instanceMethod yX8_keep ∈ wsL_law := inr34 (List.mem_of_getElem? (i := 0) rfl)
theorem tw34_1 : Cond.selects RX8 yX8_keep yX8_keep ∈ lw_tbl := tb5 (List.mem_of_getElem? (i := 28) rfl)
theorem mw34_1 : Cond.selects RX8 yX8_keep yX8_keep ∈ wsL_law := inr34 (List.mem_of_getElem? (i := 1) rfl)
theorem tw34_2 : Cond.code yX8_keep cX8_keep 3 (some .int) ∈ lw_tbl := tb5 (List.mem_of_getElem? (i := 29) rfl)
theorem mw34_2 : Cond.code yX8_keep cX8_keep 3 (some .int) ∈ wsL_law := inr34 (List.mem_of_getElem? (i := 2) rfl)
theorem tw34_3 : Cond.methodLink RL 139 yX7_again ∈ lw_tbl := tb3 (List.mem_of_getElem? (i := 155) rfl)
theorem mw34_3 : Cond.methodLink RL 139 yX7_again ∈ wsL_law := inr34 (List.mem_of_getElem? (i := 3) rfl)
theorem tw34_4 : Cond.instanceMethod yX7_again ∈ lw_tbl := tb3 (List.mem_of_getElem? (i := 156) rfl)
theorem mw34_4 : Cond.instanceMethod yX7_again ∈ wsL_law := inr34 (List.mem_of_getElem? (i := 4) rfl)
theorem tw34_5 : Cond.selects RX7 yX7_again yX7_again ∈ lw_tbl := tb3 (List.mem_of_getElem? (i := 157) rfl)
theorem mw34_5 : Cond.selects RX7 yX7_again yX7_again ∈ wsL_law := inr34 (List.mem_of_getElem? (i := 5) rfl)
theorem tw34_6 : Cond.code yX7_again cX7_again 2 (some .int) ∈ lw_tbl := tb3 (List.mem_of_getElem? (i := 158) rfl)
theorem mw34_6 : Cond.code yX7_again cX7_again 2 (some .int) ∈ wsL_law := inr34 (List.mem_of_getElem? (i := 6) rfl)
theorem tw34_7 : Cond.methodLink RX7 274 yX2_loadFrom ∈ lw_tbl := tb3 (List.mem_of_getElem? (i := 159) rfl)
theorem mw34_7 : Cond.methodLink RX7 274 yX2_loadFrom ∈ wsL_law := inr34 (List.mem_of_getElem? (i := 7) rfl)
theorem tw34_8 : Cond.methodLink RL 142 yX8_again ∈ lw_tbl := tb5 (List.mem_of_getElem? (i := 30) rfl)
theorem mw34_8 : Cond.methodLink RL 142 yX8_again ∈ wsL_law := inr34 (List.mem_of_getElem? (i := 8) rfl)
theorem tw34_9 : Cond.instanceMethod yX8_again ∈ lw_tbl := tb5 (List.mem_of_getElem? (i := 31) rfl)
theorem mw34_9 : Cond.instanceMethod yX8_again ∈ wsL_law := inr34 (List.mem_of_getElem? (i := 9) rfl)
theorem tw34_10 : Cond.selects RX8 yX8_again yX8_again ∈ lw_tbl := tb5 (List.mem_of_getElem? (i := 32) rfl)
theorem mw34_10 : Cond.selects RX8 yX8_again yX8_again ∈ wsL_law := inr34 (List.mem_of_getElem? (i := 10) rfl)
theorem tw34_11 : Cond.code yX8_again cX8_again 3 (some .int) ∈ lw_tbl := tb5 (List.mem_of_getElem? (i := 33) rfl)
theorem mw34_11 : Cond.code yX8_again cX8_again 3 (some .int) ∈ wsL_law := inr34 (List.mem_of_getElem? (i := 11) rfl)
theorem tw34_12 : Cond.methodLink RL 143 yX7_count ∈ lw_tbl := tb3 (List.mem_of_getElem? (i := 160) rfl)
theorem mw34_12 : Cond.methodLink RL 143 yX7_count ∈ wsL_law := inr34 (List.mem_of_getElem? (i := 12) rfl)
theorem tw34_13 : Cond.instanceMethod yX7_count ∈ lw_tbl := tb3 (List.mem_of_getElem? (i := 161) rfl)
theorem mw34_13 : Cond.instanceMethod yX7_count ∈ wsL_law := inr34 (List.mem_of_getElem? (i := 13) rfl)
theorem tw34_14 : Cond.selects RX7 yX7_count yX7_count ∈ lw_tbl := tb3 (List.mem_of_getElem? (i := 162) rfl)
theorem mw34_14 : Cond.selects RX7 yX7_count yX7_count ∈ wsL_law := inr34 (List.mem_of_getElem? (i := 14) rfl)
theorem tw34_15 : Cond.code yX7_count cX7_count 2 (some .int) ∈ lw_tbl := tb3 (List.mem_of_getElem? (i := 163) rfl)
theorem mw34_15 : Cond.code yX7_count cX7_count 2 (some .int) ∈ wsL_law := inr34 (List.mem_of_getElem? (i := 15) rfl)
theorem tw34_16 : Cond.fieldLink RX7 277 "TallowHours$Text" "length" "I" ∈ lw_tbl := tb1 (List.mem_of_getElem? (i := 30) rfl)
theorem mw34_16 : Cond.fieldLink RX7 277 "TallowHours$Text" "length" "I" ∈ wsL_law := inr34 (List.mem_of_getElem? (i := 16) rfl)
theorem tw34_17 : Cond.fieldLink RX7 283 "TallowHours$Burning" "cost" "I" ∈ lw_tbl := tb1 (List.mem_of_getElem? (i := 55) rfl)
theorem mw34_17 : Cond.fieldLink RX7 283 "TallowHours$Burning" "cost" "I" ∈ wsL_law := inr34 (List.mem_of_getElem? (i := 17) rfl)
theorem tw34_18 : Cond.methodLink RX7 280 yX2_contentGuests ∈ lw_tbl := tb3 (List.mem_of_getElem? (i := 164) rfl)
theorem mw34_18 : Cond.methodLink RX7 280 yX2_contentGuests ∈ wsL_law := inr34 (List.mem_of_getElem? (i := 18) rfl)
theorem tw34_19 : Cond.instanceMethod yX2_contentGuests ∈ lw_tbl := tb3 (List.mem_of_getElem? (i := 165) rfl)
theorem mw34_19 : Cond.instanceMethod yX2_contentGuests ∈ wsL_law := inr34 (List.mem_of_getElem? (i := 19) rfl)
theorem tw34_20 : Cond.selects RX2 yX2_contentGuests yX2_contentGuests ∈ lw_tbl := tb3 (List.mem_of_getElem? (i := 166) rfl)
theorem mw34_20 : Cond.selects RX2 yX2_contentGuests yX2_contentGuests ∈ wsL_law := inr34 (List.mem_of_getElem? (i := 20) rfl)
theorem tw34_21 : Cond.code yX2_contentGuests cX2_contentGuests 4 (some .int) ∈ lw_tbl := tb3 (List.mem_of_getElem? (i := 167) rfl)
theorem mw34_21 : Cond.code yX2_contentGuests cX2_contentGuests 4 (some .int) ∈ wsL_law := inr34 (List.mem_of_getElem? (i := 21) rfl)
theorem tw34_22 : Cond.methodLink RX2 79 yX2_isContent ∈ lw_tbl := tb3 (List.mem_of_getElem? (i := 168) rfl)
theorem mw34_22 : Cond.methodLink RX2 79 yX2_isContent ∈ wsL_law := inr34 (List.mem_of_getElem? (i := 22) rfl)
theorem tw34_23 : Cond.methodLink RL 146 yX8_count ∈ lw_tbl := tb5 (List.mem_of_getElem? (i := 34) rfl)
theorem mw34_23 : Cond.methodLink RL 146 yX8_count ∈ wsL_law := inr34 (List.mem_of_getElem? (i := 23) rfl)
theorem gdr34 : GoodIn lw_tbl wsL_law_r34 := List.forall_mem_cons.mpr ⟨⟨tw34_0, Or.inl rfl⟩, List.forall_mem_cons.mpr ⟨⟨tw34_1, Or.inl rfl⟩, List.forall_mem_cons.mpr ⟨⟨tw34_2, Or.inl rfl⟩, List.forall_mem_cons.mpr ⟨⟨tw34_3, Or.inl rfl⟩, List.forall_mem_cons.mpr ⟨⟨tw34_4, Or.inl rfl⟩, List.forall_mem_cons.mpr ⟨⟨tw34_5, Or.inl rfl⟩, List.forall_mem_cons.mpr ⟨⟨tw34_6, Or.inl rfl⟩, List.forall_mem_cons.mpr ⟨⟨tw34_7, Or.inl rfl⟩, List.forall_mem_cons.mpr ⟨⟨tw34_8, Or.inl rfl⟩, List.forall_mem_cons.mpr ⟨⟨tw34_9, Or.inl rfl⟩, List.forall_mem_cons.mpr ⟨⟨tw34_10, Or.inl rfl⟩, List.forall_mem_cons.mpr ⟨⟨tw34_11, Or.inl rfl⟩, List.forall_mem_cons.mpr ⟨⟨tw34_12, Or.inl rfl⟩, List.forall_mem_cons.mpr ⟨⟨tw34_13, Or.inl rfl⟩, List.forall_mem_cons.mpr ⟨⟨tw34_14, Or.inl rfl⟩, List.forall_mem_cons.mpr ⟨⟨tw34_15, Or.inl rfl⟩, List.forall_mem_cons.mpr ⟨⟨tw34_16, Or.inl rfl⟩, List.forall_mem_cons.mpr ⟨⟨tw34_17, Or.inl rfl⟩, List.forall_mem_cons.mpr ⟨⟨tw34_18, Or.inl rfl⟩, List.forall_mem_cons.mpr ⟨⟨tw34_19, Or.inl rfl⟩, List.forall_mem_cons.mpr ⟨⟨tw34_20, Or.inl rfl⟩, List.forall_mem_cons.mpr ⟨⟨tw34_21, Or.inl rfl⟩, List.forall_mem_cons.mpr ⟨⟨tw34_22, Or.inl rfl⟩, List.forall_mem_cons.mpr ⟨⟨tw34_23, Or.inl rfl⟩, fun _ h => absurd h List.not_mem_nil⟩⟩⟩⟩⟩⟩⟩⟩⟩⟩⟩⟩⟩⟩⟩⟩⟩⟩⟩⟩⟩⟩⟩⟩
theorem tw35_0 : Cond.instanceMethod yX8_count ∈ lw_tbl := tb5 (List.mem_of_getElem? (i := 35) rfl)
theorem mw35_0 : Cond.instanceMethod yX8_count ∈ wsL_law := inr35 (List.mem_of_getElem? (i := 0) rfl)
theorem tw35_1 : Cond.selects RX8 yX8_count yX8_count ∈ lw_tbl := tb5 (List.mem_of_getElem? (i := 36) rfl)
theorem mw35_1 : Cond.selects RX8 yX8_count yX8_count ∈ wsL_law := inr35 (List.mem_of_getElem? (i := 1) rfl)
theorem tw35_2 : Cond.code yX8_count cX8_count 5 (some .int) ∈ lw_tbl := tb5 (List.mem_of_getElem? (i := 37) rfl)
theorem mw35_2 : Cond.code yX8_count cX8_count 5 (some .int) ∈ wsL_law := inr35 (List.mem_of_getElem? (i := 2) rfl)
theorem gdr35 : GoodIn lw_tbl wsL_law_r35 := List.forall_mem_cons.mpr ⟨⟨tw35_0, Or.inl rfl⟩, List.forall_mem_cons.mpr ⟨⟨tw35_1, Or.inl rfl⟩, List.forall_mem_cons.mpr ⟨⟨tw35_2, Or.inl rfl⟩, fun _ h => absurd h List.not_mem_nil⟩⟩⟩
set_option maxRecDepth 20000 in
theorem gdf7 : GoodIn lw_tbl wsX70 := goodIn_r _ [289, 291, 293, 295, 297, 299, 301, 303, 305, 307, 309, 311] (by decide +kernel) (by decide +kernel)
set_option maxRecDepth 20000 in
theorem gdf8 : GoodIn lw_tbl wsX80 := goodIn_r _ [728, 730, 732, 734, 736, 738, 740, 742, 744, 746, 748, 750, 752, 754, 756, 758, 760, 762, 764, 766, 768, 770, 772, 774, 776, 778, 780, 782, 784, 786, 788, 790, 792, 794] (by decide +kernel) (by decide +kernel)
set_option maxRecDepth 20000 in
theorem gdf6 : GoodIn lw_tbl wsX60 := goodIn_r _ [70, 72] (by decide +kernel) (by decide +kernel)
set_option maxRecDepth 20000 in
theorem gdf2 : GoodIn lw_tbl wsX20 := goodIn_r _ [98, 100, 102, 104, 106, 108] (by decide +kernel) (by decide +kernel)
set_option maxRecDepth 20000 in
theorem gdf0 : GoodIn lw_tbl wsX00 := goodIn_r _ [121, 123, 125] (by decide +kernel) (by decide +kernel)
set_option maxRecDepth 20000 in
theorem gdf4 : GoodIn lw_tbl wsX40 := goodIn_r _ [149, 151, 153, 155, 157, 159, 161, 163, 165, 167, 169, 171] (by decide +kernel) (by decide +kernel)
set_option maxRecDepth 20000 in
theorem gdf1 : GoodIn lw_tbl wsX10 := goodIn_r _ [184, 186] (by decide +kernel) (by decide +kernel)
set_option maxRecDepth 20000 in
theorem gdf5 : GoodIn lw_tbl wsX50 := goodIn_r _ [196] (by decide +kernel) (by decide +kernel)
set_option maxRecDepth 20000 in
theorem gdf3 : GoodIn lw_tbl wsX30 := goodIn_r _ [253, 255, 257, 259, 261, 263, 265, 267, 269, 271, 273] (by decide +kernel) (by decide +kernel)
theorem wsL_law_gd : GoodIn lw_tbl wsL_law := goodIn_app (goodIn_app (goodIn_app (goodIn_app (goodIn_app (goodIn_app (goodIn_app (goodIn_app (goodIn_app (goodIn_app (goodIn_app gdr1 (goodIn_app gdr2 (goodIn_app gdr3 (goodIn_app gdr4 (goodIn_app gdr5 (goodIn_app gdr6 (goodIn_app gdr7 (goodIn_app gdr8 (goodIn_app gdr9 (goodIn_app gdr10 (goodIn_app gdr11 (goodIn_app gdr12 (goodIn_app gdr13 (goodIn_app gdr14 (goodIn_app gdr15 (goodIn_app gdr16 (goodIn_app gdr17 (goodIn_app gdr18 (goodIn_app gdr19 (goodIn_app gdr20 (goodIn_app gdr21 (goodIn_app gdr22 (goodIn_app gdr23 (goodIn_app gdr24 (goodIn_app gdr25 (goodIn_app gdr26 (goodIn_app gdr27 (goodIn_app gdr28 (goodIn_app gdr29 (goodIn_app gdr30 (goodIn_app gdr31 (goodIn_app gdr32 (goodIn_app gdr33 (goodIn_app gdr34 (gdr35))))))))))))))))))))))))))))))))))) gdf7) gdf8) gdf6) gdf2) gdf0) gdf4) gdf1) gdf5) gdf3) (fun _ h => absurd h List.not_mem_nil)
theorem wsL_law_in : ∀ w ∈ wsL_law, w ∈ lw_tbl := fun w h => (wsL_law_gd w h).1
theorem inlX0 : ∀ w ∈ wsX00, w ∈ wsL_law := fun _ h => List.mem_append_left _ (List.mem_append_left _ (List.mem_append_left _ (List.mem_append_left _ (List.mem_append_left _ (List.mem_append_right _ h)))))
theorem inX0 : ∀ w ∈ wsX00, w ∈ lw_tbl := fun w h => wsL_law_in w (inlX0 w h)
theorem inlX1 : ∀ w ∈ wsX10, w ∈ wsL_law := fun _ h => List.mem_append_left _ (List.mem_append_left _ (List.mem_append_left _ (List.mem_append_right _ h)))
theorem inX1 : ∀ w ∈ wsX10, w ∈ lw_tbl := fun w h => wsL_law_in w (inlX1 w h)
theorem inlX2 : ∀ w ∈ wsX20, w ∈ wsL_law := fun _ h => List.mem_append_left _ (List.mem_append_left _ (List.mem_append_left _ (List.mem_append_left _ (List.mem_append_left _ (List.mem_append_left _ (List.mem_append_right _ h))))))
theorem inX2 : ∀ w ∈ wsX20, w ∈ lw_tbl := fun w h => wsL_law_in w (inlX2 w h)
theorem inlX3 : ∀ w ∈ wsX30, w ∈ wsL_law := fun _ h => List.mem_append_left _ (List.mem_append_right _ h)
theorem inX3 : ∀ w ∈ wsX30, w ∈ lw_tbl := fun w h => wsL_law_in w (inlX3 w h)
theorem inlX4 : ∀ w ∈ wsX40, w ∈ wsL_law := fun _ h => List.mem_append_left _ (List.mem_append_left _ (List.mem_append_left _ (List.mem_append_left _ (List.mem_append_right _ h))))
theorem inX4 : ∀ w ∈ wsX40, w ∈ lw_tbl := fun w h => wsL_law_in w (inlX4 w h)
theorem inlX5 : ∀ w ∈ wsX50, w ∈ wsL_law := fun _ h => List.mem_append_left _ (List.mem_append_left _ (List.mem_append_right _ h))
theorem inX5 : ∀ w ∈ wsX50, w ∈ lw_tbl := fun w h => wsL_law_in w (inlX5 w h)
theorem inlX6 : ∀ w ∈ wsX60, w ∈ wsL_law := fun _ h => List.mem_append_left _ (List.mem_append_left _ (List.mem_append_left _ (List.mem_append_left _ (List.mem_append_left _ (List.mem_append_left _ (List.mem_append_left _ (List.mem_append_right _ h)))))))
theorem inX6 : ∀ w ∈ wsX60, w ∈ lw_tbl := fun w h => wsL_law_in w (inlX6 w h)
theorem inlX7 : ∀ w ∈ wsX70, w ∈ wsL_law := fun _ h => List.mem_append_left _ (List.mem_append_left _ (List.mem_append_left _ (List.mem_append_left _ (List.mem_append_left _ (List.mem_append_left _ (List.mem_append_left _ (List.mem_append_left _ (List.mem_append_left _ (List.mem_append_right _ h)))))))))
theorem inX7 : ∀ w ∈ wsX70, w ∈ lw_tbl := fun w h => wsL_law_in w (inlX7 w h)
theorem inlX8 : ∀ w ∈ wsX80, w ∈ wsL_law := fun _ h => List.mem_append_left _ (List.mem_append_left _ (List.mem_append_left _ (List.mem_append_left _ (List.mem_append_left _ (List.mem_append_left _ (List.mem_append_left _ (List.mem_append_left _ (List.mem_append_right _ h))))))))
theorem inX8 : ∀ w ∈ wsX80, w ∈ lw_tbl := fun w h => wsL_law_in w (inlX8 w h)
abbrev vwCl : List vw_C := [(RX0, TX0, 3), (RX1, TX1, 2), (RX2, TX2, 6), (RX3, TX3, 11), (RX4, TX4, 12), (RX5, TX5, 1), (RX6, TX6, 2), (RX7, TX7, 12), (RX8, TX8, 34)]
end
section
theorem dX0_init_0 : decode cX0_init 0 = .ok (.aload_n 0, 1) := by decide +kernel
theorem dX0_init_1 : decode cX0_init 1 = .ok (.invokespecial 3, 3) := by decide +kernel
theorem dX0_init_4 : decode cX0_init 4 = .ok (.aload_n 0, 1) := by decide +kernel
theorem dX0_init_5 : decode cX0_init 5 = .ok (.sipush 288, 3) := by decide +kernel
theorem dX0_init_8 : decode cX0_init 8 = .ok (.newarray .int, 2) := by decide +kernel
theorem dX0_init_10 : decode cX0_init 10 = .ok (.putfield 11, 3) := by decide +kernel
theorem dX0_init_13 : decode cX0_init 13 = .ok (.aload_n 0, 1) := by decide +kernel
theorem dX0_init_14 : decode cX0_init 14 = .ok (.iconst 0, 1) := by decide +kernel
theorem dX0_init_15 : decode cX0_init 15 = .ok (.putfield 17, 3) := by decide +kernel
theorem dX0_init_18 : decode cX0_init 18 = .ok (.aload_n 0, 1) := by decide +kernel
theorem dX0_init_19 : decode cX0_init 19 = .ok (.iconst 0, 1) := by decide +kernel
theorem dX0_init_20 : decode cX0_init 20 = .ok (.putfield 21, 3) := by decide +kernel
theorem dX0_init_23 : decode cX0_init 23 = .ok (.return_, 1) := by decide +kernel
theorem dX0_clear_0 : decode cX0_clear 0 = .ok (.aload_n 0, 1) := by decide +kernel
theorem dX0_clear_1 : decode cX0_clear 1 = .ok (.iconst 0, 1) := by decide +kernel
theorem dX0_clear_2 : decode cX0_clear 2 = .ok (.putfield 17, 3) := by decide +kernel
theorem dX0_clear_5 : decode cX0_clear 5 = .ok (.aload_n 0, 1) := by decide +kernel
theorem dX0_clear_6 : decode cX0_clear 6 = .ok (.iconst 0, 1) := by decide +kernel
theorem dX0_clear_7 : decode cX0_clear 7 = .ok (.putfield 21, 3) := by decide +kernel
theorem dX0_clear_10 : decode cX0_clear 10 = .ok (.return_, 1) := by decide +kernel
theorem dX0_add_0 : decode cX0_add 0 = .ok (.aload_n 0, 1) := by decide +kernel
theorem dX0_add_1 : decode cX0_add 1 = .ok (.getfield 21, 3) := by decide +kernel
theorem dX0_add_4 : decode cX0_add 4 = .ok (.bipush 16, 2) := by decide +kernel
theorem dX0_add_6 : decode cX0_add 6 = .ok (.if_icmp .ne 26, 3) := by decide +kernel
theorem dX0_add_9 : decode cX0_add 9 = .ok (.aload_n 0, 1) := by decide +kernel
theorem dX0_add_10 : decode cX0_add 10 = .ok (.aload_n 0, 1) := by decide +kernel
theorem dX0_add_11 : decode cX0_add 11 = .ok (.getfield 17, 3) := by decide +kernel
theorem dX0_add_14 : decode cX0_add 14 = .ok (.iconst 1, 1) := by decide +kernel
theorem dX0_add_15 : decode cX0_add 15 = .ok (.iadd, 1) := by decide +kernel
theorem dX0_add_16 : decode cX0_add 16 = .ok (.bipush 16, 2) := by decide +kernel
theorem dX0_add_18 : decode cX0_add 18 = .ok (.irem, 1) := by decide +kernel
theorem dX0_add_19 : decode cX0_add 19 = .ok (.putfield 17, 3) := by decide +kernel
theorem dX0_add_22 : decode cX0_add 22 = .ok (.aload_n 0, 1) := by decide +kernel
theorem dX0_add_23 : decode cX0_add 23 = .ok (.dup, 1) := by decide +kernel
theorem dX0_add_24 : decode cX0_add 24 = .ok (.getfield 21, 3) := by decide +kernel
theorem dX0_add_27 : decode cX0_add 27 = .ok (.iconst 1, 1) := by decide +kernel
theorem dX0_add_28 : decode cX0_add 28 = .ok (.isub, 1) := by decide +kernel
theorem dX0_add_29 : decode cX0_add 29 = .ok (.putfield 21, 3) := by decide +kernel
theorem dX0_add_32 : decode cX0_add 32 = .ok (.aload_n 1, 1) := by decide +kernel
theorem dX0_add_33 : decode cX0_add 33 = .ok (.aload_n 0, 1) := by decide +kernel
theorem dX0_add_34 : decode cX0_add 34 = .ok (.getfield 11, 3) := by decide +kernel
theorem dX0_add_37 : decode cX0_add 37 = .ok (.aload_n 0, 1) := by decide +kernel
theorem dX0_add_38 : decode cX0_add 38 = .ok (.getfield 17, 3) := by decide +kernel
theorem dX0_add_41 : decode cX0_add 41 = .ok (.aload_n 0, 1) := by decide +kernel
theorem dX0_add_42 : decode cX0_add 42 = .ok (.getfield 21, 3) := by decide +kernel
theorem dX0_add_45 : decode cX0_add 45 = .ok (.iadd, 1) := by decide +kernel
theorem dX0_add_46 : decode cX0_add 46 = .ok (.bipush 16, 2) := by decide +kernel
theorem dX0_add_48 : decode cX0_add 48 = .ok (.irem, 1) := by decide +kernel
theorem dX0_add_49 : decode cX0_add 49 = .ok (.bipush 18, 2) := by decide +kernel
theorem dX0_add_51 : decode cX0_add 51 = .ok (.imul, 1) := by decide +kernel
theorem dX0_add_52 : decode cX0_add 52 = .ok (.invokevirtual 24, 3) := by decide +kernel
theorem dX0_add_55 : decode cX0_add 55 = .ok (.aload_n 0, 1) := by decide +kernel
theorem dX0_add_56 : decode cX0_add 56 = .ok (.dup, 1) := by decide +kernel
theorem dX0_add_57 : decode cX0_add 57 = .ok (.getfield 21, 3) := by decide +kernel
theorem dX0_add_60 : decode cX0_add 60 = .ok (.iconst 1, 1) := by decide +kernel
theorem dX0_add_61 : decode cX0_add 61 = .ok (.iadd, 1) := by decide +kernel
theorem dX0_add_62 : decode cX0_add 62 = .ok (.putfield 21, 3) := by decide +kernel
theorem dX0_add_65 : decode cX0_add 65 = .ok (.return_, 1) := by decide +kernel
theorem dX0_takeBack_0 : decode cX0_takeBack 0 = .ok (.aload_n 0, 1) := by decide +kernel
theorem dX0_takeBack_1 : decode cX0_takeBack 1 = .ok (.getfield 21, 3) := by decide +kernel
theorem dX0_takeBack_4 : decode cX0_takeBack 4 = .ok (.ifCond .le 36, 3) := by decide +kernel
theorem dX0_takeBack_7 : decode cX0_takeBack 7 = .ok (.aload_n 0, 1) := by decide +kernel
theorem dX0_takeBack_8 : decode cX0_takeBack 8 = .ok (.dup, 1) := by decide +kernel
theorem dX0_takeBack_9 : decode cX0_takeBack 9 = .ok (.getfield 21, 3) := by decide +kernel
theorem dX0_takeBack_12 : decode cX0_takeBack 12 = .ok (.iconst 1, 1) := by decide +kernel
theorem dX0_takeBack_13 : decode cX0_takeBack 13 = .ok (.isub, 1) := by decide +kernel
theorem dX0_takeBack_14 : decode cX0_takeBack 14 = .ok (.putfield 21, 3) := by decide +kernel
theorem dX0_takeBack_17 : decode cX0_takeBack 17 = .ok (.aload_n 1, 1) := by decide +kernel
theorem dX0_takeBack_18 : decode cX0_takeBack 18 = .ok (.aload_n 0, 1) := by decide +kernel
theorem dX0_takeBack_19 : decode cX0_takeBack 19 = .ok (.getfield 11, 3) := by decide +kernel
theorem dX0_takeBack_22 : decode cX0_takeBack 22 = .ok (.aload_n 0, 1) := by decide +kernel
theorem dX0_takeBack_23 : decode cX0_takeBack 23 = .ok (.getfield 17, 3) := by decide +kernel
theorem dX0_takeBack_26 : decode cX0_takeBack 26 = .ok (.aload_n 0, 1) := by decide +kernel
theorem dX0_takeBack_27 : decode cX0_takeBack 27 = .ok (.getfield 21, 3) := by decide +kernel
theorem dX0_takeBack_30 : decode cX0_takeBack 30 = .ok (.iadd, 1) := by decide +kernel
theorem dX0_takeBack_31 : decode cX0_takeBack 31 = .ok (.bipush 16, 2) := by decide +kernel
theorem dX0_takeBack_33 : decode cX0_takeBack 33 = .ok (.irem, 1) := by decide +kernel
theorem dX0_takeBack_34 : decode cX0_takeBack 34 = .ok (.bipush 18, 2) := by decide +kernel
theorem dX0_takeBack_36 : decode cX0_takeBack 36 = .ok (.imul, 1) := by decide +kernel
theorem dX0_takeBack_37 : decode cX0_takeBack 37 = .ok (.invokevirtual 28, 3) := by decide +kernel
theorem dX0_takeBack_40 : decode cX0_takeBack 40 = .ok (.return_, 1) := by decide +kernel
theorem dX1_init_0 : decode cX1_init 0 = .ok (.aload_n 0, 1) := by decide +kernel
theorem dX1_init_1 : decode cX1_init 1 = .ok (.invokespecial 3, 3) := by decide +kernel
theorem dX1_init_4 : decode cX1_init 4 = .ok (.aload_n 0, 1) := by decide +kernel
theorem dX1_init_5 : decode cX1_init 5 = .ok (.bipush 6, 2) := by decide +kernel
theorem dX1_init_7 : decode cX1_init 7 = .ok (.newarray .int, 2) := by decide +kernel
theorem dX1_init_9 : decode cX1_init 9 = .ok (.putfield 9, 3) := by decide +kernel
theorem dX1_init_12 : decode cX1_init 12 = .ok (.aload_n 0, 1) := by decide +kernel
theorem dX1_init_13 : decode cX1_init 13 = .ok (.iconst 0, 1) := by decide +kernel
theorem dX1_init_14 : decode cX1_init 14 = .ok (.putfield 15, 3) := by decide +kernel
theorem dX1_init_17 : decode cX1_init 17 = .ok (.return_, 1) := by decide +kernel
theorem dX1_add_0 : decode cX1_add 0 = .ok (.aload_n 0, 1) := by decide +kernel
theorem dX1_add_1 : decode cX1_add 1 = .ok (.getfield 15, 3) := by decide +kernel
theorem dX1_add_4 : decode cX1_add 4 = .ok (.bipush 6, 2) := by decide +kernel
theorem dX1_add_6 : decode cX1_add 6 = .ok (.if_icmp .lt 6, 3) := by decide +kernel
theorem dX1_add_9 : decode cX1_add 9 = .ok (.bipush (-4), 2) := by decide +kernel
theorem dX1_add_11 : decode cX1_add 11 = .ok (.ireturn, 1) := by decide +kernel
theorem dX1_add_12 : decode cX1_add 12 = .ok (.aload_n 0, 1) := by decide +kernel
theorem dX1_add_13 : decode cX1_add 13 = .ok (.getfield 9, 3) := by decide +kernel
theorem dX1_add_16 : decode cX1_add 16 = .ok (.aload_n 0, 1) := by decide +kernel
theorem dX1_add_17 : decode cX1_add 17 = .ok (.getfield 15, 3) := by decide +kernel
theorem dX1_add_20 : decode cX1_add 20 = .ok (.iload_n 1, 1) := by decide +kernel
theorem dX1_add_21 : decode cX1_add 21 = .ok (.iastore, 1) := by decide +kernel
theorem dX1_add_22 : decode cX1_add 22 = .ok (.aload_n 0, 1) := by decide +kernel
theorem dX1_add_23 : decode cX1_add 23 = .ok (.dup, 1) := by decide +kernel
theorem dX1_add_24 : decode cX1_add 24 = .ok (.getfield 15, 3) := by decide +kernel
theorem dX1_add_27 : decode cX1_add 27 = .ok (.iconst 1, 1) := by decide +kernel
theorem dX1_add_28 : decode cX1_add 28 = .ok (.iadd, 1) := by decide +kernel
theorem dX1_add_29 : decode cX1_add 29 = .ok (.putfield 15, 3) := by decide +kernel
theorem dX1_add_32 : decode cX1_add 32 = .ok (.aload_n 0, 1) := by decide +kernel
theorem dX1_add_33 : decode cX1_add 33 = .ok (.getfield 15, 3) := by decide +kernel
theorem dX1_add_36 : decode cX1_add 36 = .ok (.ireturn, 1) := by decide +kernel
theorem dX1_clear_0 : decode cX1_clear 0 = .ok (.aload_n 0, 1) := by decide +kernel
theorem dX1_clear_1 : decode cX1_clear 1 = .ok (.getfield 15, 3) := by decide +kernel
theorem dX1_clear_4 : decode cX1_clear 4 = .ok (.istore_n 1, 1) := by decide +kernel
theorem dX1_clear_5 : decode cX1_clear 5 = .ok (.aload_n 0, 1) := by decide +kernel
theorem dX1_clear_6 : decode cX1_clear 6 = .ok (.iconst 0, 1) := by decide +kernel
theorem dX1_clear_7 : decode cX1_clear 7 = .ok (.putfield 15, 3) := by decide +kernel
theorem dX1_clear_10 : decode cX1_clear 10 = .ok (.iload_n 1, 1) := by decide +kernel
theorem dX1_clear_11 : decode cX1_clear 11 = .ok (.ireturn, 1) := by decide +kernel
theorem dX1_origins_0 : decode cX1_origins 0 = .ok (.iconst 0, 1) := by decide +kernel
theorem dX1_origins_1 : decode cX1_origins 1 = .ok (.istore_n 3, 1) := by decide +kernel
theorem dX1_origins_2 : decode cX1_origins 2 = .ok (.iconst 0, 1) := by decide +kernel
theorem dX1_origins_3 : decode cX1_origins 3 = .ok (.istore 4, 2) := by decide +kernel
theorem dX1_origins_5 : decode cX1_origins 5 = .ok (.aload_n 0, 1) := by decide +kernel
theorem dX1_origins_6 : decode cX1_origins 6 = .ok (.getfield 15, 3) := by decide +kernel
theorem dX1_origins_9 : decode cX1_origins 9 = .ok (.iload_n 2, 1) := by decide +kernel
theorem dX1_origins_10 : decode cX1_origins 10 = .ok (.if_icmp .gt 37, 3) := by decide +kernel
theorem dX1_origins_13 : decode cX1_origins 13 = .ok (.iload 4, 2) := by decide +kernel
theorem dX1_origins_15 : decode cX1_origins 15 = .ok (.iload_n 2, 1) := by decide +kernel
theorem dX1_origins_16 : decode cX1_origins 16 = .ok (.iadd, 1) := by decide +kernel
theorem dX1_origins_17 : decode cX1_origins 17 = .ok (.aload_n 1, 1) := by decide +kernel
theorem dX1_origins_18 : decode cX1_origins 18 = .ok (.getfield 19, 3) := by decide +kernel
theorem dX1_origins_21 : decode cX1_origins 21 = .ok (.if_icmp .gt 26, 3) := by decide +kernel
theorem dX1_origins_24 : decode cX1_origins 24 = .ok (.aload_n 0, 1) := by decide +kernel
theorem dX1_origins_25 : decode cX1_origins 25 = .ok (.aload_n 1, 1) := by decide +kernel
theorem dX1_origins_26 : decode cX1_origins 26 = .ok (.iload 4, 2) := by decide +kernel
theorem dX1_origins_28 : decode cX1_origins 28 = .ok (.invokevirtual 24, 3) := by decide +kernel
theorem dX1_origins_31 : decode cX1_origins 31 = .ok (.ifCond .eq 10, 3) := by decide +kernel
theorem dX1_origins_34 : decode cX1_origins 34 = .ok (.iload_n 3, 1) := by decide +kernel
theorem dX1_origins_35 : decode cX1_origins 35 = .ok (.iconst 1, 1) := by decide +kernel
theorem dX1_origins_36 : decode cX1_origins 36 = .ok (.iload 4, 2) := by decide +kernel
theorem dX1_origins_38 : decode cX1_origins 38 = .ok (.ishl, 1) := by decide +kernel
theorem dX1_origins_39 : decode cX1_origins 39 = .ok (.ior, 1) := by decide +kernel
theorem dX1_origins_40 : decode cX1_origins 40 = .ok (.istore_n 3, 1) := by decide +kernel
theorem dX1_origins_41 : decode cX1_origins 41 = .ok (.iinc 4 1, 3) := by decide +kernel
theorem dX1_origins_44 : decode cX1_origins 44 = .ok (.goto (-39), 3) := by decide +kernel
theorem dX1_origins_47 : decode cX1_origins 47 = .ok (.iload_n 3, 1) := by decide +kernel
theorem dX1_origins_48 : decode cX1_origins 48 = .ok (.ireturn, 1) := by decide +kernel
theorem dX1_canBeFrom_0 : decode cX1_canBeFrom 0 = .ok (.iconst 0, 1) := by decide +kernel
theorem dX1_canBeFrom_1 : decode cX1_canBeFrom 1 = .ok (.istore_n 3, 1) := by decide +kernel
theorem dX1_canBeFrom_2 : decode cX1_canBeFrom 2 = .ok (.iload_n 3, 1) := by decide +kernel
theorem dX1_canBeFrom_3 : decode cX1_canBeFrom 3 = .ok (.aload_n 0, 1) := by decide +kernel
theorem dX1_canBeFrom_4 : decode cX1_canBeFrom 4 = .ok (.getfield 15, 3) := by decide +kernel
theorem dX1_canBeFrom_7 : decode cX1_canBeFrom 7 = .ok (.if_icmp .ge 27, 3) := by decide +kernel
theorem dX1_canBeFrom_10 : decode cX1_canBeFrom 10 = .ok (.aload_n 1, 1) := by decide +kernel
theorem dX1_canBeFrom_11 : decode cX1_canBeFrom 11 = .ok (.iload_n 2, 1) := by decide +kernel
theorem dX1_canBeFrom_12 : decode cX1_canBeFrom 12 = .ok (.iload_n 3, 1) := by decide +kernel
theorem dX1_canBeFrom_13 : decode cX1_canBeFrom 13 = .ok (.iadd, 1) := by decide +kernel
theorem dX1_canBeFrom_14 : decode cX1_canBeFrom 14 = .ok (.invokevirtual 28, 3) := by decide +kernel
theorem dX1_canBeFrom_17 : decode cX1_canBeFrom 17 = .ok (.aload_n 0, 1) := by decide +kernel
theorem dX1_canBeFrom_18 : decode cX1_canBeFrom 18 = .ok (.getfield 9, 3) := by decide +kernel
theorem dX1_canBeFrom_21 : decode cX1_canBeFrom 21 = .ok (.iload_n 3, 1) := by decide +kernel
theorem dX1_canBeFrom_22 : decode cX1_canBeFrom 22 = .ok (.iaload, 1) := by decide +kernel
theorem dX1_canBeFrom_23 : decode cX1_canBeFrom 23 = .ok (.if_icmp .eq 5, 3) := by decide +kernel
theorem dX1_canBeFrom_26 : decode cX1_canBeFrom 26 = .ok (.iconst 0, 1) := by decide +kernel
theorem dX1_canBeFrom_27 : decode cX1_canBeFrom 27 = .ok (.ireturn, 1) := by decide +kernel
theorem dX1_canBeFrom_28 : decode cX1_canBeFrom 28 = .ok (.iinc 3 1, 3) := by decide +kernel
theorem dX1_canBeFrom_31 : decode cX1_canBeFrom 31 = .ok (.goto (-29), 3) := by decide +kernel
theorem dX1_canBeFrom_34 : decode cX1_canBeFrom 34 = .ok (.iconst 1, 1) := by decide +kernel
theorem dX1_canBeFrom_35 : decode cX1_canBeFrom 35 = .ok (.ireturn, 1) := by decide +kernel
theorem dX2_init_0 : decode cX2_init 0 = .ok (.aload_n 0, 1) := by decide +kernel
theorem dX2_init_1 : decode cX2_init 1 = .ok (.invokespecial 3, 3) := by decide +kernel
theorem dX2_init_4 : decode cX2_init 4 = .ok (.aload_n 0, 1) := by decide +kernel
theorem dX2_init_5 : decode cX2_init 5 = .ok (.iconst 4, 1) := by decide +kernel
theorem dX2_init_6 : decode cX2_init 6 = .ok (.newarray .int, 2) := by decide +kernel
theorem dX2_init_8 : decode cX2_init 8 = .ok (.putfield 9, 3) := by decide +kernel
theorem dX2_init_11 : decode cX2_init 11 = .ok (.aload_n 0, 1) := by decide +kernel
theorem dX2_init_12 : decode cX2_init 12 = .ok (.iconst 4, 1) := by decide +kernel
theorem dX2_init_13 : decode cX2_init 13 = .ok (.newarray .int, 2) := by decide +kernel
theorem dX2_init_15 : decode cX2_init 15 = .ok (.putfield 15, 3) := by decide +kernel
theorem dX2_init_18 : decode cX2_init 18 = .ok (.aload_n 0, 1) := by decide +kernel
theorem dX2_init_19 : decode cX2_init 19 = .ok (.iconst 4, 1) := by decide +kernel
theorem dX2_init_20 : decode cX2_init 20 = .ok (.newarray .int, 2) := by decide +kernel
theorem dX2_init_22 : decode cX2_init 22 = .ok (.putfield 18, 3) := by decide +kernel
theorem dX2_init_25 : decode cX2_init 25 = .ok (.aload_n 0, 1) := by decide +kernel
theorem dX2_init_26 : decode cX2_init 26 = .ok (.iconst 4, 1) := by decide +kernel
theorem dX2_init_27 : decode cX2_init 27 = .ok (.newarray .int, 2) := by decide +kernel
theorem dX2_init_29 : decode cX2_init 29 = .ok (.putfield 21, 3) := by decide +kernel
theorem dX2_init_32 : decode cX2_init 32 = .ok (.aload_n 0, 1) := by decide +kernel
theorem dX2_init_33 : decode cX2_init 33 = .ok (.iconst 0, 1) := by decide +kernel
theorem dX2_init_34 : decode cX2_init 34 = .ok (.putfield 24, 3) := by decide +kernel
theorem dX2_init_37 : decode cX2_init 37 = .ok (.aload_n 0, 1) := by decide +kernel
theorem dX2_init_38 : decode cX2_init 38 = .ok (.iconst 0, 1) := by decide +kernel
theorem dX2_init_39 : decode cX2_init 39 = .ok (.putfield 28, 3) := by decide +kernel
theorem dX2_init_42 : decode cX2_init 42 = .ok (.return_, 1) := by decide +kernel
theorem dX2_begin_0 : decode cX2_begin 0 = .ok (.iconst 0, 1) := by decide +kernel
theorem dX2_begin_1 : decode cX2_begin 1 = .ok (.istore_n 2, 1) := by decide +kernel
theorem dX2_begin_2 : decode cX2_begin 2 = .ok (.iload_n 2, 1) := by decide +kernel
theorem dX2_begin_3 : decode cX2_begin 3 = .ok (.iconst 4, 1) := by decide +kernel
theorem dX2_begin_4 : decode cX2_begin 4 = .ok (.if_icmp .ge 40, 3) := by decide +kernel
theorem dX2_begin_7 : decode cX2_begin 7 = .ok (.aload_n 0, 1) := by decide +kernel
theorem dX2_begin_8 : decode cX2_begin 8 = .ok (.getfield 9, 3) := by decide +kernel
theorem dX2_begin_11 : decode cX2_begin 11 = .ok (.iload_n 2, 1) := by decide +kernel
theorem dX2_begin_12 : decode cX2_begin 12 = .ok (.aload_n 1, 1) := by decide +kernel
theorem dX2_begin_13 : decode cX2_begin 13 = .ok (.getfield 31, 3) := by decide +kernel
theorem dX2_begin_16 : decode cX2_begin 16 = .ok (.iload_n 2, 1) := by decide +kernel
theorem dX2_begin_17 : decode cX2_begin 17 = .ok (.iaload, 1) := by decide +kernel
theorem dX2_begin_18 : decode cX2_begin 18 = .ok (.iastore, 1) := by decide +kernel
theorem dX2_begin_19 : decode cX2_begin 19 = .ok (.aload_n 0, 1) := by decide +kernel
theorem dX2_begin_20 : decode cX2_begin 20 = .ok (.getfield 15, 3) := by decide +kernel
theorem dX2_begin_23 : decode cX2_begin 23 = .ok (.iload_n 2, 1) := by decide +kernel
theorem dX2_begin_24 : decode cX2_begin 24 = .ok (.aload_n 1, 1) := by decide +kernel
theorem dX2_begin_25 : decode cX2_begin 25 = .ok (.getfield 36, 3) := by decide +kernel
theorem dX2_begin_28 : decode cX2_begin 28 = .ok (.iload_n 2, 1) := by decide +kernel
theorem dX2_begin_29 : decode cX2_begin 29 = .ok (.iaload, 1) := by decide +kernel
theorem dX2_begin_30 : decode cX2_begin 30 = .ok (.iastore, 1) := by decide +kernel
theorem dX2_begin_31 : decode cX2_begin 31 = .ok (.aload_n 0, 1) := by decide +kernel
theorem dX2_begin_32 : decode cX2_begin 32 = .ok (.getfield 18, 3) := by decide +kernel
theorem dX2_begin_35 : decode cX2_begin 35 = .ok (.iload_n 2, 1) := by decide +kernel
theorem dX2_begin_36 : decode cX2_begin 36 = .ok (.iconst 0, 1) := by decide +kernel
theorem dX2_begin_37 : decode cX2_begin 37 = .ok (.iastore, 1) := by decide +kernel
theorem dX2_begin_38 : decode cX2_begin 38 = .ok (.iinc 2 1, 3) := by decide +kernel
theorem dX2_begin_41 : decode cX2_begin 41 = .ok (.goto (-39), 3) := by decide +kernel
theorem dX2_begin_44 : decode cX2_begin 44 = .ok (.iconst 0, 1) := by decide +kernel
theorem dX2_begin_45 : decode cX2_begin 45 = .ok (.istore_n 2, 1) := by decide +kernel
theorem dX2_begin_46 : decode cX2_begin 46 = .ok (.iload_n 2, 1) := by decide +kernel
theorem dX2_begin_47 : decode cX2_begin 47 = .ok (.iconst 4, 1) := by decide +kernel
theorem dX2_begin_48 : decode cX2_begin 48 = .ok (.if_icmp .ge 16, 3) := by decide +kernel
theorem dX2_begin_51 : decode cX2_begin 51 = .ok (.aload_n 0, 1) := by decide +kernel
theorem dX2_begin_52 : decode cX2_begin 52 = .ok (.getfield 21, 3) := by decide +kernel
theorem dX2_begin_55 : decode cX2_begin 55 = .ok (.iload_n 2, 1) := by decide +kernel
theorem dX2_begin_56 : decode cX2_begin 56 = .ok (.iconst 0, 1) := by decide +kernel
theorem dX2_begin_57 : decode cX2_begin 57 = .ok (.iastore, 1) := by decide +kernel
theorem dX2_begin_58 : decode cX2_begin 58 = .ok (.iinc 2 1, 3) := by decide +kernel
theorem dX2_begin_61 : decode cX2_begin 61 = .ok (.goto (-15), 3) := by decide +kernel
theorem dX2_begin_64 : decode cX2_begin 64 = .ok (.aload_n 0, 1) := by decide +kernel
theorem dX2_begin_65 : decode cX2_begin 65 = .ok (.iconst 0, 1) := by decide +kernel
theorem dX2_begin_66 : decode cX2_begin 66 = .ok (.putfield 24, 3) := by decide +kernel
theorem dX2_begin_69 : decode cX2_begin 69 = .ok (.aload_n 0, 1) := by decide +kernel
theorem dX2_begin_70 : decode cX2_begin 70 = .ok (.iconst 0, 1) := by decide +kernel
theorem dX2_begin_71 : decode cX2_begin 71 = .ok (.putfield 28, 3) := by decide +kernel
theorem dX2_begin_74 : decode cX2_begin 74 = .ok (.return_, 1) := by decide +kernel
theorem dX2_copy_0 : decode cX2_copy 0 = .ok (.iconst 0, 1) := by decide +kernel
theorem dX2_copy_1 : decode cX2_copy 1 = .ok (.istore_n 2, 1) := by decide +kernel
theorem dX2_copy_2 : decode cX2_copy 2 = .ok (.iload_n 2, 1) := by decide +kernel
theorem dX2_copy_3 : decode cX2_copy 3 = .ok (.iconst 4, 1) := by decide +kernel
theorem dX2_copy_4 : decode cX2_copy 4 = .ok (.if_icmp .ge 45, 3) := by decide +kernel
theorem dX2_copy_7 : decode cX2_copy 7 = .ok (.aload_n 0, 1) := by decide +kernel
theorem dX2_copy_8 : decode cX2_copy 8 = .ok (.getfield 9, 3) := by decide +kernel
theorem dX2_copy_11 : decode cX2_copy 11 = .ok (.iload_n 2, 1) := by decide +kernel
theorem dX2_copy_12 : decode cX2_copy 12 = .ok (.aload_n 1, 1) := by decide +kernel
theorem dX2_copy_13 : decode cX2_copy 13 = .ok (.getfield 9, 3) := by decide +kernel
theorem dX2_copy_16 : decode cX2_copy 16 = .ok (.iload_n 2, 1) := by decide +kernel
theorem dX2_copy_17 : decode cX2_copy 17 = .ok (.iaload, 1) := by decide +kernel
theorem dX2_copy_18 : decode cX2_copy 18 = .ok (.iastore, 1) := by decide +kernel
theorem dX2_copy_19 : decode cX2_copy 19 = .ok (.aload_n 0, 1) := by decide +kernel
theorem dX2_copy_20 : decode cX2_copy 20 = .ok (.getfield 15, 3) := by decide +kernel
theorem dX2_copy_23 : decode cX2_copy 23 = .ok (.iload_n 2, 1) := by decide +kernel
theorem dX2_copy_24 : decode cX2_copy 24 = .ok (.aload_n 1, 1) := by decide +kernel
theorem dX2_copy_25 : decode cX2_copy 25 = .ok (.getfield 15, 3) := by decide +kernel
theorem dX2_copy_28 : decode cX2_copy 28 = .ok (.iload_n 2, 1) := by decide +kernel
theorem dX2_copy_29 : decode cX2_copy 29 = .ok (.iaload, 1) := by decide +kernel
theorem dX2_copy_30 : decode cX2_copy 30 = .ok (.iastore, 1) := by decide +kernel
theorem dX2_copy_31 : decode cX2_copy 31 = .ok (.aload_n 0, 1) := by decide +kernel
theorem dX2_copy_32 : decode cX2_copy 32 = .ok (.getfield 18, 3) := by decide +kernel
theorem dX2_copy_35 : decode cX2_copy 35 = .ok (.iload_n 2, 1) := by decide +kernel
theorem dX2_copy_36 : decode cX2_copy 36 = .ok (.aload_n 1, 1) := by decide +kernel
theorem dX2_copy_37 : decode cX2_copy 37 = .ok (.getfield 18, 3) := by decide +kernel
theorem dX2_copy_40 : decode cX2_copy 40 = .ok (.iload_n 2, 1) := by decide +kernel
theorem dX2_copy_41 : decode cX2_copy 41 = .ok (.iaload, 1) := by decide +kernel
theorem dX2_copy_42 : decode cX2_copy 42 = .ok (.iastore, 1) := by decide +kernel
theorem dX2_copy_43 : decode cX2_copy 43 = .ok (.iinc 2 1, 3) := by decide +kernel
theorem dX2_copy_46 : decode cX2_copy 46 = .ok (.goto (-44), 3) := by decide +kernel
theorem dX2_copy_49 : decode cX2_copy 49 = .ok (.iconst 0, 1) := by decide +kernel
theorem dX2_copy_50 : decode cX2_copy 50 = .ok (.istore_n 2, 1) := by decide +kernel
theorem dX2_copy_51 : decode cX2_copy 51 = .ok (.iload_n 2, 1) := by decide +kernel
theorem dX2_copy_52 : decode cX2_copy 52 = .ok (.iconst 4, 1) := by decide +kernel
theorem dX2_copy_53 : decode cX2_copy 53 = .ok (.if_icmp .ge 21, 3) := by decide +kernel
theorem dX2_copy_56 : decode cX2_copy 56 = .ok (.aload_n 0, 1) := by decide +kernel
theorem dX2_copy_57 : decode cX2_copy 57 = .ok (.getfield 21, 3) := by decide +kernel
theorem dX2_copy_60 : decode cX2_copy 60 = .ok (.iload_n 2, 1) := by decide +kernel
theorem dX2_copy_61 : decode cX2_copy 61 = .ok (.aload_n 1, 1) := by decide +kernel
theorem dX2_copy_62 : decode cX2_copy 62 = .ok (.getfield 21, 3) := by decide +kernel
theorem dX2_copy_65 : decode cX2_copy 65 = .ok (.iload_n 2, 1) := by decide +kernel
theorem dX2_copy_66 : decode cX2_copy 66 = .ok (.iaload, 1) := by decide +kernel
theorem dX2_copy_67 : decode cX2_copy 67 = .ok (.iastore, 1) := by decide +kernel
theorem dX2_copy_68 : decode cX2_copy 68 = .ok (.iinc 2 1, 3) := by decide +kernel
theorem dX2_copy_71 : decode cX2_copy 71 = .ok (.goto (-20), 3) := by decide +kernel
theorem dX2_copy_74 : decode cX2_copy 74 = .ok (.aload_n 0, 1) := by decide +kernel
theorem dX2_copy_75 : decode cX2_copy 75 = .ok (.aload_n 1, 1) := by decide +kernel
theorem dX2_copy_76 : decode cX2_copy 76 = .ok (.getfield 24, 3) := by decide +kernel
theorem dX2_copy_79 : decode cX2_copy 79 = .ok (.putfield 24, 3) := by decide +kernel
theorem dX2_copy_82 : decode cX2_copy 82 = .ok (.aload_n 0, 1) := by decide +kernel
theorem dX2_copy_83 : decode cX2_copy 83 = .ok (.aload_n 1, 1) := by decide +kernel
theorem dX2_copy_84 : decode cX2_copy 84 = .ok (.getfield 28, 3) := by decide +kernel
theorem dX2_copy_87 : decode cX2_copy 87 = .ok (.putfield 28, 3) := by decide +kernel
theorem dX2_copy_90 : decode cX2_copy 90 = .ok (.return_, 1) := by decide +kernel
theorem dX2_saveTo_0 : decode cX2_saveTo 0 = .ok (.iload_n 2, 1) := by decide +kernel
theorem dX2_saveTo_1 : decode cX2_saveTo 1 = .ok (.ifCond .lt 12, 3) := by decide +kernel
theorem dX2_saveTo_4 : decode cX2_saveTo 4 = .ok (.iload_n 2, 1) := by decide +kernel
theorem dX2_saveTo_5 : decode cX2_saveTo 5 = .ok (.bipush 18, 2) := by decide +kernel
theorem dX2_saveTo_7 : decode cX2_saveTo 7 = .ok (.iadd, 1) := by decide +kernel
theorem dX2_saveTo_8 : decode cX2_saveTo 8 = .ok (.aload_n 1, 1) := by decide +kernel
theorem dX2_saveTo_9 : decode cX2_saveTo 9 = .ok (.arraylength, 1) := by decide +kernel
theorem dX2_saveTo_10 : decode cX2_saveTo 10 = .ok (.if_icmp .le 4, 3) := by decide +kernel
theorem dX2_saveTo_13 : decode cX2_saveTo 13 = .ok (.return_, 1) := by decide +kernel
theorem dX2_saveTo_14 : decode cX2_saveTo 14 = .ok (.iconst 0, 1) := by decide +kernel
theorem dX2_saveTo_15 : decode cX2_saveTo 15 = .ok (.istore_n 3, 1) := by decide +kernel
theorem dX2_saveTo_16 : decode cX2_saveTo 16 = .ok (.iload_n 3, 1) := by decide +kernel
theorem dX2_saveTo_17 : decode cX2_saveTo 17 = .ok (.iconst 4, 1) := by decide +kernel
theorem dX2_saveTo_18 : decode cX2_saveTo 18 = .ok (.if_icmp .ge 52, 3) := by decide +kernel
theorem dX2_saveTo_21 : decode cX2_saveTo 21 = .ok (.aload_n 1, 1) := by decide +kernel
theorem dX2_saveTo_22 : decode cX2_saveTo 22 = .ok (.iload_n 2, 1) := by decide +kernel
theorem dX2_saveTo_23 : decode cX2_saveTo 23 = .ok (.iconst 3, 1) := by decide +kernel
theorem dX2_saveTo_24 : decode cX2_saveTo 24 = .ok (.iload_n 3, 1) := by decide +kernel
theorem dX2_saveTo_25 : decode cX2_saveTo 25 = .ok (.imul, 1) := by decide +kernel
theorem dX2_saveTo_26 : decode cX2_saveTo 26 = .ok (.iadd, 1) := by decide +kernel
theorem dX2_saveTo_27 : decode cX2_saveTo 27 = .ok (.aload_n 0, 1) := by decide +kernel
theorem dX2_saveTo_28 : decode cX2_saveTo 28 = .ok (.getfield 9, 3) := by decide +kernel
theorem dX2_saveTo_31 : decode cX2_saveTo 31 = .ok (.iload_n 3, 1) := by decide +kernel
theorem dX2_saveTo_32 : decode cX2_saveTo 32 = .ok (.iaload, 1) := by decide +kernel
theorem dX2_saveTo_33 : decode cX2_saveTo 33 = .ok (.iastore, 1) := by decide +kernel
theorem dX2_saveTo_34 : decode cX2_saveTo 34 = .ok (.aload_n 1, 1) := by decide +kernel
theorem dX2_saveTo_35 : decode cX2_saveTo 35 = .ok (.iload_n 2, 1) := by decide +kernel
theorem dX2_saveTo_36 : decode cX2_saveTo 36 = .ok (.iconst 3, 1) := by decide +kernel
theorem dX2_saveTo_37 : decode cX2_saveTo 37 = .ok (.iload_n 3, 1) := by decide +kernel
theorem dX2_saveTo_38 : decode cX2_saveTo 38 = .ok (.imul, 1) := by decide +kernel
theorem dX2_saveTo_39 : decode cX2_saveTo 39 = .ok (.iadd, 1) := by decide +kernel
theorem dX2_saveTo_40 : decode cX2_saveTo 40 = .ok (.iconst 1, 1) := by decide +kernel
theorem dX2_saveTo_41 : decode cX2_saveTo 41 = .ok (.iadd, 1) := by decide +kernel
theorem dX2_saveTo_42 : decode cX2_saveTo 42 = .ok (.aload_n 0, 1) := by decide +kernel
theorem dX2_saveTo_43 : decode cX2_saveTo 43 = .ok (.getfield 15, 3) := by decide +kernel
theorem dX2_saveTo_46 : decode cX2_saveTo 46 = .ok (.iload_n 3, 1) := by decide +kernel
theorem dX2_saveTo_47 : decode cX2_saveTo 47 = .ok (.iaload, 1) := by decide +kernel
theorem dX2_saveTo_48 : decode cX2_saveTo 48 = .ok (.iastore, 1) := by decide +kernel
theorem dX2_saveTo_49 : decode cX2_saveTo 49 = .ok (.aload_n 1, 1) := by decide +kernel
theorem dX2_saveTo_50 : decode cX2_saveTo 50 = .ok (.iload_n 2, 1) := by decide +kernel
theorem dX2_saveTo_51 : decode cX2_saveTo 51 = .ok (.iconst 3, 1) := by decide +kernel
theorem dX2_saveTo_52 : decode cX2_saveTo 52 = .ok (.iload_n 3, 1) := by decide +kernel
theorem dX2_saveTo_53 : decode cX2_saveTo 53 = .ok (.imul, 1) := by decide +kernel
theorem dX2_saveTo_54 : decode cX2_saveTo 54 = .ok (.iadd, 1) := by decide +kernel
theorem dX2_saveTo_55 : decode cX2_saveTo 55 = .ok (.iconst 2, 1) := by decide +kernel
theorem dX2_saveTo_56 : decode cX2_saveTo 56 = .ok (.iadd, 1) := by decide +kernel
theorem dX2_saveTo_57 : decode cX2_saveTo 57 = .ok (.aload_n 0, 1) := by decide +kernel
theorem dX2_saveTo_58 : decode cX2_saveTo 58 = .ok (.getfield 18, 3) := by decide +kernel
theorem dX2_saveTo_61 : decode cX2_saveTo 61 = .ok (.iload_n 3, 1) := by decide +kernel
theorem dX2_saveTo_62 : decode cX2_saveTo 62 = .ok (.iaload, 1) := by decide +kernel
theorem dX2_saveTo_63 : decode cX2_saveTo 63 = .ok (.iastore, 1) := by decide +kernel
theorem dX2_saveTo_64 : decode cX2_saveTo 64 = .ok (.iinc 3 1, 3) := by decide +kernel
theorem dX2_saveTo_67 : decode cX2_saveTo 67 = .ok (.goto (-51), 3) := by decide +kernel
theorem dX2_saveTo_70 : decode cX2_saveTo 70 = .ok (.iconst 0, 1) := by decide +kernel
theorem dX2_saveTo_71 : decode cX2_saveTo 71 = .ok (.istore_n 3, 1) := by decide +kernel
theorem dX2_saveTo_72 : decode cX2_saveTo 72 = .ok (.iload_n 3, 1) := by decide +kernel
theorem dX2_saveTo_73 : decode cX2_saveTo 73 = .ok (.iconst 4, 1) := by decide +kernel
theorem dX2_saveTo_74 : decode cX2_saveTo 74 = .ok (.if_icmp .ge 23, 3) := by decide +kernel
theorem dX2_saveTo_77 : decode cX2_saveTo 77 = .ok (.aload_n 1, 1) := by decide +kernel
theorem dX2_saveTo_78 : decode cX2_saveTo 78 = .ok (.iload_n 2, 1) := by decide +kernel
theorem dX2_saveTo_79 : decode cX2_saveTo 79 = .ok (.bipush 12, 2) := by decide +kernel
theorem dX2_saveTo_81 : decode cX2_saveTo 81 = .ok (.iadd, 1) := by decide +kernel
theorem dX2_saveTo_82 : decode cX2_saveTo 82 = .ok (.iload_n 3, 1) := by decide +kernel
theorem dX2_saveTo_83 : decode cX2_saveTo 83 = .ok (.iadd, 1) := by decide +kernel
theorem dX2_saveTo_84 : decode cX2_saveTo 84 = .ok (.aload_n 0, 1) := by decide +kernel
theorem dX2_saveTo_85 : decode cX2_saveTo 85 = .ok (.getfield 21, 3) := by decide +kernel
theorem dX2_saveTo_88 : decode cX2_saveTo 88 = .ok (.iload_n 3, 1) := by decide +kernel
theorem dX2_saveTo_89 : decode cX2_saveTo 89 = .ok (.iaload, 1) := by decide +kernel
theorem dX2_saveTo_90 : decode cX2_saveTo 90 = .ok (.iastore, 1) := by decide +kernel
theorem dX2_saveTo_91 : decode cX2_saveTo 91 = .ok (.iinc 3 1, 3) := by decide +kernel
theorem dX2_saveTo_94 : decode cX2_saveTo 94 = .ok (.goto (-22), 3) := by decide +kernel
theorem dX2_saveTo_97 : decode cX2_saveTo 97 = .ok (.aload_n 1, 1) := by decide +kernel
theorem dX2_saveTo_98 : decode cX2_saveTo 98 = .ok (.iload_n 2, 1) := by decide +kernel
theorem dX2_saveTo_99 : decode cX2_saveTo 99 = .ok (.bipush 18, 2) := by decide +kernel
theorem dX2_saveTo_101 : decode cX2_saveTo 101 = .ok (.iadd, 1) := by decide +kernel
theorem dX2_saveTo_102 : decode cX2_saveTo 102 = .ok (.iconst 2, 1) := by decide +kernel
theorem dX2_saveTo_103 : decode cX2_saveTo 103 = .ok (.isub, 1) := by decide +kernel
theorem dX2_saveTo_104 : decode cX2_saveTo 104 = .ok (.aload_n 0, 1) := by decide +kernel
theorem dX2_saveTo_105 : decode cX2_saveTo 105 = .ok (.getfield 24, 3) := by decide +kernel
theorem dX2_saveTo_108 : decode cX2_saveTo 108 = .ok (.iastore, 1) := by decide +kernel
theorem dX2_saveTo_109 : decode cX2_saveTo 109 = .ok (.aload_n 1, 1) := by decide +kernel
theorem dX2_saveTo_110 : decode cX2_saveTo 110 = .ok (.iload_n 2, 1) := by decide +kernel
theorem dX2_saveTo_111 : decode cX2_saveTo 111 = .ok (.bipush 18, 2) := by decide +kernel
theorem dX2_saveTo_113 : decode cX2_saveTo 113 = .ok (.iadd, 1) := by decide +kernel
theorem dX2_saveTo_114 : decode cX2_saveTo 114 = .ok (.iconst 1, 1) := by decide +kernel
theorem dX2_saveTo_115 : decode cX2_saveTo 115 = .ok (.isub, 1) := by decide +kernel
theorem dX2_saveTo_116 : decode cX2_saveTo 116 = .ok (.aload_n 0, 1) := by decide +kernel
theorem dX2_saveTo_117 : decode cX2_saveTo 117 = .ok (.getfield 28, 3) := by decide +kernel
theorem dX2_saveTo_120 : decode cX2_saveTo 120 = .ok (.iastore, 1) := by decide +kernel
theorem dX2_saveTo_121 : decode cX2_saveTo 121 = .ok (.return_, 1) := by decide +kernel
theorem dX2_loadFrom_0 : decode cX2_loadFrom 0 = .ok (.iload_n 2, 1) := by decide +kernel
theorem dX2_loadFrom_1 : decode cX2_loadFrom 1 = .ok (.ifCond .lt 12, 3) := by decide +kernel
theorem dX2_loadFrom_4 : decode cX2_loadFrom 4 = .ok (.iload_n 2, 1) := by decide +kernel
theorem dX2_loadFrom_5 : decode cX2_loadFrom 5 = .ok (.bipush 18, 2) := by decide +kernel
theorem dX2_loadFrom_7 : decode cX2_loadFrom 7 = .ok (.iadd, 1) := by decide +kernel
theorem dX2_loadFrom_8 : decode cX2_loadFrom 8 = .ok (.aload_n 1, 1) := by decide +kernel
theorem dX2_loadFrom_9 : decode cX2_loadFrom 9 = .ok (.arraylength, 1) := by decide +kernel
theorem dX2_loadFrom_10 : decode cX2_loadFrom 10 = .ok (.if_icmp .le 4, 3) := by decide +kernel
theorem dX2_loadFrom_13 : decode cX2_loadFrom 13 = .ok (.return_, 1) := by decide +kernel
theorem dX2_loadFrom_14 : decode cX2_loadFrom 14 = .ok (.iconst 0, 1) := by decide +kernel
theorem dX2_loadFrom_15 : decode cX2_loadFrom 15 = .ok (.istore_n 3, 1) := by decide +kernel
theorem dX2_loadFrom_16 : decode cX2_loadFrom 16 = .ok (.iload_n 3, 1) := by decide +kernel
theorem dX2_loadFrom_17 : decode cX2_loadFrom 17 = .ok (.iconst 4, 1) := by decide +kernel
theorem dX2_loadFrom_18 : decode cX2_loadFrom 18 = .ok (.if_icmp .ge 52, 3) := by decide +kernel
theorem dX2_loadFrom_21 : decode cX2_loadFrom 21 = .ok (.aload_n 0, 1) := by decide +kernel
theorem dX2_loadFrom_22 : decode cX2_loadFrom 22 = .ok (.getfield 9, 3) := by decide +kernel
theorem dX2_loadFrom_25 : decode cX2_loadFrom 25 = .ok (.iload_n 3, 1) := by decide +kernel
theorem dX2_loadFrom_26 : decode cX2_loadFrom 26 = .ok (.aload_n 1, 1) := by decide +kernel
theorem dX2_loadFrom_27 : decode cX2_loadFrom 27 = .ok (.iload_n 2, 1) := by decide +kernel
theorem dX2_loadFrom_28 : decode cX2_loadFrom 28 = .ok (.iconst 3, 1) := by decide +kernel
theorem dX2_loadFrom_29 : decode cX2_loadFrom 29 = .ok (.iload_n 3, 1) := by decide +kernel
theorem dX2_loadFrom_30 : decode cX2_loadFrom 30 = .ok (.imul, 1) := by decide +kernel
theorem dX2_loadFrom_31 : decode cX2_loadFrom 31 = .ok (.iadd, 1) := by decide +kernel
theorem dX2_loadFrom_32 : decode cX2_loadFrom 32 = .ok (.iaload, 1) := by decide +kernel
theorem dX2_loadFrom_33 : decode cX2_loadFrom 33 = .ok (.iastore, 1) := by decide +kernel
theorem dX2_loadFrom_34 : decode cX2_loadFrom 34 = .ok (.aload_n 0, 1) := by decide +kernel
theorem dX2_loadFrom_35 : decode cX2_loadFrom 35 = .ok (.getfield 15, 3) := by decide +kernel
theorem dX2_loadFrom_38 : decode cX2_loadFrom 38 = .ok (.iload_n 3, 1) := by decide +kernel
theorem dX2_loadFrom_39 : decode cX2_loadFrom 39 = .ok (.aload_n 1, 1) := by decide +kernel
theorem dX2_loadFrom_40 : decode cX2_loadFrom 40 = .ok (.iload_n 2, 1) := by decide +kernel
theorem dX2_loadFrom_41 : decode cX2_loadFrom 41 = .ok (.iconst 3, 1) := by decide +kernel
theorem dX2_loadFrom_42 : decode cX2_loadFrom 42 = .ok (.iload_n 3, 1) := by decide +kernel
theorem dX2_loadFrom_43 : decode cX2_loadFrom 43 = .ok (.imul, 1) := by decide +kernel
theorem dX2_loadFrom_44 : decode cX2_loadFrom 44 = .ok (.iadd, 1) := by decide +kernel
theorem dX2_loadFrom_45 : decode cX2_loadFrom 45 = .ok (.iconst 1, 1) := by decide +kernel
theorem dX2_loadFrom_46 : decode cX2_loadFrom 46 = .ok (.iadd, 1) := by decide +kernel
theorem dX2_loadFrom_47 : decode cX2_loadFrom 47 = .ok (.iaload, 1) := by decide +kernel
theorem dX2_loadFrom_48 : decode cX2_loadFrom 48 = .ok (.iastore, 1) := by decide +kernel
theorem dX2_loadFrom_49 : decode cX2_loadFrom 49 = .ok (.aload_n 0, 1) := by decide +kernel
theorem dX2_loadFrom_50 : decode cX2_loadFrom 50 = .ok (.getfield 18, 3) := by decide +kernel
theorem dX2_loadFrom_53 : decode cX2_loadFrom 53 = .ok (.iload_n 3, 1) := by decide +kernel
theorem dX2_loadFrom_54 : decode cX2_loadFrom 54 = .ok (.aload_n 1, 1) := by decide +kernel
theorem dX2_loadFrom_55 : decode cX2_loadFrom 55 = .ok (.iload_n 2, 1) := by decide +kernel
theorem dX2_loadFrom_56 : decode cX2_loadFrom 56 = .ok (.iconst 3, 1) := by decide +kernel
theorem dX2_loadFrom_57 : decode cX2_loadFrom 57 = .ok (.iload_n 3, 1) := by decide +kernel
theorem dX2_loadFrom_58 : decode cX2_loadFrom 58 = .ok (.imul, 1) := by decide +kernel
theorem dX2_loadFrom_59 : decode cX2_loadFrom 59 = .ok (.iadd, 1) := by decide +kernel
theorem dX2_loadFrom_60 : decode cX2_loadFrom 60 = .ok (.iconst 2, 1) := by decide +kernel
theorem dX2_loadFrom_61 : decode cX2_loadFrom 61 = .ok (.iadd, 1) := by decide +kernel
theorem dX2_loadFrom_62 : decode cX2_loadFrom 62 = .ok (.iaload, 1) := by decide +kernel
theorem dX2_loadFrom_63 : decode cX2_loadFrom 63 = .ok (.iastore, 1) := by decide +kernel
theorem dX2_loadFrom_64 : decode cX2_loadFrom 64 = .ok (.iinc 3 1, 3) := by decide +kernel
theorem dX2_loadFrom_67 : decode cX2_loadFrom 67 = .ok (.goto (-51), 3) := by decide +kernel
theorem dX2_loadFrom_70 : decode cX2_loadFrom 70 = .ok (.iconst 0, 1) := by decide +kernel
theorem dX2_loadFrom_71 : decode cX2_loadFrom 71 = .ok (.istore_n 3, 1) := by decide +kernel
theorem dX2_loadFrom_72 : decode cX2_loadFrom 72 = .ok (.iload_n 3, 1) := by decide +kernel
theorem dX2_loadFrom_73 : decode cX2_loadFrom 73 = .ok (.iconst 4, 1) := by decide +kernel
theorem dX2_loadFrom_74 : decode cX2_loadFrom 74 = .ok (.if_icmp .ge 23, 3) := by decide +kernel
theorem dX2_loadFrom_77 : decode cX2_loadFrom 77 = .ok (.aload_n 0, 1) := by decide +kernel
theorem dX2_loadFrom_78 : decode cX2_loadFrom 78 = .ok (.getfield 21, 3) := by decide +kernel
theorem dX2_loadFrom_81 : decode cX2_loadFrom 81 = .ok (.iload_n 3, 1) := by decide +kernel
theorem dX2_loadFrom_82 : decode cX2_loadFrom 82 = .ok (.aload_n 1, 1) := by decide +kernel
theorem dX2_loadFrom_83 : decode cX2_loadFrom 83 = .ok (.iload_n 2, 1) := by decide +kernel
theorem dX2_loadFrom_84 : decode cX2_loadFrom 84 = .ok (.bipush 12, 2) := by decide +kernel
theorem dX2_loadFrom_86 : decode cX2_loadFrom 86 = .ok (.iadd, 1) := by decide +kernel
theorem dX2_loadFrom_87 : decode cX2_loadFrom 87 = .ok (.iload_n 3, 1) := by decide +kernel
theorem dX2_loadFrom_88 : decode cX2_loadFrom 88 = .ok (.iadd, 1) := by decide +kernel
theorem dX2_loadFrom_89 : decode cX2_loadFrom 89 = .ok (.iaload, 1) := by decide +kernel
theorem dX2_loadFrom_90 : decode cX2_loadFrom 90 = .ok (.iastore, 1) := by decide +kernel
theorem dX2_loadFrom_91 : decode cX2_loadFrom 91 = .ok (.iinc 3 1, 3) := by decide +kernel
theorem dX2_loadFrom_94 : decode cX2_loadFrom 94 = .ok (.goto (-22), 3) := by decide +kernel
theorem dX2_loadFrom_97 : decode cX2_loadFrom 97 = .ok (.aload_n 0, 1) := by decide +kernel
theorem dX2_loadFrom_98 : decode cX2_loadFrom 98 = .ok (.aload_n 1, 1) := by decide +kernel
theorem dX2_loadFrom_99 : decode cX2_loadFrom 99 = .ok (.iload_n 2, 1) := by decide +kernel
theorem dX2_loadFrom_100 : decode cX2_loadFrom 100 = .ok (.bipush 18, 2) := by decide +kernel
theorem dX2_loadFrom_102 : decode cX2_loadFrom 102 = .ok (.iadd, 1) := by decide +kernel
theorem dX2_loadFrom_103 : decode cX2_loadFrom 103 = .ok (.iconst 2, 1) := by decide +kernel
theorem dX2_loadFrom_104 : decode cX2_loadFrom 104 = .ok (.isub, 1) := by decide +kernel
theorem dX2_loadFrom_105 : decode cX2_loadFrom 105 = .ok (.iaload, 1) := by decide +kernel
theorem dX2_loadFrom_106 : decode cX2_loadFrom 106 = .ok (.putfield 24, 3) := by decide +kernel
theorem dX2_loadFrom_109 : decode cX2_loadFrom 109 = .ok (.aload_n 0, 1) := by decide +kernel
theorem dX2_loadFrom_110 : decode cX2_loadFrom 110 = .ok (.aload_n 1, 1) := by decide +kernel
theorem dX2_loadFrom_111 : decode cX2_loadFrom 111 = .ok (.iload_n 2, 1) := by decide +kernel
theorem dX2_loadFrom_112 : decode cX2_loadFrom 112 = .ok (.bipush 18, 2) := by decide +kernel
theorem dX2_loadFrom_114 : decode cX2_loadFrom 114 = .ok (.iadd, 1) := by decide +kernel
theorem dX2_loadFrom_115 : decode cX2_loadFrom 115 = .ok (.iconst 1, 1) := by decide +kernel
theorem dX2_loadFrom_116 : decode cX2_loadFrom 116 = .ok (.isub, 1) := by decide +kernel
theorem dX2_loadFrom_117 : decode cX2_loadFrom 117 = .ok (.iaload, 1) := by decide +kernel
theorem dX2_loadFrom_118 : decode cX2_loadFrom 118 = .ok (.putfield 28, 3) := by decide +kernel
theorem dX2_loadFrom_121 : decode cX2_loadFrom 121 = .ok (.return_, 1) := by decide +kernel
theorem dX2_lightIfCan_0 : decode cX2_lightIfCan 0 = .ok (.aload_n 1, 1) := by decide +kernel
theorem dX2_lightIfCan_1 : decode cX2_lightIfCan 1 = .ok (.iload_n 2, 1) := by decide +kernel
theorem dX2_lightIfCan_2 : decode cX2_lightIfCan 2 = .ok (.invokevirtual 39, 3) := by decide +kernel
theorem dX2_lightIfCan_5 : decode cX2_lightIfCan 5 = .ok (.ifCond .eq 12, 3) := by decide +kernel
theorem dX2_lightIfCan_8 : decode cX2_lightIfCan 8 = .ok (.aload_n 0, 1) := by decide +kernel
theorem dX2_lightIfCan_9 : decode cX2_lightIfCan 9 = .ok (.getfield 18, 3) := by decide +kernel
theorem dX2_lightIfCan_12 : decode cX2_lightIfCan 12 = .ok (.iload_n 2, 1) := by decide +kernel
theorem dX2_lightIfCan_13 : decode cX2_lightIfCan 13 = .ok (.iaload, 1) := by decide +kernel
theorem dX2_lightIfCan_14 : decode cX2_lightIfCan 14 = .ok (.ifCond .eq 5, 3) := by decide +kernel
theorem dX2_lightIfCan_17 : decode cX2_lightIfCan 17 = .ok (.iconst 0, 1) := by decide +kernel
theorem dX2_lightIfCan_18 : decode cX2_lightIfCan 18 = .ok (.ireturn, 1) := by decide +kernel
theorem dX2_lightIfCan_19 : decode cX2_lightIfCan 19 = .ok (.aload_n 0, 1) := by decide +kernel
theorem dX2_lightIfCan_20 : decode cX2_lightIfCan 20 = .ok (.getfield 18, 3) := by decide +kernel
theorem dX2_lightIfCan_23 : decode cX2_lightIfCan 23 = .ok (.iload_n 2, 1) := by decide +kernel
theorem dX2_lightIfCan_24 : decode cX2_lightIfCan 24 = .ok (.iconst 1, 1) := by decide +kernel
theorem dX2_lightIfCan_25 : decode cX2_lightIfCan 25 = .ok (.iastore, 1) := by decide +kernel
theorem dX2_lightIfCan_26 : decode cX2_lightIfCan 26 = .ok (.iconst 1, 1) := by decide +kernel
theorem dX2_lightIfCan_27 : decode cX2_lightIfCan 27 = .ok (.ireturn, 1) := by decide +kernel
theorem dX2_goBy_0 : decode cX2_goBy 0 = .ok (.iconst 0, 1) := by decide +kernel
theorem dX2_goBy_1 : decode cX2_goBy 1 = .ok (.istore_n 2, 1) := by decide +kernel
theorem dX2_goBy_2 : decode cX2_goBy 2 = .ok (.iconst 0, 1) := by decide +kernel
theorem dX2_goBy_3 : decode cX2_goBy 3 = .ok (.istore_n 3, 1) := by decide +kernel
theorem dX2_goBy_4 : decode cX2_goBy 4 = .ok (.iload_n 3, 1) := by decide +kernel
theorem dX2_goBy_5 : decode cX2_goBy 5 = .ok (.aload_n 1, 1) := by decide +kernel
theorem dX2_goBy_6 : decode cX2_goBy 6 = .ok (.getfield 43, 3) := by decide +kernel
theorem dX2_goBy_9 : decode cX2_goBy 9 = .ok (.if_icmp .ge 35, 3) := by decide +kernel
theorem dX2_goBy_12 : decode cX2_goBy 12 = .ok (.aload_n 0, 1) := by decide +kernel
theorem dX2_goBy_13 : decode cX2_goBy 13 = .ok (.getfield 18, 3) := by decide +kernel
theorem dX2_goBy_16 : decode cX2_goBy 16 = .ok (.iload_n 3, 1) := by decide +kernel
theorem dX2_goBy_17 : decode cX2_goBy 17 = .ok (.iaload, 1) := by decide +kernel
theorem dX2_goBy_18 : decode cX2_goBy 18 = .ok (.iconst 1, 1) := by decide +kernel
theorem dX2_goBy_19 : decode cX2_goBy 19 = .ok (.if_icmp .ne 19, 3) := by decide +kernel
theorem dX2_goBy_22 : decode cX2_goBy 22 = .ok (.iload_n 2, 1) := by decide +kernel
theorem dX2_goBy_23 : decode cX2_goBy 23 = .ok (.aload_n 0, 1) := by decide +kernel
theorem dX2_goBy_24 : decode cX2_goBy 24 = .ok (.aload_n 1, 1) := by decide +kernel
theorem dX2_goBy_25 : decode cX2_goBy 25 = .ok (.iload_n 3, 1) := by decide +kernel
theorem dX2_goBy_26 : decode cX2_goBy 26 = .ok (.iconst 0, 1) := by decide +kernel
theorem dX2_goBy_27 : decode cX2_goBy 27 = .ok (.invokevirtual 46, 3) := by decide +kernel
theorem dX2_goBy_30 : decode cX2_goBy 30 = .ok (.ior, 1) := by decide +kernel
theorem dX2_goBy_31 : decode cX2_goBy 31 = .ok (.istore_n 2, 1) := by decide +kernel
theorem dX2_goBy_32 : decode cX2_goBy 32 = .ok (.aload_n 0, 1) := by decide +kernel
theorem dX2_goBy_33 : decode cX2_goBy 33 = .ok (.aload_n 1, 1) := by decide +kernel
theorem dX2_goBy_34 : decode cX2_goBy 34 = .ok (.iload_n 3, 1) := by decide +kernel
theorem dX2_goBy_35 : decode cX2_goBy 35 = .ok (.invokevirtual 50, 3) := by decide +kernel
theorem dX2_goBy_38 : decode cX2_goBy 38 = .ok (.iinc 3 1, 3) := by decide +kernel
theorem dX2_goBy_41 : decode cX2_goBy 41 = .ok (.goto (-37), 3) := by decide +kernel
theorem dX2_goBy_44 : decode cX2_goBy 44 = .ok (.iconst 0, 1) := by decide +kernel
theorem dX2_goBy_45 : decode cX2_goBy 45 = .ok (.istore_n 3, 1) := by decide +kernel
theorem dX2_goBy_46 : decode cX2_goBy 46 = .ok (.iconst 0, 1) := by decide +kernel
theorem dX2_goBy_47 : decode cX2_goBy 47 = .ok (.istore 4, 2) := by decide +kernel
theorem dX2_goBy_49 : decode cX2_goBy 49 = .ok (.iload 4, 2) := by decide +kernel
theorem dX2_goBy_51 : decode cX2_goBy 51 = .ok (.aload_n 1, 1) := by decide +kernel
theorem dX2_goBy_52 : decode cX2_goBy 52 = .ok (.getfield 54, 3) := by decide +kernel
theorem dX2_goBy_55 : decode cX2_goBy 55 = .ok (.if_icmp .ge 82, 3) := by decide +kernel
theorem dX2_goBy_58 : decode cX2_goBy 58 = .ok (.aload_n 0, 1) := by decide +kernel
theorem dX2_goBy_59 : decode cX2_goBy 59 = .ok (.getfield 28, 3) := by decide +kernel
theorem dX2_goBy_62 : decode cX2_goBy 62 = .ok (.aload_n 1, 1) := by decide +kernel
theorem dX2_goBy_63 : decode cX2_goBy 63 = .ok (.getfield 57, 3) := by decide +kernel
theorem dX2_goBy_66 : decode cX2_goBy 66 = .ok (.iload 4, 2) := by decide +kernel
theorem dX2_goBy_68 : decode cX2_goBy 68 = .ok (.iaload, 1) := by decide +kernel
theorem dX2_goBy_69 : decode cX2_goBy 69 = .ok (.if_icmp .lt 21, 3) := by decide +kernel
theorem dX2_goBy_72 : decode cX2_goBy 72 = .ok (.aload_n 0, 1) := by decide +kernel
theorem dX2_goBy_73 : decode cX2_goBy 73 = .ok (.getfield 28, 3) := by decide +kernel
theorem dX2_goBy_76 : decode cX2_goBy 76 = .ok (.aload_n 1, 1) := by decide +kernel
theorem dX2_goBy_77 : decode cX2_goBy 77 = .ok (.getfield 60, 3) := by decide +kernel
theorem dX2_goBy_80 : decode cX2_goBy 80 = .ok (.iload 4, 2) := by decide +kernel
theorem dX2_goBy_82 : decode cX2_goBy 82 = .ok (.iaload, 1) := by decide +kernel
theorem dX2_goBy_83 : decode cX2_goBy 83 = .ok (.if_icmp .gt 7, 3) := by decide +kernel
theorem dX2_goBy_86 : decode cX2_goBy 86 = .ok (.iconst 1, 1) := by decide +kernel
theorem dX2_goBy_87 : decode cX2_goBy 87 = .ok (.goto 4, 3) := by decide +kernel
theorem dX2_goBy_90 : decode cX2_goBy 90 = .ok (.iconst 0, 1) := by decide +kernel
theorem dX2_goBy_91 : decode cX2_goBy 91 = .ok (.istore 5, 2) := by decide +kernel
theorem dX2_goBy_93 : decode cX2_goBy 93 = .ok (.iload 5, 2) := by decide +kernel
theorem dX2_goBy_95 : decode cX2_goBy 95 = .ok (.ifCond .eq 36, 3) := by decide +kernel
theorem dX2_goBy_98 : decode cX2_goBy 98 = .ok (.iload_n 2, 1) := by decide +kernel
theorem dX2_goBy_99 : decode cX2_goBy 99 = .ok (.aload_n 1, 1) := by decide +kernel
theorem dX2_goBy_100 : decode cX2_goBy 100 = .ok (.getfield 63, 3) := by decide +kernel
theorem dX2_goBy_103 : decode cX2_goBy 103 = .ok (.iload 4, 2) := by decide +kernel
theorem dX2_goBy_105 : decode cX2_goBy 105 = .ok (.iaload, 1) := by decide +kernel
theorem dX2_goBy_106 : decode cX2_goBy 106 = .ok (.ishr, 1) := by decide +kernel
theorem dX2_goBy_107 : decode cX2_goBy 107 = .ok (.iconst 1, 1) := by decide +kernel
theorem dX2_goBy_108 : decode cX2_goBy 108 = .ok (.iand, 1) := by decide +kernel
theorem dX2_goBy_109 : decode cX2_goBy 109 = .ok (.iconst 1, 1) := by decide +kernel
theorem dX2_goBy_110 : decode cX2_goBy 110 = .ok (.if_icmp .ne 21, 3) := by decide +kernel
theorem dX2_goBy_113 : decode cX2_goBy 113 = .ok (.aload_n 0, 1) := by decide +kernel
theorem dX2_goBy_114 : decode cX2_goBy 114 = .ok (.getfield 21, 3) := by decide +kernel
theorem dX2_goBy_117 : decode cX2_goBy 117 = .ok (.iload 4, 2) := by decide +kernel
theorem dX2_goBy_119 : decode cX2_goBy 119 = .ok (.dup2, 1) := by decide +kernel
theorem dX2_goBy_120 : decode cX2_goBy 120 = .ok (.iaload, 1) := by decide +kernel
theorem dX2_goBy_121 : decode cX2_goBy 121 = .ok (.iconst 1, 1) := by decide +kernel
theorem dX2_goBy_122 : decode cX2_goBy 122 = .ok (.iadd, 1) := by decide +kernel
theorem dX2_goBy_123 : decode cX2_goBy 123 = .ok (.iastore, 1) := by decide +kernel
theorem dX2_goBy_124 : decode cX2_goBy 124 = .ok (.iload_n 3, 1) := by decide +kernel
theorem dX2_goBy_125 : decode cX2_goBy 125 = .ok (.iconst 1, 1) := by decide +kernel
theorem dX2_goBy_126 : decode cX2_goBy 126 = .ok (.iload 4, 2) := by decide +kernel
theorem dX2_goBy_128 : decode cX2_goBy 128 = .ok (.ishl, 1) := by decide +kernel
theorem dX2_goBy_129 : decode cX2_goBy 129 = .ok (.ior, 1) := by decide +kernel
theorem dX2_goBy_130 : decode cX2_goBy 130 = .ok (.istore_n 3, 1) := by decide +kernel
theorem dX2_goBy_131 : decode cX2_goBy 131 = .ok (.iinc 4 1, 3) := by decide +kernel
theorem dX2_goBy_134 : decode cX2_goBy 134 = .ok (.goto (-85), 3) := by decide +kernel
theorem dX2_goBy_137 : decode cX2_goBy 137 = .ok (.aload_n 0, 1) := by decide +kernel
theorem dX2_goBy_138 : decode cX2_goBy 138 = .ok (.dup, 1) := by decide +kernel
theorem dX2_goBy_139 : decode cX2_goBy 139 = .ok (.getfield 28, 3) := by decide +kernel
theorem dX2_goBy_142 : decode cX2_goBy 142 = .ok (.iconst 1, 1) := by decide +kernel
theorem dX2_goBy_143 : decode cX2_goBy 143 = .ok (.iadd, 1) := by decide +kernel
theorem dX2_goBy_144 : decode cX2_goBy 144 = .ok (.putfield 28, 3) := by decide +kernel
theorem dX2_goBy_147 : decode cX2_goBy 147 = .ok (.iload_n 3, 1) := by decide +kernel
theorem dX2_goBy_148 : decode cX2_goBy 148 = .ok (.ireturn, 1) := by decide +kernel
theorem dX2_burnInch_0 : decode cX2_burnInch 0 = .ok (.aload_n 0, 1) := by decide +kernel
theorem dX2_burnInch_1 : decode cX2_burnInch 1 = .ok (.getfield 9, 3) := by decide +kernel
theorem dX2_burnInch_4 : decode cX2_burnInch 4 = .ok (.iload_n 2, 1) := by decide +kernel
theorem dX2_burnInch_5 : decode cX2_burnInch 5 = .ok (.dup2, 1) := by decide +kernel
theorem dX2_burnInch_6 : decode cX2_burnInch 6 = .ok (.iaload, 1) := by decide +kernel
theorem dX2_burnInch_7 : decode cX2_burnInch 7 = .ok (.iconst 1, 1) := by decide +kernel
theorem dX2_burnInch_8 : decode cX2_burnInch 8 = .ok (.iadd, 1) := by decide +kernel
theorem dX2_burnInch_9 : decode cX2_burnInch 9 = .ok (.iastore, 1) := by decide +kernel
theorem dX2_burnInch_10 : decode cX2_burnInch 10 = .ok (.aload_n 0, 1) := by decide +kernel
theorem dX2_burnInch_11 : decode cX2_burnInch 11 = .ok (.getfield 15, 3) := by decide +kernel
theorem dX2_burnInch_14 : decode cX2_burnInch 14 = .ok (.iload_n 2, 1) := by decide +kernel
theorem dX2_burnInch_15 : decode cX2_burnInch 15 = .ok (.dup2, 1) := by decide +kernel
theorem dX2_burnInch_16 : decode cX2_burnInch 16 = .ok (.iaload, 1) := by decide +kernel
theorem dX2_burnInch_17 : decode cX2_burnInch 17 = .ok (.iconst 1, 1) := by decide +kernel
theorem dX2_burnInch_18 : decode cX2_burnInch 18 = .ok (.isub, 1) := by decide +kernel
theorem dX2_burnInch_19 : decode cX2_burnInch 19 = .ok (.iastore, 1) := by decide +kernel
theorem dX2_burnInch_20 : decode cX2_burnInch 20 = .ok (.aload_n 0, 1) := by decide +kernel
theorem dX2_burnInch_21 : decode cX2_burnInch 21 = .ok (.dup, 1) := by decide +kernel
theorem dX2_burnInch_22 : decode cX2_burnInch 22 = .ok (.getfield 24, 3) := by decide +kernel
theorem dX2_burnInch_25 : decode cX2_burnInch 25 = .ok (.aload_n 1, 1) := by decide +kernel
theorem dX2_burnInch_26 : decode cX2_burnInch 26 = .ok (.getfield 66, 3) := by decide +kernel
theorem dX2_burnInch_29 : decode cX2_burnInch 29 = .ok (.iload_n 2, 1) := by decide +kernel
theorem dX2_burnInch_30 : decode cX2_burnInch 30 = .ok (.iaload, 1) := by decide +kernel
theorem dX2_burnInch_31 : decode cX2_burnInch 31 = .ok (.iadd, 1) := by decide +kernel
theorem dX2_burnInch_32 : decode cX2_burnInch 32 = .ok (.putfield 24, 3) := by decide +kernel
theorem dX2_burnInch_35 : decode cX2_burnInch 35 = .ok (.aload_n 0, 1) := by decide +kernel
theorem dX2_burnInch_36 : decode cX2_burnInch 36 = .ok (.getfield 15, 3) := by decide +kernel
theorem dX2_burnInch_39 : decode cX2_burnInch 39 = .ok (.iload_n 2, 1) := by decide +kernel
theorem dX2_burnInch_40 : decode cX2_burnInch 40 = .ok (.iaload, 1) := by decide +kernel
theorem dX2_burnInch_41 : decode cX2_burnInch 41 = .ok (.ifCond .gt 10, 3) := by decide +kernel
theorem dX2_burnInch_44 : decode cX2_burnInch 44 = .ok (.aload_n 0, 1) := by decide +kernel
theorem dX2_burnInch_45 : decode cX2_burnInch 45 = .ok (.getfield 18, 3) := by decide +kernel
theorem dX2_burnInch_48 : decode cX2_burnInch 48 = .ok (.iload_n 2, 1) := by decide +kernel
theorem dX2_burnInch_49 : decode cX2_burnInch 49 = .ok (.iconst 2, 1) := by decide +kernel
theorem dX2_burnInch_50 : decode cX2_burnInch 50 = .ok (.iastore, 1) := by decide +kernel
theorem dX2_burnInch_51 : decode cX2_burnInch 51 = .ok (.return_, 1) := by decide +kernel
theorem dX2_giftBit_0 : decode cX2_giftBit 0 = .ok (.aload_n 1, 1) := by decide +kernel
theorem dX2_giftBit_1 : decode cX2_giftBit 1 = .ok (.iload_n 2, 1) := by decide +kernel
theorem dX2_giftBit_2 : decode cX2_giftBit 2 = .ok (.invokevirtual 39, 3) := by decide +kernel
theorem dX2_giftBit_5 : decode cX2_giftBit 5 = .ok (.ifCond .eq 17, 3) := by decide +kernel
theorem dX2_giftBit_8 : decode cX2_giftBit 8 = .ok (.iload_n 3, 1) := by decide +kernel
theorem dX2_giftBit_9 : decode cX2_giftBit 9 = .ok (.ifCond .lt 13, 3) := by decide +kernel
theorem dX2_giftBit_12 : decode cX2_giftBit 12 = .ok (.iload_n 3, 1) := by decide +kernel
theorem dX2_giftBit_13 : decode cX2_giftBit 13 = .ok (.aload_n 0, 1) := by decide +kernel
theorem dX2_giftBit_14 : decode cX2_giftBit 14 = .ok (.getfield 15, 3) := by decide +kernel
theorem dX2_giftBit_17 : decode cX2_giftBit 17 = .ok (.iload_n 2, 1) := by decide +kernel
theorem dX2_giftBit_18 : decode cX2_giftBit 18 = .ok (.iaload, 1) := by decide +kernel
theorem dX2_giftBit_19 : decode cX2_giftBit 19 = .ok (.if_icmp .lt 5, 3) := by decide +kernel
theorem dX2_giftBit_22 : decode cX2_giftBit 22 = .ok (.iconst 0, 1) := by decide +kernel
theorem dX2_giftBit_23 : decode cX2_giftBit 23 = .ok (.ireturn, 1) := by decide +kernel
theorem dX2_giftBit_24 : decode cX2_giftBit 24 = .ok (.aload_n 1, 1) := by decide +kernel
theorem dX2_giftBit_25 : decode cX2_giftBit 25 = .ok (.aload_n 0, 1) := by decide +kernel
theorem dX2_giftBit_26 : decode cX2_giftBit 26 = .ok (.getfield 9, 3) := by decide +kernel
theorem dX2_giftBit_29 : decode cX2_giftBit 29 = .ok (.iload_n 2, 1) := by decide +kernel
theorem dX2_giftBit_30 : decode cX2_giftBit 30 = .ok (.iaload, 1) := by decide +kernel
theorem dX2_giftBit_31 : decode cX2_giftBit 31 = .ok (.iload_n 3, 1) := by decide +kernel
theorem dX2_giftBit_32 : decode cX2_giftBit 32 = .ok (.iadd, 1) := by decide +kernel
theorem dX2_giftBit_33 : decode cX2_giftBit 33 = .ok (.invokevirtual 69, 3) := by decide +kernel
theorem dX2_giftBit_36 : decode cX2_giftBit 36 = .ok (.istore 4, 2) := by decide +kernel
theorem dX2_giftBit_38 : decode cX2_giftBit 38 = .ok (.iload 4, 2) := by decide +kernel
theorem dX2_giftBit_40 : decode cX2_giftBit 40 = .ok (.iconst 4, 1) := by decide +kernel
theorem dX2_giftBit_41 : decode cX2_giftBit 41 = .ok (.if_icmp .ne 7, 3) := by decide +kernel
theorem dX2_giftBit_44 : decode cX2_giftBit 44 = .ok (.iconst 0, 1) := by decide +kernel
theorem dX2_giftBit_45 : decode cX2_giftBit 45 = .ok (.goto 7, 3) := by decide +kernel
theorem dX2_giftBit_48 : decode cX2_giftBit 48 = .ok (.iconst 1, 1) := by decide +kernel
theorem dX2_giftBit_49 : decode cX2_giftBit 49 = .ok (.iload 4, 2) := by decide +kernel
theorem dX2_giftBit_51 : decode cX2_giftBit 51 = .ok (.ishl, 1) := by decide +kernel
theorem dX2_giftBit_52 : decode cX2_giftBit 52 = .ok (.ireturn, 1) := by decide +kernel
theorem dX2_withFlame_0 : decode cX2_withFlame 0 = .ok (.iconst 0, 1) := by decide +kernel
theorem dX2_withFlame_1 : decode cX2_withFlame 1 = .ok (.istore_n 3, 1) := by decide +kernel
theorem dX2_withFlame_2 : decode cX2_withFlame 2 = .ok (.iconst 0, 1) := by decide +kernel
theorem dX2_withFlame_3 : decode cX2_withFlame 3 = .ok (.istore 4, 2) := by decide +kernel
theorem dX2_withFlame_5 : decode cX2_withFlame 5 = .ok (.iload 4, 2) := by decide +kernel
theorem dX2_withFlame_7 : decode cX2_withFlame 7 = .ok (.aload_n 1, 1) := by decide +kernel
theorem dX2_withFlame_8 : decode cX2_withFlame 8 = .ok (.getfield 43, 3) := by decide +kernel
theorem dX2_withFlame_11 : decode cX2_withFlame 11 = .ok (.if_icmp .ge 27, 3) := by decide +kernel
theorem dX2_withFlame_14 : decode cX2_withFlame 14 = .ok (.aload_n 0, 1) := by decide +kernel
theorem dX2_withFlame_15 : decode cX2_withFlame 15 = .ok (.getfield 18, 3) := by decide +kernel
theorem dX2_withFlame_18 : decode cX2_withFlame 18 = .ok (.iload 4, 2) := by decide +kernel
theorem dX2_withFlame_20 : decode cX2_withFlame 20 = .ok (.iaload, 1) := by decide +kernel
theorem dX2_withFlame_21 : decode cX2_withFlame 21 = .ok (.iload_n 2, 1) := by decide +kernel
theorem dX2_withFlame_22 : decode cX2_withFlame 22 = .ok (.if_icmp .ne 10, 3) := by decide +kernel
theorem dX2_withFlame_25 : decode cX2_withFlame 25 = .ok (.iload_n 3, 1) := by decide +kernel
theorem dX2_withFlame_26 : decode cX2_withFlame 26 = .ok (.iconst 1, 1) := by decide +kernel
theorem dX2_withFlame_27 : decode cX2_withFlame 27 = .ok (.iload 4, 2) := by decide +kernel
theorem dX2_withFlame_29 : decode cX2_withFlame 29 = .ok (.ishl, 1) := by decide +kernel
theorem dX2_withFlame_30 : decode cX2_withFlame 30 = .ok (.ior, 1) := by decide +kernel
theorem dX2_withFlame_31 : decode cX2_withFlame 31 = .ok (.istore_n 3, 1) := by decide +kernel
theorem dX2_withFlame_32 : decode cX2_withFlame 32 = .ok (.iinc 4 1, 3) := by decide +kernel
theorem dX2_withFlame_35 : decode cX2_withFlame 35 = .ok (.goto (-30), 3) := by decide +kernel
theorem dX2_withFlame_38 : decode cX2_withFlame 38 = .ok (.iload_n 3, 1) := by decide +kernel
theorem dX2_withFlame_39 : decode cX2_withFlame 39 = .ok (.ireturn, 1) := by decide +kernel
theorem dX2_isContent_0 : decode cX2_isContent 0 = .ok (.aload_n 1, 1) := by decide +kernel
theorem dX2_isContent_1 : decode cX2_isContent 1 = .ok (.iload_n 2, 1) := by decide +kernel
theorem dX2_isContent_2 : decode cX2_isContent 2 = .ok (.invokevirtual 73, 3) := by decide +kernel
theorem dX2_isContent_5 : decode cX2_isContent 5 = .ok (.ifCond .eq 22, 3) := by decide +kernel
theorem dX2_isContent_8 : decode cX2_isContent 8 = .ok (.aload_n 0, 1) := by decide +kernel
theorem dX2_isContent_9 : decode cX2_isContent 9 = .ok (.getfield 21, 3) := by decide +kernel
theorem dX2_isContent_12 : decode cX2_isContent 12 = .ok (.iload_n 2, 1) := by decide +kernel
theorem dX2_isContent_13 : decode cX2_isContent 13 = .ok (.iaload, 1) := by decide +kernel
theorem dX2_isContent_14 : decode cX2_isContent 14 = .ok (.aload_n 1, 1) := by decide +kernel
theorem dX2_isContent_15 : decode cX2_isContent 15 = .ok (.getfield 76, 3) := by decide +kernel
theorem dX2_isContent_18 : decode cX2_isContent 18 = .ok (.iload_n 2, 1) := by decide +kernel
theorem dX2_isContent_19 : decode cX2_isContent 19 = .ok (.iaload, 1) := by decide +kernel
theorem dX2_isContent_20 : decode cX2_isContent 20 = .ok (.if_icmp .lt 7, 3) := by decide +kernel
theorem dX2_isContent_23 : decode cX2_isContent 23 = .ok (.iconst 1, 1) := by decide +kernel
theorem dX2_isContent_24 : decode cX2_isContent 24 = .ok (.goto 4, 3) := by decide +kernel
theorem dX2_isContent_27 : decode cX2_isContent 27 = .ok (.iconst 0, 1) := by decide +kernel
theorem dX2_isContent_28 : decode cX2_isContent 28 = .ok (.ireturn, 1) := by decide +kernel
theorem dX2_contentGuests_0 : decode cX2_contentGuests 0 = .ok (.iconst 0, 1) := by decide +kernel
theorem dX2_contentGuests_1 : decode cX2_contentGuests 1 = .ok (.istore_n 2, 1) := by decide +kernel
theorem dX2_contentGuests_2 : decode cX2_contentGuests 2 = .ok (.iconst 0, 1) := by decide +kernel
theorem dX2_contentGuests_3 : decode cX2_contentGuests 3 = .ok (.istore_n 3, 1) := by decide +kernel
theorem dX2_contentGuests_4 : decode cX2_contentGuests 4 = .ok (.iload_n 3, 1) := by decide +kernel
theorem dX2_contentGuests_5 : decode cX2_contentGuests 5 = .ok (.aload_n 1, 1) := by decide +kernel
theorem dX2_contentGuests_6 : decode cX2_contentGuests 6 = .ok (.getfield 54, 3) := by decide +kernel
theorem dX2_contentGuests_9 : decode cX2_contentGuests 9 = .ok (.if_icmp .ge 24, 3) := by decide +kernel
theorem dX2_contentGuests_12 : decode cX2_contentGuests 12 = .ok (.aload_n 0, 1) := by decide +kernel
theorem dX2_contentGuests_13 : decode cX2_contentGuests 13 = .ok (.aload_n 1, 1) := by decide +kernel
theorem dX2_contentGuests_14 : decode cX2_contentGuests 14 = .ok (.iload_n 3, 1) := by decide +kernel
theorem dX2_contentGuests_15 : decode cX2_contentGuests 15 = .ok (.invokevirtual 79, 3) := by decide +kernel
theorem dX2_contentGuests_18 : decode cX2_contentGuests 18 = .ok (.ifCond .eq 9, 3) := by decide +kernel
theorem dX2_contentGuests_21 : decode cX2_contentGuests 21 = .ok (.iload_n 2, 1) := by decide +kernel
theorem dX2_contentGuests_22 : decode cX2_contentGuests 22 = .ok (.iconst 1, 1) := by decide +kernel
theorem dX2_contentGuests_23 : decode cX2_contentGuests 23 = .ok (.iload_n 3, 1) := by decide +kernel
theorem dX2_contentGuests_24 : decode cX2_contentGuests 24 = .ok (.ishl, 1) := by decide +kernel
theorem dX2_contentGuests_25 : decode cX2_contentGuests 25 = .ok (.ior, 1) := by decide +kernel
theorem dX2_contentGuests_26 : decode cX2_contentGuests 26 = .ok (.istore_n 2, 1) := by decide +kernel
theorem dX2_contentGuests_27 : decode cX2_contentGuests 27 = .ok (.iinc 3 1, 3) := by decide +kernel
theorem dX2_contentGuests_30 : decode cX2_contentGuests 30 = .ok (.goto (-26), 3) := by decide +kernel
theorem dX2_contentGuests_33 : decode cX2_contentGuests 33 = .ok (.iload_n 2, 1) := by decide +kernel
theorem dX2_contentGuests_34 : decode cX2_contentGuests 34 = .ok (.ireturn, 1) := by decide +kernel
theorem dX3_init_0 : decode cX3_init 0 = .ok (.aload_n 0, 1) := by decide +kernel
theorem dX3_init_1 : decode cX3_init 1 = .ok (.invokespecial 3, 3) := by decide +kernel
theorem dX3_init_4 : decode cX3_init 4 = .ok (.aload_n 0, 1) := by decide +kernel
theorem dX3_init_5 : decode cX3_init 5 = .ok (.bipush 12, 2) := by decide +kernel
theorem dX3_init_7 : decode cX3_init 7 = .ok (.newarray .int, 2) := by decide +kernel
theorem dX3_init_9 : decode cX3_init 9 = .ok (.putfield 9, 3) := by decide +kernel
theorem dX3_init_12 : decode cX3_init 12 = .ok (.aload_n 0, 1) := by decide +kernel
theorem dX3_init_13 : decode cX3_init 13 = .ok (.iconst 4, 1) := by decide +kernel
theorem dX3_init_14 : decode cX3_init 14 = .ok (.newarray .int, 2) := by decide +kernel
theorem dX3_init_16 : decode cX3_init 16 = .ok (.putfield 15, 3) := by decide +kernel
theorem dX3_init_19 : decode cX3_init 19 = .ok (.aload_n 0, 1) := by decide +kernel
theorem dX3_init_20 : decode cX3_init 20 = .ok (.iconst 4, 1) := by decide +kernel
theorem dX3_init_21 : decode cX3_init 21 = .ok (.newarray .int, 2) := by decide +kernel
theorem dX3_init_23 : decode cX3_init 23 = .ok (.putfield 18, 3) := by decide +kernel
theorem dX3_init_26 : decode cX3_init 26 = .ok (.aload_n 0, 1) := by decide +kernel
theorem dX3_init_27 : decode cX3_init 27 = .ok (.iconst 4, 1) := by decide +kernel
theorem dX3_init_28 : decode cX3_init 28 = .ok (.newarray .int, 2) := by decide +kernel
theorem dX3_init_30 : decode cX3_init 30 = .ok (.putfield 21, 3) := by decide +kernel
theorem dX3_init_33 : decode cX3_init 33 = .ok (.aload_n 0, 1) := by decide +kernel
theorem dX3_init_34 : decode cX3_init 34 = .ok (.iconst 4, 1) := by decide +kernel
theorem dX3_init_35 : decode cX3_init 35 = .ok (.newarray .int, 2) := by decide +kernel
theorem dX3_init_37 : decode cX3_init 37 = .ok (.putfield 24, 3) := by decide +kernel
theorem dX3_init_40 : decode cX3_init 40 = .ok (.aload_n 0, 1) := by decide +kernel
theorem dX3_init_41 : decode cX3_init 41 = .ok (.iconst 4, 1) := by decide +kernel
theorem dX3_init_42 : decode cX3_init 42 = .ok (.newarray .int, 2) := by decide +kernel
theorem dX3_init_44 : decode cX3_init 44 = .ok (.putfield 27, 3) := by decide +kernel
theorem dX3_init_47 : decode cX3_init 47 = .ok (.aload_n 0, 1) := by decide +kernel
theorem dX3_init_48 : decode cX3_init 48 = .ok (.iconst 4, 1) := by decide +kernel
theorem dX3_init_49 : decode cX3_init 49 = .ok (.newarray .int, 2) := by decide +kernel
theorem dX3_init_51 : decode cX3_init 51 = .ok (.putfield 30, 3) := by decide +kernel
theorem dX3_init_54 : decode cX3_init 54 = .ok (.aload_n 0, 1) := by decide +kernel
theorem dX3_init_55 : decode cX3_init 55 = .ok (.iconst 4, 1) := by decide +kernel
theorem dX3_init_56 : decode cX3_init 56 = .ok (.newarray .int, 2) := by decide +kernel
theorem dX3_init_58 : decode cX3_init 58 = .ok (.putfield 33, 3) := by decide +kernel
theorem dX3_init_61 : decode cX3_init 61 = .ok (.aload_n 0, 1) := by decide +kernel
theorem dX3_init_62 : decode cX3_init 62 = .ok (.iconst 0, 1) := by decide +kernel
theorem dX3_init_63 : decode cX3_init 63 = .ok (.putfield 36, 3) := by decide +kernel
theorem dX3_init_66 : decode cX3_init 66 = .ok (.aload_n 0, 1) := by decide +kernel
theorem dX3_init_67 : decode cX3_init 67 = .ok (.iconst 0, 1) := by decide +kernel
theorem dX3_init_68 : decode cX3_init 68 = .ok (.putfield 40, 3) := by decide +kernel
theorem dX3_init_71 : decode cX3_init 71 = .ok (.aload_n 0, 1) := by decide +kernel
theorem dX3_init_72 : decode cX3_init 72 = .ok (.iconst 0, 1) := by decide +kernel
theorem dX3_init_73 : decode cX3_init 73 = .ok (.putfield 43, 3) := by decide +kernel
theorem dX3_init_76 : decode cX3_init 76 = .ok (.return_, 1) := by decide +kernel
theorem dX3_clear_0 : decode cX3_clear 0 = .ok (.aload_n 0, 1) := by decide +kernel
theorem dX3_clear_1 : decode cX3_clear 1 = .ok (.iconst 0, 1) := by decide +kernel
theorem dX3_clear_2 : decode cX3_clear 2 = .ok (.putfield 36, 3) := by decide +kernel
theorem dX3_clear_5 : decode cX3_clear 5 = .ok (.aload_n 0, 1) := by decide +kernel
theorem dX3_clear_6 : decode cX3_clear 6 = .ok (.iconst 0, 1) := by decide +kernel
theorem dX3_clear_7 : decode cX3_clear 7 = .ok (.putfield 40, 3) := by decide +kernel
theorem dX3_clear_10 : decode cX3_clear 10 = .ok (.aload_n 0, 1) := by decide +kernel
theorem dX3_clear_11 : decode cX3_clear 11 = .ok (.iconst 0, 1) := by decide +kernel
theorem dX3_clear_12 : decode cX3_clear 12 = .ok (.putfield 43, 3) := by decide +kernel
theorem dX3_clear_15 : decode cX3_clear 15 = .ok (.return_, 1) := by decide +kernel
theorem dX3_hasCandle_0 : decode cX3_hasCandle 0 = .ok (.iload_n 1, 1) := by decide +kernel
theorem dX3_hasCandle_1 : decode cX3_hasCandle 1 = .ok (.ifCond .lt 15, 3) := by decide +kernel
theorem dX3_hasCandle_4 : decode cX3_hasCandle 4 = .ok (.iload_n 1, 1) := by decide +kernel
theorem dX3_hasCandle_5 : decode cX3_hasCandle 5 = .ok (.aload_n 0, 1) := by decide +kernel
theorem dX3_hasCandle_6 : decode cX3_hasCandle 6 = .ok (.getfield 40, 3) := by decide +kernel
theorem dX3_hasCandle_9 : decode cX3_hasCandle 9 = .ok (.if_icmp .ge 7, 3) := by decide +kernel
theorem dX3_hasCandle_12 : decode cX3_hasCandle 12 = .ok (.iconst 1, 1) := by decide +kernel
theorem dX3_hasCandle_13 : decode cX3_hasCandle 13 = .ok (.goto 4, 3) := by decide +kernel
theorem dX3_hasCandle_16 : decode cX3_hasCandle 16 = .ok (.iconst 0, 1) := by decide +kernel
theorem dX3_hasCandle_17 : decode cX3_hasCandle 17 = .ok (.ireturn, 1) := by decide +kernel
theorem dX3_hasGuest_0 : decode cX3_hasGuest 0 = .ok (.iload_n 1, 1) := by decide +kernel
theorem dX3_hasGuest_1 : decode cX3_hasGuest 1 = .ok (.ifCond .lt 15, 3) := by decide +kernel
theorem dX3_hasGuest_4 : decode cX3_hasGuest 4 = .ok (.iload_n 1, 1) := by decide +kernel
theorem dX3_hasGuest_5 : decode cX3_hasGuest 5 = .ok (.aload_n 0, 1) := by decide +kernel
theorem dX3_hasGuest_6 : decode cX3_hasGuest 6 = .ok (.getfield 43, 3) := by decide +kernel
theorem dX3_hasGuest_9 : decode cX3_hasGuest 9 = .ok (.if_icmp .ge 7, 3) := by decide +kernel
theorem dX3_hasGuest_12 : decode cX3_hasGuest 12 = .ok (.iconst 1, 1) := by decide +kernel
theorem dX3_hasGuest_13 : decode cX3_hasGuest 13 = .ok (.goto 4, 3) := by decide +kernel
theorem dX3_hasGuest_16 : decode cX3_hasGuest 16 = .ok (.iconst 0, 1) := by decide +kernel
theorem dX3_hasGuest_17 : decode cX3_hasGuest 17 = .ok (.ireturn, 1) := by decide +kernel
theorem dX3_giftAt_0 : decode cX3_giftAt 0 = .ok (.iload_n 1, 1) := by decide +kernel
theorem dX3_giftAt_1 : decode cX3_giftAt 1 = .ok (.ifCond .lt 20, 3) := by decide +kernel
theorem dX3_giftAt_4 : decode cX3_giftAt 4 = .ok (.iload_n 1, 1) := by decide +kernel
theorem dX3_giftAt_5 : decode cX3_giftAt 5 = .ok (.aload_n 0, 1) := by decide +kernel
theorem dX3_giftAt_6 : decode cX3_giftAt 6 = .ok (.getfield 36, 3) := by decide +kernel
theorem dX3_giftAt_9 : decode cX3_giftAt 9 = .ok (.if_icmp .ge 12, 3) := by decide +kernel
theorem dX3_giftAt_12 : decode cX3_giftAt 12 = .ok (.aload_n 0, 1) := by decide +kernel
theorem dX3_giftAt_13 : decode cX3_giftAt 13 = .ok (.getfield 9, 3) := by decide +kernel
theorem dX3_giftAt_16 : decode cX3_giftAt 16 = .ok (.iload_n 1, 1) := by decide +kernel
theorem dX3_giftAt_17 : decode cX3_giftAt 17 = .ok (.iaload, 1) := by decide +kernel
theorem dX3_giftAt_18 : decode cX3_giftAt 18 = .ok (.goto 4, 3) := by decide +kernel
theorem dX3_giftAt_21 : decode cX3_giftAt 21 = .ok (.iconst 4, 1) := by decide +kernel
theorem dX3_giftAt_22 : decode cX3_giftAt 22 = .ok (.ireturn, 1) := by decide +kernel
theorem dX4_init_0 : decode cX4_init 0 = .ok (.aload_n 0, 1) := by decide +kernel
theorem dX4_init_1 : decode cX4_init 1 = .ok (.invokespecial 3, 3) := by decide +kernel
theorem dX4_init_4 : decode cX4_init 4 = .ok (.aload_n 0, 1) := by decide +kernel
theorem dX4_init_5 : decode cX4_init 5 = .ok (.bipush 28, 2) := by decide +kernel
theorem dX4_init_7 : decode cX4_init 7 = .ok (.newarray .long, 2) := by decide +kernel
theorem dX4_init_9 : decode cX4_init 9 = .ok (.putfield 11, 3) := by decide +kernel
theorem dX4_init_12 : decode cX4_init 12 = .ok (.aload_n 0, 1) := by decide +kernel
theorem dX4_init_13 : decode cX4_init 13 = .ok (.iconst 4, 1) := by decide +kernel
theorem dX4_init_14 : decode cX4_init 14 = .ok (.newarray .int, 2) := by decide +kernel
theorem dX4_init_16 : decode cX4_init 16 = .ok (.putfield 15, 3) := by decide +kernel
theorem dX4_init_19 : decode cX4_init 19 = .ok (.aload_n 0, 1) := by decide +kernel
theorem dX4_init_20 : decode cX4_init 20 = .ok (.iconst 4, 1) := by decide +kernel
theorem dX4_init_21 : decode cX4_init 21 = .ok (.newarray .int, 2) := by decide +kernel
theorem dX4_init_23 : decode cX4_init 23 = .ok (.putfield 19, 3) := by decide +kernel
theorem dX4_init_26 : decode cX4_init 26 = .ok (.aload_n 0, 1) := by decide +kernel
theorem dX4_init_27 : decode cX4_init 27 = .ok (.iconst 4, 1) := by decide +kernel
theorem dX4_init_28 : decode cX4_init 28 = .ok (.newarray .long, 2) := by decide +kernel
theorem dX4_init_30 : decode cX4_init 30 = .ok (.putfield 22, 3) := by decide +kernel
theorem dX4_init_33 : decode cX4_init 33 = .ok (.aload_n 0, 1) := by decide +kernel
theorem dX4_init_34 : decode cX4_init 34 = .ok (.iconst 4, 1) := by decide +kernel
theorem dX4_init_35 : decode cX4_init 35 = .ok (.newarray .int, 2) := by decide +kernel
theorem dX4_init_37 : decode cX4_init 37 = .ok (.putfield 25, 3) := by decide +kernel
theorem dX4_init_40 : decode cX4_init 40 = .ok (.aload_n 0, 1) := by decide +kernel
theorem dX4_init_41 : decode cX4_init 41 = .ok (.iconst 4, 1) := by decide +kernel
theorem dX4_init_42 : decode cX4_init 42 = .ok (.newarray .int, 2) := by decide +kernel
theorem dX4_init_44 : decode cX4_init 44 = .ok (.putfield 28, 3) := by decide +kernel
theorem dX4_init_47 : decode cX4_init 47 = .ok (.aload_n 0, 1) := by decide +kernel
theorem dX4_init_48 : decode cX4_init 48 = .ok (.iconst 4, 1) := by decide +kernel
theorem dX4_init_49 : decode cX4_init 49 = .ok (.newarray .int, 2) := by decide +kernel
theorem dX4_init_51 : decode cX4_init 51 = .ok (.putfield 31, 3) := by decide +kernel
theorem dX4_init_54 : decode cX4_init 54 = .ok (.aload_n 0, 1) := by decide +kernel
theorem dX4_init_55 : decode cX4_init 55 = .ok (.bipush 16, 2) := by decide +kernel
theorem dX4_init_57 : decode cX4_init 57 = .ok (.newarray .int, 2) := by decide +kernel
theorem dX4_init_59 : decode cX4_init 59 = .ok (.putfield 34, 3) := by decide +kernel
theorem dX4_init_62 : decode cX4_init 62 = .ok (.aload_n 0, 1) := by decide +kernel
theorem dX4_init_63 : decode cX4_init 63 = .ok (.iconst 0, 1) := by decide +kernel
theorem dX4_init_64 : decode cX4_init 64 = .ok (.putfield 37, 3) := by decide +kernel
theorem dX4_init_67 : decode cX4_init 67 = .ok (.aload_n 0, 1) := by decide +kernel
theorem dX4_init_68 : decode cX4_init 68 = .ok (.iconst 0, 1) := by decide +kernel
theorem dX4_init_69 : decode cX4_init 69 = .ok (.putfield 41, 3) := by decide +kernel
theorem dX4_init_72 : decode cX4_init 72 = .ok (.aload_n 0, 1) := by decide +kernel
theorem dX4_init_73 : decode cX4_init 73 = .ok (.iconst 0, 1) := by decide +kernel
theorem dX4_init_74 : decode cX4_init 74 = .ok (.putfield 44, 3) := by decide +kernel
theorem dX4_init_77 : decode cX4_init 77 = .ok (.aload_n 0, 1) := by decide +kernel
theorem dX4_init_78 : decode cX4_init 78 = .ok (.iconst 0, 1) := by decide +kernel
theorem dX4_init_79 : decode cX4_init 79 = .ok (.putfield 47, 3) := by decide +kernel
theorem dX4_init_82 : decode cX4_init 82 = .ok (.return_, 1) := by decide +kernel
theorem dX4_work_0 : decode cX4_work 0 = .ok (.aload_n 0, 1) := by decide +kernel
theorem dX4_work_1 : decode cX4_work 1 = .ok (.getfield 47, 3) := by decide +kernel
theorem dX4_work_4 : decode cX4_work 4 = .ok (.ifCond .eq 4, 3) := by decide +kernel
theorem dX4_work_7 : decode cX4_work 7 = .ok (.return_, 1) := by decide +kernel
theorem dX4_work_8 : decode cX4_work 8 = .ok (.aload_n 0, 1) := by decide +kernel
theorem dX4_work_9 : decode cX4_work 9 = .ok (.aload_n 1, 1) := by decide +kernel
theorem dX4_work_10 : decode cX4_work 10 = .ok (.getfield 51, 3) := by decide +kernel
theorem dX4_work_13 : decode cX4_work 13 = .ok (.putfield 37, 3) := by decide +kernel
theorem dX4_work_16 : decode cX4_work 16 = .ok (.aload_n 0, 1) := by decide +kernel
theorem dX4_work_17 : decode cX4_work 17 = .ok (.iconst 1, 1) := by decide +kernel
theorem dX4_work_18 : decode cX4_work 18 = .ok (.aload_n 0, 1) := by decide +kernel
theorem dX4_work_19 : decode cX4_work 19 = .ok (.getfield 37, 3) := by decide +kernel
theorem dX4_work_22 : decode cX4_work 22 = .ok (.ishl, 1) := by decide +kernel
theorem dX4_work_23 : decode cX4_work 23 = .ok (.iconst 1, 1) := by decide +kernel
theorem dX4_work_24 : decode cX4_work 24 = .ok (.isub, 1) := by decide +kernel
theorem dX4_work_25 : decode cX4_work 25 = .ok (.putfield 41, 3) := by decide +kernel
theorem dX4_work_28 : decode cX4_work 28 = .ok (.aload_n 0, 1) := by decide +kernel
theorem dX4_work_29 : decode cX4_work 29 = .ok (.iconst 0, 1) := by decide +kernel
theorem dX4_work_30 : decode cX4_work 30 = .ok (.putfield 44, 3) := by decide +kernel
theorem dX4_work_33 : decode cX4_work 33 = .ok (.iconst 0, 1) := by decide +kernel
theorem dX4_work_34 : decode cX4_work 34 = .ok (.istore_n 3, 1) := by decide +kernel
theorem dX4_work_35 : decode cX4_work 35 = .ok (.iload_n 3, 1) := by decide +kernel
theorem dX4_work_36 : decode cX4_work 36 = .ok (.aload_n 0, 1) := by decide +kernel
theorem dX4_work_37 : decode cX4_work 37 = .ok (.getfield 41, 3) := by decide +kernel
theorem dX4_work_40 : decode cX4_work 40 = .ok (.if_icmp .gt 26, 3) := by decide +kernel
theorem dX4_work_43 : decode cX4_work 43 = .ok (.iload_n 3, 1) := by decide +kernel
theorem dX4_work_44 : decode cX4_work 44 = .ok (.aload_n 0, 1) := by decide +kernel
theorem dX4_work_45 : decode cX4_work 45 = .ok (.getfield 34, 3) := by decide +kernel
theorem dX4_work_48 : decode cX4_work 48 = .ok (.arraylength, 1) := by decide +kernel
theorem dX4_work_49 : decode cX4_work 49 = .ok (.if_icmp .ge 17, 3) := by decide +kernel
theorem dX4_work_52 : decode cX4_work 52 = .ok (.aload_n 0, 1) := by decide +kernel
theorem dX4_work_53 : decode cX4_work 53 = .ok (.getfield 34, 3) := by decide +kernel
theorem dX4_work_56 : decode cX4_work 56 = .ok (.iload_n 3, 1) := by decide +kernel
theorem dX4_work_57 : decode cX4_work 57 = .ok (.ldc 54, 2) := by decide +kernel
theorem dX4_work_59 : decode cX4_work 59 = .ok (.iastore, 1) := by decide +kernel
theorem dX4_work_60 : decode cX4_work 60 = .ok (.iinc 3 1, 3) := by decide +kernel
theorem dX4_work_63 : decode cX4_work 63 = .ok (.goto (-28), 3) := by decide +kernel
theorem dX4_work_66 : decode cX4_work 66 = .ok (.iconst 0, 1) := by decide +kernel
theorem dX4_work_67 : decode cX4_work 67 = .ok (.istore_n 3, 1) := by decide +kernel
theorem dX4_work_68 : decode cX4_work 68 = .ok (.iload_n 3, 1) := by decide +kernel
theorem dX4_work_69 : decode cX4_work 69 = .ok (.aload_n 1, 1) := by decide +kernel
theorem dX4_work_70 : decode cX4_work 70 = .ok (.getfield 51, 3) := by decide +kernel
theorem dX4_work_73 : decode cX4_work 73 = .ok (.if_icmp .ge 16, 3) := by decide +kernel
theorem dX4_work_76 : decode cX4_work 76 = .ok (.aload_n 0, 1) := by decide +kernel
theorem dX4_work_77 : decode cX4_work 77 = .ok (.aload_n 1, 1) := by decide +kernel
theorem dX4_work_78 : decode cX4_work 78 = .ok (.aload_n 2, 1) := by decide +kernel
theorem dX4_work_79 : decode cX4_work 79 = .ok (.iload_n 3, 1) := by decide +kernel
theorem dX4_work_80 : decode cX4_work 80 = .ok (.invokevirtual 55, 3) := by decide +kernel
theorem dX4_work_83 : decode cX4_work 83 = .ok (.iinc 3 1, 3) := by decide +kernel
theorem dX4_work_86 : decode cX4_work 86 = .ok (.goto (-18), 3) := by decide +kernel
theorem dX4_work_89 : decode cX4_work 89 = .ok (.lconst 0, 1) := by decide +kernel
theorem dX4_work_90 : decode cX4_work 90 = .ok (.lstore_n 3, 1) := by decide +kernel
theorem dX4_work_91 : decode cX4_work 91 = .ok (.iconst 0, 1) := by decide +kernel
theorem dX4_work_92 : decode cX4_work 92 = .ok (.istore 5, 2) := by decide +kernel
theorem dX4_work_94 : decode cX4_work 94 = .ok (.iload 5, 2) := by decide +kernel
theorem dX4_work_96 : decode cX4_work 96 = .ok (.iconst 4, 1) := by decide +kernel
theorem dX4_work_97 : decode cX4_work 97 = .ok (.if_icmp .ge 20, 3) := by decide +kernel
theorem dX4_work_100 : decode cX4_work 100 = .ok (.lload_n 3, 1) := by decide +kernel
theorem dX4_work_101 : decode cX4_work 101 = .ok (.aload_n 0, 1) := by decide +kernel
theorem dX4_work_102 : decode cX4_work 102 = .ok (.aload_n 1, 1) := by decide +kernel
theorem dX4_work_103 : decode cX4_work 103 = .ok (.aload_n 2, 1) := by decide +kernel
theorem dX4_work_104 : decode cX4_work 104 = .ok (.iload 5, 2) := by decide +kernel
theorem dX4_work_106 : decode cX4_work 106 = .ok (.invokevirtual 59, 3) := by decide +kernel
theorem dX4_work_109 : decode cX4_work 109 = .ok (.lor, 1) := by decide +kernel
theorem dX4_work_110 : decode cX4_work 110 = .ok (.lstore_n 3, 1) := by decide +kernel
theorem dX4_work_111 : decode cX4_work 111 = .ok (.iinc 5 1, 3) := by decide +kernel
theorem dX4_work_114 : decode cX4_work 114 = .ok (.goto (-20), 3) := by decide +kernel
theorem dX4_work_117 : decode cX4_work 117 = .ok (.aload_n 0, 1) := by decide +kernel
theorem dX4_work_118 : decode cX4_work 118 = .ok (.iconst 0, 1) := by decide +kernel
theorem dX4_work_119 : decode cX4_work 119 = .ok (.lload_n 3, 1) := by decide +kernel
theorem dX4_work_120 : decode cX4_work 120 = .ok (.iconst 0, 1) := by decide +kernel
theorem dX4_work_121 : decode cX4_work 121 = .ok (.invokevirtual 63, 3) := by decide +kernel
theorem dX4_work_124 : decode cX4_work 124 = .ok (.aload_n 0, 1) := by decide +kernel
theorem dX4_work_125 : decode cX4_work 125 = .ok (.invokevirtual 67, 3) := by decide +kernel
theorem dX4_work_128 : decode cX4_work 128 = .ok (.aload_n 0, 1) := by decide +kernel
theorem dX4_work_129 : decode cX4_work 129 = .ok (.iconst 1, 1) := by decide +kernel
theorem dX4_work_130 : decode cX4_work 130 = .ok (.putfield 47, 3) := by decide +kernel
theorem dX4_work_133 : decode cX4_work 133 = .ok (.return_, 1) := by decide +kernel
theorem dX4_layGuest_0 : decode cX4_layGuest 0 = .ok (.lconst 0, 1) := by decide +kernel
theorem dX4_layGuest_1 : decode cX4_layGuest 1 = .ok (.lstore 4, 2) := by decide +kernel
theorem dX4_layGuest_3 : decode cX4_layGuest 3 = .ok (.iconst 0, 1) := by decide +kernel
theorem dX4_layGuest_4 : decode cX4_layGuest 4 = .ok (.istore 6, 2) := by decide +kernel
theorem dX4_layGuest_6 : decode cX4_layGuest 6 = .ok (.iload 6, 2) := by decide +kernel
theorem dX4_layGuest_8 : decode cX4_layGuest 8 = .ok (.bipush 16, 2) := by decide +kernel
theorem dX4_layGuest_10 : decode cX4_layGuest 10 = .ok (.if_icmp .ge 49, 3) := by decide +kernel
theorem dX4_layGuest_13 : decode cX4_layGuest 13 = .ok (.aload_n 2, 1) := by decide +kernel
theorem dX4_layGuest_14 : decode cX4_layGuest 14 = .ok (.getfield 70, 3) := by decide +kernel
theorem dX4_layGuest_17 : decode cX4_layGuest 17 = .ok (.iload 6, 2) := by decide +kernel
theorem dX4_layGuest_19 : decode cX4_layGuest 19 = .ok (.iadd, 1) := by decide +kernel
theorem dX4_layGuest_20 : decode cX4_layGuest 20 = .ok (.istore 7, 2) := by decide +kernel
theorem dX4_layGuest_22 : decode cX4_layGuest 22 = .ok (.iload 7, 2) := by decide +kernel
theorem dX4_layGuest_24 : decode cX4_layGuest 24 = .ok (.aload_n 1, 1) := by decide +kernel
theorem dX4_layGuest_25 : decode cX4_layGuest 25 = .ok (.getfield 75, 3) := by decide +kernel
theorem dX4_layGuest_28 : decode cX4_layGuest 28 = .ok (.iload_n 3, 1) := by decide +kernel
theorem dX4_layGuest_29 : decode cX4_layGuest 29 = .ok (.iaload, 1) := by decide +kernel
theorem dX4_layGuest_30 : decode cX4_layGuest 30 = .ok (.if_icmp .lt 23, 3) := by decide +kernel
theorem dX4_layGuest_33 : decode cX4_layGuest 33 = .ok (.iload 7, 2) := by decide +kernel
theorem dX4_layGuest_35 : decode cX4_layGuest 35 = .ok (.aload_n 1, 1) := by decide +kernel
theorem dX4_layGuest_36 : decode cX4_layGuest 36 = .ok (.getfield 78, 3) := by decide +kernel
theorem dX4_layGuest_39 : decode cX4_layGuest 39 = .ok (.iload_n 3, 1) := by decide +kernel
theorem dX4_layGuest_40 : decode cX4_layGuest 40 = .ok (.iaload, 1) := by decide +kernel
theorem dX4_layGuest_41 : decode cX4_layGuest 41 = .ok (.if_icmp .gt 12, 3) := by decide +kernel
theorem dX4_layGuest_44 : decode cX4_layGuest 44 = .ok (.lload 4, 2) := by decide +kernel
theorem dX4_layGuest_46 : decode cX4_layGuest 46 = .ok (.lconst 1, 1) := by decide +kernel
theorem dX4_layGuest_47 : decode cX4_layGuest 47 = .ok (.iload 6, 2) := by decide +kernel
theorem dX4_layGuest_49 : decode cX4_layGuest 49 = .ok (.lshl, 1) := by decide +kernel
theorem dX4_layGuest_50 : decode cX4_layGuest 50 = .ok (.lor, 1) := by decide +kernel
theorem dX4_layGuest_51 : decode cX4_layGuest 51 = .ok (.lstore 4, 2) := by decide +kernel
theorem dX4_layGuest_53 : decode cX4_layGuest 53 = .ok (.iinc 6 1, 3) := by decide +kernel
theorem dX4_layGuest_56 : decode cX4_layGuest 56 = .ok (.goto (-50), 3) := by decide +kernel
theorem dX4_layGuest_59 : decode cX4_layGuest 59 = .ok (.aload_n 0, 1) := by decide +kernel
theorem dX4_layGuest_60 : decode cX4_layGuest 60 = .ok (.getfield 22, 3) := by decide +kernel
theorem dX4_layGuest_63 : decode cX4_layGuest 63 = .ok (.iload_n 3, 1) := by decide +kernel
theorem dX4_layGuest_64 : decode cX4_layGuest 64 = .ok (.lload 4, 2) := by decide +kernel
theorem dX4_layGuest_66 : decode cX4_layGuest 66 = .ok (.bipush 16, 2) := by decide +kernel
theorem dX4_layGuest_68 : decode cX4_layGuest 68 = .ok (.aload_n 1, 1) := by decide +kernel
theorem dX4_layGuest_69 : decode cX4_layGuest 69 = .ok (.getfield 81, 3) := by decide +kernel
theorem dX4_layGuest_72 : decode cX4_layGuest 72 = .ok (.iload_n 3, 1) := by decide +kernel
theorem dX4_layGuest_73 : decode cX4_layGuest 73 = .ok (.iaload, 1) := by decide +kernel
theorem dX4_layGuest_74 : decode cX4_layGuest 74 = .ok (.imul, 1) := by decide +kernel
theorem dX4_layGuest_75 : decode cX4_layGuest 75 = .ok (.lshl, 1) := by decide +kernel
theorem dX4_layGuest_76 : decode cX4_layGuest 76 = .ok (.lastore, 1) := by decide +kernel
theorem dX4_layGuest_77 : decode cX4_layGuest 77 = .ok (.aload_n 0, 1) := by decide +kernel
theorem dX4_layGuest_78 : decode cX4_layGuest 78 = .ok (.getfield 25, 3) := by decide +kernel
theorem dX4_layGuest_81 : decode cX4_layGuest 81 = .ok (.iload_n 3, 1) := by decide +kernel
theorem dX4_layGuest_82 : decode cX4_layGuest 82 = .ok (.aload_n 1, 1) := by decide +kernel
theorem dX4_layGuest_83 : decode cX4_layGuest 83 = .ok (.getfield 84, 3) := by decide +kernel
theorem dX4_layGuest_86 : decode cX4_layGuest 86 = .ok (.iload_n 3, 1) := by decide +kernel
theorem dX4_layGuest_87 : decode cX4_layGuest 87 = .ok (.iaload, 1) := by decide +kernel
theorem dX4_layGuest_88 : decode cX4_layGuest 88 = .ok (.aload_n 2, 1) := by decide +kernel
theorem dX4_layGuest_89 : decode cX4_layGuest 89 = .ok (.getfield 87, 3) := by decide +kernel
theorem dX4_layGuest_92 : decode cX4_layGuest 92 = .ok (.iload_n 3, 1) := by decide +kernel
theorem dX4_layGuest_93 : decode cX4_layGuest 93 = .ok (.iaload, 1) := by decide +kernel
theorem dX4_layGuest_94 : decode cX4_layGuest 94 = .ok (.isub, 1) := by decide +kernel
theorem dX4_layGuest_95 : decode cX4_layGuest 95 = .ok (.iastore, 1) := by decide +kernel
theorem dX4_layGuest_96 : decode cX4_layGuest 96 = .ok (.return_, 1) := by decide +kernel
theorem dX4_layCandle_0 : decode cX4_layCandle 0 = .ok (.aload_n 1, 1) := by decide +kernel
theorem dX4_layCandle_1 : decode cX4_layCandle 1 = .ok (.iload_n 3, 1) := by decide +kernel
theorem dX4_layCandle_2 : decode cX4_layCandle 2 = .ok (.invokevirtual 90, 3) := by decide +kernel
theorem dX4_layCandle_5 : decode cX4_layCandle 5 = .ok (.ifCond .eq 16, 3) := by decide +kernel
theorem dX4_layCandle_8 : decode cX4_layCandle 8 = .ok (.aload_n 2, 1) := by decide +kernel
theorem dX4_layCandle_9 : decode cX4_layCandle 9 = .ok (.getfield 94, 3) := by decide +kernel
theorem dX4_layCandle_12 : decode cX4_layCandle 12 = .ok (.iload_n 3, 1) := by decide +kernel
theorem dX4_layCandle_13 : decode cX4_layCandle 13 = .ok (.iaload, 1) := by decide +kernel
theorem dX4_layCandle_14 : decode cX4_layCandle 14 = .ok (.ifCond .ne 7, 3) := by decide +kernel
theorem dX4_layCandle_17 : decode cX4_layCandle 17 = .ok (.iconst 1, 1) := by decide +kernel
theorem dX4_layCandle_18 : decode cX4_layCandle 18 = .ok (.goto 4, 3) := by decide +kernel
theorem dX4_layCandle_21 : decode cX4_layCandle 21 = .ok (.iconst 0, 1) := by decide +kernel
theorem dX4_layCandle_22 : decode cX4_layCandle 22 = .ok (.istore 4, 2) := by decide +kernel
theorem dX4_layCandle_24 : decode cX4_layCandle 24 = .ok (.aload_n 1, 1) := by decide +kernel
theorem dX4_layCandle_25 : decode cX4_layCandle 25 = .ok (.iload_n 3, 1) := by decide +kernel
theorem dX4_layCandle_26 : decode cX4_layCandle 26 = .ok (.invokevirtual 90, 3) := by decide +kernel
theorem dX4_layCandle_29 : decode cX4_layCandle 29 = .ok (.ifCond .eq 17, 3) := by decide +kernel
theorem dX4_layCandle_32 : decode cX4_layCandle 32 = .ok (.aload_n 2, 1) := by decide +kernel
theorem dX4_layCandle_33 : decode cX4_layCandle 33 = .ok (.getfield 94, 3) := by decide +kernel
theorem dX4_layCandle_36 : decode cX4_layCandle 36 = .ok (.iload_n 3, 1) := by decide +kernel
theorem dX4_layCandle_37 : decode cX4_layCandle 37 = .ok (.iaload, 1) := by decide +kernel
theorem dX4_layCandle_38 : decode cX4_layCandle 38 = .ok (.iconst 1, 1) := by decide +kernel
theorem dX4_layCandle_39 : decode cX4_layCandle 39 = .ok (.if_icmp .ne 7, 3) := by decide +kernel
theorem dX4_layCandle_42 : decode cX4_layCandle 42 = .ok (.iconst 1, 1) := by decide +kernel
theorem dX4_layCandle_43 : decode cX4_layCandle 43 = .ok (.goto 4, 3) := by decide +kernel
theorem dX4_layCandle_46 : decode cX4_layCandle 46 = .ok (.iconst 0, 1) := by decide +kernel
theorem dX4_layCandle_47 : decode cX4_layCandle 47 = .ok (.istore 5, 2) := by decide +kernel
theorem dX4_layCandle_49 : decode cX4_layCandle 49 = .ok (.lconst 0, 1) := by decide +kernel
theorem dX4_layCandle_50 : decode cX4_layCandle 50 = .ok (.lstore 6, 2) := by decide +kernel
theorem dX4_layCandle_52 : decode cX4_layCandle 52 = .ok (.iconst 0, 1) := by decide +kernel
theorem dX4_layCandle_53 : decode cX4_layCandle 53 = .ok (.istore 8, 2) := by decide +kernel
theorem dX4_layCandle_55 : decode cX4_layCandle 55 = .ok (.iload 8, 2) := by decide +kernel
theorem dX4_layCandle_57 : decode cX4_layCandle 57 = .ok (.bipush 6, 2) := by decide +kernel
theorem dX4_layCandle_59 : decode cX4_layCandle 59 = .ok (.if_icmp .ge 42, 3) := by decide +kernel
theorem dX4_layCandle_62 : decode cX4_layCandle 62 = .ok (.aload_n 2, 1) := by decide +kernel
theorem dX4_layCandle_63 : decode cX4_layCandle 63 = .ok (.aload_n 1, 1) := by decide +kernel
theorem dX4_layCandle_64 : decode cX4_layCandle 64 = .ok (.iload_n 3, 1) := by decide +kernel
theorem dX4_layCandle_65 : decode cX4_layCandle 65 = .ok (.iload 8, 2) := by decide +kernel
theorem dX4_layCandle_67 : decode cX4_layCandle 67 = .ok (.invokevirtual 97, 3) := by decide +kernel
theorem dX4_layCandle_70 : decode cX4_layCandle 70 = .ok (.istore 9, 2) := by decide +kernel
theorem dX4_layCandle_72 : decode cX4_layCandle 72 = .ok (.iload 9, 2) := by decide +kernel
theorem dX4_layCandle_74 : decode cX4_layCandle 74 = .ok (.ifCond .eq 21, 3) := by decide +kernel
theorem dX4_layCandle_77 : decode cX4_layCandle 77 = .ok (.lload 6, 2) := by decide +kernel
theorem dX4_layCandle_79 : decode cX4_layCandle 79 = .ok (.lconst 1, 1) := by decide +kernel
theorem dX4_layCandle_80 : decode cX4_layCandle 80 = .ok (.bipush 16, 2) := by decide +kernel
theorem dX4_layCandle_82 : decode cX4_layCandle 82 = .ok (.iload 9, 2) := by decide +kernel
theorem dX4_layCandle_84 : decode cX4_layCandle 84 = .ok (.invokestatic 101, 3) := by decide +kernel
theorem dX4_layCandle_87 : decode cX4_layCandle 87 = .ok (.imul, 1) := by decide +kernel
theorem dX4_layCandle_88 : decode cX4_layCandle 88 = .ok (.iload 8, 2) := by decide +kernel
theorem dX4_layCandle_90 : decode cX4_layCandle 90 = .ok (.iadd, 1) := by decide +kernel
theorem dX4_layCandle_91 : decode cX4_layCandle 91 = .ok (.lshl, 1) := by decide +kernel
theorem dX4_layCandle_92 : decode cX4_layCandle 92 = .ok (.lor, 1) := by decide +kernel
theorem dX4_layCandle_93 : decode cX4_layCandle 93 = .ok (.lstore 6, 2) := by decide +kernel
theorem dX4_layCandle_95 : decode cX4_layCandle 95 = .ok (.iinc 8 1, 3) := by decide +kernel
theorem dX4_layCandle_98 : decode cX4_layCandle 98 = .ok (.goto (-43), 3) := by decide +kernel
theorem dX4_layCandle_101 : decode cX4_layCandle 101 = .ok (.aload_n 0, 1) := by decide +kernel
theorem dX4_layCandle_102 : decode cX4_layCandle 102 = .ok (.getfield 19, 3) := by decide +kernel
theorem dX4_layCandle_105 : decode cX4_layCandle 105 = .ok (.iload_n 3, 1) := by decide +kernel
theorem dX4_layCandle_106 : decode cX4_layCandle 106 = .ok (.iload 4, 2) := by decide +kernel
theorem dX4_layCandle_108 : decode cX4_layCandle 108 = .ok (.ifCond .eq 8, 3) := by decide +kernel
theorem dX4_layCandle_111 : decode cX4_layCandle 111 = .ok (.bipush 6, 2) := by decide +kernel
theorem dX4_layCandle_113 : decode cX4_layCandle 113 = .ok (.goto 4, 3) := by decide +kernel
theorem dX4_layCandle_116 : decode cX4_layCandle 116 = .ok (.iconst 0, 1) := by decide +kernel
theorem dX4_layCandle_117 : decode cX4_layCandle 117 = .ok (.iastore, 1) := by decide +kernel
theorem dX4_layCandle_118 : decode cX4_layCandle 118 = .ok (.aload_n 0, 1) := by decide +kernel
theorem dX4_layCandle_119 : decode cX4_layCandle 119 = .ok (.getfield 15, 3) := by decide +kernel
theorem dX4_layCandle_122 : decode cX4_layCandle 122 = .ok (.iload_n 3, 1) := by decide +kernel
theorem dX4_layCandle_123 : decode cX4_layCandle 123 = .ok (.iload 4, 2) := by decide +kernel
theorem dX4_layCandle_125 : decode cX4_layCandle 125 = .ok (.ifCond .eq 19, 3) := by decide +kernel
theorem dX4_layCandle_128 : decode cX4_layCandle 128 = .ok (.aload_n 1, 1) := by decide +kernel
theorem dX4_layCandle_129 : decode cX4_layCandle 129 = .ok (.getfield 107, 3) := by decide +kernel
theorem dX4_layCandle_132 : decode cX4_layCandle 132 = .ok (.iload_n 3, 1) := by decide +kernel
theorem dX4_layCandle_133 : decode cX4_layCandle 133 = .ok (.iaload, 1) := by decide +kernel
theorem dX4_layCandle_134 : decode cX4_layCandle 134 = .ok (.aload_n 2, 1) := by decide +kernel
theorem dX4_layCandle_135 : decode cX4_layCandle 135 = .ok (.getfield 108, 3) := by decide +kernel
theorem dX4_layCandle_138 : decode cX4_layCandle 138 = .ok (.iload_n 3, 1) := by decide +kernel
theorem dX4_layCandle_139 : decode cX4_layCandle 139 = .ok (.iaload, 1) := by decide +kernel
theorem dX4_layCandle_140 : decode cX4_layCandle 140 = .ok (.imul, 1) := by decide +kernel
theorem dX4_layCandle_141 : decode cX4_layCandle 141 = .ok (.goto 4, 3) := by decide +kernel
theorem dX4_layCandle_144 : decode cX4_layCandle 144 = .ok (.iconst 0, 1) := by decide +kernel
theorem dX4_layCandle_145 : decode cX4_layCandle 145 = .ok (.iastore, 1) := by decide +kernel
theorem dX4_layCandle_146 : decode cX4_layCandle 146 = .ok (.aload_n 0, 1) := by decide +kernel
theorem dX4_layCandle_147 : decode cX4_layCandle 147 = .ok (.getfield 11, 3) := by decide +kernel
theorem dX4_layCandle_150 : decode cX4_layCandle 150 = .ok (.iload_n 3, 1) := by decide +kernel
theorem dX4_layCandle_151 : decode cX4_layCandle 151 = .ok (.bipush 7, 2) := by decide +kernel
theorem dX4_layCandle_153 : decode cX4_layCandle 153 = .ok (.imul, 1) := by decide +kernel
theorem dX4_layCandle_154 : decode cX4_layCandle 154 = .ok (.lconst 0, 1) := by decide +kernel
theorem dX4_layCandle_155 : decode cX4_layCandle 155 = .ok (.lastore, 1) := by decide +kernel
theorem dX4_layCandle_156 : decode cX4_layCandle 156 = .ok (.iconst 1, 1) := by decide +kernel
theorem dX4_layCandle_157 : decode cX4_layCandle 157 = .ok (.istore 8, 2) := by decide +kernel
theorem dX4_layCandle_159 : decode cX4_layCandle 159 = .ok (.iload 8, 2) := by decide +kernel
theorem dX4_layCandle_161 : decode cX4_layCandle 161 = .ok (.bipush 6, 2) := by decide +kernel
theorem dX4_layCandle_163 : decode cX4_layCandle 163 = .ok (.if_icmp .gt 28, 3) := by decide +kernel
theorem dX4_layCandle_166 : decode cX4_layCandle 166 = .ok (.aload_n 0, 1) := by decide +kernel
theorem dX4_layCandle_167 : decode cX4_layCandle 167 = .ok (.getfield 11, 3) := by decide +kernel
theorem dX4_layCandle_170 : decode cX4_layCandle 170 = .ok (.iload_n 3, 1) := by decide +kernel
theorem dX4_layCandle_171 : decode cX4_layCandle 171 = .ok (.bipush 7, 2) := by decide +kernel
theorem dX4_layCandle_173 : decode cX4_layCandle 173 = .ok (.imul, 1) := by decide +kernel
theorem dX4_layCandle_174 : decode cX4_layCandle 174 = .ok (.iload 8, 2) := by decide +kernel
theorem dX4_layCandle_176 : decode cX4_layCandle 176 = .ok (.iadd, 1) := by decide +kernel
theorem dX4_layCandle_177 : decode cX4_layCandle 177 = .ok (.lload 6, 2) := by decide +kernel
theorem dX4_layCandle_179 : decode cX4_layCandle 179 = .ok (.iload 8, 2) := by decide +kernel
theorem dX4_layCandle_181 : decode cX4_layCandle 181 = .ok (.iconst 1, 1) := by decide +kernel
theorem dX4_layCandle_182 : decode cX4_layCandle 182 = .ok (.isub, 1) := by decide +kernel
theorem dX4_layCandle_183 : decode cX4_layCandle 183 = .ok (.lshl, 1) := by decide +kernel
theorem dX4_layCandle_184 : decode cX4_layCandle 184 = .ok (.lastore, 1) := by decide +kernel
theorem dX4_layCandle_185 : decode cX4_layCandle 185 = .ok (.iinc 8 1, 3) := by decide +kernel
theorem dX4_layCandle_188 : decode cX4_layCandle 188 = .ok (.goto (-29), 3) := by decide +kernel
theorem dX4_layCandle_191 : decode cX4_layCandle 191 = .ok (.iload 5, 2) := by decide +kernel
theorem dX4_layCandle_193 : decode cX4_layCandle 193 = .ok (.ifCond .eq 8, 3) := by decide +kernel
theorem dX4_layCandle_196 : decode cX4_layCandle 196 = .ok (.lload 6, 2) := by decide +kernel
theorem dX4_layCandle_198 : decode cX4_layCandle 198 = .ok (.goto 4, 3) := by decide +kernel
theorem dX4_layCandle_201 : decode cX4_layCandle 201 = .ok (.lconst 0, 1) := by decide +kernel
theorem dX4_layCandle_202 : decode cX4_layCandle 202 = .ok (.lreturn, 1) := by decide +kernel
theorem dX4_tryCandle_0 : decode cX4_tryCandle 0 = .ok (.iload_n 1, 1) := by decide +kernel
theorem dX4_tryCandle_1 : decode cX4_tryCandle 1 = .ok (.iconst 4, 1) := by decide +kernel
theorem dX4_tryCandle_2 : decode cX4_tryCandle 2 = .ok (.if_icmp .lt 11, 3) := by decide +kernel
theorem dX4_tryCandle_5 : decode cX4_tryCandle 5 = .ok (.aload_n 0, 1) := by decide +kernel
theorem dX4_tryCandle_6 : decode cX4_tryCandle 6 = .ok (.lload_n 2, 1) := by decide +kernel
theorem dX4_tryCandle_7 : decode cX4_tryCandle 7 = .ok (.iload 4, 2) := by decide +kernel
theorem dX4_tryCandle_9 : decode cX4_tryCandle 9 = .ok (.invokevirtual 111, 3) := by decide +kernel
theorem dX4_tryCandle_12 : decode cX4_tryCandle 12 = .ok (.return_, 1) := by decide +kernel
theorem dX4_tryCandle_13 : decode cX4_tryCandle 13 = .ok (.iconst 0, 1) := by decide +kernel
theorem dX4_tryCandle_14 : decode cX4_tryCandle 14 = .ok (.istore 5, 2) := by decide +kernel
theorem dX4_tryCandle_16 : decode cX4_tryCandle 16 = .ok (.iload 5, 2) := by decide +kernel
theorem dX4_tryCandle_18 : decode cX4_tryCandle 18 = .ok (.aload_n 0, 1) := by decide +kernel
theorem dX4_tryCandle_19 : decode cX4_tryCandle 19 = .ok (.getfield 19, 3) := by decide +kernel
theorem dX4_tryCandle_22 : decode cX4_tryCandle 22 = .ok (.iload_n 1, 1) := by decide +kernel
theorem dX4_tryCandle_23 : decode cX4_tryCandle 23 = .ok (.iaload, 1) := by decide +kernel
theorem dX4_tryCandle_24 : decode cX4_tryCandle 24 = .ok (.if_icmp .gt 60, 3) := by decide +kernel
theorem dX4_tryCandle_27 : decode cX4_tryCandle 27 = .ok (.aload_n 0, 1) := by decide +kernel
theorem dX4_tryCandle_28 : decode cX4_tryCandle 28 = .ok (.getfield 28, 3) := by decide +kernel
theorem dX4_tryCandle_31 : decode cX4_tryCandle 31 = .ok (.iload_n 1, 1) := by decide +kernel
theorem dX4_tryCandle_32 : decode cX4_tryCandle 32 = .ok (.iload 5, 2) := by decide +kernel
theorem dX4_tryCandle_34 : decode cX4_tryCandle 34 = .ok (.iastore, 1) := by decide +kernel
theorem dX4_tryCandle_35 : decode cX4_tryCandle 35 = .ok (.iload 5, 2) := by decide +kernel
theorem dX4_tryCandle_37 : decode cX4_tryCandle 37 = .ok (.ifCond .ne 7, 3) := by decide +kernel
theorem dX4_tryCandle_40 : decode cX4_tryCandle 40 = .ok (.iconst 0, 1) := by decide +kernel
theorem dX4_tryCandle_41 : decode cX4_tryCandle 41 = .ok (.goto 9, 3) := by decide +kernel
theorem dX4_tryCandle_44 : decode cX4_tryCandle 44 = .ok (.aload_n 0, 1) := by decide +kernel
theorem dX4_tryCandle_45 : decode cX4_tryCandle 45 = .ok (.getfield 15, 3) := by decide +kernel
theorem dX4_tryCandle_48 : decode cX4_tryCandle 48 = .ok (.iload_n 1, 1) := by decide +kernel
theorem dX4_tryCandle_49 : decode cX4_tryCandle 49 = .ok (.iaload, 1) := by decide +kernel
theorem dX4_tryCandle_50 : decode cX4_tryCandle 50 = .ok (.istore 6, 2) := by decide +kernel
theorem dX4_tryCandle_52 : decode cX4_tryCandle 52 = .ok (.aload_n 0, 1) := by decide +kernel
theorem dX4_tryCandle_53 : decode cX4_tryCandle 53 = .ok (.iload_n 1, 1) := by decide +kernel
theorem dX4_tryCandle_54 : decode cX4_tryCandle 54 = .ok (.iconst 1, 1) := by decide +kernel
theorem dX4_tryCandle_55 : decode cX4_tryCandle 55 = .ok (.iadd, 1) := by decide +kernel
theorem dX4_tryCandle_56 : decode cX4_tryCandle 56 = .ok (.lload_n 2, 1) := by decide +kernel
theorem dX4_tryCandle_57 : decode cX4_tryCandle 57 = .ok (.aload_n 0, 1) := by decide +kernel
theorem dX4_tryCandle_58 : decode cX4_tryCandle 58 = .ok (.getfield 11, 3) := by decide +kernel
theorem dX4_tryCandle_61 : decode cX4_tryCandle 61 = .ok (.iload_n 1, 1) := by decide +kernel
theorem dX4_tryCandle_62 : decode cX4_tryCandle 62 = .ok (.bipush 7, 2) := by decide +kernel
theorem dX4_tryCandle_64 : decode cX4_tryCandle 64 = .ok (.imul, 1) := by decide +kernel
theorem dX4_tryCandle_65 : decode cX4_tryCandle 65 = .ok (.iload 5, 2) := by decide +kernel
theorem dX4_tryCandle_67 : decode cX4_tryCandle 67 = .ok (.iadd, 1) := by decide +kernel
theorem dX4_tryCandle_68 : decode cX4_tryCandle 68 = .ok (.laload, 1) := by decide +kernel
theorem dX4_tryCandle_69 : decode cX4_tryCandle 69 = .ok (.lor, 1) := by decide +kernel
theorem dX4_tryCandle_70 : decode cX4_tryCandle 70 = .ok (.iload 4, 2) := by decide +kernel
theorem dX4_tryCandle_72 : decode cX4_tryCandle 72 = .ok (.iload 6, 2) := by decide +kernel
theorem dX4_tryCandle_74 : decode cX4_tryCandle 74 = .ok (.iadd, 1) := by decide +kernel
theorem dX4_tryCandle_75 : decode cX4_tryCandle 75 = .ok (.invokevirtual 63, 3) := by decide +kernel
theorem dX4_tryCandle_78 : decode cX4_tryCandle 78 = .ok (.iinc 5 1, 3) := by decide +kernel
theorem dX4_tryCandle_81 : decode cX4_tryCandle 81 = .ok (.goto (-65), 3) := by decide +kernel
theorem dX4_tryCandle_84 : decode cX4_tryCandle 84 = .ok (.return_, 1) := by decide +kernel
theorem dX4_weigh_0 : decode cX4_weigh 0 = .ok (.iconst 0, 1) := by decide +kernel
theorem dX4_weigh_1 : decode cX4_weigh 1 = .ok (.istore 4, 2) := by decide +kernel
theorem dX4_weigh_3 : decode cX4_weigh 3 = .ok (.iconst 0, 1) := by decide +kernel
theorem dX4_weigh_4 : decode cX4_weigh 4 = .ok (.istore 5, 2) := by decide +kernel
theorem dX4_weigh_6 : decode cX4_weigh 6 = .ok (.iload 5, 2) := by decide +kernel
theorem dX4_weigh_8 : decode cX4_weigh 8 = .ok (.aload_n 0, 1) := by decide +kernel
theorem dX4_weigh_9 : decode cX4_weigh 9 = .ok (.getfield 37, 3) := by decide +kernel
theorem dX4_weigh_12 : decode cX4_weigh 12 = .ok (.if_icmp .ge 40, 3) := by decide +kernel
theorem dX4_weigh_15 : decode cX4_weigh 15 = .ok (.lload_n 1, 1) := by decide +kernel
theorem dX4_weigh_16 : decode cX4_weigh 16 = .ok (.aload_n 0, 1) := by decide +kernel
theorem dX4_weigh_17 : decode cX4_weigh 17 = .ok (.getfield 22, 3) := by decide +kernel
theorem dX4_weigh_20 : decode cX4_weigh 20 = .ok (.iload 5, 2) := by decide +kernel
theorem dX4_weigh_22 : decode cX4_weigh 22 = .ok (.laload, 1) := by decide +kernel
theorem dX4_weigh_23 : decode cX4_weigh 23 = .ok (.land, 1) := by decide +kernel
theorem dX4_weigh_24 : decode cX4_weigh 24 = .ok (.invokestatic 115, 3) := by decide +kernel
theorem dX4_weigh_27 : decode cX4_weigh 27 = .ok (.aload_n 0, 1) := by decide +kernel
theorem dX4_weigh_28 : decode cX4_weigh 28 = .ok (.getfield 25, 3) := by decide +kernel
theorem dX4_weigh_31 : decode cX4_weigh 31 = .ok (.iload 5, 2) := by decide +kernel
theorem dX4_weigh_33 : decode cX4_weigh 33 = .ok (.iaload, 1) := by decide +kernel
theorem dX4_weigh_34 : decode cX4_weigh 34 = .ok (.if_icmp .lt 12, 3) := by decide +kernel
theorem dX4_weigh_37 : decode cX4_weigh 37 = .ok (.iload 4, 2) := by decide +kernel
theorem dX4_weigh_39 : decode cX4_weigh 39 = .ok (.iconst 1, 1) := by decide +kernel
theorem dX4_weigh_40 : decode cX4_weigh 40 = .ok (.iload 5, 2) := by decide +kernel
theorem dX4_weigh_42 : decode cX4_weigh 42 = .ok (.ishl, 1) := by decide +kernel
theorem dX4_weigh_43 : decode cX4_weigh 43 = .ok (.ior, 1) := by decide +kernel
theorem dX4_weigh_44 : decode cX4_weigh 44 = .ok (.istore 4, 2) := by decide +kernel
theorem dX4_weigh_46 : decode cX4_weigh 46 = .ok (.iinc 5 1, 3) := by decide +kernel
theorem dX4_weigh_49 : decode cX4_weigh 49 = .ok (.goto (-43), 3) := by decide +kernel
theorem dX4_weigh_52 : decode cX4_weigh 52 = .ok (.aload_n 0, 1) := by decide +kernel
theorem dX4_weigh_53 : decode cX4_weigh 53 = .ok (.dup, 1) := by decide +kernel
theorem dX4_weigh_54 : decode cX4_weigh 54 = .ok (.getfield 44, 3) := by decide +kernel
theorem dX4_weigh_57 : decode cX4_weigh 57 = .ok (.iload 4, 2) := by decide +kernel
theorem dX4_weigh_59 : decode cX4_weigh 59 = .ok (.ior, 1) := by decide +kernel
theorem dX4_weigh_60 : decode cX4_weigh 60 = .ok (.putfield 44, 3) := by decide +kernel
theorem dX4_weigh_63 : decode cX4_weigh 63 = .ok (.iload_n 3, 1) := by decide +kernel
theorem dX4_weigh_64 : decode cX4_weigh 64 = .ok (.aload_n 0, 1) := by decide +kernel
theorem dX4_weigh_65 : decode cX4_weigh 65 = .ok (.getfield 34, 3) := by decide +kernel
theorem dX4_weigh_68 : decode cX4_weigh 68 = .ok (.iload 4, 2) := by decide +kernel
theorem dX4_weigh_70 : decode cX4_weigh 70 = .ok (.iaload, 1) := by decide +kernel
theorem dX4_weigh_71 : decode cX4_weigh 71 = .ok (.if_icmp .ge 34, 3) := by decide +kernel
theorem dX4_weigh_74 : decode cX4_weigh 74 = .ok (.aload_n 0, 1) := by decide +kernel
theorem dX4_weigh_75 : decode cX4_weigh 75 = .ok (.getfield 34, 3) := by decide +kernel
theorem dX4_weigh_78 : decode cX4_weigh 78 = .ok (.iload 4, 2) := by decide +kernel
theorem dX4_weigh_80 : decode cX4_weigh 80 = .ok (.iload_n 3, 1) := by decide +kernel
theorem dX4_weigh_81 : decode cX4_weigh 81 = .ok (.iastore, 1) := by decide +kernel
theorem dX4_weigh_82 : decode cX4_weigh 82 = .ok (.iload 4, 2) := by decide +kernel
theorem dX4_weigh_84 : decode cX4_weigh 84 = .ok (.aload_n 0, 1) := by decide +kernel
theorem dX4_weigh_85 : decode cX4_weigh 85 = .ok (.getfield 41, 3) := by decide +kernel
theorem dX4_weigh_88 : decode cX4_weigh 88 = .ok (.if_icmp .ne 17, 3) := by decide +kernel
theorem dX4_weigh_91 : decode cX4_weigh 91 = .ok (.aload_n 0, 1) := by decide +kernel
theorem dX4_weigh_92 : decode cX4_weigh 92 = .ok (.getfield 28, 3) := by decide +kernel
theorem dX4_weigh_95 : decode cX4_weigh 95 = .ok (.iconst 0, 1) := by decide +kernel
theorem dX4_weigh_96 : decode cX4_weigh 96 = .ok (.aload_n 0, 1) := by decide +kernel
theorem dX4_weigh_97 : decode cX4_weigh 97 = .ok (.getfield 31, 3) := by decide +kernel
theorem dX4_weigh_100 : decode cX4_weigh 100 = .ok (.iconst 0, 1) := by decide +kernel
theorem dX4_weigh_101 : decode cX4_weigh 101 = .ok (.iconst 4, 1) := by decide +kernel
theorem dX4_weigh_102 : decode cX4_weigh 102 = .ok (.invokestatic 121, 3) := by decide +kernel
theorem dX4_weigh_105 : decode cX4_weigh 105 = .ok (.return_, 1) := by decide +kernel
theorem dX4_spreadToFewerGuests_0 : decode cX4_spreadToFewerGuests 0 = .ok (.iconst 0, 1) := by decide +kernel
theorem dX4_spreadToFewerGuests_1 : decode cX4_spreadToFewerGuests 1 = .ok (.istore_n 1, 1) := by decide +kernel
theorem dX4_spreadToFewerGuests_2 : decode cX4_spreadToFewerGuests 2 = .ok (.iload_n 1, 1) := by decide +kernel
theorem dX4_spreadToFewerGuests_3 : decode cX4_spreadToFewerGuests 3 = .ok (.aload_n 0, 1) := by decide +kernel
theorem dX4_spreadToFewerGuests_4 : decode cX4_spreadToFewerGuests 4 = .ok (.getfield 37, 3) := by decide +kernel
theorem dX4_spreadToFewerGuests_7 : decode cX4_spreadToFewerGuests 7 = .ok (.if_icmp .ge 50, 3) := by decide +kernel
theorem dX4_spreadToFewerGuests_10 : decode cX4_spreadToFewerGuests 10 = .ok (.iconst 0, 1) := by decide +kernel
theorem dX4_spreadToFewerGuests_11 : decode cX4_spreadToFewerGuests 11 = .ok (.istore_n 2, 1) := by decide +kernel
theorem dX4_spreadToFewerGuests_12 : decode cX4_spreadToFewerGuests 12 = .ok (.iload_n 2, 1) := by decide +kernel
theorem dX4_spreadToFewerGuests_13 : decode cX4_spreadToFewerGuests 13 = .ok (.aload_n 0, 1) := by decide +kernel
theorem dX4_spreadToFewerGuests_14 : decode cX4_spreadToFewerGuests 14 = .ok (.getfield 41, 3) := by decide +kernel
theorem dX4_spreadToFewerGuests_17 : decode cX4_spreadToFewerGuests 17 = .ok (.if_icmp .gt 34, 3) := by decide +kernel
theorem dX4_spreadToFewerGuests_20 : decode cX4_spreadToFewerGuests 20 = .ok (.aload_n 0, 1) := by decide +kernel
theorem dX4_spreadToFewerGuests_21 : decode cX4_spreadToFewerGuests 21 = .ok (.getfield 34, 3) := by decide +kernel
theorem dX4_spreadToFewerGuests_24 : decode cX4_spreadToFewerGuests 24 = .ok (.iload_n 2, 1) := by decide +kernel
theorem dX4_spreadToFewerGuests_25 : decode cX4_spreadToFewerGuests 25 = .ok (.aload_n 0, 1) := by decide +kernel
theorem dX4_spreadToFewerGuests_26 : decode cX4_spreadToFewerGuests 26 = .ok (.getfield 34, 3) := by decide +kernel
theorem dX4_spreadToFewerGuests_29 : decode cX4_spreadToFewerGuests 29 = .ok (.iload_n 2, 1) := by decide +kernel
theorem dX4_spreadToFewerGuests_30 : decode cX4_spreadToFewerGuests 30 = .ok (.iaload, 1) := by decide +kernel
theorem dX4_spreadToFewerGuests_31 : decode cX4_spreadToFewerGuests 31 = .ok (.aload_n 0, 1) := by decide +kernel
theorem dX4_spreadToFewerGuests_32 : decode cX4_spreadToFewerGuests 32 = .ok (.getfield 34, 3) := by decide +kernel
theorem dX4_spreadToFewerGuests_35 : decode cX4_spreadToFewerGuests 35 = .ok (.iload_n 2, 1) := by decide +kernel
theorem dX4_spreadToFewerGuests_36 : decode cX4_spreadToFewerGuests 36 = .ok (.iconst 1, 1) := by decide +kernel
theorem dX4_spreadToFewerGuests_37 : decode cX4_spreadToFewerGuests 37 = .ok (.iload_n 1, 1) := by decide +kernel
theorem dX4_spreadToFewerGuests_38 : decode cX4_spreadToFewerGuests 38 = .ok (.ishl, 1) := by decide +kernel
theorem dX4_spreadToFewerGuests_39 : decode cX4_spreadToFewerGuests 39 = .ok (.ior, 1) := by decide +kernel
theorem dX4_spreadToFewerGuests_40 : decode cX4_spreadToFewerGuests 40 = .ok (.iaload, 1) := by decide +kernel
theorem dX4_spreadToFewerGuests_41 : decode cX4_spreadToFewerGuests 41 = .ok (.invokestatic 127, 3) := by decide +kernel
theorem dX4_spreadToFewerGuests_44 : decode cX4_spreadToFewerGuests 44 = .ok (.iastore, 1) := by decide +kernel
theorem dX4_spreadToFewerGuests_45 : decode cX4_spreadToFewerGuests 45 = .ok (.iinc 2 1, 3) := by decide +kernel
theorem dX4_spreadToFewerGuests_48 : decode cX4_spreadToFewerGuests 48 = .ok (.goto (-36), 3) := by decide +kernel
theorem dX4_spreadToFewerGuests_51 : decode cX4_spreadToFewerGuests 51 = .ok (.iinc 1 1, 3) := by decide +kernel
theorem dX4_spreadToFewerGuests_54 : decode cX4_spreadToFewerGuests 54 = .ok (.goto (-52), 3) := by decide +kernel
theorem dX4_spreadToFewerGuests_57 : decode cX4_spreadToFewerGuests 57 = .ok (.return_, 1) := by decide +kernel
theorem dX4_costForAll_0 : decode cX4_costForAll 0 = .ok (.aload_n 0, 1) := by decide +kernel
theorem dX4_costForAll_1 : decode cX4_costForAll 1 = .ok (.getfield 34, 3) := by decide +kernel
theorem dX4_costForAll_4 : decode cX4_costForAll 4 = .ok (.aload_n 0, 1) := by decide +kernel
theorem dX4_costForAll_5 : decode cX4_costForAll 5 = .ok (.getfield 41, 3) := by decide +kernel
theorem dX4_costForAll_8 : decode cX4_costForAll 8 = .ok (.iaload, 1) := by decide +kernel
theorem dX4_costForAll_9 : decode cX4_costForAll 9 = .ok (.ldc 54, 2) := by decide +kernel
theorem dX4_costForAll_11 : decode cX4_costForAll 11 = .ok (.if_icmp .ne 8, 3) := by decide +kernel
theorem dX4_costForAll_14 : decode cX4_costForAll 14 = .ok (.bipush (-9), 2) := by decide +kernel
theorem dX4_costForAll_16 : decode cX4_costForAll 16 = .ok (.goto 12, 3) := by decide +kernel
theorem dX4_costForAll_19 : decode cX4_costForAll 19 = .ok (.aload_n 0, 1) := by decide +kernel
theorem dX4_costForAll_20 : decode cX4_costForAll 20 = .ok (.getfield 34, 3) := by decide +kernel
theorem dX4_costForAll_23 : decode cX4_costForAll 23 = .ok (.aload_n 0, 1) := by decide +kernel
theorem dX4_costForAll_24 : decode cX4_costForAll 24 = .ok (.getfield 41, 3) := by decide +kernel
theorem dX4_costForAll_27 : decode cX4_costForAll 27 = .ok (.iaload, 1) := by decide +kernel
theorem dX4_costForAll_28 : decode cX4_costForAll 28 = .ok (.ireturn, 1) := by decide +kernel
theorem dX4_sharesOf_0 : decode cX4_sharesOf 0 = .ok (.iconst 0, 1) := by decide +kernel
theorem dX4_sharesOf_1 : decode cX4_sharesOf 1 = .ok (.istore_n 2, 1) := by decide +kernel
theorem dX4_sharesOf_2 : decode cX4_sharesOf 2 = .ok (.iconst 0, 1) := by decide +kernel
theorem dX4_sharesOf_3 : decode cX4_sharesOf 3 = .ok (.istore_n 3, 1) := by decide +kernel
theorem dX4_sharesOf_4 : decode cX4_sharesOf 4 = .ok (.iload_n 3, 1) := by decide +kernel
theorem dX4_sharesOf_5 : decode cX4_sharesOf 5 = .ok (.aload_n 0, 1) := by decide +kernel
theorem dX4_sharesOf_6 : decode cX4_sharesOf 6 = .ok (.getfield 41, 3) := by decide +kernel
theorem dX4_sharesOf_9 : decode cX4_sharesOf 9 = .ok (.if_icmp .gt 68, 3) := by decide +kernel
theorem dX4_sharesOf_12 : decode cX4_sharesOf 12 = .ok (.iload_n 3, 1) := by decide +kernel
theorem dX4_sharesOf_13 : decode cX4_sharesOf 13 = .ok (.iload_n 1, 1) := by decide +kernel
theorem dX4_sharesOf_14 : decode cX4_sharesOf 14 = .ok (.ishr, 1) := by decide +kernel
theorem dX4_sharesOf_15 : decode cX4_sharesOf 15 = .ok (.iconst 1, 1) := by decide +kernel
theorem dX4_sharesOf_16 : decode cX4_sharesOf 16 = .ok (.iand, 1) := by decide +kernel
theorem dX4_sharesOf_17 : decode cX4_sharesOf 17 = .ok (.ifCond .ne 54, 3) := by decide +kernel
theorem dX4_sharesOf_20 : decode cX4_sharesOf 20 = .ok (.iload_n 3, 1) := by decide +kernel
theorem dX4_sharesOf_21 : decode cX4_sharesOf 21 = .ok (.invokestatic 133, 3) := by decide +kernel
theorem dX4_sharesOf_24 : decode cX4_sharesOf 24 = .ok (.istore 4, 2) := by decide +kernel
theorem dX4_sharesOf_26 : decode cX4_sharesOf 26 = .ok (.getstatic 135, 3) := by decide +kernel
theorem dX4_sharesOf_29 : decode cX4_sharesOf 29 = .ok (.iload 4, 2) := by decide +kernel
theorem dX4_sharesOf_31 : decode cX4_sharesOf 31 = .ok (.iaload, 1) := by decide +kernel
theorem dX4_sharesOf_32 : decode cX4_sharesOf 32 = .ok (.getstatic 135, 3) := by decide +kernel
theorem dX4_sharesOf_35 : decode cX4_sharesOf 35 = .ok (.aload_n 0, 1) := by decide +kernel
theorem dX4_sharesOf_36 : decode cX4_sharesOf 36 = .ok (.getfield 37, 3) := by decide +kernel
theorem dX4_sharesOf_39 : decode cX4_sharesOf 39 = .ok (.iconst 1, 1) := by decide +kernel
theorem dX4_sharesOf_40 : decode cX4_sharesOf 40 = .ok (.isub, 1) := by decide +kernel
theorem dX4_sharesOf_41 : decode cX4_sharesOf 41 = .ok (.iload 4, 2) := by decide +kernel
theorem dX4_sharesOf_43 : decode cX4_sharesOf 43 = .ok (.isub, 1) := by decide +kernel
theorem dX4_sharesOf_44 : decode cX4_sharesOf 44 = .ok (.iaload, 1) := by decide +kernel
theorem dX4_sharesOf_45 : decode cX4_sharesOf 45 = .ok (.imul, 1) := by decide +kernel
theorem dX4_sharesOf_46 : decode cX4_sharesOf 46 = .ok (.istore 5, 2) := by decide +kernel
theorem dX4_sharesOf_48 : decode cX4_sharesOf 48 = .ok (.iload_n 2, 1) := by decide +kernel
theorem dX4_sharesOf_49 : decode cX4_sharesOf 49 = .ok (.iload 5, 2) := by decide +kernel
theorem dX4_sharesOf_51 : decode cX4_sharesOf 51 = .ok (.aload_n 0, 1) := by decide +kernel
theorem dX4_sharesOf_52 : decode cX4_sharesOf 52 = .ok (.getfield 34, 3) := by decide +kernel
theorem dX4_sharesOf_55 : decode cX4_sharesOf 55 = .ok (.iload_n 3, 1) := by decide +kernel
theorem dX4_sharesOf_56 : decode cX4_sharesOf 56 = .ok (.iconst 1, 1) := by decide +kernel
theorem dX4_sharesOf_57 : decode cX4_sharesOf 57 = .ok (.iload_n 1, 1) := by decide +kernel
theorem dX4_sharesOf_58 : decode cX4_sharesOf 58 = .ok (.ishl, 1) := by decide +kernel
theorem dX4_sharesOf_59 : decode cX4_sharesOf 59 = .ok (.ior, 1) := by decide +kernel
theorem dX4_sharesOf_60 : decode cX4_sharesOf 60 = .ok (.iaload, 1) := by decide +kernel
theorem dX4_sharesOf_61 : decode cX4_sharesOf 61 = .ok (.aload_n 0, 1) := by decide +kernel
theorem dX4_sharesOf_62 : decode cX4_sharesOf 62 = .ok (.getfield 34, 3) := by decide +kernel
theorem dX4_sharesOf_65 : decode cX4_sharesOf 65 = .ok (.iload_n 3, 1) := by decide +kernel
theorem dX4_sharesOf_66 : decode cX4_sharesOf 66 = .ok (.iaload, 1) := by decide +kernel
theorem dX4_sharesOf_67 : decode cX4_sharesOf 67 = .ok (.isub, 1) := by decide +kernel
theorem dX4_sharesOf_68 : decode cX4_sharesOf 68 = .ok (.imul, 1) := by decide +kernel
theorem dX4_sharesOf_69 : decode cX4_sharesOf 69 = .ok (.iadd, 1) := by decide +kernel
theorem dX4_sharesOf_70 : decode cX4_sharesOf 70 = .ok (.istore_n 2, 1) := by decide +kernel
theorem dX4_sharesOf_71 : decode cX4_sharesOf 71 = .ok (.iinc 3 1, 3) := by decide +kernel
theorem dX4_sharesOf_74 : decode cX4_sharesOf 74 = .ok (.goto (-70), 3) := by decide +kernel
theorem dX4_sharesOf_77 : decode cX4_sharesOf 77 = .ok (.iload_n 2, 1) := by decide +kernel
theorem dX4_sharesOf_78 : decode cX4_sharesOf 78 = .ok (.ireturn, 1) := by decide +kernel
theorem dX5_init_0 : decode cX5_init 0 = .ok (.aload_n 0, 1) := by decide +kernel
theorem dX5_init_1 : decode cX5_init 1 = .ok (.invokespecial 3, 3) := by decide +kernel
theorem dX5_init_4 : decode cX5_init 4 = .ok (.aload_n 0, 1) := by decide +kernel
theorem dX5_init_5 : decode cX5_init 5 = .ok (.bipush 64, 2) := by decide +kernel
theorem dX5_init_7 : decode cX5_init 7 = .ok (.newarray .int, 2) := by decide +kernel
theorem dX5_init_9 : decode cX5_init 9 = .ok (.putfield 9, 3) := by decide +kernel
theorem dX5_init_12 : decode cX5_init 12 = .ok (.return_, 1) := by decide +kernel
theorem dX5_fewest_0 : decode cX5_fewest 0 = .ok (.iconst 1, 1) := by decide +kernel
theorem dX5_fewest_1 : decode cX5_fewest 1 = .ok (.iload_n 2, 1) := by decide +kernel
theorem dX5_fewest_2 : decode cX5_fewest 2 = .ok (.ishl, 1) := by decide +kernel
theorem dX5_fewest_3 : decode cX5_fewest 3 = .ok (.iconst 1, 1) := by decide +kernel
theorem dX5_fewest_4 : decode cX5_fewest 4 = .ok (.isub, 1) := by decide +kernel
theorem dX5_fewest_5 : decode cX5_fewest 5 = .ok (.istore 4, 2) := by decide +kernel
theorem dX5_fewest_7 : decode cX5_fewest 7 = .ok (.aload_n 0, 1) := by decide +kernel
theorem dX5_fewest_8 : decode cX5_fewest 8 = .ok (.getfield 9, 3) := by decide +kernel
theorem dX5_fewest_11 : decode cX5_fewest 11 = .ok (.iconst 0, 1) := by decide +kernel
theorem dX5_fewest_12 : decode cX5_fewest 12 = .ok (.iload_n 1, 1) := by decide +kernel
theorem dX5_fewest_13 : decode cX5_fewest 13 = .ok (.iastore, 1) := by decide +kernel
theorem dX5_fewest_14 : decode cX5_fewest 14 = .ok (.iconst 1, 1) := by decide +kernel
theorem dX5_fewest_15 : decode cX5_fewest 15 = .ok (.istore 5, 2) := by decide +kernel
theorem dX5_fewest_17 : decode cX5_fewest 17 = .ok (.iload 5, 2) := by decide +kernel
theorem dX5_fewest_19 : decode cX5_fewest 19 = .ok (.iload 4, 2) := by decide +kernel
theorem dX5_fewest_21 : decode cX5_fewest 21 = .ok (.if_icmp .gt 100, 3) := by decide +kernel
theorem dX5_fewest_24 : decode cX5_fewest 24 = .ok (.iload 5, 2) := by decide +kernel
theorem dX5_fewest_26 : decode cX5_fewest 26 = .ok (.aload_n 0, 1) := by decide +kernel
theorem dX5_fewest_27 : decode cX5_fewest 27 = .ok (.getfield 9, 3) := by decide +kernel
theorem dX5_fewest_30 : decode cX5_fewest 30 = .ok (.arraylength, 1) := by decide +kernel
theorem dX5_fewest_31 : decode cX5_fewest 31 = .ok (.if_icmp .ge 90, 3) := by decide +kernel
theorem dX5_fewest_34 : decode cX5_fewest 34 = .ok (.aload_n 0, 1) := by decide +kernel
theorem dX5_fewest_35 : decode cX5_fewest 35 = .ok (.getfield 9, 3) := by decide +kernel
theorem dX5_fewest_38 : decode cX5_fewest 38 = .ok (.iload 5, 2) := by decide +kernel
theorem dX5_fewest_40 : decode cX5_fewest 40 = .ok (.ldc 15, 2) := by decide +kernel
theorem dX5_fewest_42 : decode cX5_fewest 42 = .ok (.iastore, 1) := by decide +kernel
theorem dX5_fewest_43 : decode cX5_fewest 43 = .ok (.iconst 0, 1) := by decide +kernel
theorem dX5_fewest_44 : decode cX5_fewest 44 = .ok (.istore 6, 2) := by decide +kernel
theorem dX5_fewest_46 : decode cX5_fewest 46 = .ok (.iload 6, 2) := by decide +kernel
theorem dX5_fewest_48 : decode cX5_fewest 48 = .ok (.iload_n 2, 1) := by decide +kernel
theorem dX5_fewest_49 : decode cX5_fewest 49 = .ok (.if_icmp .ge 66, 3) := by decide +kernel
theorem dX5_fewest_52 : decode cX5_fewest 52 = .ok (.iload 5, 2) := by decide +kernel
theorem dX5_fewest_54 : decode cX5_fewest 54 = .ok (.iload 6, 2) := by decide +kernel
theorem dX5_fewest_56 : decode cX5_fewest 56 = .ok (.ishr, 1) := by decide +kernel
theorem dX5_fewest_57 : decode cX5_fewest 57 = .ok (.iconst 1, 1) := by decide +kernel
theorem dX5_fewest_58 : decode cX5_fewest 58 = .ok (.iand, 1) := by decide +kernel
theorem dX5_fewest_59 : decode cX5_fewest 59 = .ok (.iconst 1, 1) := by decide +kernel
theorem dX5_fewest_60 : decode cX5_fewest 60 = .ok (.if_icmp .ne 49, 3) := by decide +kernel
theorem dX5_fewest_63 : decode cX5_fewest 63 = .ok (.aload_n 0, 1) := by decide +kernel
theorem dX5_fewest_64 : decode cX5_fewest 64 = .ok (.getfield 9, 3) := by decide +kernel
theorem dX5_fewest_67 : decode cX5_fewest 67 = .ok (.iload 5, 2) := by decide +kernel
theorem dX5_fewest_69 : decode cX5_fewest 69 = .ok (.iconst 1, 1) := by decide +kernel
theorem dX5_fewest_70 : decode cX5_fewest 70 = .ok (.iload 6, 2) := by decide +kernel
theorem dX5_fewest_72 : decode cX5_fewest 72 = .ok (.ishl, 1) := by decide +kernel
theorem dX5_fewest_73 : decode cX5_fewest 73 = .ok (.iconst (-1), 1) := by decide +kernel
theorem dX5_fewest_74 : decode cX5_fewest 74 = .ok (.ixor, 1) := by decide +kernel
theorem dX5_fewest_75 : decode cX5_fewest 75 = .ok (.iand, 1) := by decide +kernel
theorem dX5_fewest_76 : decode cX5_fewest 76 = .ok (.iaload, 1) := by decide +kernel
theorem dX5_fewest_77 : decode cX5_fewest 77 = .ok (.iload_n 3, 1) := by decide +kernel
theorem dX5_fewest_78 : decode cX5_fewest 78 = .ok (.iload_n 2, 1) := by decide +kernel
theorem dX5_fewest_79 : decode cX5_fewest 79 = .ok (.iload 6, 2) := by decide +kernel
theorem dX5_fewest_81 : decode cX5_fewest 81 = .ok (.invokestatic 16, 3) := by decide +kernel
theorem dX5_fewest_84 : decode cX5_fewest 84 = .ok (.iload_n 1, 1) := by decide +kernel
theorem dX5_fewest_85 : decode cX5_fewest 85 = .ok (.invokestatic 20, 3) := by decide +kernel
theorem dX5_fewest_88 : decode cX5_fewest 88 = .ok (.istore 7, 2) := by decide +kernel
theorem dX5_fewest_90 : decode cX5_fewest 90 = .ok (.aload_n 0, 1) := by decide +kernel
theorem dX5_fewest_91 : decode cX5_fewest 91 = .ok (.getfield 9, 3) := by decide +kernel
theorem dX5_fewest_94 : decode cX5_fewest 94 = .ok (.iload 5, 2) := by decide +kernel
theorem dX5_fewest_96 : decode cX5_fewest 96 = .ok (.aload_n 0, 1) := by decide +kernel
theorem dX5_fewest_97 : decode cX5_fewest 97 = .ok (.getfield 9, 3) := by decide +kernel
theorem dX5_fewest_100 : decode cX5_fewest 100 = .ok (.iload 5, 2) := by decide +kernel
theorem dX5_fewest_102 : decode cX5_fewest 102 = .ok (.iaload, 1) := by decide +kernel
theorem dX5_fewest_103 : decode cX5_fewest 103 = .ok (.iload 7, 2) := by decide +kernel
theorem dX5_fewest_105 : decode cX5_fewest 105 = .ok (.invokestatic 23, 3) := by decide +kernel
theorem dX5_fewest_108 : decode cX5_fewest 108 = .ok (.iastore, 1) := by decide +kernel
theorem dX5_fewest_109 : decode cX5_fewest 109 = .ok (.iinc 6 1, 3) := by decide +kernel
theorem dX5_fewest_112 : decode cX5_fewest 112 = .ok (.goto (-66), 3) := by decide +kernel
theorem dX5_fewest_115 : decode cX5_fewest 115 = .ok (.iinc 5 1, 3) := by decide +kernel
theorem dX5_fewest_118 : decode cX5_fewest 118 = .ok (.goto (-101), 3) := by decide +kernel
theorem dX5_fewest_121 : decode cX5_fewest 121 = .ok (.aload_n 0, 1) := by decide +kernel
theorem dX5_fewest_122 : decode cX5_fewest 122 = .ok (.getfield 9, 3) := by decide +kernel
theorem dX5_fewest_125 : decode cX5_fewest 125 = .ok (.iload 4, 2) := by decide +kernel
theorem dX5_fewest_127 : decode cX5_fewest 127 = .ok (.iaload, 1) := by decide +kernel
theorem dX5_fewest_128 : decode cX5_fewest 128 = .ok (.bipush 32, 2) := by decide +kernel
theorem dX5_fewest_130 : decode cX5_fewest 130 = .ok (.idiv, 1) := by decide +kernel
theorem dX5_fewest_131 : decode cX5_fewest 131 = .ok (.ireturn, 1) := by decide +kernel
theorem dX5_withOrder_0 : decode cX5_withOrder 0 = .ok (.iload_n 0, 1) := by decide +kernel
theorem dX5_withOrder_1 : decode cX5_withOrder 1 = .ok (.bipush 32, 2) := by decide +kernel
theorem dX5_withOrder_3 : decode cX5_withOrder 3 = .ok (.irem, 1) := by decide +kernel
theorem dX5_withOrder_4 : decode cX5_withOrder 4 = .ok (.istore_n 3, 1) := by decide +kernel
theorem dX5_withOrder_5 : decode cX5_withOrder 5 = .ok (.iload_n 3, 1) := by decide +kernel
theorem dX5_withOrder_6 : decode cX5_withOrder 6 = .ok (.iload_n 1, 1) := by decide +kernel
theorem dX5_withOrder_7 : decode cX5_withOrder 7 = .ok (.iadd, 1) := by decide +kernel
theorem dX5_withOrder_8 : decode cX5_withOrder 8 = .ok (.iload_n 2, 1) := by decide +kernel
theorem dX5_withOrder_9 : decode cX5_withOrder 9 = .ok (.if_icmp .gt 9, 3) := by decide +kernel
theorem dX5_withOrder_12 : decode cX5_withOrder 12 = .ok (.iload_n 0, 1) := by decide +kernel
theorem dX5_withOrder_13 : decode cX5_withOrder 13 = .ok (.iload_n 1, 1) := by decide +kernel
theorem dX5_withOrder_14 : decode cX5_withOrder 14 = .ok (.iadd, 1) := by decide +kernel
theorem dX5_withOrder_15 : decode cX5_withOrder 15 = .ok (.goto 14, 3) := by decide +kernel
theorem dX5_withOrder_18 : decode cX5_withOrder 18 = .ok (.iload_n 0, 1) := by decide +kernel
theorem dX5_withOrder_19 : decode cX5_withOrder 19 = .ok (.bipush 32, 2) := by decide +kernel
theorem dX5_withOrder_21 : decode cX5_withOrder 21 = .ok (.idiv, 1) := by decide +kernel
theorem dX5_withOrder_22 : decode cX5_withOrder 22 = .ok (.iconst 1, 1) := by decide +kernel
theorem dX5_withOrder_23 : decode cX5_withOrder 23 = .ok (.iadd, 1) := by decide +kernel
theorem dX5_withOrder_24 : decode cX5_withOrder 24 = .ok (.bipush 32, 2) := by decide +kernel
theorem dX5_withOrder_26 : decode cX5_withOrder 26 = .ok (.imul, 1) := by decide +kernel
theorem dX5_withOrder_27 : decode cX5_withOrder 27 = .ok (.iload_n 1, 1) := by decide +kernel
theorem dX5_withOrder_28 : decode cX5_withOrder 28 = .ok (.iadd, 1) := by decide +kernel
theorem dX5_withOrder_29 : decode cX5_withOrder 29 = .ok (.ireturn, 1) := by decide +kernel
theorem dX6_init_0 : decode cX6_init 0 = .ok (.aload_n 0, 1) := by decide +kernel
theorem dX6_init_1 : decode cX6_init 1 = .ok (.invokespecial 3, 3) := by decide +kernel
theorem dX6_init_4 : decode cX6_init 4 = .ok (.aload_n 0, 1) := by decide +kernel
theorem dX6_init_5 : decode cX6_init 5 = .ok (.bipush 64, 2) := by decide +kernel
theorem dX6_init_7 : decode cX6_init 7 = .ok (.newarray .int, 2) := by decide +kernel
theorem dX6_init_9 : decode cX6_init 9 = .ok (.putfield 9, 3) := by decide +kernel
theorem dX6_init_12 : decode cX6_init 12 = .ok (.aload_n 0, 1) := by decide +kernel
theorem dX6_init_13 : decode cX6_init 13 = .ok (.iconst 0, 1) := by decide +kernel
theorem dX6_init_14 : decode cX6_init 14 = .ok (.putfield 15, 3) := by decide +kernel
theorem dX6_init_17 : decode cX6_init 17 = .ok (.return_, 1) := by decide +kernel
theorem dX6_append_0 : decode cX6_append 0 = .ok (.aload_n 0, 1) := by decide +kernel
theorem dX6_append_1 : decode cX6_append 1 = .ok (.getfield 15, 3) := by decide +kernel
theorem dX6_append_4 : decode cX6_append 4 = .ok (.bipush 64, 2) := by decide +kernel
theorem dX6_append_6 : decode cX6_append 6 = .ok (.if_icmp .lt 6, 3) := by decide +kernel
theorem dX6_append_9 : decode cX6_append 9 = .ok (.bipush (-4), 2) := by decide +kernel
theorem dX6_append_11 : decode cX6_append 11 = .ok (.ireturn, 1) := by decide +kernel
theorem dX6_append_12 : decode cX6_append 12 = .ok (.aload_n 0, 1) := by decide +kernel
theorem dX6_append_13 : decode cX6_append 13 = .ok (.getfield 9, 3) := by decide +kernel
theorem dX6_append_16 : decode cX6_append 16 = .ok (.aload_n 0, 1) := by decide +kernel
theorem dX6_append_17 : decode cX6_append 17 = .ok (.getfield 15, 3) := by decide +kernel
theorem dX6_append_20 : decode cX6_append 20 = .ok (.iload_n 1, 1) := by decide +kernel
theorem dX6_append_21 : decode cX6_append 21 = .ok (.iastore, 1) := by decide +kernel
theorem dX6_append_22 : decode cX6_append 22 = .ok (.aload_n 0, 1) := by decide +kernel
theorem dX6_append_23 : decode cX6_append 23 = .ok (.dup, 1) := by decide +kernel
theorem dX6_append_24 : decode cX6_append 24 = .ok (.getfield 15, 3) := by decide +kernel
theorem dX6_append_27 : decode cX6_append 27 = .ok (.iconst 1, 1) := by decide +kernel
theorem dX6_append_28 : decode cX6_append 28 = .ok (.iadd, 1) := by decide +kernel
theorem dX6_append_29 : decode cX6_append 29 = .ok (.putfield 15, 3) := by decide +kernel
theorem dX6_append_32 : decode cX6_append 32 = .ok (.aload_n 0, 1) := by decide +kernel
theorem dX6_append_33 : decode cX6_append 33 = .ok (.getfield 15, 3) := by decide +kernel
theorem dX6_append_36 : decode cX6_append 36 = .ok (.ireturn, 1) := by decide +kernel
theorem dX6_clear_0 : decode cX6_clear 0 = .ok (.aload_n 0, 1) := by decide +kernel
theorem dX6_clear_1 : decode cX6_clear 1 = .ok (.getfield 15, 3) := by decide +kernel
theorem dX6_clear_4 : decode cX6_clear 4 = .ok (.istore_n 1, 1) := by decide +kernel
theorem dX6_clear_5 : decode cX6_clear 5 = .ok (.aload_n 0, 1) := by decide +kernel
theorem dX6_clear_6 : decode cX6_clear 6 = .ok (.iconst 0, 1) := by decide +kernel
theorem dX6_clear_7 : decode cX6_clear 7 = .ok (.putfield 15, 3) := by decide +kernel
theorem dX6_clear_10 : decode cX6_clear 10 = .ok (.iload_n 1, 1) := by decide +kernel
theorem dX6_clear_11 : decode cX6_clear 11 = .ok (.ireturn, 1) := by decide +kernel
theorem dX6_readInto_0 : decode cX6_readInto 0 = .ok (.aload_n 1, 1) := by decide +kernel
theorem dX6_readInto_1 : decode cX6_readInto 1 = .ok (.invokevirtual 19, 3) := by decide +kernel
theorem dX6_readInto_4 : decode cX6_readInto 4 = .ok (.aload_n 0, 1) := by decide +kernel
theorem dX6_readInto_5 : decode cX6_readInto 5 = .ok (.iconst 0, 1) := by decide +kernel
theorem dX6_readInto_6 : decode cX6_readInto 6 = .ok (.invokevirtual 24, 3) := by decide +kernel
theorem dX6_readInto_9 : decode cX6_readInto 9 = .ok (.bipush 69, 2) := by decide +kernel
theorem dX6_readInto_11 : decode cX6_readInto 11 = .ok (.if_icmp .eq 5, 3) := by decide +kernel
theorem dX6_readInto_14 : decode cX6_readInto 14 = .ok (.iconst 0, 1) := by decide +kernel
theorem dX6_readInto_15 : decode cX6_readInto 15 = .ok (.ireturn, 1) := by decide +kernel
theorem dX6_readInto_16 : decode cX6_readInto 16 = .ok (.iconst 1, 1) := by decide +kernel
theorem dX6_readInto_17 : decode cX6_readInto 17 = .ok (.istore_n 2, 1) := by decide +kernel
theorem dX6_readInto_18 : decode cX6_readInto 18 = .ok (.iload_n 2, 1) := by decide +kernel
theorem dX6_readInto_19 : decode cX6_readInto 19 = .ok (.aload_n 0, 1) := by decide +kernel
theorem dX6_readInto_20 : decode cX6_readInto 20 = .ok (.getfield 15, 3) := by decide +kernel
theorem dX6_readInto_23 : decode cX6_readInto 23 = .ok (.if_icmp .ge 54, 3) := by decide +kernel
theorem dX6_readInto_26 : decode cX6_readInto 26 = .ok (.aload_n 0, 1) := by decide +kernel
theorem dX6_readInto_27 : decode cX6_readInto 27 = .ok (.iload_n 2, 1) := by decide +kernel
theorem dX6_readInto_28 : decode cX6_readInto 28 = .ok (.invokevirtual 28, 3) := by decide +kernel
theorem dX6_readInto_31 : decode cX6_readInto 31 = .ok (.bipush (-9), 2) := by decide +kernel
theorem dX6_readInto_33 : decode cX6_readInto 33 = .ok (.if_icmp .eq 44, 3) := by decide +kernel
theorem dX6_readInto_36 : decode cX6_readInto 36 = .ok (.aload_n 1, 1) := by decide +kernel
theorem dX6_readInto_37 : decode cX6_readInto 37 = .ok (.getfield 31, 3) := by decide +kernel
theorem dX6_readInto_40 : decode cX6_readInto 40 = .ok (.bipush 12, 2) := by decide +kernel
theorem dX6_readInto_42 : decode cX6_readInto 42 = .ok (.if_icmp .lt 5, 3) := by decide +kernel
theorem dX6_readInto_45 : decode cX6_readInto 45 = .ok (.iload_n 2, 1) := by decide +kernel
theorem dX6_readInto_46 : decode cX6_readInto 46 = .ok (.ireturn, 1) := by decide +kernel
theorem dX6_readInto_47 : decode cX6_readInto 47 = .ok (.aload_n 1, 1) := by decide +kernel
theorem dX6_readInto_48 : decode cX6_readInto 48 = .ok (.getfield 34, 3) := by decide +kernel
theorem dX6_readInto_51 : decode cX6_readInto 51 = .ok (.aload_n 1, 1) := by decide +kernel
theorem dX6_readInto_52 : decode cX6_readInto 52 = .ok (.getfield 31, 3) := by decide +kernel
theorem dX6_readInto_55 : decode cX6_readInto 55 = .ok (.aload_n 0, 1) := by decide +kernel
theorem dX6_readInto_56 : decode cX6_readInto 56 = .ok (.iload_n 2, 1) := by decide +kernel
theorem dX6_readInto_57 : decode cX6_readInto 57 = .ok (.invokevirtual 28, 3) := by decide +kernel
theorem dX6_readInto_60 : decode cX6_readInto 60 = .ok (.iastore, 1) := by decide +kernel
theorem dX6_readInto_61 : decode cX6_readInto 61 = .ok (.aload_n 1, 1) := by decide +kernel
theorem dX6_readInto_62 : decode cX6_readInto 62 = .ok (.dup, 1) := by decide +kernel
theorem dX6_readInto_63 : decode cX6_readInto 63 = .ok (.getfield 31, 3) := by decide +kernel
theorem dX6_readInto_66 : decode cX6_readInto 66 = .ok (.iconst 1, 1) := by decide +kernel
theorem dX6_readInto_67 : decode cX6_readInto 67 = .ok (.iadd, 1) := by decide +kernel
theorem dX6_readInto_68 : decode cX6_readInto 68 = .ok (.putfield 31, 3) := by decide +kernel
theorem dX6_readInto_71 : decode cX6_readInto 71 = .ok (.iinc 2 1, 3) := by decide +kernel
theorem dX6_readInto_74 : decode cX6_readInto 74 = .ok (.goto (-56), 3) := by decide +kernel
theorem dX6_readInto_77 : decode cX6_readInto 77 = .ok (.iload_n 2, 1) := by decide +kernel
theorem dX6_readInto_78 : decode cX6_readInto 78 = .ok (.aload_n 0, 1) := by decide +kernel
theorem dX6_readInto_79 : decode cX6_readInto 79 = .ok (.getfield 15, 3) := by decide +kernel
theorem dX6_readInto_82 : decode cX6_readInto 82 = .ok (.if_icmp .ge 24, 3) := by decide +kernel
theorem dX6_readInto_85 : decode cX6_readInto 85 = .ok (.aload_n 0, 1) := by decide +kernel
theorem dX6_readInto_86 : decode cX6_readInto 86 = .ok (.iload_n 2, 1) := by decide +kernel
theorem dX6_readInto_87 : decode cX6_readInto 87 = .ok (.aload_n 1, 1) := by decide +kernel
theorem dX6_readInto_88 : decode cX6_readInto 88 = .ok (.invokevirtual 37, 3) := by decide +kernel
theorem dX6_readInto_91 : decode cX6_readInto 91 = .ok (.istore_n 3, 1) := by decide +kernel
theorem dX6_readInto_92 : decode cX6_readInto 92 = .ok (.iload_n 3, 1) := by decide +kernel
theorem dX6_readInto_93 : decode cX6_readInto 93 = .ok (.bipush (-9), 2) := by decide +kernel
theorem dX6_readInto_95 : decode cX6_readInto 95 = .ok (.if_icmp .eq 5, 3) := by decide +kernel
theorem dX6_readInto_98 : decode cX6_readInto 98 = .ok (.iload_n 3, 1) := by decide +kernel
theorem dX6_readInto_99 : decode cX6_readInto 99 = .ok (.ireturn, 1) := by decide +kernel
theorem dX6_readInto_100 : decode cX6_readInto 100 = .ok (.iinc 2 5, 3) := by decide +kernel
theorem dX6_readInto_103 : decode cX6_readInto 103 = .ok (.goto (-26), 3) := by decide +kernel
theorem dX6_readInto_106 : decode cX6_readInto 106 = .ok (.bipush (-9), 2) := by decide +kernel
theorem dX6_readInto_108 : decode cX6_readInto 108 = .ok (.ireturn, 1) := by decide +kernel
theorem dX6_readPart_0 : decode cX6_readPart 0 = .ok (.aload_n 0, 1) := by decide +kernel
theorem dX6_readPart_1 : decode cX6_readPart 1 = .ok (.iload_n 1, 1) := by decide +kernel
theorem dX6_readPart_2 : decode cX6_readPart 2 = .ok (.invokevirtual 24, 3) := by decide +kernel
theorem dX6_readPart_5 : decode cX6_readPart 5 = .ok (.istore_n 3, 1) := by decide +kernel
theorem dX6_readPart_6 : decode cX6_readPart 6 = .ok (.iload_n 3, 1) := by decide +kernel
theorem dX6_readPart_7 : decode cX6_readPart 7 = .ok (.bipush 67, 2) := by decide +kernel
theorem dX6_readPart_9 : decode cX6_readPart 9 = .ok (.if_icmp .ne 25, 3) := by decide +kernel
theorem dX6_readPart_12 : decode cX6_readPart 12 = .ok (.aload_n 2, 1) := by decide +kernel
theorem dX6_readPart_13 : decode cX6_readPart 13 = .ok (.getfield 41, 3) := by decide +kernel
theorem dX6_readPart_16 : decode cX6_readPart 16 = .ok (.iconst 4, 1) := by decide +kernel
theorem dX6_readPart_17 : decode cX6_readPart 17 = .ok (.if_icmp .ge 17, 3) := by decide +kernel
theorem dX6_readPart_20 : decode cX6_readPart 20 = .ok (.aload_n 2, 1) := by decide +kernel
theorem dX6_readPart_21 : decode cX6_readPart 21 = .ok (.getfield 31, 3) := by decide +kernel
theorem dX6_readPart_24 : decode cX6_readPart 24 = .ok (.ifCond .le 10, 3) := by decide +kernel
theorem dX6_readPart_27 : decode cX6_readPart 27 = .ok (.aload_n 0, 1) := by decide +kernel
theorem dX6_readPart_28 : decode cX6_readPart 28 = .ok (.iload_n 1, 1) := by decide +kernel
theorem dX6_readPart_29 : decode cX6_readPart 29 = .ok (.aload_n 2, 1) := by decide +kernel
theorem dX6_readPart_30 : decode cX6_readPart 30 = .ok (.invokevirtual 44, 3) := by decide +kernel
theorem dX6_readPart_33 : decode cX6_readPart 33 = .ok (.ireturn, 1) := by decide +kernel
theorem dX6_readPart_34 : decode cX6_readPart 34 = .ok (.iload_n 3, 1) := by decide +kernel
theorem dX6_readPart_35 : decode cX6_readPart 35 = .ok (.bipush 71, 2) := by decide +kernel
theorem dX6_readPart_37 : decode cX6_readPart 37 = .ok (.if_icmp .ne 18, 3) := by decide +kernel
theorem dX6_readPart_40 : decode cX6_readPart 40 = .ok (.aload_n 2, 1) := by decide +kernel
theorem dX6_readPart_41 : decode cX6_readPart 41 = .ok (.getfield 47, 3) := by decide +kernel
theorem dX6_readPart_44 : decode cX6_readPart 44 = .ok (.iconst 4, 1) := by decide +kernel
theorem dX6_readPart_45 : decode cX6_readPart 45 = .ok (.if_icmp .ge 10, 3) := by decide +kernel
theorem dX6_readPart_48 : decode cX6_readPart 48 = .ok (.aload_n 0, 1) := by decide +kernel
theorem dX6_readPart_49 : decode cX6_readPart 49 = .ok (.iload_n 1, 1) := by decide +kernel
theorem dX6_readPart_50 : decode cX6_readPart 50 = .ok (.aload_n 2, 1) := by decide +kernel
theorem dX6_readPart_51 : decode cX6_readPart 51 = .ok (.invokevirtual 50, 3) := by decide +kernel
theorem dX6_readPart_54 : decode cX6_readPart 54 = .ok (.ireturn, 1) := by decide +kernel
theorem dX6_readPart_55 : decode cX6_readPart 55 = .ok (.iload_n 1, 1) := by decide +kernel
theorem dX6_readPart_56 : decode cX6_readPart 56 = .ok (.ireturn, 1) := by decide +kernel
theorem dX6_readCandle_0 : decode cX6_readCandle 0 = .ok (.aload_n 2, 1) := by decide +kernel
theorem dX6_readCandle_1 : decode cX6_readCandle 1 = .ok (.getfield 31, 3) := by decide +kernel
theorem dX6_readCandle_4 : decode cX6_readCandle 4 = .ok (.iconst 1, 1) := by decide +kernel
theorem dX6_readCandle_5 : decode cX6_readCandle 5 = .ok (.isub, 1) := by decide +kernel
theorem dX6_readCandle_6 : decode cX6_readCandle 6 = .ok (.istore_n 3, 1) := by decide +kernel
theorem dX6_readCandle_7 : decode cX6_readCandle 7 = .ok (.aload_n 0, 1) := by decide +kernel
theorem dX6_readCandle_8 : decode cX6_readCandle 8 = .ok (.iload_n 1, 1) := by decide +kernel
theorem dX6_readCandle_9 : decode cX6_readCandle 9 = .ok (.iconst 1, 1) := by decide +kernel
theorem dX6_readCandle_10 : decode cX6_readCandle 10 = .ok (.iadd, 1) := by decide +kernel
theorem dX6_readCandle_11 : decode cX6_readCandle 11 = .ok (.iconst 0, 1) := by decide +kernel
theorem dX6_readCandle_12 : decode cX6_readCandle 12 = .ok (.iload_n 3, 1) := by decide +kernel
theorem dX6_readCandle_13 : decode cX6_readCandle 13 = .ok (.bipush 10, 2) := by decide +kernel
theorem dX6_readCandle_15 : decode cX6_readCandle 15 = .ok (.idiv, 1) := by decide +kernel
theorem dX6_readCandle_16 : decode cX6_readCandle 16 = .ok (.invokevirtual 53, 3) := by decide +kernel
theorem dX6_readCandle_19 : decode cX6_readCandle 19 = .ok (.istore 4, 2) := by decide +kernel
theorem dX6_readCandle_21 : decode cX6_readCandle 21 = .ok (.iload 4, 2) := by decide +kernel
theorem dX6_readCandle_23 : decode cX6_readCandle 23 = .ok (.bipush (-9), 2) := by decide +kernel
theorem dX6_readCandle_25 : decode cX6_readCandle 25 = .ok (.if_icmp .ne 7, 3) := by decide +kernel
theorem dX6_readCandle_28 : decode cX6_readCandle 28 = .ok (.iload_n 1, 1) := by decide +kernel
theorem dX6_readCandle_29 : decode cX6_readCandle 29 = .ok (.iconst 1, 1) := by decide +kernel
theorem dX6_readCandle_30 : decode cX6_readCandle 30 = .ok (.iadd, 1) := by decide +kernel
theorem dX6_readCandle_31 : decode cX6_readCandle 31 = .ok (.ireturn, 1) := by decide +kernel
theorem dX6_readCandle_32 : decode cX6_readCandle 32 = .ok (.aload_n 0, 1) := by decide +kernel
theorem dX6_readCandle_33 : decode cX6_readCandle 33 = .ok (.iload_n 1, 1) := by decide +kernel
theorem dX6_readCandle_34 : decode cX6_readCandle 34 = .ok (.iconst 2, 1) := by decide +kernel
theorem dX6_readCandle_35 : decode cX6_readCandle 35 = .ok (.iadd, 1) := by decide +kernel
theorem dX6_readCandle_36 : decode cX6_readCandle 36 = .ok (.iconst 0, 1) := by decide +kernel
theorem dX6_readCandle_37 : decode cX6_readCandle 37 = .ok (.iload_n 3, 1) := by decide +kernel
theorem dX6_readCandle_38 : decode cX6_readCandle 38 = .ok (.bipush 10, 2) := by decide +kernel
theorem dX6_readCandle_40 : decode cX6_readCandle 40 = .ok (.iload 4, 2) := by decide +kernel
theorem dX6_readCandle_42 : decode cX6_readCandle 42 = .ok (.imul, 1) := by decide +kernel
theorem dX6_readCandle_43 : decode cX6_readCandle 43 = .ok (.isub, 1) := by decide +kernel
theorem dX6_readCandle_44 : decode cX6_readCandle 44 = .ok (.invokevirtual 53, 3) := by decide +kernel
theorem dX6_readCandle_47 : decode cX6_readCandle 47 = .ok (.istore 5, 2) := by decide +kernel
theorem dX6_readCandle_49 : decode cX6_readCandle 49 = .ok (.iload 5, 2) := by decide +kernel
theorem dX6_readCandle_51 : decode cX6_readCandle 51 = .ok (.bipush (-9), 2) := by decide +kernel
theorem dX6_readCandle_53 : decode cX6_readCandle 53 = .ok (.if_icmp .ne 7, 3) := by decide +kernel
theorem dX6_readCandle_56 : decode cX6_readCandle 56 = .ok (.iload_n 1, 1) := by decide +kernel
theorem dX6_readCandle_57 : decode cX6_readCandle 57 = .ok (.iconst 2, 1) := by decide +kernel
theorem dX6_readCandle_58 : decode cX6_readCandle 58 = .ok (.iadd, 1) := by decide +kernel
theorem dX6_readCandle_59 : decode cX6_readCandle 59 = .ok (.ireturn, 1) := by decide +kernel
theorem dX6_readCandle_60 : decode cX6_readCandle 60 = .ok (.bipush 10, 2) := by decide +kernel
theorem dX6_readCandle_62 : decode cX6_readCandle 62 = .ok (.iload 4, 2) := by decide +kernel
theorem dX6_readCandle_64 : decode cX6_readCandle 64 = .ok (.imul, 1) := by decide +kernel
theorem dX6_readCandle_65 : decode cX6_readCandle 65 = .ok (.iload 5, 2) := by decide +kernel
theorem dX6_readCandle_67 : decode cX6_readCandle 67 = .ok (.iadd, 1) := by decide +kernel
theorem dX6_readCandle_68 : decode cX6_readCandle 68 = .ok (.istore 6, 2) := by decide +kernel
theorem dX6_readCandle_70 : decode cX6_readCandle 70 = .ok (.aload_n 0, 1) := by decide +kernel
theorem dX6_readCandle_71 : decode cX6_readCandle 71 = .ok (.iload_n 1, 1) := by decide +kernel
theorem dX6_readCandle_72 : decode cX6_readCandle 72 = .ok (.iconst 3, 1) := by decide +kernel
theorem dX6_readCandle_73 : decode cX6_readCandle 73 = .ok (.iadd, 1) := by decide +kernel
theorem dX6_readCandle_74 : decode cX6_readCandle 74 = .ok (.iconst 1, 1) := by decide +kernel
theorem dX6_readCandle_75 : decode cX6_readCandle 75 = .ok (.bipush 6, 2) := by decide +kernel
theorem dX6_readCandle_77 : decode cX6_readCandle 77 = .ok (.aload_n 2, 1) := by decide +kernel
theorem dX6_readCandle_78 : decode cX6_readCandle 78 = .ok (.getfield 31, 3) := by decide +kernel
theorem dX6_readCandle_81 : decode cX6_readCandle 81 = .ok (.iload 6, 2) := by decide +kernel
theorem dX6_readCandle_83 : decode cX6_readCandle 83 = .ok (.isub, 1) := by decide +kernel
theorem dX6_readCandle_84 : decode cX6_readCandle 84 = .ok (.invokestatic 57, 3) := by decide +kernel
theorem dX6_readCandle_87 : decode cX6_readCandle 87 = .ok (.invokevirtual 53, 3) := by decide +kernel
theorem dX6_readCandle_90 : decode cX6_readCandle 90 = .ok (.istore 7, 2) := by decide +kernel
theorem dX6_readCandle_92 : decode cX6_readCandle 92 = .ok (.iload 7, 2) := by decide +kernel
theorem dX6_readCandle_94 : decode cX6_readCandle 94 = .ok (.bipush (-9), 2) := by decide +kernel
theorem dX6_readCandle_96 : decode cX6_readCandle 96 = .ok (.if_icmp .ne 7, 3) := by decide +kernel
theorem dX6_readCandle_99 : decode cX6_readCandle 99 = .ok (.iload_n 1, 1) := by decide +kernel
theorem dX6_readCandle_100 : decode cX6_readCandle 100 = .ok (.iconst 3, 1) := by decide +kernel
theorem dX6_readCandle_101 : decode cX6_readCandle 101 = .ok (.iadd, 1) := by decide +kernel
theorem dX6_readCandle_102 : decode cX6_readCandle 102 = .ok (.ireturn, 1) := by decide +kernel
theorem dX6_readCandle_103 : decode cX6_readCandle 103 = .ok (.aload_n 0, 1) := by decide +kernel
theorem dX6_readCandle_104 : decode cX6_readCandle 104 = .ok (.iload_n 1, 1) := by decide +kernel
theorem dX6_readCandle_105 : decode cX6_readCandle 105 = .ok (.iconst 4, 1) := by decide +kernel
theorem dX6_readCandle_106 : decode cX6_readCandle 106 = .ok (.iadd, 1) := by decide +kernel
theorem dX6_readCandle_107 : decode cX6_readCandle 107 = .ok (.iconst 1, 1) := by decide +kernel
theorem dX6_readCandle_108 : decode cX6_readCandle 108 = .ok (.bipush 9, 2) := by decide +kernel
theorem dX6_readCandle_110 : decode cX6_readCandle 110 = .ok (.invokevirtual 53, 3) := by decide +kernel
theorem dX6_readCandle_113 : decode cX6_readCandle 113 = .ok (.istore 8, 2) := by decide +kernel
theorem dX6_readCandle_115 : decode cX6_readCandle 115 = .ok (.iload 8, 2) := by decide +kernel
theorem dX6_readCandle_117 : decode cX6_readCandle 117 = .ok (.bipush (-9), 2) := by decide +kernel
theorem dX6_readCandle_119 : decode cX6_readCandle 119 = .ok (.if_icmp .ne 7, 3) := by decide +kernel
theorem dX6_readCandle_122 : decode cX6_readCandle 122 = .ok (.iload_n 1, 1) := by decide +kernel
theorem dX6_readCandle_123 : decode cX6_readCandle 123 = .ok (.iconst 4, 1) := by decide +kernel
theorem dX6_readCandle_124 : decode cX6_readCandle 124 = .ok (.iadd, 1) := by decide +kernel
theorem dX6_readCandle_125 : decode cX6_readCandle 125 = .ok (.ireturn, 1) := by decide +kernel
theorem dX6_readCandle_126 : decode cX6_readCandle 126 = .ok (.aload_n 2, 1) := by decide +kernel
theorem dX6_readCandle_127 : decode cX6_readCandle 127 = .ok (.getfield 63, 3) := by decide +kernel
theorem dX6_readCandle_130 : decode cX6_readCandle 130 = .ok (.aload_n 2, 1) := by decide +kernel
theorem dX6_readCandle_131 : decode cX6_readCandle 131 = .ok (.getfield 41, 3) := by decide +kernel
theorem dX6_readCandle_134 : decode cX6_readCandle 134 = .ok (.iload 6, 2) := by decide +kernel
theorem dX6_readCandle_136 : decode cX6_readCandle 136 = .ok (.iastore, 1) := by decide +kernel
theorem dX6_readCandle_137 : decode cX6_readCandle 137 = .ok (.aload_n 2, 1) := by decide +kernel
theorem dX6_readCandle_138 : decode cX6_readCandle 138 = .ok (.getfield 66, 3) := by decide +kernel
theorem dX6_readCandle_141 : decode cX6_readCandle 141 = .ok (.aload_n 2, 1) := by decide +kernel
theorem dX6_readCandle_142 : decode cX6_readCandle 142 = .ok (.getfield 41, 3) := by decide +kernel
theorem dX6_readCandle_145 : decode cX6_readCandle 145 = .ok (.iload 7, 2) := by decide +kernel
theorem dX6_readCandle_147 : decode cX6_readCandle 147 = .ok (.iastore, 1) := by decide +kernel
theorem dX6_readCandle_148 : decode cX6_readCandle 148 = .ok (.aload_n 2, 1) := by decide +kernel
theorem dX6_readCandle_149 : decode cX6_readCandle 149 = .ok (.getfield 69, 3) := by decide +kernel
theorem dX6_readCandle_152 : decode cX6_readCandle 152 = .ok (.aload_n 2, 1) := by decide +kernel
theorem dX6_readCandle_153 : decode cX6_readCandle 153 = .ok (.getfield 41, 3) := by decide +kernel
theorem dX6_readCandle_156 : decode cX6_readCandle 156 = .ok (.iload 8, 2) := by decide +kernel
theorem dX6_readCandle_158 : decode cX6_readCandle 158 = .ok (.iastore, 1) := by decide +kernel
theorem dX6_readCandle_159 : decode cX6_readCandle 159 = .ok (.aload_n 2, 1) := by decide +kernel
theorem dX6_readCandle_160 : decode cX6_readCandle 160 = .ok (.dup, 1) := by decide +kernel
theorem dX6_readCandle_161 : decode cX6_readCandle 161 = .ok (.getfield 41, 3) := by decide +kernel
theorem dX6_readCandle_164 : decode cX6_readCandle 164 = .ok (.iconst 1, 1) := by decide +kernel
theorem dX6_readCandle_165 : decode cX6_readCandle 165 = .ok (.iadd, 1) := by decide +kernel
theorem dX6_readCandle_166 : decode cX6_readCandle 166 = .ok (.putfield 41, 3) := by decide +kernel
theorem dX6_readCandle_169 : decode cX6_readCandle 169 = .ok (.bipush (-9), 2) := by decide +kernel
theorem dX6_readCandle_171 : decode cX6_readCandle 171 = .ok (.ireturn, 1) := by decide +kernel
theorem dX6_readGuest_0 : decode cX6_readGuest 0 = .ok (.aload_n 0, 1) := by decide +kernel
theorem dX6_readGuest_1 : decode cX6_readGuest 1 = .ok (.iload_n 1, 1) := by decide +kernel
theorem dX6_readGuest_2 : decode cX6_readGuest 2 = .ok (.iconst 1, 1) := by decide +kernel
theorem dX6_readGuest_3 : decode cX6_readGuest 3 = .ok (.iadd, 1) := by decide +kernel
theorem dX6_readGuest_4 : decode cX6_readGuest 4 = .ok (.invokevirtual 28, 3) := by decide +kernel
theorem dX6_readGuest_7 : decode cX6_readGuest 7 = .ok (.istore_n 3, 1) := by decide +kernel
theorem dX6_readGuest_8 : decode cX6_readGuest 8 = .ok (.iload_n 3, 1) := by decide +kernel
theorem dX6_readGuest_9 : decode cX6_readGuest 9 = .ok (.bipush (-9), 2) := by decide +kernel
theorem dX6_readGuest_11 : decode cX6_readGuest 11 = .ok (.if_icmp .eq 8, 3) := by decide +kernel
theorem dX6_readGuest_14 : decode cX6_readGuest 14 = .ok (.iload_n 3, 1) := by decide +kernel
theorem dX6_readGuest_15 : decode cX6_readGuest 15 = .ok (.iconst 4, 1) := by decide +kernel
theorem dX6_readGuest_16 : decode cX6_readGuest 16 = .ok (.if_icmp .ne 7, 3) := by decide +kernel
theorem dX6_readGuest_19 : decode cX6_readGuest 19 = .ok (.iload_n 1, 1) := by decide +kernel
theorem dX6_readGuest_20 : decode cX6_readGuest 20 = .ok (.iconst 1, 1) := by decide +kernel
theorem dX6_readGuest_21 : decode cX6_readGuest 21 = .ok (.iadd, 1) := by decide +kernel
theorem dX6_readGuest_22 : decode cX6_readGuest 22 = .ok (.ireturn, 1) := by decide +kernel
theorem dX6_readGuest_23 : decode cX6_readGuest 23 = .ok (.aload_n 0, 1) := by decide +kernel
theorem dX6_readGuest_24 : decode cX6_readGuest 24 = .ok (.iload_n 1, 1) := by decide +kernel
theorem dX6_readGuest_25 : decode cX6_readGuest 25 = .ok (.iconst 2, 1) := by decide +kernel
theorem dX6_readGuest_26 : decode cX6_readGuest 26 = .ok (.iadd, 1) := by decide +kernel
theorem dX6_readGuest_27 : decode cX6_readGuest 27 = .ok (.iconst 1, 1) := by decide +kernel
theorem dX6_readGuest_28 : decode cX6_readGuest 28 = .ok (.bipush 6, 2) := by decide +kernel
theorem dX6_readGuest_30 : decode cX6_readGuest 30 = .ok (.invokevirtual 53, 3) := by decide +kernel
theorem dX6_readGuest_33 : decode cX6_readGuest 33 = .ok (.istore 4, 2) := by decide +kernel
theorem dX6_readGuest_35 : decode cX6_readGuest 35 = .ok (.iload 4, 2) := by decide +kernel
theorem dX6_readGuest_37 : decode cX6_readGuest 37 = .ok (.bipush (-9), 2) := by decide +kernel
theorem dX6_readGuest_39 : decode cX6_readGuest 39 = .ok (.if_icmp .ne 7, 3) := by decide +kernel
theorem dX6_readGuest_42 : decode cX6_readGuest 42 = .ok (.iload_n 1, 1) := by decide +kernel
theorem dX6_readGuest_43 : decode cX6_readGuest 43 = .ok (.iconst 2, 1) := by decide +kernel
theorem dX6_readGuest_44 : decode cX6_readGuest 44 = .ok (.iadd, 1) := by decide +kernel
theorem dX6_readGuest_45 : decode cX6_readGuest 45 = .ok (.ireturn, 1) := by decide +kernel
theorem dX6_readGuest_46 : decode cX6_readGuest 46 = .ok (.aload_n 0, 1) := by decide +kernel
theorem dX6_readGuest_47 : decode cX6_readGuest 47 = .ok (.iload_n 1, 1) := by decide +kernel
theorem dX6_readGuest_48 : decode cX6_readGuest 48 = .ok (.iconst 3, 1) := by decide +kernel
theorem dX6_readGuest_49 : decode cX6_readGuest 49 = .ok (.iadd, 1) := by decide +kernel
theorem dX6_readGuest_50 : decode cX6_readGuest 50 = .ok (.iconst 0, 1) := by decide +kernel
theorem dX6_readGuest_51 : decode cX6_readGuest 51 = .ok (.bipush 9, 2) := by decide +kernel
theorem dX6_readGuest_53 : decode cX6_readGuest 53 = .ok (.invokevirtual 53, 3) := by decide +kernel
theorem dX6_readGuest_56 : decode cX6_readGuest 56 = .ok (.istore 5, 2) := by decide +kernel
theorem dX6_readGuest_58 : decode cX6_readGuest 58 = .ok (.iload 5, 2) := by decide +kernel
theorem dX6_readGuest_60 : decode cX6_readGuest 60 = .ok (.bipush (-9), 2) := by decide +kernel
theorem dX6_readGuest_62 : decode cX6_readGuest 62 = .ok (.if_icmp .ne 7, 3) := by decide +kernel
theorem dX6_readGuest_65 : decode cX6_readGuest 65 = .ok (.iload_n 1, 1) := by decide +kernel
theorem dX6_readGuest_66 : decode cX6_readGuest 66 = .ok (.iconst 3, 1) := by decide +kernel
theorem dX6_readGuest_67 : decode cX6_readGuest 67 = .ok (.iadd, 1) := by decide +kernel
theorem dX6_readGuest_68 : decode cX6_readGuest 68 = .ok (.ireturn, 1) := by decide +kernel
theorem dX6_readGuest_69 : decode cX6_readGuest 69 = .ok (.aload_n 0, 1) := by decide +kernel
theorem dX6_readGuest_70 : decode cX6_readGuest 70 = .ok (.iload_n 1, 1) := by decide +kernel
theorem dX6_readGuest_71 : decode cX6_readGuest 71 = .ok (.iconst 4, 1) := by decide +kernel
theorem dX6_readGuest_72 : decode cX6_readGuest 72 = .ok (.iadd, 1) := by decide +kernel
theorem dX6_readGuest_73 : decode cX6_readGuest 73 = .ok (.iload 5, 2) := by decide +kernel
theorem dX6_readGuest_75 : decode cX6_readGuest 75 = .ok (.bipush 9, 2) := by decide +kernel
theorem dX6_readGuest_77 : decode cX6_readGuest 77 = .ok (.invokevirtual 53, 3) := by decide +kernel
theorem dX6_readGuest_80 : decode cX6_readGuest 80 = .ok (.istore 6, 2) := by decide +kernel
theorem dX6_readGuest_82 : decode cX6_readGuest 82 = .ok (.iload 6, 2) := by decide +kernel
theorem dX6_readGuest_84 : decode cX6_readGuest 84 = .ok (.bipush (-9), 2) := by decide +kernel
theorem dX6_readGuest_86 : decode cX6_readGuest 86 = .ok (.if_icmp .ne 7, 3) := by decide +kernel
theorem dX6_readGuest_89 : decode cX6_readGuest 89 = .ok (.iload_n 1, 1) := by decide +kernel
theorem dX6_readGuest_90 : decode cX6_readGuest 90 = .ok (.iconst 4, 1) := by decide +kernel
theorem dX6_readGuest_91 : decode cX6_readGuest 91 = .ok (.iadd, 1) := by decide +kernel
theorem dX6_readGuest_92 : decode cX6_readGuest 92 = .ok (.ireturn, 1) := by decide +kernel
theorem dX6_readGuest_93 : decode cX6_readGuest 93 = .ok (.aload_n 2, 1) := by decide +kernel
theorem dX6_readGuest_94 : decode cX6_readGuest 94 = .ok (.getfield 72, 3) := by decide +kernel
theorem dX6_readGuest_97 : decode cX6_readGuest 97 = .ok (.aload_n 2, 1) := by decide +kernel
theorem dX6_readGuest_98 : decode cX6_readGuest 98 = .ok (.getfield 47, 3) := by decide +kernel
theorem dX6_readGuest_101 : decode cX6_readGuest 101 = .ok (.iload_n 3, 1) := by decide +kernel
theorem dX6_readGuest_102 : decode cX6_readGuest 102 = .ok (.iastore, 1) := by decide +kernel
theorem dX6_readGuest_103 : decode cX6_readGuest 103 = .ok (.aload_n 2, 1) := by decide +kernel
theorem dX6_readGuest_104 : decode cX6_readGuest 104 = .ok (.getfield 75, 3) := by decide +kernel
theorem dX6_readGuest_107 : decode cX6_readGuest 107 = .ok (.aload_n 2, 1) := by decide +kernel
theorem dX6_readGuest_108 : decode cX6_readGuest 108 = .ok (.getfield 47, 3) := by decide +kernel
theorem dX6_readGuest_111 : decode cX6_readGuest 111 = .ok (.iload 4, 2) := by decide +kernel
theorem dX6_readGuest_113 : decode cX6_readGuest 113 = .ok (.iastore, 1) := by decide +kernel
theorem dX6_readGuest_114 : decode cX6_readGuest 114 = .ok (.aload_n 2, 1) := by decide +kernel
theorem dX6_readGuest_115 : decode cX6_readGuest 115 = .ok (.getfield 78, 3) := by decide +kernel
theorem dX6_readGuest_118 : decode cX6_readGuest 118 = .ok (.aload_n 2, 1) := by decide +kernel
theorem dX6_readGuest_119 : decode cX6_readGuest 119 = .ok (.getfield 47, 3) := by decide +kernel
theorem dX6_readGuest_122 : decode cX6_readGuest 122 = .ok (.iload 5, 2) := by decide +kernel
theorem dX6_readGuest_124 : decode cX6_readGuest 124 = .ok (.iastore, 1) := by decide +kernel
theorem dX6_readGuest_125 : decode cX6_readGuest 125 = .ok (.aload_n 2, 1) := by decide +kernel
theorem dX6_readGuest_126 : decode cX6_readGuest 126 = .ok (.getfield 81, 3) := by decide +kernel
theorem dX6_readGuest_129 : decode cX6_readGuest 129 = .ok (.aload_n 2, 1) := by decide +kernel
theorem dX6_readGuest_130 : decode cX6_readGuest 130 = .ok (.getfield 47, 3) := by decide +kernel
theorem dX6_readGuest_133 : decode cX6_readGuest 133 = .ok (.iload 6, 2) := by decide +kernel
theorem dX6_readGuest_135 : decode cX6_readGuest 135 = .ok (.iastore, 1) := by decide +kernel
theorem dX6_readGuest_136 : decode cX6_readGuest 136 = .ok (.aload_n 2, 1) := by decide +kernel
theorem dX6_readGuest_137 : decode cX6_readGuest 137 = .ok (.dup, 1) := by decide +kernel
theorem dX6_readGuest_138 : decode cX6_readGuest 138 = .ok (.getfield 47, 3) := by decide +kernel
theorem dX6_readGuest_141 : decode cX6_readGuest 141 = .ok (.iconst 1, 1) := by decide +kernel
theorem dX6_readGuest_142 : decode cX6_readGuest 142 = .ok (.iadd, 1) := by decide +kernel
theorem dX6_readGuest_143 : decode cX6_readGuest 143 = .ok (.putfield 47, 3) := by decide +kernel
theorem dX6_readGuest_146 : decode cX6_readGuest 146 = .ok (.bipush (-9), 2) := by decide +kernel
theorem dX6_readGuest_148 : decode cX6_readGuest 148 = .ok (.ireturn, 1) := by decide +kernel
theorem dX6_letterAt_0 : decode cX6_letterAt 0 = .ok (.iload_n 1, 1) := by decide +kernel
theorem dX6_letterAt_1 : decode cX6_letterAt 1 = .ok (.ifCond .lt 20, 3) := by decide +kernel
theorem dX6_letterAt_4 : decode cX6_letterAt 4 = .ok (.iload_n 1, 1) := by decide +kernel
theorem dX6_letterAt_5 : decode cX6_letterAt 5 = .ok (.aload_n 0, 1) := by decide +kernel
theorem dX6_letterAt_6 : decode cX6_letterAt 6 = .ok (.getfield 15, 3) := by decide +kernel
theorem dX6_letterAt_9 : decode cX6_letterAt 9 = .ok (.if_icmp .ge 12, 3) := by decide +kernel
theorem dX6_letterAt_12 : decode cX6_letterAt 12 = .ok (.aload_n 0, 1) := by decide +kernel
theorem dX6_letterAt_13 : decode cX6_letterAt 13 = .ok (.getfield 9, 3) := by decide +kernel
theorem dX6_letterAt_16 : decode cX6_letterAt 16 = .ok (.iload_n 1, 1) := by decide +kernel
theorem dX6_letterAt_17 : decode cX6_letterAt 17 = .ok (.iaload, 1) := by decide +kernel
theorem dX6_letterAt_18 : decode cX6_letterAt 18 = .ok (.goto 5, 3) := by decide +kernel
theorem dX6_letterAt_21 : decode cX6_letterAt 21 = .ok (.bipush (-9), 2) := by decide +kernel
theorem dX6_letterAt_23 : decode cX6_letterAt 23 = .ok (.ireturn, 1) := by decide +kernel
theorem dX6_momentAt_0 : decode cX6_momentAt 0 = .ok (.aload_n 0, 1) := by decide +kernel
theorem dX6_momentAt_1 : decode cX6_momentAt 1 = .ok (.iload_n 1, 1) := by decide +kernel
theorem dX6_momentAt_2 : decode cX6_momentAt 2 = .ok (.invokevirtual 24, 3) := by decide +kernel
theorem dX6_momentAt_5 : decode cX6_momentAt 5 = .ok (.istore_n 2, 1) := by decide +kernel
theorem dX6_momentAt_6 : decode cX6_momentAt 6 = .ok (.iload_n 2, 1) := by decide +kernel
theorem dX6_momentAt_7 : decode cX6_momentAt 7 = .ok (.bipush 45, 2) := by decide +kernel
theorem dX6_momentAt_9 : decode cX6_momentAt 9 = .ok (.if_icmp .ne 5, 3) := by decide +kernel
theorem dX6_momentAt_12 : decode cX6_momentAt 12 = .ok (.iconst 4, 1) := by decide +kernel
theorem dX6_momentAt_13 : decode cX6_momentAt 13 = .ok (.ireturn, 1) := by decide +kernel
theorem dX6_momentAt_14 : decode cX6_momentAt 14 = .ok (.iload_n 2, 1) := by decide +kernel
theorem dX6_momentAt_15 : decode cX6_momentAt 15 = .ok (.bipush 97, 2) := by decide +kernel
theorem dX6_momentAt_17 : decode cX6_momentAt 17 = .ok (.if_icmp .lt 16, 3) := by decide +kernel
theorem dX6_momentAt_20 : decode cX6_momentAt 20 = .ok (.iload_n 2, 1) := by decide +kernel
theorem dX6_momentAt_21 : decode cX6_momentAt 21 = .ok (.bipush 100, 2) := by decide +kernel
theorem dX6_momentAt_23 : decode cX6_momentAt 23 = .ok (.if_icmp .gt 10, 3) := by decide +kernel
theorem dX6_momentAt_26 : decode cX6_momentAt 26 = .ok (.iload_n 2, 1) := by decide +kernel
theorem dX6_momentAt_27 : decode cX6_momentAt 27 = .ok (.bipush 97, 2) := by decide +kernel
theorem dX6_momentAt_29 : decode cX6_momentAt 29 = .ok (.isub, 1) := by decide +kernel
theorem dX6_momentAt_30 : decode cX6_momentAt 30 = .ok (.goto 5, 3) := by decide +kernel
theorem dX6_momentAt_33 : decode cX6_momentAt 33 = .ok (.bipush (-9), 2) := by decide +kernel
theorem dX6_momentAt_35 : decode cX6_momentAt 35 = .ok (.ireturn, 1) := by decide +kernel
theorem dX6_figureAt_0 : decode cX6_figureAt 0 = .ok (.aload_n 0, 1) := by decide +kernel
theorem dX6_figureAt_1 : decode cX6_figureAt 1 = .ok (.iload_n 1, 1) := by decide +kernel
theorem dX6_figureAt_2 : decode cX6_figureAt 2 = .ok (.invokevirtual 24, 3) := by decide +kernel
theorem dX6_figureAt_5 : decode cX6_figureAt 5 = .ok (.istore 4, 2) := by decide +kernel
theorem dX6_figureAt_7 : decode cX6_figureAt 7 = .ok (.iload 4, 2) := by decide +kernel
theorem dX6_figureAt_9 : decode cX6_figureAt 9 = .ok (.bipush 48, 2) := by decide +kernel
theorem dX6_figureAt_11 : decode cX6_figureAt 11 = .ok (.if_icmp .lt 32, 3) := by decide +kernel
theorem dX6_figureAt_14 : decode cX6_figureAt 14 = .ok (.iload 4, 2) := by decide +kernel
theorem dX6_figureAt_16 : decode cX6_figureAt 16 = .ok (.bipush 57, 2) := by decide +kernel
theorem dX6_figureAt_18 : decode cX6_figureAt 18 = .ok (.if_icmp .gt 25, 3) := by decide +kernel
theorem dX6_figureAt_21 : decode cX6_figureAt 21 = .ok (.iload 4, 2) := by decide +kernel
theorem dX6_figureAt_23 : decode cX6_figureAt 23 = .ok (.bipush 48, 2) := by decide +kernel
theorem dX6_figureAt_25 : decode cX6_figureAt 25 = .ok (.isub, 1) := by decide +kernel
theorem dX6_figureAt_26 : decode cX6_figureAt 26 = .ok (.iload_n 2, 1) := by decide +kernel
theorem dX6_figureAt_27 : decode cX6_figureAt 27 = .ok (.if_icmp .lt 16, 3) := by decide +kernel
theorem dX6_figureAt_30 : decode cX6_figureAt 30 = .ok (.iload 4, 2) := by decide +kernel
theorem dX6_figureAt_32 : decode cX6_figureAt 32 = .ok (.bipush 48, 2) := by decide +kernel
theorem dX6_figureAt_34 : decode cX6_figureAt 34 = .ok (.isub, 1) := by decide +kernel
theorem dX6_figureAt_35 : decode cX6_figureAt 35 = .ok (.iload_n 3, 1) := by decide +kernel
theorem dX6_figureAt_36 : decode cX6_figureAt 36 = .ok (.if_icmp .gt 7, 3) := by decide +kernel
theorem dX6_figureAt_39 : decode cX6_figureAt 39 = .ok (.iconst 1, 1) := by decide +kernel
theorem dX6_figureAt_40 : decode cX6_figureAt 40 = .ok (.goto 4, 3) := by decide +kernel
theorem dX6_figureAt_43 : decode cX6_figureAt 43 = .ok (.iconst 0, 1) := by decide +kernel
theorem dX6_figureAt_44 : decode cX6_figureAt 44 = .ok (.istore 5, 2) := by decide +kernel
theorem dX6_figureAt_46 : decode cX6_figureAt 46 = .ok (.iload 5, 2) := by decide +kernel
theorem dX6_figureAt_48 : decode cX6_figureAt 48 = .ok (.ifCond .eq 11, 3) := by decide +kernel
theorem dX6_figureAt_51 : decode cX6_figureAt 51 = .ok (.iload 4, 2) := by decide +kernel
theorem dX6_figureAt_53 : decode cX6_figureAt 53 = .ok (.bipush 48, 2) := by decide +kernel
theorem dX6_figureAt_55 : decode cX6_figureAt 55 = .ok (.isub, 1) := by decide +kernel
theorem dX6_figureAt_56 : decode cX6_figureAt 56 = .ok (.goto 5, 3) := by decide +kernel
theorem dX6_figureAt_59 : decode cX6_figureAt 59 = .ok (.bipush (-9), 2) := by decide +kernel
theorem dX6_figureAt_61 : decode cX6_figureAt 61 = .ok (.ireturn, 1) := by decide +kernel
theorem dJ6_numberOfLeadingZeros_0f7a4_0 : decode cJ6_numberOfLeadingZeros_0f7a4 0 = .ok (.iload_n 0, 1) := by decide +kernel
theorem dJ6_numberOfLeadingZeros_0f7a4_1 : decode cJ6_numberOfLeadingZeros_0f7a4 1 = .ok (.ifCond .gt 14, 3) := by decide +kernel
theorem dJ6_numberOfLeadingZeros_0f7a4_4 : decode cJ6_numberOfLeadingZeros_0f7a4 4 = .ok (.iload_n 0, 1) := by decide +kernel
theorem dJ6_numberOfLeadingZeros_0f7a4_5 : decode cJ6_numberOfLeadingZeros_0f7a4 5 = .ok (.ifCond .ne 8, 3) := by decide +kernel
theorem dJ6_numberOfLeadingZeros_0f7a4_8 : decode cJ6_numberOfLeadingZeros_0f7a4 8 = .ok (.bipush 32, 2) := by decide +kernel
theorem dJ6_numberOfLeadingZeros_0f7a4_10 : decode cJ6_numberOfLeadingZeros_0f7a4 10 = .ok (.goto 4, 3) := by decide +kernel
theorem dJ6_numberOfLeadingZeros_0f7a4_13 : decode cJ6_numberOfLeadingZeros_0f7a4 13 = .ok (.iconst 0, 1) := by decide +kernel
theorem dJ6_numberOfLeadingZeros_0f7a4_14 : decode cJ6_numberOfLeadingZeros_0f7a4 14 = .ok (.ireturn, 1) := by decide +kernel
theorem dJ6_numberOfLeadingZeros_0f7a4_15 : decode cJ6_numberOfLeadingZeros_0f7a4 15 = .ok (.bipush 31, 2) := by decide +kernel
theorem dJ6_numberOfLeadingZeros_0f7a4_17 : decode cJ6_numberOfLeadingZeros_0f7a4 17 = .ok (.istore_n 1, 1) := by decide +kernel
theorem dJ6_numberOfLeadingZeros_0f7a4_18 : decode cJ6_numberOfLeadingZeros_0f7a4 18 = .ok (.iload_n 0, 1) := by decide +kernel
theorem dJ6_numberOfLeadingZeros_0f7a4_19 : decode cJ6_numberOfLeadingZeros_0f7a4 19 = .ok (.ldc_w 264, 3) := by decide +kernel
theorem dJ6_numberOfLeadingZeros_0f7a4_22 : decode cJ6_numberOfLeadingZeros_0f7a4 22 = .ok (.if_icmp .lt 11, 3) := by decide +kernel
theorem dJ6_numberOfLeadingZeros_0f7a4_25 : decode cJ6_numberOfLeadingZeros_0f7a4 25 = .ok (.iinc 1 (-16), 3) := by decide +kernel
theorem dJ6_numberOfLeadingZeros_0f7a4_28 : decode cJ6_numberOfLeadingZeros_0f7a4 28 = .ok (.iload_n 0, 1) := by decide +kernel
theorem dJ6_numberOfLeadingZeros_0f7a4_29 : decode cJ6_numberOfLeadingZeros_0f7a4 29 = .ok (.bipush 16, 2) := by decide +kernel
theorem dJ6_numberOfLeadingZeros_0f7a4_31 : decode cJ6_numberOfLeadingZeros_0f7a4 31 = .ok (.iushr, 1) := by decide +kernel
theorem dJ6_numberOfLeadingZeros_0f7a4_32 : decode cJ6_numberOfLeadingZeros_0f7a4 32 = .ok (.istore_n 0, 1) := by decide +kernel
theorem dJ6_numberOfLeadingZeros_0f7a4_33 : decode cJ6_numberOfLeadingZeros_0f7a4 33 = .ok (.iload_n 0, 1) := by decide +kernel
theorem dJ6_numberOfLeadingZeros_0f7a4_34 : decode cJ6_numberOfLeadingZeros_0f7a4 34 = .ok (.sipush 256, 3) := by decide +kernel
theorem dJ6_numberOfLeadingZeros_0f7a4_37 : decode cJ6_numberOfLeadingZeros_0f7a4 37 = .ok (.if_icmp .lt 11, 3) := by decide +kernel
theorem dJ6_numberOfLeadingZeros_0f7a4_40 : decode cJ6_numberOfLeadingZeros_0f7a4 40 = .ok (.iinc 1 (-8), 3) := by decide +kernel
theorem dJ6_numberOfLeadingZeros_0f7a4_43 : decode cJ6_numberOfLeadingZeros_0f7a4 43 = .ok (.iload_n 0, 1) := by decide +kernel
theorem dJ6_numberOfLeadingZeros_0f7a4_44 : decode cJ6_numberOfLeadingZeros_0f7a4 44 = .ok (.bipush 8, 2) := by decide +kernel
theorem dJ6_numberOfLeadingZeros_0f7a4_46 : decode cJ6_numberOfLeadingZeros_0f7a4 46 = .ok (.iushr, 1) := by decide +kernel
theorem dJ6_numberOfLeadingZeros_0f7a4_47 : decode cJ6_numberOfLeadingZeros_0f7a4 47 = .ok (.istore_n 0, 1) := by decide +kernel
theorem dJ6_numberOfLeadingZeros_0f7a4_48 : decode cJ6_numberOfLeadingZeros_0f7a4 48 = .ok (.iload_n 0, 1) := by decide +kernel
theorem dJ6_numberOfLeadingZeros_0f7a4_49 : decode cJ6_numberOfLeadingZeros_0f7a4 49 = .ok (.bipush 16, 2) := by decide +kernel
theorem dJ6_numberOfLeadingZeros_0f7a4_51 : decode cJ6_numberOfLeadingZeros_0f7a4 51 = .ok (.if_icmp .lt 10, 3) := by decide +kernel
theorem dJ6_numberOfLeadingZeros_0f7a4_54 : decode cJ6_numberOfLeadingZeros_0f7a4 54 = .ok (.iinc 1 (-4), 3) := by decide +kernel
theorem dJ6_numberOfLeadingZeros_0f7a4_57 : decode cJ6_numberOfLeadingZeros_0f7a4 57 = .ok (.iload_n 0, 1) := by decide +kernel
theorem dJ6_numberOfLeadingZeros_0f7a4_58 : decode cJ6_numberOfLeadingZeros_0f7a4 58 = .ok (.iconst 4, 1) := by decide +kernel
theorem dJ6_numberOfLeadingZeros_0f7a4_59 : decode cJ6_numberOfLeadingZeros_0f7a4 59 = .ok (.iushr, 1) := by decide +kernel
theorem dJ6_numberOfLeadingZeros_0f7a4_60 : decode cJ6_numberOfLeadingZeros_0f7a4 60 = .ok (.istore_n 0, 1) := by decide +kernel
theorem dJ6_numberOfLeadingZeros_0f7a4_61 : decode cJ6_numberOfLeadingZeros_0f7a4 61 = .ok (.iload_n 0, 1) := by decide +kernel
theorem dJ6_numberOfLeadingZeros_0f7a4_62 : decode cJ6_numberOfLeadingZeros_0f7a4 62 = .ok (.iconst 4, 1) := by decide +kernel
theorem dJ6_numberOfLeadingZeros_0f7a4_63 : decode cJ6_numberOfLeadingZeros_0f7a4 63 = .ok (.if_icmp .lt 10, 3) := by decide +kernel
theorem dJ6_numberOfLeadingZeros_0f7a4_66 : decode cJ6_numberOfLeadingZeros_0f7a4 66 = .ok (.iinc 1 (-2), 3) := by decide +kernel
theorem dJ6_numberOfLeadingZeros_0f7a4_69 : decode cJ6_numberOfLeadingZeros_0f7a4 69 = .ok (.iload_n 0, 1) := by decide +kernel
theorem dJ6_numberOfLeadingZeros_0f7a4_70 : decode cJ6_numberOfLeadingZeros_0f7a4 70 = .ok (.iconst 2, 1) := by decide +kernel
theorem dJ6_numberOfLeadingZeros_0f7a4_71 : decode cJ6_numberOfLeadingZeros_0f7a4 71 = .ok (.iushr, 1) := by decide +kernel
theorem dJ6_numberOfLeadingZeros_0f7a4_72 : decode cJ6_numberOfLeadingZeros_0f7a4 72 = .ok (.istore_n 0, 1) := by decide +kernel
theorem dJ6_numberOfLeadingZeros_0f7a4_73 : decode cJ6_numberOfLeadingZeros_0f7a4 73 = .ok (.iload_n 1, 1) := by decide +kernel
theorem dJ6_numberOfLeadingZeros_0f7a4_74 : decode cJ6_numberOfLeadingZeros_0f7a4 74 = .ok (.iload_n 0, 1) := by decide +kernel
theorem dJ6_numberOfLeadingZeros_0f7a4_75 : decode cJ6_numberOfLeadingZeros_0f7a4 75 = .ok (.iconst 1, 1) := by decide +kernel
theorem dJ6_numberOfLeadingZeros_0f7a4_76 : decode cJ6_numberOfLeadingZeros_0f7a4 76 = .ok (.iushr, 1) := by decide +kernel
theorem dJ6_numberOfLeadingZeros_0f7a4_77 : decode cJ6_numberOfLeadingZeros_0f7a4 77 = .ok (.isub, 1) := by decide +kernel
theorem dJ6_numberOfLeadingZeros_0f7a4_78 : decode cJ6_numberOfLeadingZeros_0f7a4 78 = .ok (.ireturn, 1) := by decide +kernel
theorem dJ6_numberOfTrailingZeros_0f7a4_0 : decode cJ6_numberOfTrailingZeros_0f7a4 0 = .ok (.iload_n 0, 1) := by decide +kernel
theorem dJ6_numberOfTrailingZeros_0f7a4_1 : decode cJ6_numberOfTrailingZeros_0f7a4 1 = .ok (.iconst (-1), 1) := by decide +kernel
theorem dJ6_numberOfTrailingZeros_0f7a4_2 : decode cJ6_numberOfTrailingZeros_0f7a4 2 = .ok (.ixor, 1) := by decide +kernel
theorem dJ6_numberOfTrailingZeros_0f7a4_3 : decode cJ6_numberOfTrailingZeros_0f7a4 3 = .ok (.iload_n 0, 1) := by decide +kernel
theorem dJ6_numberOfTrailingZeros_0f7a4_4 : decode cJ6_numberOfTrailingZeros_0f7a4 4 = .ok (.iconst 1, 1) := by decide +kernel
theorem dJ6_numberOfTrailingZeros_0f7a4_5 : decode cJ6_numberOfTrailingZeros_0f7a4 5 = .ok (.isub, 1) := by decide +kernel
theorem dJ6_numberOfTrailingZeros_0f7a4_6 : decode cJ6_numberOfTrailingZeros_0f7a4 6 = .ok (.iand, 1) := by decide +kernel
theorem dJ6_numberOfTrailingZeros_0f7a4_7 : decode cJ6_numberOfTrailingZeros_0f7a4 7 = .ok (.istore_n 0, 1) := by decide +kernel
theorem dJ6_numberOfTrailingZeros_0f7a4_8 : decode cJ6_numberOfTrailingZeros_0f7a4 8 = .ok (.iload_n 0, 1) := by decide +kernel
theorem dJ6_numberOfTrailingZeros_0f7a4_9 : decode cJ6_numberOfTrailingZeros_0f7a4 9 = .ok (.ifCond .gt 8, 3) := by decide +kernel
theorem dJ6_numberOfTrailingZeros_0f7a4_12 : decode cJ6_numberOfTrailingZeros_0f7a4 12 = .ok (.iload_n 0, 1) := by decide +kernel
theorem dJ6_numberOfTrailingZeros_0f7a4_13 : decode cJ6_numberOfTrailingZeros_0f7a4 13 = .ok (.bipush 32, 2) := by decide +kernel
theorem dJ6_numberOfTrailingZeros_0f7a4_15 : decode cJ6_numberOfTrailingZeros_0f7a4 15 = .ok (.iand, 1) := by decide +kernel
theorem dJ6_numberOfTrailingZeros_0f7a4_16 : decode cJ6_numberOfTrailingZeros_0f7a4 16 = .ok (.ireturn, 1) := by decide +kernel
theorem dJ6_numberOfTrailingZeros_0f7a4_17 : decode cJ6_numberOfTrailingZeros_0f7a4 17 = .ok (.iconst 1, 1) := by decide +kernel
theorem dJ6_numberOfTrailingZeros_0f7a4_18 : decode cJ6_numberOfTrailingZeros_0f7a4 18 = .ok (.istore_n 1, 1) := by decide +kernel
theorem dJ6_numberOfTrailingZeros_0f7a4_19 : decode cJ6_numberOfTrailingZeros_0f7a4 19 = .ok (.iload_n 0, 1) := by decide +kernel
theorem dJ6_numberOfTrailingZeros_0f7a4_20 : decode cJ6_numberOfTrailingZeros_0f7a4 20 = .ok (.ldc_w 264, 3) := by decide +kernel
theorem dJ6_numberOfTrailingZeros_0f7a4_23 : decode cJ6_numberOfTrailingZeros_0f7a4 23 = .ok (.if_icmp .le 11, 3) := by decide +kernel
theorem dJ6_numberOfTrailingZeros_0f7a4_26 : decode cJ6_numberOfTrailingZeros_0f7a4 26 = .ok (.iinc 1 16, 3) := by decide +kernel
theorem dJ6_numberOfTrailingZeros_0f7a4_29 : decode cJ6_numberOfTrailingZeros_0f7a4 29 = .ok (.iload_n 0, 1) := by decide +kernel
theorem dJ6_numberOfTrailingZeros_0f7a4_30 : decode cJ6_numberOfTrailingZeros_0f7a4 30 = .ok (.bipush 16, 2) := by decide +kernel
theorem dJ6_numberOfTrailingZeros_0f7a4_32 : decode cJ6_numberOfTrailingZeros_0f7a4 32 = .ok (.iushr, 1) := by decide +kernel
theorem dJ6_numberOfTrailingZeros_0f7a4_33 : decode cJ6_numberOfTrailingZeros_0f7a4 33 = .ok (.istore_n 0, 1) := by decide +kernel
theorem dJ6_numberOfTrailingZeros_0f7a4_34 : decode cJ6_numberOfTrailingZeros_0f7a4 34 = .ok (.iload_n 0, 1) := by decide +kernel
theorem dJ6_numberOfTrailingZeros_0f7a4_35 : decode cJ6_numberOfTrailingZeros_0f7a4 35 = .ok (.sipush 256, 3) := by decide +kernel
theorem dJ6_numberOfTrailingZeros_0f7a4_38 : decode cJ6_numberOfTrailingZeros_0f7a4 38 = .ok (.if_icmp .le 11, 3) := by decide +kernel
theorem dJ6_numberOfTrailingZeros_0f7a4_41 : decode cJ6_numberOfTrailingZeros_0f7a4 41 = .ok (.iinc 1 8, 3) := by decide +kernel
theorem dJ6_numberOfTrailingZeros_0f7a4_44 : decode cJ6_numberOfTrailingZeros_0f7a4 44 = .ok (.iload_n 0, 1) := by decide +kernel
theorem dJ6_numberOfTrailingZeros_0f7a4_45 : decode cJ6_numberOfTrailingZeros_0f7a4 45 = .ok (.bipush 8, 2) := by decide +kernel
theorem dJ6_numberOfTrailingZeros_0f7a4_47 : decode cJ6_numberOfTrailingZeros_0f7a4 47 = .ok (.iushr, 1) := by decide +kernel
theorem dJ6_numberOfTrailingZeros_0f7a4_48 : decode cJ6_numberOfTrailingZeros_0f7a4 48 = .ok (.istore_n 0, 1) := by decide +kernel
theorem dJ6_numberOfTrailingZeros_0f7a4_49 : decode cJ6_numberOfTrailingZeros_0f7a4 49 = .ok (.iload_n 0, 1) := by decide +kernel
theorem dJ6_numberOfTrailingZeros_0f7a4_50 : decode cJ6_numberOfTrailingZeros_0f7a4 50 = .ok (.bipush 16, 2) := by decide +kernel
theorem dJ6_numberOfTrailingZeros_0f7a4_52 : decode cJ6_numberOfTrailingZeros_0f7a4 52 = .ok (.if_icmp .le 10, 3) := by decide +kernel
theorem dJ6_numberOfTrailingZeros_0f7a4_55 : decode cJ6_numberOfTrailingZeros_0f7a4 55 = .ok (.iinc 1 4, 3) := by decide +kernel
theorem dJ6_numberOfTrailingZeros_0f7a4_58 : decode cJ6_numberOfTrailingZeros_0f7a4 58 = .ok (.iload_n 0, 1) := by decide +kernel
theorem dJ6_numberOfTrailingZeros_0f7a4_59 : decode cJ6_numberOfTrailingZeros_0f7a4 59 = .ok (.iconst 4, 1) := by decide +kernel
theorem dJ6_numberOfTrailingZeros_0f7a4_60 : decode cJ6_numberOfTrailingZeros_0f7a4 60 = .ok (.iushr, 1) := by decide +kernel
theorem dJ6_numberOfTrailingZeros_0f7a4_61 : decode cJ6_numberOfTrailingZeros_0f7a4 61 = .ok (.istore_n 0, 1) := by decide +kernel
theorem dJ6_numberOfTrailingZeros_0f7a4_62 : decode cJ6_numberOfTrailingZeros_0f7a4 62 = .ok (.iload_n 0, 1) := by decide +kernel
theorem dJ6_numberOfTrailingZeros_0f7a4_63 : decode cJ6_numberOfTrailingZeros_0f7a4 63 = .ok (.iconst 4, 1) := by decide +kernel
theorem dJ6_numberOfTrailingZeros_0f7a4_64 : decode cJ6_numberOfTrailingZeros_0f7a4 64 = .ok (.if_icmp .le 10, 3) := by decide +kernel
theorem dJ6_numberOfTrailingZeros_0f7a4_67 : decode cJ6_numberOfTrailingZeros_0f7a4 67 = .ok (.iinc 1 2, 3) := by decide +kernel
theorem dJ6_numberOfTrailingZeros_0f7a4_70 : decode cJ6_numberOfTrailingZeros_0f7a4 70 = .ok (.iload_n 0, 1) := by decide +kernel
theorem dJ6_numberOfTrailingZeros_0f7a4_71 : decode cJ6_numberOfTrailingZeros_0f7a4 71 = .ok (.iconst 2, 1) := by decide +kernel
theorem dJ6_numberOfTrailingZeros_0f7a4_72 : decode cJ6_numberOfTrailingZeros_0f7a4 72 = .ok (.iushr, 1) := by decide +kernel
theorem dJ6_numberOfTrailingZeros_0f7a4_73 : decode cJ6_numberOfTrailingZeros_0f7a4 73 = .ok (.istore_n 0, 1) := by decide +kernel
theorem dJ6_numberOfTrailingZeros_0f7a4_74 : decode cJ6_numberOfTrailingZeros_0f7a4 74 = .ok (.iload_n 1, 1) := by decide +kernel
theorem dJ6_numberOfTrailingZeros_0f7a4_75 : decode cJ6_numberOfTrailingZeros_0f7a4 75 = .ok (.iload_n 0, 1) := by decide +kernel
theorem dJ6_numberOfTrailingZeros_0f7a4_76 : decode cJ6_numberOfTrailingZeros_0f7a4 76 = .ok (.iconst 1, 1) := by decide +kernel
theorem dJ6_numberOfTrailingZeros_0f7a4_77 : decode cJ6_numberOfTrailingZeros_0f7a4 77 = .ok (.iushr, 1) := by decide +kernel
theorem dJ6_numberOfTrailingZeros_0f7a4_78 : decode cJ6_numberOfTrailingZeros_0f7a4 78 = .ok (.iadd, 1) := by decide +kernel
theorem dJ6_numberOfTrailingZeros_0f7a4_79 : decode cJ6_numberOfTrailingZeros_0f7a4 79 = .ok (.ireturn, 1) := by decide +kernel
theorem dJ6_bitCount_0f7a4_0 : decode cJ6_bitCount_0f7a4 0 = .ok (.iload_n 0, 1) := by decide +kernel
theorem dJ6_bitCount_0f7a4_1 : decode cJ6_bitCount_0f7a4 1 = .ok (.iload_n 0, 1) := by decide +kernel
theorem dJ6_bitCount_0f7a4_2 : decode cJ6_bitCount_0f7a4 2 = .ok (.iconst 1, 1) := by decide +kernel
theorem dJ6_bitCount_0f7a4_3 : decode cJ6_bitCount_0f7a4 3 = .ok (.iushr, 1) := by decide +kernel
theorem dJ6_bitCount_0f7a4_4 : decode cJ6_bitCount_0f7a4 4 = .ok (.ldc_w 265, 3) := by decide +kernel
theorem dJ6_bitCount_0f7a4_7 : decode cJ6_bitCount_0f7a4 7 = .ok (.iand, 1) := by decide +kernel
theorem dJ6_bitCount_0f7a4_8 : decode cJ6_bitCount_0f7a4 8 = .ok (.isub, 1) := by decide +kernel
theorem dJ6_bitCount_0f7a4_9 : decode cJ6_bitCount_0f7a4 9 = .ok (.istore_n 0, 1) := by decide +kernel
theorem dJ6_bitCount_0f7a4_10 : decode cJ6_bitCount_0f7a4 10 = .ok (.iload_n 0, 1) := by decide +kernel
theorem dJ6_bitCount_0f7a4_11 : decode cJ6_bitCount_0f7a4 11 = .ok (.ldc_w 266, 3) := by decide +kernel
theorem dJ6_bitCount_0f7a4_14 : decode cJ6_bitCount_0f7a4 14 = .ok (.iand, 1) := by decide +kernel
theorem dJ6_bitCount_0f7a4_15 : decode cJ6_bitCount_0f7a4 15 = .ok (.iload_n 0, 1) := by decide +kernel
theorem dJ6_bitCount_0f7a4_16 : decode cJ6_bitCount_0f7a4 16 = .ok (.iconst 2, 1) := by decide +kernel
theorem dJ6_bitCount_0f7a4_17 : decode cJ6_bitCount_0f7a4 17 = .ok (.iushr, 1) := by decide +kernel
theorem dJ6_bitCount_0f7a4_18 : decode cJ6_bitCount_0f7a4 18 = .ok (.ldc_w 266, 3) := by decide +kernel
theorem dJ6_bitCount_0f7a4_21 : decode cJ6_bitCount_0f7a4 21 = .ok (.iand, 1) := by decide +kernel
theorem dJ6_bitCount_0f7a4_22 : decode cJ6_bitCount_0f7a4 22 = .ok (.iadd, 1) := by decide +kernel
theorem dJ6_bitCount_0f7a4_23 : decode cJ6_bitCount_0f7a4 23 = .ok (.istore_n 0, 1) := by decide +kernel
theorem dJ6_bitCount_0f7a4_24 : decode cJ6_bitCount_0f7a4 24 = .ok (.iload_n 0, 1) := by decide +kernel
theorem dJ6_bitCount_0f7a4_25 : decode cJ6_bitCount_0f7a4 25 = .ok (.iload_n 0, 1) := by decide +kernel
theorem dJ6_bitCount_0f7a4_26 : decode cJ6_bitCount_0f7a4 26 = .ok (.iconst 4, 1) := by decide +kernel
theorem dJ6_bitCount_0f7a4_27 : decode cJ6_bitCount_0f7a4 27 = .ok (.iushr, 1) := by decide +kernel
theorem dJ6_bitCount_0f7a4_28 : decode cJ6_bitCount_0f7a4 28 = .ok (.iadd, 1) := by decide +kernel
theorem dJ6_bitCount_0f7a4_29 : decode cJ6_bitCount_0f7a4 29 = .ok (.ldc_w 267, 3) := by decide +kernel
theorem dJ6_bitCount_0f7a4_32 : decode cJ6_bitCount_0f7a4 32 = .ok (.iand, 1) := by decide +kernel
theorem dJ6_bitCount_0f7a4_33 : decode cJ6_bitCount_0f7a4 33 = .ok (.istore_n 0, 1) := by decide +kernel
theorem dJ6_bitCount_0f7a4_34 : decode cJ6_bitCount_0f7a4 34 = .ok (.iload_n 0, 1) := by decide +kernel
theorem dJ6_bitCount_0f7a4_35 : decode cJ6_bitCount_0f7a4 35 = .ok (.iload_n 0, 1) := by decide +kernel
theorem dJ6_bitCount_0f7a4_36 : decode cJ6_bitCount_0f7a4 36 = .ok (.bipush 8, 2) := by decide +kernel
theorem dJ6_bitCount_0f7a4_38 : decode cJ6_bitCount_0f7a4 38 = .ok (.iushr, 1) := by decide +kernel
theorem dJ6_bitCount_0f7a4_39 : decode cJ6_bitCount_0f7a4 39 = .ok (.iadd, 1) := by decide +kernel
theorem dJ6_bitCount_0f7a4_40 : decode cJ6_bitCount_0f7a4 40 = .ok (.istore_n 0, 1) := by decide +kernel
theorem dJ6_bitCount_0f7a4_41 : decode cJ6_bitCount_0f7a4 41 = .ok (.iload_n 0, 1) := by decide +kernel
theorem dJ6_bitCount_0f7a4_42 : decode cJ6_bitCount_0f7a4 42 = .ok (.iload_n 0, 1) := by decide +kernel
theorem dJ6_bitCount_0f7a4_43 : decode cJ6_bitCount_0f7a4 43 = .ok (.bipush 16, 2) := by decide +kernel
theorem dJ6_bitCount_0f7a4_45 : decode cJ6_bitCount_0f7a4 45 = .ok (.iushr, 1) := by decide +kernel
theorem dJ6_bitCount_0f7a4_46 : decode cJ6_bitCount_0f7a4 46 = .ok (.iadd, 1) := by decide +kernel
theorem dJ6_bitCount_0f7a4_47 : decode cJ6_bitCount_0f7a4 47 = .ok (.istore_n 0, 1) := by decide +kernel
theorem dJ6_bitCount_0f7a4_48 : decode cJ6_bitCount_0f7a4 48 = .ok (.iload_n 0, 1) := by decide +kernel
theorem dJ6_bitCount_0f7a4_49 : decode cJ6_bitCount_0f7a4 49 = .ok (.bipush 63, 2) := by decide +kernel
theorem dJ6_bitCount_0f7a4_51 : decode cJ6_bitCount_0f7a4 51 = .ok (.iand, 1) := by decide +kernel
theorem dJ6_bitCount_0f7a4_52 : decode cJ6_bitCount_0f7a4 52 = .ok (.ireturn, 1) := by decide +kernel
theorem dJ13_bitCount_95d88_0 : decode cJ13_bitCount_95d88 0 = .ok (.lload_n 0, 1) := by decide +kernel
theorem dJ13_bitCount_95d88_1 : decode cJ13_bitCount_95d88 1 = .ok (.lload_n 0, 1) := by decide +kernel
theorem dJ13_bitCount_95d88_2 : decode cJ13_bitCount_95d88 2 = .ok (.iconst 1, 1) := by decide +kernel
theorem dJ13_bitCount_95d88_3 : decode cJ13_bitCount_95d88 3 = .ok (.lushr, 1) := by decide +kernel
theorem dJ13_bitCount_95d88_4 : decode cJ13_bitCount_95d88 4 = .ok (.ldc2_w 314, 3) := by decide +kernel
theorem dJ13_bitCount_95d88_7 : decode cJ13_bitCount_95d88 7 = .ok (.land, 1) := by decide +kernel
theorem dJ13_bitCount_95d88_8 : decode cJ13_bitCount_95d88 8 = .ok (.lsub, 1) := by decide +kernel
theorem dJ13_bitCount_95d88_9 : decode cJ13_bitCount_95d88 9 = .ok (.lstore_n 0, 1) := by decide +kernel
theorem dJ13_bitCount_95d88_10 : decode cJ13_bitCount_95d88 10 = .ok (.lload_n 0, 1) := by decide +kernel
theorem dJ13_bitCount_95d88_11 : decode cJ13_bitCount_95d88 11 = .ok (.ldc2_w 316, 3) := by decide +kernel
theorem dJ13_bitCount_95d88_14 : decode cJ13_bitCount_95d88 14 = .ok (.land, 1) := by decide +kernel
theorem dJ13_bitCount_95d88_15 : decode cJ13_bitCount_95d88 15 = .ok (.lload_n 0, 1) := by decide +kernel
theorem dJ13_bitCount_95d88_16 : decode cJ13_bitCount_95d88 16 = .ok (.iconst 2, 1) := by decide +kernel
theorem dJ13_bitCount_95d88_17 : decode cJ13_bitCount_95d88 17 = .ok (.lushr, 1) := by decide +kernel
theorem dJ13_bitCount_95d88_18 : decode cJ13_bitCount_95d88 18 = .ok (.ldc2_w 316, 3) := by decide +kernel
theorem dJ13_bitCount_95d88_21 : decode cJ13_bitCount_95d88 21 = .ok (.land, 1) := by decide +kernel
theorem dJ13_bitCount_95d88_22 : decode cJ13_bitCount_95d88 22 = .ok (.ladd, 1) := by decide +kernel
theorem dJ13_bitCount_95d88_23 : decode cJ13_bitCount_95d88 23 = .ok (.lstore_n 0, 1) := by decide +kernel
theorem dJ13_bitCount_95d88_24 : decode cJ13_bitCount_95d88 24 = .ok (.lload_n 0, 1) := by decide +kernel
theorem dJ13_bitCount_95d88_25 : decode cJ13_bitCount_95d88 25 = .ok (.lload_n 0, 1) := by decide +kernel
theorem dJ13_bitCount_95d88_26 : decode cJ13_bitCount_95d88 26 = .ok (.iconst 4, 1) := by decide +kernel
theorem dJ13_bitCount_95d88_27 : decode cJ13_bitCount_95d88 27 = .ok (.lushr, 1) := by decide +kernel
theorem dJ13_bitCount_95d88_28 : decode cJ13_bitCount_95d88 28 = .ok (.ladd, 1) := by decide +kernel
theorem dJ13_bitCount_95d88_29 : decode cJ13_bitCount_95d88 29 = .ok (.ldc2_w 318, 3) := by decide +kernel
theorem dJ13_bitCount_95d88_32 : decode cJ13_bitCount_95d88 32 = .ok (.land, 1) := by decide +kernel
theorem dJ13_bitCount_95d88_33 : decode cJ13_bitCount_95d88 33 = .ok (.lstore_n 0, 1) := by decide +kernel
theorem dJ13_bitCount_95d88_34 : decode cJ13_bitCount_95d88 34 = .ok (.lload_n 0, 1) := by decide +kernel
theorem dJ13_bitCount_95d88_35 : decode cJ13_bitCount_95d88 35 = .ok (.lload_n 0, 1) := by decide +kernel
theorem dJ13_bitCount_95d88_36 : decode cJ13_bitCount_95d88 36 = .ok (.bipush 8, 2) := by decide +kernel
theorem dJ13_bitCount_95d88_38 : decode cJ13_bitCount_95d88 38 = .ok (.lushr, 1) := by decide +kernel
theorem dJ13_bitCount_95d88_39 : decode cJ13_bitCount_95d88 39 = .ok (.ladd, 1) := by decide +kernel
theorem dJ13_bitCount_95d88_40 : decode cJ13_bitCount_95d88 40 = .ok (.lstore_n 0, 1) := by decide +kernel
theorem dJ13_bitCount_95d88_41 : decode cJ13_bitCount_95d88 41 = .ok (.lload_n 0, 1) := by decide +kernel
theorem dJ13_bitCount_95d88_42 : decode cJ13_bitCount_95d88 42 = .ok (.lload_n 0, 1) := by decide +kernel
theorem dJ13_bitCount_95d88_43 : decode cJ13_bitCount_95d88 43 = .ok (.bipush 16, 2) := by decide +kernel
theorem dJ13_bitCount_95d88_45 : decode cJ13_bitCount_95d88 45 = .ok (.lushr, 1) := by decide +kernel
theorem dJ13_bitCount_95d88_46 : decode cJ13_bitCount_95d88 46 = .ok (.ladd, 1) := by decide +kernel
theorem dJ13_bitCount_95d88_47 : decode cJ13_bitCount_95d88 47 = .ok (.lstore_n 0, 1) := by decide +kernel
theorem dJ13_bitCount_95d88_48 : decode cJ13_bitCount_95d88 48 = .ok (.lload_n 0, 1) := by decide +kernel
theorem dJ13_bitCount_95d88_49 : decode cJ13_bitCount_95d88 49 = .ok (.lload_n 0, 1) := by decide +kernel
theorem dJ13_bitCount_95d88_50 : decode cJ13_bitCount_95d88 50 = .ok (.bipush 32, 2) := by decide +kernel
theorem dJ13_bitCount_95d88_52 : decode cJ13_bitCount_95d88 52 = .ok (.lushr, 1) := by decide +kernel
theorem dJ13_bitCount_95d88_53 : decode cJ13_bitCount_95d88 53 = .ok (.ladd, 1) := by decide +kernel
theorem dJ13_bitCount_95d88_54 : decode cJ13_bitCount_95d88 54 = .ok (.lstore_n 0, 1) := by decide +kernel
theorem dJ13_bitCount_95d88_55 : decode cJ13_bitCount_95d88 55 = .ok (.lload_n 0, 1) := by decide +kernel
theorem dJ13_bitCount_95d88_56 : decode cJ13_bitCount_95d88 56 = .ok (.l2i, 1) := by decide +kernel
theorem dJ13_bitCount_95d88_57 : decode cJ13_bitCount_95d88 57 = .ok (.bipush 127, 2) := by decide +kernel
theorem dJ13_bitCount_95d88_59 : decode cJ13_bitCount_95d88 59 = .ok (.iand, 1) := by decide +kernel
theorem dJ13_bitCount_95d88_60 : decode cJ13_bitCount_95d88 60 = .ok (.ireturn, 1) := by decide +kernel
end
section
theorem dX7_init_0 : decode cX7_init 0 = .ok (.aload_n 0, 1) := by decide +kernel
theorem dX7_init_1 : decode cX7_init 1 = .ok (.invokespecial 1, 3) := by decide +kernel
theorem dX7_init_4 : decode cX7_init 4 = .ok (.aload_n 0, 1) := by decide +kernel
theorem dX7_init_5 : decode cX7_init 5 = .ok (.new 7, 3) := by decide +kernel
theorem dX7_init_8 : decode cX7_init 8 = .ok (.dup, 1) := by decide +kernel
theorem dX7_init_9 : decode cX7_init 9 = .ok (.invokespecial 9, 3) := by decide +kernel
theorem dX7_init_12 : decode cX7_init 12 = .ok (.putfield 10, 3) := by decide +kernel
theorem dX7_init_15 : decode cX7_init 15 = .ok (.aload_n 0, 1) := by decide +kernel
theorem dX7_init_16 : decode cX7_init 16 = .ok (.new 16, 3) := by decide +kernel
theorem dX7_init_19 : decode cX7_init 19 = .ok (.dup, 1) := by decide +kernel
theorem dX7_init_20 : decode cX7_init 20 = .ok (.invokespecial 18, 3) := by decide +kernel
theorem dX7_init_23 : decode cX7_init 23 = .ok (.putfield 19, 3) := by decide +kernel
theorem dX7_init_26 : decode cX7_init 26 = .ok (.aload_n 0, 1) := by decide +kernel
theorem dX7_init_27 : decode cX7_init 27 = .ok (.new 16, 3) := by decide +kernel
theorem dX7_init_30 : decode cX7_init 30 = .ok (.dup, 1) := by decide +kernel
theorem dX7_init_31 : decode cX7_init 31 = .ok (.invokespecial 18, 3) := by decide +kernel
theorem dX7_init_34 : decode cX7_init 34 = .ok (.putfield 23, 3) := by decide +kernel
theorem dX7_init_37 : decode cX7_init 37 = .ok (.aload_n 0, 1) := by decide +kernel
theorem dX7_init_38 : decode cX7_init 38 = .ok (.new 26, 3) := by decide +kernel
theorem dX7_init_41 : decode cX7_init 41 = .ok (.dup, 1) := by decide +kernel
theorem dX7_init_42 : decode cX7_init 42 = .ok (.invokespecial 28, 3) := by decide +kernel
theorem dX7_init_45 : decode cX7_init 45 = .ok (.putfield 29, 3) := by decide +kernel
theorem dX7_init_48 : decode cX7_init 48 = .ok (.aload_n 0, 1) := by decide +kernel
theorem dX7_init_49 : decode cX7_init 49 = .ok (.new 33, 3) := by decide +kernel
theorem dX7_init_52 : decode cX7_init 52 = .ok (.dup, 1) := by decide +kernel
theorem dX7_init_53 : decode cX7_init 53 = .ok (.invokespecial 35, 3) := by decide +kernel
theorem dX7_init_56 : decode cX7_init 56 = .ok (.putfield 36, 3) := by decide +kernel
theorem dX7_init_59 : decode cX7_init 59 = .ok (.aload_n 0, 1) := by decide +kernel
theorem dX7_init_60 : decode cX7_init 60 = .ok (.new 40, 3) := by decide +kernel
theorem dX7_init_63 : decode cX7_init 63 = .ok (.dup, 1) := by decide +kernel
theorem dX7_init_64 : decode cX7_init 64 = .ok (.invokespecial 42, 3) := by decide +kernel
theorem dX7_init_67 : decode cX7_init 67 = .ok (.putfield 43, 3) := by decide +kernel
theorem dX7_init_70 : decode cX7_init 70 = .ok (.aload_n 0, 1) := by decide +kernel
theorem dX7_init_71 : decode cX7_init 71 = .ok (.new 47, 3) := by decide +kernel
theorem dX7_init_74 : decode cX7_init 74 = .ok (.dup, 1) := by decide +kernel
theorem dX7_init_75 : decode cX7_init 75 = .ok (.invokespecial 49, 3) := by decide +kernel
theorem dX7_init_78 : decode cX7_init 78 = .ok (.putfield 50, 3) := by decide +kernel
theorem dX7_init_81 : decode cX7_init 81 = .ok (.aload_n 0, 1) := by decide +kernel
theorem dX7_init_82 : decode cX7_init 82 = .ok (.bipush 36, 2) := by decide +kernel
theorem dX7_init_84 : decode cX7_init 84 = .ok (.newarray .int, 2) := by decide +kernel
theorem dX7_init_86 : decode cX7_init 86 = .ok (.putfield 54, 3) := by decide +kernel
theorem dX7_init_89 : decode cX7_init 89 = .ok (.aload_n 0, 1) := by decide +kernel
theorem dX7_init_90 : decode cX7_init 90 = .ok (.iconst 2, 1) := by decide +kernel
theorem dX7_init_91 : decode cX7_init 91 = .ok (.newarray .boolean, 2) := by decide +kernel
theorem dX7_init_93 : decode cX7_init 93 = .ok (.putfield 58, 3) := by decide +kernel
theorem dX7_init_96 : decode cX7_init 96 = .ok (.aload_n 0, 1) := by decide +kernel
theorem dX7_init_97 : decode cX7_init 97 = .ok (.new 62, 3) := by decide +kernel
theorem dX7_init_100 : decode cX7_init 100 = .ok (.dup, 1) := by decide +kernel
theorem dX7_init_101 : decode cX7_init 101 = .ok (.invokespecial 64, 3) := by decide +kernel
theorem dX7_init_104 : decode cX7_init 104 = .ok (.putfield 65, 3) := by decide +kernel
theorem dX7_init_107 : decode cX7_init 107 = .ok (.aload_n 0, 1) := by decide +kernel
theorem dX7_init_108 : decode cX7_init 108 = .ok (.new 62, 3) := by decide +kernel
theorem dX7_init_111 : decode cX7_init 111 = .ok (.dup, 1) := by decide +kernel
theorem dX7_init_112 : decode cX7_init 112 = .ok (.invokespecial 64, 3) := by decide +kernel
theorem dX7_init_115 : decode cX7_init 115 = .ok (.putfield 69, 3) := by decide +kernel
theorem dX7_init_118 : decode cX7_init 118 = .ok (.aload_n 0, 1) := by decide +kernel
theorem dX7_init_119 : decode cX7_init 119 = .ok (.lconst 0, 1) := by decide +kernel
theorem dX7_init_120 : decode cX7_init 120 = .ok (.putfield 72, 3) := by decide +kernel
theorem dX7_init_123 : decode cX7_init 123 = .ok (.return_, 1) := by decide +kernel
theorem dX7_write_0 : decode cX7_write 0 = .ok (.iload_n 1, 1) := by decide +kernel
theorem dX7_write_1 : decode cX7_write 1 = .ok (.ifCond .lt 10, 3) := by decide +kernel
theorem dX7_write_4 : decode cX7_write 4 = .ok (.iload_n 1, 1) := by decide +kernel
theorem dX7_write_5 : decode cX7_write 5 = .ok (.sipush 255, 3) := by decide +kernel
theorem dX7_write_8 : decode cX7_write 8 = .ok (.if_icmp .le 6, 3) := by decide +kernel
theorem dX7_write_11 : decode cX7_write 11 = .ok (.bipush (-2), 2) := by decide +kernel
theorem dX7_write_13 : decode cX7_write 13 = .ok (.ireturn, 1) := by decide +kernel
theorem dX7_write_14 : decode cX7_write 14 = .ok (.aload_n 0, 1) := by decide +kernel
theorem dX7_write_15 : decode cX7_write 15 = .ok (.getfield 10, 3) := by decide +kernel
theorem dX7_write_18 : decode cX7_write 18 = .ok (.iload_n 1, 1) := by decide +kernel
theorem dX7_write_19 : decode cX7_write 19 = .ok (.invokevirtual 76, 3) := by decide +kernel
theorem dX7_write_22 : decode cX7_write 22 = .ok (.ireturn, 1) := by decide +kernel
theorem dX7_wipe_0 : decode cX7_wipe 0 = .ok (.aload_n 0, 1) := by decide +kernel
theorem dX7_wipe_1 : decode cX7_wipe 1 = .ok (.getfield 10, 3) := by decide +kernel
theorem dX7_wipe_4 : decode cX7_wipe 4 = .ok (.invokevirtual 80, 3) := by decide +kernel
theorem dX7_wipe_7 : decode cX7_wipe 7 = .ok (.ireturn, 1) := by decide +kernel
theorem dX7_fault_0 : decode cX7_fault 0 = .ok (.aload_n 0, 1) := by decide +kernel
theorem dX7_fault_1 : decode cX7_fault 1 = .ok (.getfield 10, 3) := by decide +kernel
theorem dX7_fault_4 : decode cX7_fault 4 = .ok (.aload_n 0, 1) := by decide +kernel
theorem dX7_fault_5 : decode cX7_fault 5 = .ok (.getfield 69, 3) := by decide +kernel
theorem dX7_fault_8 : decode cX7_fault 8 = .ok (.invokevirtual 84, 3) := by decide +kernel
theorem dX7_fault_11 : decode cX7_fault 11 = .ok (.ireturn, 1) := by decide +kernel
theorem dX7_party_0 : decode cX7_party 0 = .ok (.aload_n 0, 1) := by decide +kernel
theorem dX7_party_1 : decode cX7_party 1 = .ok (.getfield 10, 3) := by decide +kernel
theorem dX7_party_4 : decode cX7_party 4 = .ok (.aload_n 0, 1) := by decide +kernel
theorem dX7_party_5 : decode cX7_party 5 = .ok (.getfield 69, 3) := by decide +kernel
theorem dX7_party_8 : decode cX7_party 8 = .ok (.invokevirtual 84, 3) := by decide +kernel
theorem dX7_party_11 : decode cX7_party 11 = .ok (.bipush (-9), 2) := by decide +kernel
theorem dX7_party_13 : decode cX7_party 13 = .ok (.if_icmp .eq 6, 3) := by decide +kernel
theorem dX7_party_16 : decode cX7_party 16 = .ok (.bipush (-3), 2) := by decide +kernel
theorem dX7_party_18 : decode cX7_party 18 = .ok (.ireturn, 1) := by decide +kernel
theorem dX7_party_19 : decode cX7_party 19 = .ok (.aload_n 0, 1) := by decide +kernel
theorem dX7_party_20 : decode cX7_party 20 = .ok (.getfield 65, 3) := by decide +kernel
theorem dX7_party_23 : decode cX7_party 23 = .ok (.astore_n 1, 1) := by decide +kernel
theorem dX7_party_24 : decode cX7_party 24 = .ok (.aload_n 0, 1) := by decide +kernel
theorem dX7_party_25 : decode cX7_party 25 = .ok (.aload_n 0, 1) := by decide +kernel
theorem dX7_party_26 : decode cX7_party 26 = .ok (.getfield 69, 3) := by decide +kernel
theorem dX7_party_29 : decode cX7_party 29 = .ok (.putfield 65, 3) := by decide +kernel
theorem dX7_party_32 : decode cX7_party 32 = .ok (.aload_n 0, 1) := by decide +kernel
theorem dX7_party_33 : decode cX7_party 33 = .ok (.aload_n 1, 1) := by decide +kernel
theorem dX7_party_34 : decode cX7_party 34 = .ok (.putfield 69, 3) := by decide +kernel
theorem dX7_party_37 : decode cX7_party 37 = .ok (.aload_n 0, 1) := by decide +kernel
theorem dX7_party_38 : decode cX7_party 38 = .ok (.getfield 19, 3) := by decide +kernel
theorem dX7_party_41 : decode cX7_party 41 = .ok (.aload_n 0, 1) := by decide +kernel
theorem dX7_party_42 : decode cX7_party 42 = .ok (.getfield 65, 3) := by decide +kernel
theorem dX7_party_45 : decode cX7_party 45 = .ok (.invokevirtual 88, 3) := by decide +kernel
theorem dX7_party_48 : decode cX7_party 48 = .ok (.aload_n 0, 1) := by decide +kernel
theorem dX7_party_49 : decode cX7_party 49 = .ok (.getfield 29, 3) := by decide +kernel
theorem dX7_party_52 : decode cX7_party 52 = .ok (.invokevirtual 92, 3) := by decide +kernel
theorem dX7_party_55 : decode cX7_party 55 = .ok (.iconst 0, 1) := by decide +kernel
theorem dX7_party_56 : decode cX7_party 56 = .ok (.istore_n 2, 1) := by decide +kernel
theorem dX7_party_57 : decode cX7_party 57 = .ok (.iload_n 2, 1) := by decide +kernel
theorem dX7_party_58 : decode cX7_party 58 = .ok (.iconst 2, 1) := by decide +kernel
theorem dX7_party_59 : decode cX7_party 59 = .ok (.if_icmp .ge 16, 3) := by decide +kernel
theorem dX7_party_62 : decode cX7_party 62 = .ok (.aload_n 0, 1) := by decide +kernel
theorem dX7_party_63 : decode cX7_party 63 = .ok (.getfield 58, 3) := by decide +kernel
theorem dX7_party_66 : decode cX7_party 66 = .ok (.iload_n 2, 1) := by decide +kernel
theorem dX7_party_67 : decode cX7_party 67 = .ok (.iconst 0, 1) := by decide +kernel
theorem dX7_party_68 : decode cX7_party 68 = .ok (.bastore, 1) := by decide +kernel
theorem dX7_party_69 : decode cX7_party 69 = .ok (.iinc 2 1, 3) := by decide +kernel
theorem dX7_party_72 : decode cX7_party 72 = .ok (.goto (-15), 3) := by decide +kernel
theorem dX7_party_75 : decode cX7_party 75 = .ok (.aload_n 0, 1) := by decide +kernel
theorem dX7_party_76 : decode cX7_party 76 = .ok (.getfield 36, 3) := by decide +kernel
theorem dX7_party_79 : decode cX7_party 79 = .ok (.iconst 0, 1) := by decide +kernel
theorem dX7_party_80 : decode cX7_party 80 = .ok (.putfield 94, 3) := by decide +kernel
theorem dX7_party_83 : decode cX7_party 83 = .ok (.bipush 10, 2) := by decide +kernel
theorem dX7_party_85 : decode cX7_party 85 = .ok (.aload_n 0, 1) := by decide +kernel
theorem dX7_party_86 : decode cX7_party 86 = .ok (.getfield 65, 3) := by decide +kernel
theorem dX7_party_89 : decode cX7_party 89 = .ok (.getfield 98, 3) := by decide +kernel
theorem dX7_party_92 : decode cX7_party 92 = .ok (.imul, 1) := by decide +kernel
theorem dX7_party_93 : decode cX7_party 93 = .ok (.aload_n 0, 1) := by decide +kernel
theorem dX7_party_94 : decode cX7_party 94 = .ok (.getfield 65, 3) := by decide +kernel
theorem dX7_party_97 : decode cX7_party 97 = .ok (.getfield 102, 3) := by decide +kernel
theorem dX7_party_100 : decode cX7_party 100 = .ok (.iadd, 1) := by decide +kernel
theorem dX7_party_101 : decode cX7_party 101 = .ok (.ireturn, 1) := by decide +kernel
theorem dX7_moment_0 : decode cX7_moment 0 = .ok (.iload_n 1, 1) := by decide +kernel
theorem dX7_moment_1 : decode cX7_moment 1 = .ok (.ifCond .lt 25, 3) := by decide +kernel
theorem dX7_moment_4 : decode cX7_moment 4 = .ok (.iload_n 1, 1) := by decide +kernel
theorem dX7_moment_5 : decode cX7_moment 5 = .ok (.aload_n 0, 1) := by decide +kernel
theorem dX7_moment_6 : decode cX7_moment 6 = .ok (.getfield 65, 3) := by decide +kernel
theorem dX7_moment_9 : decode cX7_moment 9 = .ok (.getfield 105, 3) := by decide +kernel
theorem dX7_moment_12 : decode cX7_moment 12 = .ok (.if_icmp .ge 14, 3) := by decide +kernel
theorem dX7_moment_15 : decode cX7_moment 15 = .ok (.aload_n 0, 1) := by decide +kernel
theorem dX7_moment_16 : decode cX7_moment 16 = .ok (.getfield 65, 3) := by decide +kernel
theorem dX7_moment_19 : decode cX7_moment 19 = .ok (.iload_n 1, 1) := by decide +kernel
theorem dX7_moment_20 : decode cX7_moment 20 = .ok (.invokevirtual 108, 3) := by decide +kernel
theorem dX7_moment_23 : decode cX7_moment 23 = .ok (.goto 5, 3) := by decide +kernel
theorem dX7_moment_26 : decode cX7_moment 26 = .ok (.bipush (-9), 2) := by decide +kernel
theorem dX7_moment_28 : decode cX7_moment 28 = .ok (.ireturn, 1) := by decide +kernel
theorem dX7_candle_0 : decode cX7_candle 0 = .ok (.aload_n 0, 1) := by decide +kernel
theorem dX7_candle_1 : decode cX7_candle 1 = .ok (.getfield 65, 3) := by decide +kernel
theorem dX7_candle_4 : decode cX7_candle 4 = .ok (.iload_n 1, 1) := by decide +kernel
theorem dX7_candle_5 : decode cX7_candle 5 = .ok (.invokevirtual 111, 3) := by decide +kernel
theorem dX7_candle_8 : decode cX7_candle 8 = .ok (.ifCond .ne 5, 3) := by decide +kernel
theorem dX7_candle_11 : decode cX7_candle 11 = .ok (.iconst (-1), 1) := by decide +kernel
theorem dX7_candle_12 : decode cX7_candle 12 = .ok (.ireturn, 1) := by decide +kernel
theorem dX7_candle_13 : decode cX7_candle 13 = .ok (.iload_n 2, 1) := by decide +kernel
theorem dX7_candle_14 : decode cX7_candle 14 = .ok (.tableswitch 87 0 3 #[30, 57, 67, 77], 30) := by decide +kernel
theorem dX7_candle_44 : decode cX7_candle 44 = .ok (.aload_n 0, 1) := by decide +kernel
theorem dX7_candle_45 : decode cX7_candle 45 = .ok (.getfield 19, 3) := by decide +kernel
theorem dX7_candle_48 : decode cX7_candle 48 = .ok (.getfield 115, 3) := by decide +kernel
theorem dX7_candle_51 : decode cX7_candle 51 = .ok (.iload_n 1, 1) := by decide +kernel
theorem dX7_candle_52 : decode cX7_candle 52 = .ok (.iaload, 1) := by decide +kernel
theorem dX7_candle_53 : decode cX7_candle 53 = .ok (.ifCond .le 15, 3) := by decide +kernel
theorem dX7_candle_56 : decode cX7_candle 56 = .ok (.aload_n 0, 1) := by decide +kernel
theorem dX7_candle_57 : decode cX7_candle 57 = .ok (.getfield 19, 3) := by decide +kernel
theorem dX7_candle_60 : decode cX7_candle 60 = .ok (.getfield 118, 3) := by decide +kernel
theorem dX7_candle_63 : decode cX7_candle 63 = .ok (.iload_n 1, 1) := by decide +kernel
theorem dX7_candle_64 : decode cX7_candle 64 = .ok (.iaload, 1) := by decide +kernel
theorem dX7_candle_65 : decode cX7_candle 65 = .ok (.goto 5, 3) := by decide +kernel
theorem dX7_candle_68 : decode cX7_candle 68 = .ok (.bipush (-9), 2) := by decide +kernel
theorem dX7_candle_70 : decode cX7_candle 70 = .ok (.ireturn, 1) := by decide +kernel
theorem dX7_candle_71 : decode cX7_candle 71 = .ok (.aload_n 0, 1) := by decide +kernel
theorem dX7_candle_72 : decode cX7_candle 72 = .ok (.getfield 19, 3) := by decide +kernel
theorem dX7_candle_75 : decode cX7_candle 75 = .ok (.getfield 115, 3) := by decide +kernel
theorem dX7_candle_78 : decode cX7_candle 78 = .ok (.iload_n 1, 1) := by decide +kernel
theorem dX7_candle_79 : decode cX7_candle 79 = .ok (.iaload, 1) := by decide +kernel
theorem dX7_candle_80 : decode cX7_candle 80 = .ok (.ireturn, 1) := by decide +kernel
theorem dX7_candle_81 : decode cX7_candle 81 = .ok (.aload_n 0, 1) := by decide +kernel
theorem dX7_candle_82 : decode cX7_candle 82 = .ok (.getfield 65, 3) := by decide +kernel
theorem dX7_candle_85 : decode cX7_candle 85 = .ok (.getfield 121, 3) := by decide +kernel
theorem dX7_candle_88 : decode cX7_candle 88 = .ok (.iload_n 1, 1) := by decide +kernel
theorem dX7_candle_89 : decode cX7_candle 89 = .ok (.iaload, 1) := by decide +kernel
theorem dX7_candle_90 : decode cX7_candle 90 = .ok (.ireturn, 1) := by decide +kernel
theorem dX7_candle_91 : decode cX7_candle 91 = .ok (.aload_n 0, 1) := by decide +kernel
theorem dX7_candle_92 : decode cX7_candle 92 = .ok (.getfield 19, 3) := by decide +kernel
theorem dX7_candle_95 : decode cX7_candle 95 = .ok (.getfield 124, 3) := by decide +kernel
theorem dX7_candle_98 : decode cX7_candle 98 = .ok (.iload_n 1, 1) := by decide +kernel
theorem dX7_candle_99 : decode cX7_candle 99 = .ok (.iaload, 1) := by decide +kernel
theorem dX7_candle_100 : decode cX7_candle 100 = .ok (.ireturn, 1) := by decide +kernel
theorem dX7_candle_101 : decode cX7_candle 101 = .ok (.bipush (-2), 2) := by decide +kernel
theorem dX7_candle_103 : decode cX7_candle 103 = .ok (.ireturn, 1) := by decide +kernel
theorem dX7_guest_0 : decode cX7_guest 0 = .ok (.aload_n 0, 1) := by decide +kernel
theorem dX7_guest_1 : decode cX7_guest 1 = .ok (.getfield 65, 3) := by decide +kernel
theorem dX7_guest_4 : decode cX7_guest 4 = .ok (.iload_n 1, 1) := by decide +kernel
theorem dX7_guest_5 : decode cX7_guest 5 = .ok (.invokevirtual 127, 3) := by decide +kernel
theorem dX7_guest_8 : decode cX7_guest 8 = .ok (.ifCond .ne 5, 3) := by decide +kernel
theorem dX7_guest_11 : decode cX7_guest 11 = .ok (.iconst (-1), 1) := by decide +kernel
theorem dX7_guest_12 : decode cX7_guest 12 = .ok (.ireturn, 1) := by decide +kernel
theorem dX7_guest_13 : decode cX7_guest 13 = .ok (.iload_n 2, 1) := by decide +kernel
theorem dX7_guest_14 : decode cX7_guest 14 = .ok (.tableswitch 109 0 5 #[38, 48, 58, 68, 78, 88], 38) := by decide +kernel
theorem dX7_guest_52 : decode cX7_guest 52 = .ok (.aload_n 0, 1) := by decide +kernel
theorem dX7_guest_53 : decode cX7_guest 53 = .ok (.getfield 65, 3) := by decide +kernel
theorem dX7_guest_56 : decode cX7_guest 56 = .ok (.getfield 130, 3) := by decide +kernel
theorem dX7_guest_59 : decode cX7_guest 59 = .ok (.iload_n 1, 1) := by decide +kernel
theorem dX7_guest_60 : decode cX7_guest 60 = .ok (.iaload, 1) := by decide +kernel
theorem dX7_guest_61 : decode cX7_guest 61 = .ok (.ireturn, 1) := by decide +kernel
theorem dX7_guest_62 : decode cX7_guest 62 = .ok (.aload_n 0, 1) := by decide +kernel
theorem dX7_guest_63 : decode cX7_guest 63 = .ok (.getfield 65, 3) := by decide +kernel
theorem dX7_guest_66 : decode cX7_guest 66 = .ok (.getfield 133, 3) := by decide +kernel
theorem dX7_guest_69 : decode cX7_guest 69 = .ok (.iload_n 1, 1) := by decide +kernel
theorem dX7_guest_70 : decode cX7_guest 70 = .ok (.iaload, 1) := by decide +kernel
theorem dX7_guest_71 : decode cX7_guest 71 = .ok (.ireturn, 1) := by decide +kernel
theorem dX7_guest_72 : decode cX7_guest 72 = .ok (.aload_n 0, 1) := by decide +kernel
theorem dX7_guest_73 : decode cX7_guest 73 = .ok (.getfield 65, 3) := by decide +kernel
theorem dX7_guest_76 : decode cX7_guest 76 = .ok (.getfield 136, 3) := by decide +kernel
theorem dX7_guest_79 : decode cX7_guest 79 = .ok (.iload_n 1, 1) := by decide +kernel
theorem dX7_guest_80 : decode cX7_guest 80 = .ok (.iaload, 1) := by decide +kernel
theorem dX7_guest_81 : decode cX7_guest 81 = .ok (.ireturn, 1) := by decide +kernel
theorem dX7_guest_82 : decode cX7_guest 82 = .ok (.aload_n 0, 1) := by decide +kernel
theorem dX7_guest_83 : decode cX7_guest 83 = .ok (.getfield 65, 3) := by decide +kernel
theorem dX7_guest_86 : decode cX7_guest 86 = .ok (.getfield 139, 3) := by decide +kernel
theorem dX7_guest_89 : decode cX7_guest 89 = .ok (.iload_n 1, 1) := by decide +kernel
theorem dX7_guest_90 : decode cX7_guest 90 = .ok (.iaload, 1) := by decide +kernel
theorem dX7_guest_91 : decode cX7_guest 91 = .ok (.ireturn, 1) := by decide +kernel
theorem dX7_guest_92 : decode cX7_guest 92 = .ok (.aload_n 0, 1) := by decide +kernel
theorem dX7_guest_93 : decode cX7_guest 93 = .ok (.getfield 19, 3) := by decide +kernel
theorem dX7_guest_96 : decode cX7_guest 96 = .ok (.getfield 142, 3) := by decide +kernel
theorem dX7_guest_99 : decode cX7_guest 99 = .ok (.iload_n 1, 1) := by decide +kernel
theorem dX7_guest_100 : decode cX7_guest 100 = .ok (.iaload, 1) := by decide +kernel
theorem dX7_guest_101 : decode cX7_guest 101 = .ok (.ireturn, 1) := by decide +kernel
theorem dX7_guest_102 : decode cX7_guest 102 = .ok (.aload_n 0, 1) := by decide +kernel
theorem dX7_guest_103 : decode cX7_guest 103 = .ok (.getfield 19, 3) := by decide +kernel
theorem dX7_guest_106 : decode cX7_guest 106 = .ok (.aload_n 0, 1) := by decide +kernel
theorem dX7_guest_107 : decode cX7_guest 107 = .ok (.getfield 65, 3) := by decide +kernel
theorem dX7_guest_110 : decode cX7_guest 110 = .ok (.iload_n 1, 1) := by decide +kernel
theorem dX7_guest_111 : decode cX7_guest 111 = .ok (.invokevirtual 145, 3) := by decide +kernel
theorem dX7_guest_114 : decode cX7_guest 114 = .ok (.ifCond .eq 7, 3) := by decide +kernel
theorem dX7_guest_117 : decode cX7_guest 117 = .ok (.iconst 1, 1) := by decide +kernel
theorem dX7_guest_118 : decode cX7_guest 118 = .ok (.goto 4, 3) := by decide +kernel
theorem dX7_guest_121 : decode cX7_guest 121 = .ok (.iconst 0, 1) := by decide +kernel
theorem dX7_guest_122 : decode cX7_guest 122 = .ok (.ireturn, 1) := by decide +kernel
theorem dX7_guest_123 : decode cX7_guest 123 = .ok (.bipush (-2), 2) := by decide +kernel
theorem dX7_guest_125 : decode cX7_guest 125 = .ok (.ireturn, 1) := by decide +kernel
theorem dX7_light_0 : decode cX7_light 0 = .ok (.aload_n 0, 1) := by decide +kernel
theorem dX7_light_1 : decode cX7_light 1 = .ok (.getfield 65, 3) := by decide +kernel
theorem dX7_light_4 : decode cX7_light 4 = .ok (.iload_n 1, 1) := by decide +kernel
theorem dX7_light_5 : decode cX7_light 5 = .ok (.invokevirtual 111, 3) := by decide +kernel
theorem dX7_light_8 : decode cX7_light 8 = .ok (.ifCond .ne 5, 3) := by decide +kernel
theorem dX7_light_11 : decode cX7_light 11 = .ok (.iconst (-1), 1) := by decide +kernel
theorem dX7_light_12 : decode cX7_light 12 = .ok (.ireturn, 1) := by decide +kernel
theorem dX7_light_13 : decode cX7_light 13 = .ok (.aload_n 0, 1) := by decide +kernel
theorem dX7_light_14 : decode cX7_light 14 = .ok (.getfield 19, 3) := by decide +kernel
theorem dX7_light_17 : decode cX7_light 17 = .ok (.getfield 124, 3) := by decide +kernel
theorem dX7_light_20 : decode cX7_light 20 = .ok (.iload_n 1, 1) := by decide +kernel
theorem dX7_light_21 : decode cX7_light 21 = .ok (.iaload, 1) := by decide +kernel
theorem dX7_light_22 : decode cX7_light 22 = .ok (.ifCond .eq 6, 3) := by decide +kernel
theorem dX7_light_25 : decode cX7_light 25 = .ok (.bipush (-3), 2) := by decide +kernel
theorem dX7_light_27 : decode cX7_light 27 = .ok (.ireturn, 1) := by decide +kernel
theorem dX7_light_28 : decode cX7_light 28 = .ok (.aload_n 0, 1) := by decide +kernel
theorem dX7_light_29 : decode cX7_light 29 = .ok (.invokevirtual 149, 3) := by decide +kernel
theorem dX7_light_32 : decode cX7_light 32 = .ok (.aload_n 0, 1) := by decide +kernel
theorem dX7_light_33 : decode cX7_light 33 = .ok (.getfield 19, 3) := by decide +kernel
theorem dX7_light_36 : decode cX7_light 36 = .ok (.getfield 124, 3) := by decide +kernel
theorem dX7_light_39 : decode cX7_light 39 = .ok (.iload_n 1, 1) := by decide +kernel
theorem dX7_light_40 : decode cX7_light 40 = .ok (.iconst 1, 1) := by decide +kernel
theorem dX7_light_41 : decode cX7_light 41 = .ok (.iastore, 1) := by decide +kernel
theorem dX7_light_42 : decode cX7_light 42 = .ok (.aload_n 0, 1) := by decide +kernel
theorem dX7_light_43 : decode cX7_light 43 = .ok (.getfield 19, 3) := by decide +kernel
theorem dX7_light_46 : decode cX7_light 46 = .ok (.aload_n 0, 1) := by decide +kernel
theorem dX7_light_47 : decode cX7_light 47 = .ok (.getfield 65, 3) := by decide +kernel
theorem dX7_light_50 : decode cX7_light 50 = .ok (.iconst 1, 1) := by decide +kernel
theorem dX7_light_51 : decode cX7_light 51 = .ok (.invokevirtual 152, 3) := by decide +kernel
theorem dX7_light_54 : decode cX7_light 54 = .ok (.invokestatic 156, 3) := by decide +kernel
theorem dX7_light_57 : decode cX7_light 57 = .ok (.ireturn, 1) := by decide +kernel
theorem dX7_out_0 : decode cX7_out 0 = .ok (.aload_n 0, 1) := by decide +kernel
theorem dX7_out_1 : decode cX7_out 1 = .ok (.getfield 65, 3) := by decide +kernel
theorem dX7_out_4 : decode cX7_out 4 = .ok (.iload_n 1, 1) := by decide +kernel
theorem dX7_out_5 : decode cX7_out 5 = .ok (.invokevirtual 111, 3) := by decide +kernel
theorem dX7_out_8 : decode cX7_out 8 = .ok (.ifCond .ne 5, 3) := by decide +kernel
theorem dX7_out_11 : decode cX7_out 11 = .ok (.iconst (-1), 1) := by decide +kernel
theorem dX7_out_12 : decode cX7_out 12 = .ok (.ireturn, 1) := by decide +kernel
theorem dX7_out_13 : decode cX7_out 13 = .ok (.aload_n 0, 1) := by decide +kernel
theorem dX7_out_14 : decode cX7_out 14 = .ok (.getfield 19, 3) := by decide +kernel
theorem dX7_out_17 : decode cX7_out 17 = .ok (.getfield 124, 3) := by decide +kernel
theorem dX7_out_20 : decode cX7_out 20 = .ok (.iload_n 1, 1) := by decide +kernel
theorem dX7_out_21 : decode cX7_out 21 = .ok (.iaload, 1) := by decide +kernel
theorem dX7_out_22 : decode cX7_out 22 = .ok (.iconst 1, 1) := by decide +kernel
theorem dX7_out_23 : decode cX7_out 23 = .ok (.if_icmp .eq 6, 3) := by decide +kernel
theorem dX7_out_26 : decode cX7_out 26 = .ok (.bipush (-3), 2) := by decide +kernel
theorem dX7_out_28 : decode cX7_out 28 = .ok (.ireturn, 1) := by decide +kernel
theorem dX7_out_29 : decode cX7_out 29 = .ok (.aload_n 0, 1) := by decide +kernel
theorem dX7_out_30 : decode cX7_out 30 = .ok (.invokevirtual 149, 3) := by decide +kernel
theorem dX7_out_33 : decode cX7_out 33 = .ok (.aload_n 0, 1) := by decide +kernel
theorem dX7_out_34 : decode cX7_out 34 = .ok (.getfield 19, 3) := by decide +kernel
theorem dX7_out_37 : decode cX7_out 37 = .ok (.getfield 124, 3) := by decide +kernel
theorem dX7_out_40 : decode cX7_out 40 = .ok (.iload_n 1, 1) := by decide +kernel
theorem dX7_out_41 : decode cX7_out 41 = .ok (.iconst 2, 1) := by decide +kernel
theorem dX7_out_42 : decode cX7_out 42 = .ok (.iastore, 1) := by decide +kernel
theorem dX7_out_43 : decode cX7_out 43 = .ok (.aload_n 0, 1) := by decide +kernel
theorem dX7_out_44 : decode cX7_out 44 = .ok (.getfield 19, 3) := by decide +kernel
theorem dX7_out_47 : decode cX7_out 47 = .ok (.getfield 115, 3) := by decide +kernel
theorem dX7_out_50 : decode cX7_out 50 = .ok (.iload_n 1, 1) := by decide +kernel
theorem dX7_out_51 : decode cX7_out 51 = .ok (.iaload, 1) := by decide +kernel
theorem dX7_out_52 : decode cX7_out 52 = .ok (.ireturn, 1) := by decide +kernel
theorem dX7_trim_0 : decode cX7_trim 0 = .ok (.aload_n 0, 1) := by decide +kernel
theorem dX7_trim_1 : decode cX7_trim 1 = .ok (.getfield 65, 3) := by decide +kernel
theorem dX7_trim_4 : decode cX7_trim 4 = .ok (.iload_n 1, 1) := by decide +kernel
theorem dX7_trim_5 : decode cX7_trim 5 = .ok (.invokevirtual 111, 3) := by decide +kernel
theorem dX7_trim_8 : decode cX7_trim 8 = .ok (.ifCond .ne 5, 3) := by decide +kernel
theorem dX7_trim_11 : decode cX7_trim 11 = .ok (.iconst (-1), 1) := by decide +kernel
theorem dX7_trim_12 : decode cX7_trim 12 = .ok (.ireturn, 1) := by decide +kernel
theorem dX7_trim_13 : decode cX7_trim 13 = .ok (.iload_n 2, 1) := by decide +kernel
theorem dX7_trim_14 : decode cX7_trim 14 = .ok (.iconst 1, 1) := by decide +kernel
theorem dX7_trim_15 : decode cX7_trim 15 = .ok (.if_icmp .lt 9, 3) := by decide +kernel
theorem dX7_trim_18 : decode cX7_trim 18 = .ok (.iload_n 2, 1) := by decide +kernel
theorem dX7_trim_19 : decode cX7_trim 19 = .ok (.bipush 6, 2) := by decide +kernel
theorem dX7_trim_21 : decode cX7_trim 21 = .ok (.if_icmp .lt 6, 3) := by decide +kernel
theorem dX7_trim_24 : decode cX7_trim 24 = .ok (.bipush (-2), 2) := by decide +kernel
theorem dX7_trim_26 : decode cX7_trim 26 = .ok (.ireturn, 1) := by decide +kernel
theorem dX7_trim_27 : decode cX7_trim 27 = .ok (.aload_n 0, 1) := by decide +kernel
theorem dX7_trim_28 : decode cX7_trim 28 = .ok (.getfield 19, 3) := by decide +kernel
theorem dX7_trim_31 : decode cX7_trim 31 = .ok (.getfield 124, 3) := by decide +kernel
theorem dX7_trim_34 : decode cX7_trim 34 = .ok (.iload_n 1, 1) := by decide +kernel
theorem dX7_trim_35 : decode cX7_trim 35 = .ok (.iaload, 1) := by decide +kernel
theorem dX7_trim_36 : decode cX7_trim 36 = .ok (.ifCond .ne 16, 3) := by decide +kernel
theorem dX7_trim_39 : decode cX7_trim 39 = .ok (.aload_n 0, 1) := by decide +kernel
theorem dX7_trim_40 : decode cX7_trim 40 = .ok (.getfield 19, 3) := by decide +kernel
theorem dX7_trim_43 : decode cX7_trim 43 = .ok (.getfield 115, 3) := by decide +kernel
theorem dX7_trim_46 : decode cX7_trim 46 = .ok (.iload_n 1, 1) := by decide +kernel
theorem dX7_trim_47 : decode cX7_trim 47 = .ok (.iaload, 1) := by decide +kernel
theorem dX7_trim_48 : decode cX7_trim 48 = .ok (.iload_n 2, 1) := by decide +kernel
theorem dX7_trim_49 : decode cX7_trim 49 = .ok (.if_icmp .gt 6, 3) := by decide +kernel
theorem dX7_trim_52 : decode cX7_trim 52 = .ok (.bipush (-3), 2) := by decide +kernel
theorem dX7_trim_54 : decode cX7_trim 54 = .ok (.ireturn, 1) := by decide +kernel
theorem dX7_trim_55 : decode cX7_trim 55 = .ok (.aload_n 0, 1) := by decide +kernel
theorem dX7_trim_56 : decode cX7_trim 56 = .ok (.invokevirtual 149, 3) := by decide +kernel
theorem dX7_trim_59 : decode cX7_trim 59 = .ok (.aload_n 0, 1) := by decide +kernel
theorem dX7_trim_60 : decode cX7_trim 60 = .ok (.getfield 19, 3) := by decide +kernel
theorem dX7_trim_63 : decode cX7_trim 63 = .ok (.getfield 118, 3) := by decide +kernel
theorem dX7_trim_66 : decode cX7_trim 66 = .ok (.iload_n 1, 1) := by decide +kernel
theorem dX7_trim_67 : decode cX7_trim 67 = .ok (.dup2, 1) := by decide +kernel
theorem dX7_trim_68 : decode cX7_trim 68 = .ok (.iaload, 1) := by decide +kernel
theorem dX7_trim_69 : decode cX7_trim 69 = .ok (.iload_n 2, 1) := by decide +kernel
theorem dX7_trim_70 : decode cX7_trim 70 = .ok (.iadd, 1) := by decide +kernel
theorem dX7_trim_71 : decode cX7_trim 71 = .ok (.iastore, 1) := by decide +kernel
theorem dX7_trim_72 : decode cX7_trim 72 = .ok (.aload_n 0, 1) := by decide +kernel
theorem dX7_trim_73 : decode cX7_trim 73 = .ok (.getfield 19, 3) := by decide +kernel
theorem dX7_trim_76 : decode cX7_trim 76 = .ok (.getfield 115, 3) := by decide +kernel
theorem dX7_trim_79 : decode cX7_trim 79 = .ok (.iload_n 1, 1) := by decide +kernel
theorem dX7_trim_80 : decode cX7_trim 80 = .ok (.dup2, 1) := by decide +kernel
theorem dX7_trim_81 : decode cX7_trim 81 = .ok (.iaload, 1) := by decide +kernel
theorem dX7_trim_82 : decode cX7_trim 82 = .ok (.iload_n 2, 1) := by decide +kernel
theorem dX7_trim_83 : decode cX7_trim 83 = .ok (.isub, 1) := by decide +kernel
theorem dX7_trim_84 : decode cX7_trim 84 = .ok (.iastore, 1) := by decide +kernel
theorem dX7_trim_85 : decode cX7_trim 85 = .ok (.aload_n 0, 1) := by decide +kernel
theorem dX7_trim_86 : decode cX7_trim 86 = .ok (.getfield 19, 3) := by decide +kernel
theorem dX7_trim_89 : decode cX7_trim 89 = .ok (.getfield 115, 3) := by decide +kernel
theorem dX7_trim_92 : decode cX7_trim 92 = .ok (.iload_n 1, 1) := by decide +kernel
theorem dX7_trim_93 : decode cX7_trim 93 = .ok (.iaload, 1) := by decide +kernel
theorem dX7_trim_94 : decode cX7_trim 94 = .ok (.ireturn, 1) := by decide +kernel
theorem dX7_step_0 : decode cX7_step 0 = .ok (.aload_n 0, 1) := by decide +kernel
theorem dX7_step_1 : decode cX7_step 1 = .ok (.getfield 19, 3) := by decide +kernel
theorem dX7_step_4 : decode cX7_step 4 = .ok (.getfield 161, 3) := by decide +kernel
theorem dX7_step_7 : decode cX7_step 7 = .ok (.bipush 20, 2) := by decide +kernel
theorem dX7_step_9 : decode cX7_step 9 = .ok (.if_icmp .lt 6, 3) := by decide +kernel
theorem dX7_step_12 : decode cX7_step 12 = .ok (.bipush (-3), 2) := by decide +kernel
theorem dX7_step_14 : decode cX7_step 14 = .ok (.ireturn, 1) := by decide +kernel
theorem dX7_step_15 : decode cX7_step 15 = .ok (.aload_n 0, 1) := by decide +kernel
theorem dX7_step_16 : decode cX7_step 16 = .ok (.invokevirtual 149, 3) := by decide +kernel
theorem dX7_step_19 : decode cX7_step 19 = .ok (.aload_n 0, 1) := by decide +kernel
theorem dX7_step_20 : decode cX7_step 20 = .ok (.getfield 19, 3) := by decide +kernel
theorem dX7_step_23 : decode cX7_step 23 = .ok (.aload_n 0, 1) := by decide +kernel
theorem dX7_step_24 : decode cX7_step 24 = .ok (.getfield 65, 3) := by decide +kernel
theorem dX7_step_27 : decode cX7_step 27 = .ok (.invokevirtual 164, 3) := by decide +kernel
theorem dX7_step_30 : decode cX7_step 30 = .ok (.ireturn, 1) := by decide +kernel
theorem dX7_undo_0 : decode cX7_undo 0 = .ok (.aload_n 0, 1) := by decide +kernel
theorem dX7_undo_1 : decode cX7_undo 1 = .ok (.getfield 29, 3) := by decide +kernel
theorem dX7_undo_4 : decode cX7_undo 4 = .ok (.getfield 167, 3) := by decide +kernel
theorem dX7_undo_7 : decode cX7_undo 7 = .ok (.ifCond .ne 6, 3) := by decide +kernel
theorem dX7_undo_10 : decode cX7_undo 10 = .ok (.bipush (-3), 2) := by decide +kernel
theorem dX7_undo_12 : decode cX7_undo 12 = .ok (.ireturn, 1) := by decide +kernel
theorem dX7_undo_13 : decode cX7_undo 13 = .ok (.aload_n 0, 1) := by decide +kernel
theorem dX7_undo_14 : decode cX7_undo 14 = .ok (.getfield 29, 3) := by decide +kernel
theorem dX7_undo_17 : decode cX7_undo 17 = .ok (.aload_n 0, 1) := by decide +kernel
theorem dX7_undo_18 : decode cX7_undo 18 = .ok (.getfield 19, 3) := by decide +kernel
theorem dX7_undo_21 : decode cX7_undo 21 = .ok (.invokevirtual 170, 3) := by decide +kernel
theorem dX7_undo_24 : decode cX7_undo 24 = .ok (.aload_n 0, 1) := by decide +kernel
theorem dX7_undo_25 : decode cX7_undo 25 = .ok (.getfield 36, 3) := by decide +kernel
theorem dX7_undo_28 : decode cX7_undo 28 = .ok (.iconst 0, 1) := by decide +kernel
theorem dX7_undo_29 : decode cX7_undo 29 = .ok (.putfield 94, 3) := by decide +kernel
theorem dX7_undo_32 : decode cX7_undo 32 = .ok (.aload_n 0, 1) := by decide +kernel
theorem dX7_undo_33 : decode cX7_undo 33 = .ok (.getfield 29, 3) := by decide +kernel
theorem dX7_undo_36 : decode cX7_undo 36 = .ok (.getfield 167, 3) := by decide +kernel
theorem dX7_undo_39 : decode cX7_undo 39 = .ok (.ireturn, 1) := by decide +kernel
theorem dX7_rememberAct_0 : decode cX7_rememberAct 0 = .ok (.aload_n 0, 1) := by decide +kernel
theorem dX7_rememberAct_1 : decode cX7_rememberAct 1 = .ok (.getfield 29, 3) := by decide +kernel
theorem dX7_rememberAct_4 : decode cX7_rememberAct 4 = .ok (.aload_n 0, 1) := by decide +kernel
theorem dX7_rememberAct_5 : decode cX7_rememberAct 5 = .ok (.getfield 19, 3) := by decide +kernel
theorem dX7_rememberAct_8 : decode cX7_rememberAct 8 = .ok (.invokevirtual 174, 3) := by decide +kernel
theorem dX7_rememberAct_11 : decode cX7_rememberAct 11 = .ok (.aload_n 0, 1) := by decide +kernel
theorem dX7_rememberAct_12 : decode cX7_rememberAct 12 = .ok (.getfield 36, 3) := by decide +kernel
theorem dX7_rememberAct_15 : decode cX7_rememberAct 15 = .ok (.iconst 0, 1) := by decide +kernel
theorem dX7_rememberAct_16 : decode cX7_rememberAct 16 = .ok (.putfield 94, 3) := by decide +kernel
theorem dX7_rememberAct_19 : decode cX7_rememberAct 19 = .ok (.return_, 1) := by decide +kernel
theorem dX7_plan_0 : decode cX7_plan 0 = .ok (.aload_n 0, 1) := by decide +kernel
theorem dX7_plan_1 : decode cX7_plan 1 = .ok (.getfield 36, 3) := by decide +kernel
theorem dX7_plan_4 : decode cX7_plan 4 = .ok (.aload_n 0, 1) := by decide +kernel
theorem dX7_plan_5 : decode cX7_plan 5 = .ok (.getfield 65, 3) := by decide +kernel
theorem dX7_plan_8 : decode cX7_plan 8 = .ok (.aload_n 0, 1) := by decide +kernel
theorem dX7_plan_9 : decode cX7_plan 9 = .ok (.getfield 19, 3) := by decide +kernel
theorem dX7_plan_12 : decode cX7_plan 12 = .ok (.invokevirtual 177, 3) := by decide +kernel
theorem dX7_plan_15 : decode cX7_plan 15 = .ok (.aload_n 0, 1) := by decide +kernel
theorem dX7_plan_16 : decode cX7_plan 16 = .ok (.getfield 36, 3) := by decide +kernel
theorem dX7_plan_19 : decode cX7_plan 19 = .ok (.invokevirtual 181, 3) := by decide +kernel
theorem dX7_plan_22 : decode cX7_plan 22 = .ok (.ireturn, 1) := by decide +kernel
theorem dX7_planOf_0 : decode cX7_planOf 0 = .ok (.aload_n 0, 1) := by decide +kernel
theorem dX7_planOf_1 : decode cX7_planOf 1 = .ok (.getfield 65, 3) := by decide +kernel
theorem dX7_planOf_4 : decode cX7_planOf 4 = .ok (.iload_n 1, 1) := by decide +kernel
theorem dX7_planOf_5 : decode cX7_planOf 5 = .ok (.invokevirtual 111, 3) := by decide +kernel
theorem dX7_planOf_8 : decode cX7_planOf 8 = .ok (.ifCond .ne 5, 3) := by decide +kernel
theorem dX7_planOf_11 : decode cX7_planOf 11 = .ok (.iconst (-1), 1) := by decide +kernel
theorem dX7_planOf_12 : decode cX7_planOf 12 = .ok (.ireturn, 1) := by decide +kernel
theorem dX7_planOf_13 : decode cX7_planOf 13 = .ok (.aload_n 0, 1) := by decide +kernel
theorem dX7_planOf_14 : decode cX7_planOf 14 = .ok (.getfield 36, 3) := by decide +kernel
theorem dX7_planOf_17 : decode cX7_planOf 17 = .ok (.aload_n 0, 1) := by decide +kernel
theorem dX7_planOf_18 : decode cX7_planOf 18 = .ok (.getfield 65, 3) := by decide +kernel
theorem dX7_planOf_21 : decode cX7_planOf 21 = .ok (.aload_n 0, 1) := by decide +kernel
theorem dX7_planOf_22 : decode cX7_planOf 22 = .ok (.getfield 19, 3) := by decide +kernel
theorem dX7_planOf_25 : decode cX7_planOf 25 = .ok (.invokevirtual 177, 3) := by decide +kernel
theorem dX7_planOf_28 : decode cX7_planOf 28 = .ok (.aload_n 0, 1) := by decide +kernel
theorem dX7_planOf_29 : decode cX7_planOf 29 = .ok (.getfield 36, 3) := by decide +kernel
theorem dX7_planOf_32 : decode cX7_planOf 32 = .ok (.invokevirtual 181, 3) := by decide +kernel
theorem dX7_planOf_35 : decode cX7_planOf 35 = .ok (.bipush (-9), 2) := by decide +kernel
theorem dX7_planOf_37 : decode cX7_planOf 37 = .ok (.if_icmp .ne 8, 3) := by decide +kernel
theorem dX7_planOf_40 : decode cX7_planOf 40 = .ok (.bipush (-9), 2) := by decide +kernel
theorem dX7_planOf_42 : decode cX7_planOf 42 = .ok (.goto 12, 3) := by decide +kernel
theorem dX7_planOf_45 : decode cX7_planOf 45 = .ok (.aload_n 0, 1) := by decide +kernel
theorem dX7_planOf_46 : decode cX7_planOf 46 = .ok (.getfield 36, 3) := by decide +kernel
theorem dX7_planOf_49 : decode cX7_planOf 49 = .ok (.getfield 184, 3) := by decide +kernel
theorem dX7_planOf_52 : decode cX7_planOf 52 = .ok (.iload_n 1, 1) := by decide +kernel
theorem dX7_planOf_53 : decode cX7_planOf 53 = .ok (.iaload, 1) := by decide +kernel
theorem dX7_planOf_54 : decode cX7_planOf 54 = .ok (.ireturn, 1) := by decide +kernel
theorem dX7_bars_0 : decode cX7_bars 0 = .ok (.aload_n 0, 1) := by decide +kernel
theorem dX7_bars_1 : decode cX7_bars 1 = .ok (.getfield 36, 3) := by decide +kernel
theorem dX7_bars_4 : decode cX7_bars 4 = .ok (.aload_n 0, 1) := by decide +kernel
theorem dX7_bars_5 : decode cX7_bars 5 = .ok (.getfield 65, 3) := by decide +kernel
theorem dX7_bars_8 : decode cX7_bars 8 = .ok (.aload_n 0, 1) := by decide +kernel
theorem dX7_bars_9 : decode cX7_bars 9 = .ok (.getfield 19, 3) := by decide +kernel
theorem dX7_bars_12 : decode cX7_bars 12 = .ok (.invokevirtual 177, 3) := by decide +kernel
theorem dX7_bars_15 : decode cX7_bars 15 = .ok (.iconst 0, 1) := by decide +kernel
theorem dX7_bars_16 : decode cX7_bars 16 = .ok (.istore_n 1, 1) := by decide +kernel
theorem dX7_bars_17 : decode cX7_bars 17 = .ok (.iload_n 1, 1) := by decide +kernel
theorem dX7_bars_18 : decode cX7_bars 18 = .ok (.aload_n 0, 1) := by decide +kernel
theorem dX7_bars_19 : decode cX7_bars 19 = .ok (.getfield 65, 3) := by decide +kernel
theorem dX7_bars_22 : decode cX7_bars 22 = .ok (.getfield 102, 3) := by decide +kernel
theorem dX7_bars_25 : decode cX7_bars 25 = .ok (.if_icmp .ge 25, 3) := by decide +kernel
theorem dX7_bars_28 : decode cX7_bars 28 = .ok (.aload_n 0, 1) := by decide +kernel
theorem dX7_bars_29 : decode cX7_bars 29 = .ok (.getfield 36, 3) := by decide +kernel
theorem dX7_bars_32 : decode cX7_bars 32 = .ok (.getfield 187, 3) := by decide +kernel
theorem dX7_bars_35 : decode cX7_bars 35 = .ok (.iload_n 1, 1) := by decide +kernel
theorem dX7_bars_36 : decode cX7_bars 36 = .ok (.ishr, 1) := by decide +kernel
theorem dX7_bars_37 : decode cX7_bars 37 = .ok (.iconst 1, 1) := by decide +kernel
theorem dX7_bars_38 : decode cX7_bars 38 = .ok (.iand, 1) := by decide +kernel
theorem dX7_bars_39 : decode cX7_bars 39 = .ok (.ifCond .ne 5, 3) := by decide +kernel
theorem dX7_bars_42 : decode cX7_bars 42 = .ok (.iload_n 1, 1) := by decide +kernel
theorem dX7_bars_43 : decode cX7_bars 43 = .ok (.ireturn, 1) := by decide +kernel
theorem dX7_bars_44 : decode cX7_bars 44 = .ok (.iinc 1 1, 3) := by decide +kernel
theorem dX7_bars_47 : decode cX7_bars 47 = .ok (.goto (-30), 3) := by decide +kernel
theorem dX7_bars_50 : decode cX7_bars 50 = .ok (.bipush (-9), 2) := by decide +kernel
theorem dX7_bars_52 : decode cX7_bars 52 = .ok (.ireturn, 1) := by decide +kernel
theorem dX7_share_0 : decode cX7_share 0 = .ok (.aload_n 0, 1) := by decide +kernel
theorem dX7_share_1 : decode cX7_share 1 = .ok (.getfield 65, 3) := by decide +kernel
theorem dX7_share_4 : decode cX7_share 4 = .ok (.iload_n 1, 1) := by decide +kernel
theorem dX7_share_5 : decode cX7_share 5 = .ok (.invokevirtual 127, 3) := by decide +kernel
theorem dX7_share_8 : decode cX7_share 8 = .ok (.ifCond .ne 5, 3) := by decide +kernel
theorem dX7_share_11 : decode cX7_share 11 = .ok (.iconst (-1), 1) := by decide +kernel
theorem dX7_share_12 : decode cX7_share 12 = .ok (.ireturn, 1) := by decide +kernel
theorem dX7_share_13 : decode cX7_share 13 = .ok (.aload_n 0, 1) := by decide +kernel
theorem dX7_share_14 : decode cX7_share 14 = .ok (.getfield 36, 3) := by decide +kernel
theorem dX7_share_17 : decode cX7_share 17 = .ok (.aload_n 0, 1) := by decide +kernel
theorem dX7_share_18 : decode cX7_share 18 = .ok (.getfield 65, 3) := by decide +kernel
theorem dX7_share_21 : decode cX7_share 21 = .ok (.aload_n 0, 1) := by decide +kernel
theorem dX7_share_22 : decode cX7_share 22 = .ok (.getfield 19, 3) := by decide +kernel
theorem dX7_share_25 : decode cX7_share 25 = .ok (.invokevirtual 177, 3) := by decide +kernel
theorem dX7_share_28 : decode cX7_share 28 = .ok (.aload_n 0, 1) := by decide +kernel
theorem dX7_share_29 : decode cX7_share 29 = .ok (.getfield 36, 3) := by decide +kernel
theorem dX7_share_32 : decode cX7_share 32 = .ok (.invokevirtual 181, 3) := by decide +kernel
theorem dX7_share_35 : decode cX7_share 35 = .ok (.bipush (-9), 2) := by decide +kernel
theorem dX7_share_37 : decode cX7_share 37 = .ok (.if_icmp .ne 6, 3) := by decide +kernel
theorem dX7_share_40 : decode cX7_share 40 = .ok (.bipush (-3), 2) := by decide +kernel
theorem dX7_share_42 : decode cX7_share 42 = .ok (.ireturn, 1) := by decide +kernel
theorem dX7_share_43 : decode cX7_share 43 = .ok (.aload_n 0, 1) := by decide +kernel
theorem dX7_share_44 : decode cX7_share 44 = .ok (.getfield 36, 3) := by decide +kernel
theorem dX7_share_47 : decode cX7_share 47 = .ok (.iload_n 1, 1) := by decide +kernel
theorem dX7_share_48 : decode cX7_share 48 = .ok (.invokevirtual 190, 3) := by decide +kernel
theorem dX7_share_51 : decode cX7_share 51 = .ok (.getstatic 193, 3) := by decide +kernel
theorem dX7_share_54 : decode cX7_share 54 = .ok (.aload_n 0, 1) := by decide +kernel
theorem dX7_share_55 : decode cX7_share 55 = .ok (.getfield 65, 3) := by decide +kernel
theorem dX7_share_58 : decode cX7_share 58 = .ok (.getfield 102, 3) := by decide +kernel
theorem dX7_share_61 : decode cX7_share 61 = .ok (.iaload, 1) := by decide +kernel
theorem dX7_share_62 : decode cX7_share 62 = .ok (.iload_n 2, 1) := by decide +kernel
theorem dX7_share_63 : decode cX7_share 63 = .ok (.invokestatic 196, 3) := by decide +kernel
theorem dX7_share_66 : decode cX7_share 66 = .ok (.ireturn, 1) := by decide +kernel
theorem dX7_table_0 : decode cX7_table 0 = .ok (.aload_n 0, 1) := by decide +kernel
theorem dX7_table_1 : decode cX7_table 1 = .ok (.getfield 65, 3) := by decide +kernel
theorem dX7_table_4 : decode cX7_table 4 = .ok (.iload_n 1, 1) := by decide +kernel
theorem dX7_table_5 : decode cX7_table 5 = .ok (.invokevirtual 111, 3) := by decide +kernel
theorem dX7_table_8 : decode cX7_table 8 = .ok (.ifCond .eq 14, 3) := by decide +kernel
theorem dX7_table_11 : decode cX7_table 11 = .ok (.aload_n 0, 1) := by decide +kernel
theorem dX7_table_12 : decode cX7_table 12 = .ok (.getfield 65, 3) := by decide +kernel
theorem dX7_table_15 : decode cX7_table 15 = .ok (.iload_n 2, 1) := by decide +kernel
theorem dX7_table_16 : decode cX7_table 16 = .ok (.invokevirtual 111, 3) := by decide +kernel
theorem dX7_table_19 : decode cX7_table 19 = .ok (.ifCond .ne 5, 3) := by decide +kernel
theorem dX7_table_22 : decode cX7_table 22 = .ok (.iconst (-1), 1) := by decide +kernel
theorem dX7_table_23 : decode cX7_table 23 = .ok (.ireturn, 1) := by decide +kernel
theorem dX7_table_24 : decode cX7_table 24 = .ok (.iload_n 1, 1) := by decide +kernel
theorem dX7_table_25 : decode cX7_table 25 = .ok (.iload_n 2, 1) := by decide +kernel
theorem dX7_table_26 : decode cX7_table 26 = .ok (.if_icmp .ne 8, 3) := by decide +kernel
theorem dX7_table_29 : decode cX7_table 29 = .ok (.bipush (-2), 2) := by decide +kernel
theorem dX7_table_31 : decode cX7_table 31 = .ok (.goto 9, 3) := by decide +kernel
theorem dX7_table_34 : decode cX7_table 34 = .ok (.aload_n 0, 1) := by decide +kernel
theorem dX7_table_35 : decode cX7_table 35 = .ok (.iload_n 1, 1) := by decide +kernel
theorem dX7_table_36 : decode cX7_table 36 = .ok (.iload_n 2, 1) := by decide +kernel
theorem dX7_table_37 : decode cX7_table 37 = .ok (.invokevirtual 200, 3) := by decide +kernel
theorem dX7_table_40 : decode cX7_table 40 = .ok (.ireturn, 1) := by decide +kernel
theorem dX7_pairs_0 : decode cX7_pairs 0 = .ok (.aload_n 0, 1) := by decide +kernel
theorem dX7_pairs_1 : decode cX7_pairs 1 = .ok (.getfield 19, 3) := by decide +kernel
theorem dX7_pairs_4 : decode cX7_pairs 4 = .ok (.aload_n 0, 1) := by decide +kernel
theorem dX7_pairs_5 : decode cX7_pairs 5 = .ok (.getfield 65, 3) := by decide +kernel
theorem dX7_pairs_8 : decode cX7_pairs 8 = .ok (.iconst 0, 1) := by decide +kernel
theorem dX7_pairs_9 : decode cX7_pairs 9 = .ok (.invokevirtual 152, 3) := by decide +kernel
theorem dX7_pairs_12 : decode cX7_pairs 12 = .ok (.istore_n 1, 1) := by decide +kernel
theorem dX7_pairs_13 : decode cX7_pairs 13 = .ok (.iload_n 1, 1) := by decide +kernel
theorem dX7_pairs_14 : decode cX7_pairs 14 = .ok (.invokestatic 156, 3) := by decide +kernel
theorem dX7_pairs_17 : decode cX7_pairs 17 = .ok (.iconst 2, 1) := by decide +kernel
theorem dX7_pairs_18 : decode cX7_pairs 18 = .ok (.irem, 1) := by decide +kernel
theorem dX7_pairs_19 : decode cX7_pairs 19 = .ok (.ifCond .ne 11, 3) := by decide +kernel
theorem dX7_pairs_22 : decode cX7_pairs 22 = .ok (.aload_n 0, 1) := by decide +kernel
theorem dX7_pairs_23 : decode cX7_pairs 23 = .ok (.iload_n 1, 1) := by decide +kernel
theorem dX7_pairs_24 : decode cX7_pairs 24 = .ok (.invokevirtual 204, 3) := by decide +kernel
theorem dX7_pairs_27 : decode cX7_pairs 27 = .ok (.goto 11, 3) := by decide +kernel
theorem dX7_pairs_30 : decode cX7_pairs 30 = .ok (.aload_n 0, 1) := by decide +kernel
theorem dX7_pairs_31 : decode cX7_pairs 31 = .ok (.iload_n 1, 1) := by decide +kernel
theorem dX7_pairs_32 : decode cX7_pairs 32 = .ok (.bipush 16, 2) := by decide +kernel
theorem dX7_pairs_34 : decode cX7_pairs 34 = .ok (.ior, 1) := by decide +kernel
theorem dX7_pairs_35 : decode cX7_pairs 35 = .ok (.invokevirtual 204, 3) := by decide +kernel
theorem dX7_pairs_38 : decode cX7_pairs 38 = .ok (.ireturn, 1) := by decide +kernel
theorem dX7_judge_0 : decode cX7_judge 0 = .ok (.iload_n 1, 1) := by decide +kernel
theorem dX7_judge_1 : decode cX7_judge 1 = .ok (.iconst 1, 1) := by decide +kernel
theorem dX7_judge_2 : decode cX7_judge 2 = .ok (.if_icmp .lt 22, 3) := by decide +kernel
theorem dX7_judge_5 : decode cX7_judge 5 = .ok (.iload_n 1, 1) := by decide +kernel
theorem dX7_judge_6 : decode cX7_judge 6 = .ok (.bipush 8, 2) := by decide +kernel
theorem dX7_judge_8 : decode cX7_judge 8 = .ok (.if_icmp .gt 16, 3) := by decide +kernel
theorem dX7_judge_11 : decode cX7_judge 11 = .ok (.iload_n 2, 1) := by decide +kernel
theorem dX7_judge_12 : decode cX7_judge 12 = .ok (.ifCond .lt 12, 3) := by decide +kernel
theorem dX7_judge_15 : decode cX7_judge 15 = .ok (.iload_n 2, 1) := by decide +kernel
theorem dX7_judge_16 : decode cX7_judge 16 = .ok (.getstatic 207, 3) := by decide +kernel
theorem dX7_judge_19 : decode cX7_judge 19 = .ok (.iload_n 1, 1) := by decide +kernel
theorem dX7_judge_20 : decode cX7_judge 20 = .ok (.iaload, 1) := by decide +kernel
theorem dX7_judge_21 : decode cX7_judge 21 = .ok (.if_icmp .lt 6, 3) := by decide +kernel
theorem dX7_judge_24 : decode cX7_judge 24 = .ok (.bipush (-2), 2) := by decide +kernel
theorem dX7_judge_26 : decode cX7_judge 26 = .ok (.ireturn, 1) := by decide +kernel
theorem dX7_judge_27 : decode cX7_judge 27 = .ok (.aload_n 0, 1) := by decide +kernel
theorem dX7_judge_28 : decode cX7_judge 28 = .ok (.getfield 23, 3) := by decide +kernel
theorem dX7_judge_31 : decode cX7_judge 31 = .ok (.aload_n 0, 1) := by decide +kernel
theorem dX7_judge_32 : decode cX7_judge 32 = .ok (.getfield 19, 3) := by decide +kernel
theorem dX7_judge_35 : decode cX7_judge 35 = .ok (.invokevirtual 210, 3) := by decide +kernel
theorem dX7_judge_38 : decode cX7_judge 38 = .ok (.iconst 0, 1) := by decide +kernel
theorem dX7_judge_39 : decode cX7_judge 39 = .ok (.istore_n 3, 1) := by decide +kernel
theorem dX7_judge_40 : decode cX7_judge 40 = .ok (.iload_n 3, 1) := by decide +kernel
theorem dX7_judge_41 : decode cX7_judge 41 = .ok (.iload_n 1, 1) := by decide +kernel
theorem dX7_judge_42 : decode cX7_judge 42 = .ok (.if_icmp .ge 24, 3) := by decide +kernel
theorem dX7_judge_45 : decode cX7_judge 45 = .ok (.aload_n 0, 1) := by decide +kernel
theorem dX7_judge_46 : decode cX7_judge 46 = .ok (.iload_n 2, 1) := by decide +kernel
theorem dX7_judge_47 : decode cX7_judge 47 = .ok (.iload_n 1, 1) := by decide +kernel
theorem dX7_judge_48 : decode cX7_judge 48 = .ok (.iload_n 3, 1) := by decide +kernel
theorem dX7_judge_49 : decode cX7_judge 49 = .ok (.invokestatic 213, 3) := by decide +kernel
theorem dX7_judge_52 : decode cX7_judge 52 = .ok (.invokevirtual 217, 3) := by decide +kernel
theorem dX7_judge_55 : decode cX7_judge 55 = .ok (.ifCond .ne 5, 3) := by decide +kernel
theorem dX7_judge_58 : decode cX7_judge 58 = .ok (.iload_n 3, 1) := by decide +kernel
theorem dX7_judge_59 : decode cX7_judge 59 = .ok (.ireturn, 1) := by decide +kernel
theorem dX7_judge_60 : decode cX7_judge 60 = .ok (.iinc 3 1, 3) := by decide +kernel
theorem dX7_judge_63 : decode cX7_judge 63 = .ok (.goto (-23), 3) := by decide +kernel
theorem dX7_judge_66 : decode cX7_judge 66 = .ok (.bipush (-9), 2) := by decide +kernel
theorem dX7_judge_68 : decode cX7_judge 68 = .ok (.ireturn, 1) := by decide +kernel
theorem dX7_goesWell_0 : decode cX7_goesWell 0 = .ok (.iload_n 1, 1) := by decide +kernel
theorem dX7_goesWell_1 : decode cX7_goesWell 1 = .ok (.iconst 4, 1) := by decide +kernel
theorem dX7_goesWell_2 : decode cX7_goesWell 2 = .ok (.if_icmp .ne 35, 3) := by decide +kernel
theorem dX7_goesWell_5 : decode cX7_goesWell 5 = .ok (.aload_n 0, 1) := by decide +kernel
theorem dX7_goesWell_6 : decode cX7_goesWell 6 = .ok (.getfield 23, 3) := by decide +kernel
theorem dX7_goesWell_9 : decode cX7_goesWell 9 = .ok (.getfield 161, 3) := by decide +kernel
theorem dX7_goesWell_12 : decode cX7_goesWell 12 = .ok (.bipush 20, 2) := by decide +kernel
theorem dX7_goesWell_14 : decode cX7_goesWell 14 = .ok (.if_icmp .ge 21, 3) := by decide +kernel
theorem dX7_goesWell_17 : decode cX7_goesWell 17 = .ok (.aload_n 0, 1) := by decide +kernel
theorem dX7_goesWell_18 : decode cX7_goesWell 18 = .ok (.getfield 23, 3) := by decide +kernel
theorem dX7_goesWell_21 : decode cX7_goesWell 21 = .ok (.aload_n 0, 1) := by decide +kernel
theorem dX7_goesWell_22 : decode cX7_goesWell 22 = .ok (.getfield 65, 3) := by decide +kernel
theorem dX7_goesWell_25 : decode cX7_goesWell 25 = .ok (.invokevirtual 164, 3) := by decide +kernel
theorem dX7_goesWell_28 : decode cX7_goesWell 28 = .ok (.ifCond .eq 7, 3) := by decide +kernel
theorem dX7_goesWell_31 : decode cX7_goesWell 31 = .ok (.iconst 1, 1) := by decide +kernel
theorem dX7_goesWell_32 : decode cX7_goesWell 32 = .ok (.goto 4, 3) := by decide +kernel
theorem dX7_goesWell_35 : decode cX7_goesWell 35 = .ok (.iconst 0, 1) := by decide +kernel
theorem dX7_goesWell_36 : decode cX7_goesWell 36 = .ok (.ireturn, 1) := by decide +kernel
theorem dX7_goesWell_37 : decode cX7_goesWell 37 = .ok (.aload_n 0, 1) := by decide +kernel
theorem dX7_goesWell_38 : decode cX7_goesWell 38 = .ok (.getfield 23, 3) := by decide +kernel
theorem dX7_goesWell_41 : decode cX7_goesWell 41 = .ok (.aload_n 0, 1) := by decide +kernel
theorem dX7_goesWell_42 : decode cX7_goesWell 42 = .ok (.getfield 65, 3) := by decide +kernel
theorem dX7_goesWell_45 : decode cX7_goesWell 45 = .ok (.iload_n 1, 1) := by decide +kernel
theorem dX7_goesWell_46 : decode cX7_goesWell 46 = .ok (.invokevirtual 220, 3) := by decide +kernel
theorem dX7_goesWell_49 : decode cX7_goesWell 49 = .ok (.ireturn, 1) := by decide +kernel
theorem dX7_mostOfPairs_0 : decode cX7_mostOfPairs 0 = .ok (.iload_n 1, 1) := by decide +kernel
theorem dX7_mostOfPairs_1 : decode cX7_mostOfPairs 1 = .ok (.invokestatic 223, 3) := by decide +kernel
theorem dX7_mostOfPairs_4 : decode cX7_mostOfPairs 4 = .ok (.istore_n 2, 1) := by decide +kernel
theorem dX7_mostOfPairs_5 : decode cX7_mostOfPairs 5 = .ok (.iconst 0, 1) := by decide +kernel
theorem dX7_mostOfPairs_6 : decode cX7_mostOfPairs 6 = .ok (.istore_n 3, 1) := by decide +kernel
theorem dX7_mostOfPairs_7 : decode cX7_mostOfPairs 7 = .ok (.iload_n 2, 1) := by decide +kernel
theorem dX7_mostOfPairs_8 : decode cX7_mostOfPairs 8 = .ok (.iconst 1, 1) := by decide +kernel
theorem dX7_mostOfPairs_9 : decode cX7_mostOfPairs 9 = .ok (.iadd, 1) := by decide +kernel
theorem dX7_mostOfPairs_10 : decode cX7_mostOfPairs 10 = .ok (.istore 4, 2) := by decide +kernel
theorem dX7_mostOfPairs_12 : decode cX7_mostOfPairs 12 = .ok (.iload 4, 2) := by decide +kernel
theorem dX7_mostOfPairs_14 : decode cX7_mostOfPairs 14 = .ok (.iconst 4, 1) := by decide +kernel
theorem dX7_mostOfPairs_15 : decode cX7_mostOfPairs 15 = .ok (.if_icmp .gt 73, 3) := by decide +kernel
theorem dX7_mostOfPairs_18 : decode cX7_mostOfPairs 18 = .ok (.iload_n 1, 1) := by decide +kernel
theorem dX7_mostOfPairs_19 : decode cX7_mostOfPairs 19 = .ok (.iload 4, 2) := by decide +kernel
theorem dX7_mostOfPairs_21 : decode cX7_mostOfPairs 21 = .ok (.ishr, 1) := by decide +kernel
theorem dX7_mostOfPairs_22 : decode cX7_mostOfPairs 22 = .ok (.iconst 1, 1) := by decide +kernel
theorem dX7_mostOfPairs_23 : decode cX7_mostOfPairs 23 = .ok (.iand, 1) := by decide +kernel
theorem dX7_mostOfPairs_24 : decode cX7_mostOfPairs 24 = .ok (.iconst 1, 1) := by decide +kernel
theorem dX7_mostOfPairs_25 : decode cX7_mostOfPairs 25 = .ok (.if_icmp .ne 57, 3) := by decide +kernel
theorem dX7_mostOfPairs_28 : decode cX7_mostOfPairs 28 = .ok (.iload_n 1, 1) := by decide +kernel
theorem dX7_mostOfPairs_29 : decode cX7_mostOfPairs 29 = .ok (.iconst 1, 1) := by decide +kernel
theorem dX7_mostOfPairs_30 : decode cX7_mostOfPairs 30 = .ok (.iload_n 2, 1) := by decide +kernel
theorem dX7_mostOfPairs_31 : decode cX7_mostOfPairs 31 = .ok (.ishl, 1) := by decide +kernel
theorem dX7_mostOfPairs_32 : decode cX7_mostOfPairs 32 = .ok (.iconst (-1), 1) := by decide +kernel
theorem dX7_mostOfPairs_33 : decode cX7_mostOfPairs 33 = .ok (.ixor, 1) := by decide +kernel
theorem dX7_mostOfPairs_34 : decode cX7_mostOfPairs 34 = .ok (.iand, 1) := by decide +kernel
theorem dX7_mostOfPairs_35 : decode cX7_mostOfPairs 35 = .ok (.iconst 1, 1) := by decide +kernel
theorem dX7_mostOfPairs_36 : decode cX7_mostOfPairs 36 = .ok (.iload 4, 2) := by decide +kernel
theorem dX7_mostOfPairs_38 : decode cX7_mostOfPairs 38 = .ok (.ishl, 1) := by decide +kernel
theorem dX7_mostOfPairs_39 : decode cX7_mostOfPairs 39 = .ok (.iconst (-1), 1) := by decide +kernel
theorem dX7_mostOfPairs_40 : decode cX7_mostOfPairs 40 = .ok (.ixor, 1) := by decide +kernel
theorem dX7_mostOfPairs_41 : decode cX7_mostOfPairs 41 = .ok (.iand, 1) := by decide +kernel
theorem dX7_mostOfPairs_42 : decode cX7_mostOfPairs 42 = .ok (.istore 5, 2) := by decide +kernel
theorem dX7_mostOfPairs_44 : decode cX7_mostOfPairs 44 = .ok (.iload 5, 2) := by decide +kernel
theorem dX7_mostOfPairs_46 : decode cX7_mostOfPairs 46 = .ok (.invokestatic 223, 3) := by decide +kernel
theorem dX7_mostOfPairs_49 : decode cX7_mostOfPairs 49 = .ok (.istore 6, 2) := by decide +kernel
theorem dX7_mostOfPairs_51 : decode cX7_mostOfPairs 51 = .ok (.bipush 31, 2) := by decide +kernel
theorem dX7_mostOfPairs_53 : decode cX7_mostOfPairs 53 = .ok (.iload 5, 2) := by decide +kernel
theorem dX7_mostOfPairs_55 : decode cX7_mostOfPairs 55 = .ok (.invokestatic 226, 3) := by decide +kernel
theorem dX7_mostOfPairs_58 : decode cX7_mostOfPairs 58 = .ok (.isub, 1) := by decide +kernel
theorem dX7_mostOfPairs_59 : decode cX7_mostOfPairs 59 = .ok (.istore 7, 2) := by decide +kernel
theorem dX7_mostOfPairs_61 : decode cX7_mostOfPairs 61 = .ok (.iload_n 3, 1) := by decide +kernel
theorem dX7_mostOfPairs_62 : decode cX7_mostOfPairs 62 = .ok (.aload_n 0, 1) := by decide +kernel
theorem dX7_mostOfPairs_63 : decode cX7_mostOfPairs 63 = .ok (.iload_n 2, 1) := by decide +kernel
theorem dX7_mostOfPairs_64 : decode cX7_mostOfPairs 64 = .ok (.iload 4, 2) := by decide +kernel
theorem dX7_mostOfPairs_66 : decode cX7_mostOfPairs 66 = .ok (.invokevirtual 200, 3) := by decide +kernel
theorem dX7_mostOfPairs_69 : decode cX7_mostOfPairs 69 = .ok (.aload_n 0, 1) := by decide +kernel
theorem dX7_mostOfPairs_70 : decode cX7_mostOfPairs 70 = .ok (.iload 6, 2) := by decide +kernel
theorem dX7_mostOfPairs_72 : decode cX7_mostOfPairs 72 = .ok (.iload 7, 2) := by decide +kernel
theorem dX7_mostOfPairs_74 : decode cX7_mostOfPairs 74 = .ok (.invokevirtual 200, 3) := by decide +kernel
theorem dX7_mostOfPairs_77 : decode cX7_mostOfPairs 77 = .ok (.iadd, 1) := by decide +kernel
theorem dX7_mostOfPairs_78 : decode cX7_mostOfPairs 78 = .ok (.invokestatic 229, 3) := by decide +kernel
theorem dX7_mostOfPairs_81 : decode cX7_mostOfPairs 81 = .ok (.istore_n 3, 1) := by decide +kernel
theorem dX7_mostOfPairs_82 : decode cX7_mostOfPairs 82 = .ok (.iinc 4 1, 3) := by decide +kernel
theorem dX7_mostOfPairs_85 : decode cX7_mostOfPairs 85 = .ok (.goto (-73), 3) := by decide +kernel
theorem dX7_mostOfPairs_88 : decode cX7_mostOfPairs 88 = .ok (.iload_n 3, 1) := by decide +kernel
theorem dX7_mostOfPairs_89 : decode cX7_mostOfPairs 89 = .ok (.ireturn, 1) := by decide +kernel
theorem dX7_giftsTogether_0 : decode cX7_giftsTogether 0 = .ok (.iconst 0, 1) := by decide +kernel
theorem dX7_giftsTogether_1 : decode cX7_giftsTogether 1 = .ok (.istore_n 3, 1) := by decide +kernel
theorem dX7_giftsTogether_2 : decode cX7_giftsTogether 2 = .ok (.iconst 0, 1) := by decide +kernel
theorem dX7_giftsTogether_3 : decode cX7_giftsTogether 3 = .ok (.istore 4, 2) := by decide +kernel
theorem dX7_giftsTogether_5 : decode cX7_giftsTogether 5 = .ok (.iload 4, 2) := by decide +kernel
theorem dX7_giftsTogether_7 : decode cX7_giftsTogether 7 = .ok (.bipush 6, 2) := by decide +kernel
theorem dX7_giftsTogether_9 : decode cX7_giftsTogether 9 = .ok (.if_icmp .ge 44, 3) := by decide +kernel
theorem dX7_giftsTogether_12 : decode cX7_giftsTogether 12 = .ok (.iload_n 3, 1) := by decide +kernel
theorem dX7_giftsTogether_13 : decode cX7_giftsTogether 13 = .ok (.aload_n 0, 1) := by decide +kernel
theorem dX7_giftsTogether_14 : decode cX7_giftsTogether 14 = .ok (.getfield 19, 3) := by decide +kernel
theorem dX7_giftsTogether_17 : decode cX7_giftsTogether 17 = .ok (.aload_n 0, 1) := by decide +kernel
theorem dX7_giftsTogether_18 : decode cX7_giftsTogether 18 = .ok (.getfield 65, 3) := by decide +kernel
theorem dX7_giftsTogether_21 : decode cX7_giftsTogether 21 = .ok (.iload_n 1, 1) := by decide +kernel
theorem dX7_giftsTogether_22 : decode cX7_giftsTogether 22 = .ok (.iload 4, 2) := by decide +kernel
theorem dX7_giftsTogether_24 : decode cX7_giftsTogether 24 = .ok (.invokevirtual 234, 3) := by decide +kernel
theorem dX7_giftsTogether_27 : decode cX7_giftsTogether 27 = .ok (.aload_n 0, 1) := by decide +kernel
theorem dX7_giftsTogether_28 : decode cX7_giftsTogether 28 = .ok (.getfield 19, 3) := by decide +kernel
theorem dX7_giftsTogether_31 : decode cX7_giftsTogether 31 = .ok (.aload_n 0, 1) := by decide +kernel
theorem dX7_giftsTogether_32 : decode cX7_giftsTogether 32 = .ok (.getfield 65, 3) := by decide +kernel
theorem dX7_giftsTogether_35 : decode cX7_giftsTogether 35 = .ok (.iload_n 2, 1) := by decide +kernel
theorem dX7_giftsTogether_36 : decode cX7_giftsTogether 36 = .ok (.iload 4, 2) := by decide +kernel
theorem dX7_giftsTogether_38 : decode cX7_giftsTogether 38 = .ok (.invokevirtual 234, 3) := by decide +kernel
theorem dX7_giftsTogether_41 : decode cX7_giftsTogether 41 = .ok (.ior, 1) := by decide +kernel
theorem dX7_giftsTogether_42 : decode cX7_giftsTogether 42 = .ok (.invokestatic 156, 3) := by decide +kernel
theorem dX7_giftsTogether_45 : decode cX7_giftsTogether 45 = .ok (.iadd, 1) := by decide +kernel
theorem dX7_giftsTogether_46 : decode cX7_giftsTogether 46 = .ok (.istore_n 3, 1) := by decide +kernel
theorem dX7_giftsTogether_47 : decode cX7_giftsTogether 47 = .ok (.iinc 4 1, 3) := by decide +kernel
theorem dX7_giftsTogether_50 : decode cX7_giftsTogether 50 = .ok (.goto (-45), 3) := by decide +kernel
theorem dX7_giftsTogether_53 : decode cX7_giftsTogether 53 = .ok (.iload_n 3, 1) := by decide +kernel
theorem dX7_giftsTogether_54 : decode cX7_giftsTogether 54 = .ok (.ireturn, 1) := by decide +kernel
theorem dX7_stub_0 : decode cX7_stub 0 = .ok (.iload_n 1, 1) := by decide +kernel
theorem dX7_stub_1 : decode cX7_stub 1 = .ok (.iconst 1, 1) := by decide +kernel
theorem dX7_stub_2 : decode cX7_stub 2 = .ok (.if_icmp .lt 21, 3) := by decide +kernel
theorem dX7_stub_5 : decode cX7_stub 5 = .ok (.iload_n 1, 1) := by decide +kernel
theorem dX7_stub_6 : decode cX7_stub 6 = .ok (.iconst 3, 1) := by decide +kernel
theorem dX7_stub_7 : decode cX7_stub 7 = .ok (.if_icmp .gt 16, 3) := by decide +kernel
theorem dX7_stub_10 : decode cX7_stub 10 = .ok (.iload_n 2, 1) := by decide +kernel
theorem dX7_stub_11 : decode cX7_stub 11 = .ok (.ifCond .lt 12, 3) := by decide +kernel
theorem dX7_stub_14 : decode cX7_stub 14 = .ok (.iload_n 2, 1) := by decide +kernel
theorem dX7_stub_15 : decode cX7_stub 15 = .ok (.getstatic 207, 3) := by decide +kernel
theorem dX7_stub_18 : decode cX7_stub 18 = .ok (.iload_n 1, 1) := by decide +kernel
theorem dX7_stub_19 : decode cX7_stub 19 = .ok (.iaload, 1) := by decide +kernel
theorem dX7_stub_20 : decode cX7_stub 20 = .ok (.if_icmp .lt 6, 3) := by decide +kernel
theorem dX7_stub_23 : decode cX7_stub 23 = .ok (.bipush (-2), 2) := by decide +kernel
theorem dX7_stub_25 : decode cX7_stub 25 = .ok (.ireturn, 1) := by decide +kernel
theorem dX7_stub_26 : decode cX7_stub 26 = .ok (.iconst 0, 1) := by decide +kernel
theorem dX7_stub_27 : decode cX7_stub 27 = .ok (.istore 4, 2) := by decide +kernel
theorem dX7_stub_29 : decode cX7_stub 29 = .ok (.iload 4, 2) := by decide +kernel
theorem dX7_stub_31 : decode cX7_stub 31 = .ok (.iload_n 1, 1) := by decide +kernel
theorem dX7_stub_32 : decode cX7_stub 32 = .ok (.if_icmp .ge 23, 3) := by decide +kernel
theorem dX7_stub_35 : decode cX7_stub 35 = .ok (.iload_n 2, 1) := by decide +kernel
theorem dX7_stub_36 : decode cX7_stub 36 = .ok (.iload_n 1, 1) := by decide +kernel
theorem dX7_stub_37 : decode cX7_stub 37 = .ok (.iload 4, 2) := by decide +kernel
theorem dX7_stub_39 : decode cX7_stub 39 = .ok (.invokestatic 213, 3) := by decide +kernel
theorem dX7_stub_42 : decode cX7_stub 42 = .ok (.iconst 4, 1) := by decide +kernel
theorem dX7_stub_43 : decode cX7_stub 43 = .ok (.if_icmp .le 6, 3) := by decide +kernel
theorem dX7_stub_46 : decode cX7_stub 46 = .ok (.bipush (-2), 2) := by decide +kernel
theorem dX7_stub_48 : decode cX7_stub 48 = .ok (.ireturn, 1) := by decide +kernel
theorem dX7_stub_49 : decode cX7_stub 49 = .ok (.iinc 4 1, 3) := by decide +kernel
theorem dX7_stub_52 : decode cX7_stub 52 = .ok (.goto (-23), 3) := by decide +kernel
theorem dX7_stub_55 : decode cX7_stub 55 = .ok (.iload_n 3, 1) := by decide +kernel
theorem dX7_stub_56 : decode cX7_stub 56 = .ok (.ifCond .eq 12, 3) := by decide +kernel
theorem dX7_stub_59 : decode cX7_stub 59 = .ok (.aload_n 0, 1) := by decide +kernel
theorem dX7_stub_60 : decode cX7_stub 60 = .ok (.iload_n 1, 1) := by decide +kernel
theorem dX7_stub_61 : decode cX7_stub 61 = .ok (.iload_n 2, 1) := by decide +kernel
theorem dX7_stub_62 : decode cX7_stub 62 = .ok (.invokevirtual 238, 3) := by decide +kernel
theorem dX7_stub_65 : decode cX7_stub 65 = .ok (.goto 9, 3) := by decide +kernel
theorem dX7_stub_68 : decode cX7_stub 68 = .ok (.aload_n 0, 1) := by decide +kernel
theorem dX7_stub_69 : decode cX7_stub 69 = .ok (.iload_n 1, 1) := by decide +kernel
theorem dX7_stub_70 : decode cX7_stub 70 = .ok (.iload_n 2, 1) := by decide +kernel
theorem dX7_stub_71 : decode cX7_stub 71 = .ok (.invokevirtual 241, 3) := by decide +kernel
theorem dX7_stub_74 : decode cX7_stub 74 = .ok (.ireturn, 1) := by decide +kernel
theorem dX7_candlesEndingSo_0 : decode cX7_candlesEndingSo 0 = .ok (.iconst 0, 1) := by decide +kernel
theorem dX7_candlesEndingSo_1 : decode cX7_candlesEndingSo 1 = .ok (.istore_n 3, 1) := by decide +kernel
theorem dX7_candlesEndingSo_2 : decode cX7_candlesEndingSo 2 = .ok (.iconst 0, 1) := by decide +kernel
theorem dX7_candlesEndingSo_3 : decode cX7_candlesEndingSo 3 = .ok (.istore 4, 2) := by decide +kernel
theorem dX7_candlesEndingSo_5 : decode cX7_candlesEndingSo 5 = .ok (.iload 4, 2) := by decide +kernel
theorem dX7_candlesEndingSo_7 : decode cX7_candlesEndingSo 7 = .ok (.aload_n 0, 1) := by decide +kernel
theorem dX7_candlesEndingSo_8 : decode cX7_candlesEndingSo 8 = .ok (.getfield 65, 3) := by decide +kernel
theorem dX7_candlesEndingSo_11 : decode cX7_candlesEndingSo 11 = .ok (.getfield 98, 3) := by decide +kernel
theorem dX7_candlesEndingSo_14 : decode cX7_candlesEndingSo 14 = .ok (.if_icmp .ge 60, 3) := by decide +kernel
theorem dX7_candlesEndingSo_17 : decode cX7_candlesEndingSo 17 = .ok (.aload_n 0, 1) := by decide +kernel
theorem dX7_candlesEndingSo_18 : decode cX7_candlesEndingSo 18 = .ok (.getfield 65, 3) := by decide +kernel
theorem dX7_candlesEndingSo_21 : decode cX7_candlesEndingSo 21 = .ok (.getfield 244, 3) := by decide +kernel
theorem dX7_candlesEndingSo_24 : decode cX7_candlesEndingSo 24 = .ok (.iload 4, 2) := by decide +kernel
theorem dX7_candlesEndingSo_26 : decode cX7_candlesEndingSo 26 = .ok (.iaload, 1) := by decide +kernel
theorem dX7_candlesEndingSo_27 : decode cX7_candlesEndingSo 27 = .ok (.iload_n 1, 1) := by decide +kernel
theorem dX7_candlesEndingSo_28 : decode cX7_candlesEndingSo 28 = .ok (.if_icmp .lt 40, 3) := by decide +kernel
theorem dX7_candlesEndingSo_31 : decode cX7_candlesEndingSo 31 = .ok (.aload_n 0, 1) := by decide +kernel
theorem dX7_candlesEndingSo_32 : decode cX7_candlesEndingSo 32 = .ok (.aload_n 0, 1) := by decide +kernel
theorem dX7_candlesEndingSo_33 : decode cX7_candlesEndingSo 33 = .ok (.getfield 65, 3) := by decide +kernel
theorem dX7_candlesEndingSo_36 : decode cX7_candlesEndingSo 36 = .ok (.getfield 247, 3) := by decide +kernel
theorem dX7_candlesEndingSo_39 : decode cX7_candlesEndingSo 39 = .ok (.iload 4, 2) := by decide +kernel
theorem dX7_candlesEndingSo_41 : decode cX7_candlesEndingSo 41 = .ok (.iaload, 1) := by decide +kernel
theorem dX7_candlesEndingSo_42 : decode cX7_candlesEndingSo 42 = .ok (.aload_n 0, 1) := by decide +kernel
theorem dX7_candlesEndingSo_43 : decode cX7_candlesEndingSo 43 = .ok (.getfield 65, 3) := by decide +kernel
theorem dX7_candlesEndingSo_46 : decode cX7_candlesEndingSo 46 = .ok (.getfield 244, 3) := by decide +kernel
theorem dX7_candlesEndingSo_49 : decode cX7_candlesEndingSo 49 = .ok (.iload 4, 2) := by decide +kernel
theorem dX7_candlesEndingSo_51 : decode cX7_candlesEndingSo 51 = .ok (.iaload, 1) := by decide +kernel
theorem dX7_candlesEndingSo_52 : decode cX7_candlesEndingSo 52 = .ok (.iadd, 1) := by decide +kernel
theorem dX7_candlesEndingSo_53 : decode cX7_candlesEndingSo 53 = .ok (.iload_n 1, 1) := by decide +kernel
theorem dX7_candlesEndingSo_54 : decode cX7_candlesEndingSo 54 = .ok (.iload_n 2, 1) := by decide +kernel
theorem dX7_candlesEndingSo_55 : decode cX7_candlesEndingSo 55 = .ok (.invokevirtual 250, 3) := by decide +kernel
theorem dX7_candlesEndingSo_58 : decode cX7_candlesEndingSo 58 = .ok (.ifCond .eq 10, 3) := by decide +kernel
theorem dX7_candlesEndingSo_61 : decode cX7_candlesEndingSo 61 = .ok (.iload_n 3, 1) := by decide +kernel
theorem dX7_candlesEndingSo_62 : decode cX7_candlesEndingSo 62 = .ok (.iconst 1, 1) := by decide +kernel
theorem dX7_candlesEndingSo_63 : decode cX7_candlesEndingSo 63 = .ok (.iload 4, 2) := by decide +kernel
theorem dX7_candlesEndingSo_65 : decode cX7_candlesEndingSo 65 = .ok (.ishl, 1) := by decide +kernel
theorem dX7_candlesEndingSo_66 : decode cX7_candlesEndingSo 66 = .ok (.ior, 1) := by decide +kernel
theorem dX7_candlesEndingSo_67 : decode cX7_candlesEndingSo 67 = .ok (.istore_n 3, 1) := by decide +kernel
theorem dX7_candlesEndingSo_68 : decode cX7_candlesEndingSo 68 = .ok (.iinc 4 1, 3) := by decide +kernel
theorem dX7_candlesEndingSo_71 : decode cX7_candlesEndingSo 71 = .ok (.goto (-66), 3) := by decide +kernel
theorem dX7_candlesEndingSo_74 : decode cX7_candlesEndingSo 74 = .ok (.iload_n 3, 1) := by decide +kernel
theorem dX7_candlesEndingSo_75 : decode cX7_candlesEndingSo 75 = .ok (.ireturn, 1) := by decide +kernel
theorem dX7_placesEndingSo_0 : decode cX7_placesEndingSo 0 = .ok (.iconst 0, 1) := by decide +kernel
theorem dX7_placesEndingSo_1 : decode cX7_placesEndingSo 1 = .ok (.istore_n 3, 1) := by decide +kernel
theorem dX7_placesEndingSo_2 : decode cX7_placesEndingSo 2 = .ok (.iload_n 1, 1) := by decide +kernel
theorem dX7_placesEndingSo_3 : decode cX7_placesEndingSo 3 = .ok (.istore 4, 2) := by decide +kernel
theorem dX7_placesEndingSo_5 : decode cX7_placesEndingSo 5 = .ok (.iload 4, 2) := by decide +kernel
theorem dX7_placesEndingSo_7 : decode cX7_placesEndingSo 7 = .ok (.aload_n 0, 1) := by decide +kernel
theorem dX7_placesEndingSo_8 : decode cX7_placesEndingSo 8 = .ok (.getfield 65, 3) := by decide +kernel
theorem dX7_placesEndingSo_11 : decode cX7_placesEndingSo 11 = .ok (.getfield 105, 3) := by decide +kernel
theorem dX7_placesEndingSo_14 : decode cX7_placesEndingSo 14 = .ok (.if_icmp .gt 23, 3) := by decide +kernel
theorem dX7_placesEndingSo_17 : decode cX7_placesEndingSo 17 = .ok (.aload_n 0, 1) := by decide +kernel
theorem dX7_placesEndingSo_18 : decode cX7_placesEndingSo 18 = .ok (.iload 4, 2) := by decide +kernel
theorem dX7_placesEndingSo_20 : decode cX7_placesEndingSo 20 = .ok (.iload_n 1, 1) := by decide +kernel
theorem dX7_placesEndingSo_21 : decode cX7_placesEndingSo 21 = .ok (.iload_n 2, 1) := by decide +kernel
theorem dX7_placesEndingSo_22 : decode cX7_placesEndingSo 22 = .ok (.invokevirtual 250, 3) := by decide +kernel
theorem dX7_placesEndingSo_25 : decode cX7_placesEndingSo 25 = .ok (.ifCond .eq 6, 3) := by decide +kernel
theorem dX7_placesEndingSo_28 : decode cX7_placesEndingSo 28 = .ok (.iinc 3 1, 3) := by decide +kernel
theorem dX7_placesEndingSo_31 : decode cX7_placesEndingSo 31 = .ok (.iinc 4 1, 3) := by decide +kernel
theorem dX7_placesEndingSo_34 : decode cX7_placesEndingSo 34 = .ok (.goto (-29), 3) := by decide +kernel
theorem dX7_placesEndingSo_37 : decode cX7_placesEndingSo 37 = .ok (.iload_n 3, 1) := by decide +kernel
theorem dX7_placesEndingSo_38 : decode cX7_placesEndingSo 38 = .ok (.ireturn, 1) := by decide +kernel
theorem dX7_endsSo_0 : decode cX7_endsSo 0 = .ok (.iconst 0, 1) := by decide +kernel
theorem dX7_endsSo_1 : decode cX7_endsSo 1 = .ok (.istore 4, 2) := by decide +kernel
theorem dX7_endsSo_3 : decode cX7_endsSo 3 = .ok (.iload 4, 2) := by decide +kernel
theorem dX7_endsSo_5 : decode cX7_endsSo 5 = .ok (.iload_n 2, 1) := by decide +kernel
theorem dX7_endsSo_6 : decode cX7_endsSo 6 = .ok (.if_icmp .ge 49, 3) := by decide +kernel
theorem dX7_endsSo_9 : decode cX7_endsSo 9 = .ok (.iload_n 3, 1) := by decide +kernel
theorem dX7_endsSo_10 : decode cX7_endsSo 10 = .ok (.iload_n 2, 1) := by decide +kernel
theorem dX7_endsSo_11 : decode cX7_endsSo 11 = .ok (.iload 4, 2) := by decide +kernel
theorem dX7_endsSo_13 : decode cX7_endsSo 13 = .ok (.invokestatic 213, 3) := by decide +kernel
theorem dX7_endsSo_16 : decode cX7_endsSo 16 = .ok (.istore 5, 2) := by decide +kernel
theorem dX7_endsSo_18 : decode cX7_endsSo 18 = .ok (.aload_n 0, 1) := by decide +kernel
theorem dX7_endsSo_19 : decode cX7_endsSo 19 = .ok (.getfield 65, 3) := by decide +kernel
theorem dX7_endsSo_22 : decode cX7_endsSo 22 = .ok (.iload_n 1, 1) := by decide +kernel
theorem dX7_endsSo_23 : decode cX7_endsSo 23 = .ok (.iload_n 2, 1) := by decide +kernel
theorem dX7_endsSo_24 : decode cX7_endsSo 24 = .ok (.isub, 1) := by decide +kernel
theorem dX7_endsSo_25 : decode cX7_endsSo 25 = .ok (.iload 4, 2) := by decide +kernel
theorem dX7_endsSo_27 : decode cX7_endsSo 27 = .ok (.iadd, 1) := by decide +kernel
theorem dX7_endsSo_28 : decode cX7_endsSo 28 = .ok (.invokevirtual 108, 3) := by decide +kernel
theorem dX7_endsSo_31 : decode cX7_endsSo 31 = .ok (.iload 5, 2) := by decide +kernel
theorem dX7_endsSo_33 : decode cX7_endsSo 33 = .ok (.ifCond .ne 7, 3) := by decide +kernel
theorem dX7_endsSo_36 : decode cX7_endsSo 36 = .ok (.iconst 4, 1) := by decide +kernel
theorem dX7_endsSo_37 : decode cX7_endsSo 37 = .ok (.goto 7, 3) := by decide +kernel
theorem dX7_endsSo_40 : decode cX7_endsSo 40 = .ok (.iload 5, 2) := by decide +kernel
theorem dX7_endsSo_42 : decode cX7_endsSo 42 = .ok (.iconst 1, 1) := by decide +kernel
theorem dX7_endsSo_43 : decode cX7_endsSo 43 = .ok (.isub, 1) := by decide +kernel
theorem dX7_endsSo_44 : decode cX7_endsSo 44 = .ok (.if_icmp .eq 5, 3) := by decide +kernel
theorem dX7_endsSo_47 : decode cX7_endsSo 47 = .ok (.iconst 0, 1) := by decide +kernel
theorem dX7_endsSo_48 : decode cX7_endsSo 48 = .ok (.ireturn, 1) := by decide +kernel
theorem dX7_endsSo_49 : decode cX7_endsSo 49 = .ok (.iinc 4 1, 3) := by decide +kernel
theorem dX7_endsSo_52 : decode cX7_endsSo 52 = .ok (.goto (-49), 3) := by decide +kernel
theorem dX7_endsSo_55 : decode cX7_endsSo 55 = .ok (.iconst 1, 1) := by decide +kernel
theorem dX7_endsSo_56 : decode cX7_endsSo 56 = .ok (.ireturn, 1) := by decide +kernel
theorem dX7_see_0 : decode cX7_see 0 = .ok (.iload_n 1, 1) := by decide +kernel
theorem dX7_see_1 : decode cX7_see 1 = .ok (.ifCond .lt 8, 3) := by decide +kernel
theorem dX7_see_4 : decode cX7_see 4 = .ok (.iload_n 1, 1) := by decide +kernel
theorem dX7_see_5 : decode cX7_see 5 = .ok (.iconst 4, 1) := by decide +kernel
theorem dX7_see_6 : decode cX7_see 6 = .ok (.if_icmp .le 6, 3) := by decide +kernel
theorem dX7_see_9 : decode cX7_see 9 = .ok (.bipush (-2), 2) := by decide +kernel
theorem dX7_see_11 : decode cX7_see 11 = .ok (.ireturn, 1) := by decide +kernel
theorem dX7_see_12 : decode cX7_see 12 = .ok (.aload_n 0, 1) := by decide +kernel
theorem dX7_see_13 : decode cX7_see 13 = .ok (.getfield 43, 3) := by decide +kernel
theorem dX7_see_16 : decode cX7_see 16 = .ok (.iload_n 1, 1) := by decide +kernel
theorem dX7_see_17 : decode cX7_see 17 = .ok (.invokevirtual 254, 3) := by decide +kernel
theorem dX7_see_20 : decode cX7_see 20 = .ok (.ireturn, 1) := by decide +kernel
theorem dX7_unsee_0 : decode cX7_unsee 0 = .ok (.aload_n 0, 1) := by decide +kernel
theorem dX7_unsee_1 : decode cX7_unsee 1 = .ok (.getfield 43, 3) := by decide +kernel
theorem dX7_unsee_4 : decode cX7_unsee 4 = .ok (.invokevirtual 256, 3) := by decide +kernel
theorem dX7_unsee_7 : decode cX7_unsee 7 = .ok (.ireturn, 1) := by decide +kernel
theorem dX7_from_0 : decode cX7_from 0 = .ok (.iload_n 1, 1) := by decide +kernel
theorem dX7_from_1 : decode cX7_from 1 = .ok (.iconst 1, 1) := by decide +kernel
theorem dX7_from_2 : decode cX7_from 2 = .ok (.if_icmp .lt 9, 3) := by decide +kernel
theorem dX7_from_5 : decode cX7_from 5 = .ok (.iload_n 1, 1) := by decide +kernel
theorem dX7_from_6 : decode cX7_from 6 = .ok (.bipush 6, 2) := by decide +kernel
theorem dX7_from_8 : decode cX7_from 8 = .ok (.if_icmp .le 8, 3) := by decide +kernel
theorem dX7_from_11 : decode cX7_from 11 = .ok (.bipush (-2), 2) := by decide +kernel
theorem dX7_from_13 : decode cX7_from 13 = .ok (.goto 15, 3) := by decide +kernel
theorem dX7_from_16 : decode cX7_from 16 = .ok (.aload_n 0, 1) := by decide +kernel
theorem dX7_from_17 : decode cX7_from 17 = .ok (.getfield 43, 3) := by decide +kernel
theorem dX7_from_20 : decode cX7_from 20 = .ok (.aload_n 0, 1) := by decide +kernel
theorem dX7_from_21 : decode cX7_from 21 = .ok (.getfield 65, 3) := by decide +kernel
theorem dX7_from_24 : decode cX7_from 24 = .ok (.iload_n 1, 1) := by decide +kernel
theorem dX7_from_25 : decode cX7_from 25 = .ok (.invokevirtual 257, 3) := by decide +kernel
theorem dX7_from_28 : decode cX7_from 28 = .ok (.ireturn, 1) := by decide +kernel
theorem dX7_next_0 : decode cX7_next 0 = .ok (.iload_n 1, 1) := by decide +kernel
theorem dX7_next_1 : decode cX7_next 1 = .ok (.iconst 1, 1) := by decide +kernel
theorem dX7_next_2 : decode cX7_next 2 = .ok (.if_icmp .lt 18, 3) := by decide +kernel
theorem dX7_next_5 : decode cX7_next 5 = .ok (.iload_n 1, 1) := by decide +kernel
theorem dX7_next_6 : decode cX7_next 6 = .ok (.bipush 6, 2) := by decide +kernel
theorem dX7_next_8 : decode cX7_next 8 = .ok (.if_icmp .gt 12, 3) := by decide +kernel
theorem dX7_next_11 : decode cX7_next 11 = .ok (.iload_n 2, 1) := by decide +kernel
theorem dX7_next_12 : decode cX7_next 12 = .ok (.ifCond .lt 8, 3) := by decide +kernel
theorem dX7_next_15 : decode cX7_next 15 = .ok (.iload_n 2, 1) := by decide +kernel
theorem dX7_next_16 : decode cX7_next 16 = .ok (.iconst 4, 1) := by decide +kernel
theorem dX7_next_17 : decode cX7_next 17 = .ok (.if_icmp .le 6, 3) := by decide +kernel
theorem dX7_next_20 : decode cX7_next 20 = .ok (.bipush (-2), 2) := by decide +kernel
theorem dX7_next_22 : decode cX7_next 22 = .ok (.ireturn, 1) := by decide +kernel
theorem dX7_next_23 : decode cX7_next 23 = .ok (.aload_n 0, 1) := by decide +kernel
theorem dX7_next_24 : decode cX7_next 24 = .ok (.getfield 43, 3) := by decide +kernel
theorem dX7_next_27 : decode cX7_next 27 = .ok (.aload_n 0, 1) := by decide +kernel
theorem dX7_next_28 : decode cX7_next 28 = .ok (.getfield 65, 3) := by decide +kernel
theorem dX7_next_31 : decode cX7_next 31 = .ok (.iload_n 1, 1) := by decide +kernel
theorem dX7_next_32 : decode cX7_next 32 = .ok (.invokevirtual 257, 3) := by decide +kernel
theorem dX7_next_35 : decode cX7_next 35 = .ok (.istore 4, 2) := by decide +kernel
theorem dX7_next_37 : decode cX7_next 37 = .ok (.iload 4, 2) := by decide +kernel
theorem dX7_next_39 : decode cX7_next 39 = .ok (.ifCond .eq 14, 3) := by decide +kernel
theorem dX7_next_42 : decode cX7_next 42 = .ok (.aload_n 0, 1) := by decide +kernel
theorem dX7_next_43 : decode cX7_next 43 = .ok (.getfield 43, 3) := by decide +kernel
theorem dX7_next_46 : decode cX7_next 46 = .ok (.getfield 260, 3) := by decide +kernel
theorem dX7_next_49 : decode cX7_next 49 = .ok (.iload_n 1, 1) := by decide +kernel
theorem dX7_next_50 : decode cX7_next 50 = .ok (.if_icmp .lt 6, 3) := by decide +kernel
theorem dX7_next_53 : decode cX7_next 53 = .ok (.bipush (-3), 2) := by decide +kernel
theorem dX7_next_55 : decode cX7_next 55 = .ok (.ireturn, 1) := by decide +kernel
theorem dX7_next_56 : decode cX7_next 56 = .ok (.iconst 0, 1) := by decide +kernel
theorem dX7_next_57 : decode cX7_next 57 = .ok (.istore 5, 2) := by decide +kernel
theorem dX7_next_59 : decode cX7_next 59 = .ok (.iconst 0, 1) := by decide +kernel
theorem dX7_next_60 : decode cX7_next 60 = .ok (.istore 6, 2) := by decide +kernel
theorem dX7_next_62 : decode cX7_next 62 = .ok (.iload 6, 2) := by decide +kernel
theorem dX7_next_64 : decode cX7_next 64 = .ok (.aload_n 0, 1) := by decide +kernel
theorem dX7_next_65 : decode cX7_next 65 = .ok (.getfield 65, 3) := by decide +kernel
theorem dX7_next_68 : decode cX7_next 68 = .ok (.getfield 105, 3) := by decide +kernel
theorem dX7_next_71 : decode cX7_next 71 = .ok (.if_icmp .ge 44, 3) := by decide +kernel
theorem dX7_next_74 : decode cX7_next 74 = .ok (.iload 4, 2) := by decide +kernel
theorem dX7_next_76 : decode cX7_next 76 = .ok (.iload 6, 2) := by decide +kernel
theorem dX7_next_78 : decode cX7_next 78 = .ok (.ishr, 1) := by decide +kernel
theorem dX7_next_79 : decode cX7_next 79 = .ok (.iconst 1, 1) := by decide +kernel
theorem dX7_next_80 : decode cX7_next 80 = .ok (.iand, 1) := by decide +kernel
theorem dX7_next_81 : decode cX7_next 81 = .ok (.iconst 1, 1) := by decide +kernel
theorem dX7_next_82 : decode cX7_next 82 = .ok (.if_icmp .ne 27, 3) := by decide +kernel
theorem dX7_next_85 : decode cX7_next 85 = .ok (.aload_n 0, 1) := by decide +kernel
theorem dX7_next_86 : decode cX7_next 86 = .ok (.getfield 65, 3) := by decide +kernel
theorem dX7_next_89 : decode cX7_next 89 = .ok (.iload 6, 2) := by decide +kernel
theorem dX7_next_91 : decode cX7_next 91 = .ok (.aload_n 0, 1) := by decide +kernel
theorem dX7_next_92 : decode cX7_next 92 = .ok (.getfield 43, 3) := by decide +kernel
theorem dX7_next_95 : decode cX7_next 95 = .ok (.getfield 260, 3) := by decide +kernel
theorem dX7_next_98 : decode cX7_next 98 = .ok (.iadd, 1) := by decide +kernel
theorem dX7_next_99 : decode cX7_next 99 = .ok (.invokevirtual 108, 3) := by decide +kernel
theorem dX7_next_102 : decode cX7_next 102 = .ok (.iload_n 2, 1) := by decide +kernel
theorem dX7_next_103 : decode cX7_next 103 = .ok (.if_icmp .ne 6, 3) := by decide +kernel
theorem dX7_next_106 : decode cX7_next 106 = .ok (.iinc 5 1, 3) := by decide +kernel
theorem dX7_next_109 : decode cX7_next 109 = .ok (.iinc 6 1, 3) := by decide +kernel
theorem dX7_next_112 : decode cX7_next 112 = .ok (.goto (-50), 3) := by decide +kernel
theorem dX7_next_115 : decode cX7_next 115 = .ok (.iload 5, 2) := by decide +kernel
theorem dX7_next_117 : decode cX7_next 117 = .ok (.iload 4, 2) := by decide +kernel
theorem dX7_next_119 : decode cX7_next 119 = .ok (.invokestatic 156, 3) := by decide +kernel
theorem dX7_next_122 : decode cX7_next 122 = .ok (.iload_n 3, 1) := by decide +kernel
theorem dX7_next_123 : decode cX7_next 123 = .ok (.invokestatic 196, 3) := by decide +kernel
theorem dX7_next_126 : decode cX7_next 126 = .ok (.ireturn, 1) := by decide +kernel
theorem dX7_cut_0 : decode cX7_cut 0 = .ok (.iload_n 1, 1) := by decide +kernel
theorem dX7_cut_1 : decode cX7_cut 1 = .ok (.iconst 1, 1) := by decide +kernel
theorem dX7_cut_2 : decode cX7_cut 2 = .ok (.if_icmp .lt 33, 3) := by decide +kernel
theorem dX7_cut_5 : decode cX7_cut 5 = .ok (.iload_n 1, 1) := by decide +kernel
theorem dX7_cut_6 : decode cX7_cut 6 = .ok (.bipush 30, 2) := by decide +kernel
theorem dX7_cut_8 : decode cX7_cut 8 = .ok (.if_icmp .gt 27, 3) := by decide +kernel
theorem dX7_cut_11 : decode cX7_cut 11 = .ok (.iload_n 2, 1) := by decide +kernel
theorem dX7_cut_12 : decode cX7_cut 12 = .ok (.iconst 1, 1) := by decide +kernel
theorem dX7_cut_13 : decode cX7_cut 13 = .ok (.if_icmp .lt 22, 3) := by decide +kernel
theorem dX7_cut_16 : decode cX7_cut 16 = .ok (.iload_n 2, 1) := by decide +kernel
theorem dX7_cut_17 : decode cX7_cut 17 = .ok (.bipush 6, 2) := by decide +kernel
theorem dX7_cut_19 : decode cX7_cut 19 = .ok (.if_icmp .gt 16, 3) := by decide +kernel
theorem dX7_cut_22 : decode cX7_cut 22 = .ok (.iload_n 3, 1) := by decide +kernel
theorem dX7_cut_23 : decode cX7_cut 23 = .ok (.ifCond .lt 12, 3) := by decide +kernel
theorem dX7_cut_26 : decode cX7_cut 26 = .ok (.iload_n 3, 1) := by decide +kernel
theorem dX7_cut_27 : decode cX7_cut 27 = .ok (.getstatic 207, 3) := by decide +kernel
theorem dX7_cut_30 : decode cX7_cut 30 = .ok (.iload_n 2, 1) := by decide +kernel
theorem dX7_cut_31 : decode cX7_cut 31 = .ok (.iaload, 1) := by decide +kernel
theorem dX7_cut_32 : decode cX7_cut 32 = .ok (.if_icmp .lt 6, 3) := by decide +kernel
theorem dX7_cut_35 : decode cX7_cut 35 = .ok (.bipush (-2), 2) := by decide +kernel
theorem dX7_cut_37 : decode cX7_cut 37 = .ok (.ireturn, 1) := by decide +kernel
theorem dX7_cut_38 : decode cX7_cut 38 = .ok (.iconst 0, 1) := by decide +kernel
theorem dX7_cut_39 : decode cX7_cut 39 = .ok (.istore 4, 2) := by decide +kernel
theorem dX7_cut_41 : decode cX7_cut 41 = .ok (.iconst 0, 1) := by decide +kernel
theorem dX7_cut_42 : decode cX7_cut 42 = .ok (.istore 5, 2) := by decide +kernel
theorem dX7_cut_44 : decode cX7_cut 44 = .ok (.iload 5, 2) := by decide +kernel
theorem dX7_cut_46 : decode cX7_cut 46 = .ok (.iload_n 2, 1) := by decide +kernel
theorem dX7_cut_47 : decode cX7_cut 47 = .ok (.if_icmp .ge 35, 3) := by decide +kernel
theorem dX7_cut_50 : decode cX7_cut 50 = .ok (.iload_n 3, 1) := by decide +kernel
theorem dX7_cut_51 : decode cX7_cut 51 = .ok (.iload_n 2, 1) := by decide +kernel
theorem dX7_cut_52 : decode cX7_cut 52 = .ok (.iload 5, 2) := by decide +kernel
theorem dX7_cut_54 : decode cX7_cut 54 = .ok (.invokestatic 213, 3) := by decide +kernel
theorem dX7_cut_57 : decode cX7_cut 57 = .ok (.istore 6, 2) := by decide +kernel
theorem dX7_cut_59 : decode cX7_cut 59 = .ok (.iload 6, 2) := by decide +kernel
theorem dX7_cut_61 : decode cX7_cut 61 = .ok (.ifCond .ne 6, 3) := by decide +kernel
theorem dX7_cut_64 : decode cX7_cut 64 = .ok (.bipush (-2), 2) := by decide +kernel
theorem dX7_cut_66 : decode cX7_cut 66 = .ok (.ireturn, 1) := by decide +kernel
theorem dX7_cut_67 : decode cX7_cut 67 = .ok (.iload 4, 2) := by decide +kernel
theorem dX7_cut_69 : decode cX7_cut 69 = .ok (.iload 6, 2) := by decide +kernel
theorem dX7_cut_71 : decode cX7_cut 71 = .ok (.invokestatic 229, 3) := by decide +kernel
theorem dX7_cut_74 : decode cX7_cut 74 = .ok (.istore 4, 2) := by decide +kernel
theorem dX7_cut_76 : decode cX7_cut 76 = .ok (.iinc 5 1, 3) := by decide +kernel
theorem dX7_cut_79 : decode cX7_cut 79 = .ok (.goto (-35), 3) := by decide +kernel
theorem dX7_cut_82 : decode cX7_cut 82 = .ok (.iload 4, 2) := by decide +kernel
theorem dX7_cut_84 : decode cX7_cut 84 = .ok (.iload_n 1, 1) := by decide +kernel
theorem dX7_cut_85 : decode cX7_cut 85 = .ok (.if_icmp .le 8, 3) := by decide +kernel
theorem dX7_cut_88 : decode cX7_cut 88 = .ok (.bipush (-9), 2) := by decide +kernel
theorem dX7_cut_90 : decode cX7_cut 90 = .ok (.goto 13, 3) := by decide +kernel
theorem dX7_cut_93 : decode cX7_cut 93 = .ok (.aload_n 0, 1) := by decide +kernel
theorem dX7_cut_94 : decode cX7_cut 94 = .ok (.getfield 50, 3) := by decide +kernel
theorem dX7_cut_97 : decode cX7_cut 97 = .ok (.iload_n 1, 1) := by decide +kernel
theorem dX7_cut_98 : decode cX7_cut 98 = .ok (.iload_n 2, 1) := by decide +kernel
theorem dX7_cut_99 : decode cX7_cut 99 = .ok (.iload_n 3, 1) := by decide +kernel
theorem dX7_cut_100 : decode cX7_cut 100 = .ok (.invokevirtual 261, 3) := by decide +kernel
theorem dX7_cut_103 : decode cX7_cut 103 = .ok (.ireturn, 1) := by decide +kernel
theorem dX7_draught_0 : decode cX7_draught 0 = .ok (.aload_n 0, 1) := by decide +kernel
theorem dX7_draught_1 : decode cX7_draught 1 = .ok (.getfield 65, 3) := by decide +kernel
theorem dX7_draught_4 : decode cX7_draught 4 = .ok (.iload_n 1, 1) := by decide +kernel
theorem dX7_draught_5 : decode cX7_draught 5 = .ok (.invokevirtual 111, 3) := by decide +kernel
theorem dX7_draught_8 : decode cX7_draught 8 = .ok (.ifCond .ne 5, 3) := by decide +kernel
theorem dX7_draught_11 : decode cX7_draught 11 = .ok (.iconst (-1), 1) := by decide +kernel
theorem dX7_draught_12 : decode cX7_draught 12 = .ok (.ireturn, 1) := by decide +kernel
theorem dX7_draught_13 : decode cX7_draught 13 = .ok (.iload_n 2, 1) := by decide +kernel
theorem dX7_draught_14 : decode cX7_draught 14 = .ok (.ifCond .lt 18, 3) := by decide +kernel
theorem dX7_draught_17 : decode cX7_draught 17 = .ok (.iload_n 2, 1) := by decide +kernel
theorem dX7_draught_18 : decode cX7_draught 18 = .ok (.bipush 10, 2) := by decide +kernel
theorem dX7_draught_20 : decode cX7_draught 20 = .ok (.if_icmp .gt 12, 3) := by decide +kernel
theorem dX7_draught_23 : decode cX7_draught 23 = .ok (.iload_n 3, 1) := by decide +kernel
theorem dX7_draught_24 : decode cX7_draught 24 = .ok (.ifCond .lt 8, 3) := by decide +kernel
theorem dX7_draught_27 : decode cX7_draught 27 = .ok (.iload_n 3, 1) := by decide +kernel
theorem dX7_draught_28 : decode cX7_draught 28 = .ok (.iconst 4, 1) := by decide +kernel
theorem dX7_draught_29 : decode cX7_draught 29 = .ok (.if_icmp .lt 6, 3) := by decide +kernel
theorem dX7_draught_32 : decode cX7_draught 32 = .ok (.bipush (-2), 2) := by decide +kernel
theorem dX7_draught_34 : decode cX7_draught 34 = .ok (.ireturn, 1) := by decide +kernel
theorem dX7_draught_35 : decode cX7_draught 35 = .ok (.aload_n 0, 1) := by decide +kernel
theorem dX7_draught_36 : decode cX7_draught 36 = .ok (.getfield 19, 3) := by decide +kernel
theorem dX7_draught_39 : decode cX7_draught 39 = .ok (.getfield 124, 3) := by decide +kernel
theorem dX7_draught_42 : decode cX7_draught 42 = .ok (.iload_n 1, 1) := by decide +kernel
theorem dX7_draught_43 : decode cX7_draught 43 = .ok (.iaload, 1) := by decide +kernel
theorem dX7_draught_44 : decode cX7_draught 44 = .ok (.ifCond .eq 6, 3) := by decide +kernel
theorem dX7_draught_47 : decode cX7_draught 47 = .ok (.bipush (-3), 2) := by decide +kernel
theorem dX7_draught_49 : decode cX7_draught 49 = .ok (.ireturn, 1) := by decide +kernel
theorem dX7_draught_50 : decode cX7_draught 50 = .ok (.iconst 0, 1) := by decide +kernel
theorem dX7_draught_51 : decode cX7_draught 51 = .ok (.istore 5, 2) := by decide +kernel
theorem dX7_draught_53 : decode cX7_draught 53 = .ok (.getstatic 207, 3) := by decide +kernel
theorem dX7_draught_56 : decode cX7_draught 56 = .ok (.bipush 6, 2) := by decide +kernel
theorem dX7_draught_58 : decode cX7_draught 58 = .ok (.iaload, 1) := by decide +kernel
theorem dX7_draught_59 : decode cX7_draught 59 = .ok (.istore 6, 2) := by decide +kernel
theorem dX7_draught_61 : decode cX7_draught 61 = .ok (.iconst 0, 1) := by decide +kernel
theorem dX7_draught_62 : decode cX7_draught 62 = .ok (.istore 7, 2) := by decide +kernel
theorem dX7_draught_64 : decode cX7_draught 64 = .ok (.iload 7, 2) := by decide +kernel
theorem dX7_draught_66 : decode cX7_draught 66 = .ok (.bipush 6, 2) := by decide +kernel
theorem dX7_draught_68 : decode cX7_draught 68 = .ok (.if_icmp .ge 48, 3) := by decide +kernel
theorem dX7_draught_71 : decode cX7_draught 71 = .ok (.iload 6, 2) := by decide +kernel
theorem dX7_draught_73 : decode cX7_draught 73 = .ok (.bipush 10, 2) := by decide +kernel
theorem dX7_draught_75 : decode cX7_draught 75 = .ok (.idiv, 1) := by decide +kernel
theorem dX7_draught_76 : decode cX7_draught 76 = .ok (.bipush 10, 2) := by decide +kernel
theorem dX7_draught_78 : decode cX7_draught 78 = .ok (.iload_n 2, 1) := by decide +kernel
theorem dX7_draught_79 : decode cX7_draught 79 = .ok (.isub, 1) := by decide +kernel
theorem dX7_draught_80 : decode cX7_draught 80 = .ok (.imul, 1) := by decide +kernel
theorem dX7_draught_81 : decode cX7_draught 81 = .ok (.istore 6, 2) := by decide +kernel
theorem dX7_draught_83 : decode cX7_draught 83 = .ok (.aload_n 0, 1) := by decide +kernel
theorem dX7_draught_84 : decode cX7_draught 84 = .ok (.getfield 19, 3) := by decide +kernel
theorem dX7_draught_87 : decode cX7_draught 87 = .ok (.aload_n 0, 1) := by decide +kernel
theorem dX7_draught_88 : decode cX7_draught 88 = .ok (.getfield 65, 3) := by decide +kernel
theorem dX7_draught_91 : decode cX7_draught 91 = .ok (.iload_n 1, 1) := by decide +kernel
theorem dX7_draught_92 : decode cX7_draught 92 = .ok (.iload 7, 2) := by decide +kernel
theorem dX7_draught_94 : decode cX7_draught 94 = .ok (.invokevirtual 234, 3) := by decide +kernel
theorem dX7_draught_97 : decode cX7_draught 97 = .ok (.iconst 1, 1) := by decide +kernel
theorem dX7_draught_98 : decode cX7_draught 98 = .ok (.iload_n 3, 1) := by decide +kernel
theorem dX7_draught_99 : decode cX7_draught 99 = .ok (.ishl, 1) := by decide +kernel
theorem dX7_draught_100 : decode cX7_draught 100 = .ok (.if_icmp .ne 10, 3) := by decide +kernel
theorem dX7_draught_103 : decode cX7_draught 103 = .ok (.iload 5, 2) := by decide +kernel
theorem dX7_draught_105 : decode cX7_draught 105 = .ok (.iload 6, 2) := by decide +kernel
theorem dX7_draught_107 : decode cX7_draught 107 = .ok (.iadd, 1) := by decide +kernel
theorem dX7_draught_108 : decode cX7_draught 108 = .ok (.istore 5, 2) := by decide +kernel
theorem dX7_draught_110 : decode cX7_draught 110 = .ok (.iinc 7 1, 3) := by decide +kernel
theorem dX7_draught_113 : decode cX7_draught 113 = .ok (.goto (-49), 3) := by decide +kernel
theorem dX7_draught_116 : decode cX7_draught 116 = .ok (.iload 5, 2) := by decide +kernel
theorem dX7_draught_118 : decode cX7_draught 118 = .ok (.getstatic 207, 3) := by decide +kernel
theorem dX7_draught_121 : decode cX7_draught 121 = .ok (.bipush 6, 2) := by decide +kernel
theorem dX7_draught_123 : decode cX7_draught 123 = .ok (.iaload, 1) := by decide +kernel
theorem dX7_draught_124 : decode cX7_draught 124 = .ok (.iload 4, 2) := by decide +kernel
theorem dX7_draught_126 : decode cX7_draught 126 = .ok (.invokestatic 196, 3) := by decide +kernel
theorem dX7_draught_129 : decode cX7_draught 129 = .ok (.ireturn, 1) := by decide +kernel
theorem dX7_seed_0 : decode cX7_seed 0 = .ok (.aload_n 0, 1) := by decide +kernel
theorem dX7_seed_1 : decode cX7_seed 1 = .ok (.getfield 72, 3) := by decide +kernel
theorem dX7_seed_4 : decode cX7_seed 4 = .ok (.lstore_n 3, 1) := by decide +kernel
theorem dX7_seed_5 : decode cX7_seed 5 = .ok (.aload_n 0, 1) := by decide +kernel
theorem dX7_seed_6 : decode cX7_seed 6 = .ok (.lload_n 1, 1) := by decide +kernel
theorem dX7_seed_7 : decode cX7_seed 7 = .ok (.putfield 72, 3) := by decide +kernel
theorem dX7_seed_10 : decode cX7_seed 10 = .ok (.lload_n 3, 1) := by decide +kernel
theorem dX7_seed_11 : decode cX7_seed 11 = .ok (.lreturn, 1) := by decide +kernel
theorem dX7_night_0 : decode cX7_night 0 = .ok (.iload_n 1, 1) := by decide +kernel
theorem dX7_night_1 : decode cX7_night 1 = .ok (.iconst 1, 1) := by decide +kernel
theorem dX7_night_2 : decode cX7_night 2 = .ok (.if_icmp .lt 9, 3) := by decide +kernel
theorem dX7_night_5 : decode cX7_night 5 = .ok (.iload_n 1, 1) := by decide +kernel
theorem dX7_night_6 : decode cX7_night 6 = .ok (.bipush 20, 2) := by decide +kernel
theorem dX7_night_8 : decode cX7_night 8 = .ok (.if_icmp .le 6, 3) := by decide +kernel
theorem dX7_night_11 : decode cX7_night 11 = .ok (.bipush (-2), 2) := by decide +kernel
theorem dX7_night_13 : decode cX7_night 13 = .ok (.ireturn, 1) := by decide +kernel
theorem dX7_night_14 : decode cX7_night 14 = .ok (.aload_n 0, 1) := by decide +kernel
theorem dX7_night_15 : decode cX7_night 15 = .ok (.getfield 23, 3) := by decide +kernel
theorem dX7_night_18 : decode cX7_night 18 = .ok (.aload_n 0, 1) := by decide +kernel
theorem dX7_night_19 : decode cX7_night 19 = .ok (.getfield 19, 3) := by decide +kernel
theorem dX7_night_22 : decode cX7_night 22 = .ok (.invokevirtual 210, 3) := by decide +kernel
theorem dX7_night_25 : decode cX7_night 25 = .ok (.iconst 0, 1) := by decide +kernel
theorem dX7_night_26 : decode cX7_night 26 = .ok (.istore_n 2, 1) := by decide +kernel
theorem dX7_night_27 : decode cX7_night 27 = .ok (.iload_n 2, 1) := by decide +kernel
theorem dX7_night_28 : decode cX7_night 28 = .ok (.iload_n 1, 1) := by decide +kernel
theorem dX7_night_29 : decode cX7_night 29 = .ok (.if_icmp .ge 73, 3) := by decide +kernel
theorem dX7_night_32 : decode cX7_night 32 = .ok (.aload_n 0, 1) := by decide +kernel
theorem dX7_night_33 : decode cX7_night 33 = .ok (.getfield 23, 3) := by decide +kernel
theorem dX7_night_36 : decode cX7_night 36 = .ok (.getfield 161, 3) := by decide +kernel
theorem dX7_night_39 : decode cX7_night 39 = .ok (.bipush 20, 2) := by decide +kernel
theorem dX7_night_41 : decode cX7_night 41 = .ok (.if_icmp .ge 61, 3) := by decide +kernel
theorem dX7_night_44 : decode cX7_night 44 = .ok (.aload_n 0, 1) := by decide +kernel
theorem dX7_night_45 : decode cX7_night 45 = .ok (.aload_n 0, 1) := by decide +kernel
theorem dX7_night_46 : decode cX7_night 46 = .ok (.getfield 72, 3) := by decide +kernel
theorem dX7_night_49 : decode cX7_night 49 = .ok (.ldc2_w 264, 3) := by decide +kernel
theorem dX7_night_52 : decode cX7_night 52 = .ok (.lmul, 1) := by decide +kernel
theorem dX7_night_53 : decode cX7_night 53 = .ok (.ldc2_w 266, 3) := by decide +kernel
theorem dX7_night_56 : decode cX7_night 56 = .ok (.ladd, 1) := by decide +kernel
theorem dX7_night_57 : decode cX7_night 57 = .ok (.putfield 72, 3) := by decide +kernel
theorem dX7_night_60 : decode cX7_night 60 = .ok (.aload_n 0, 1) := by decide +kernel
theorem dX7_night_61 : decode cX7_night 61 = .ok (.getfield 23, 3) := by decide +kernel
theorem dX7_night_64 : decode cX7_night 64 = .ok (.aload_n 0, 1) := by decide +kernel
theorem dX7_night_65 : decode cX7_night 65 = .ok (.getfield 65, 3) := by decide +kernel
theorem dX7_night_68 : decode cX7_night 68 = .ok (.aload_n 0, 1) := by decide +kernel
theorem dX7_night_69 : decode cX7_night 69 = .ok (.getfield 72, 3) := by decide +kernel
theorem dX7_night_72 : decode cX7_night 72 = .ok (.bipush 33, 2) := by decide +kernel
theorem dX7_night_74 : decode cX7_night 74 = .ok (.lushr, 1) := by decide +kernel
theorem dX7_night_75 : decode cX7_night 75 = .ok (.ldc2_w 268, 3) := by decide +kernel
theorem dX7_night_78 : decode cX7_night 78 = .ok (.lrem, 1) := by decide +kernel
theorem dX7_night_79 : decode cX7_night 79 = .ok (.l2i, 1) := by decide +kernel
theorem dX7_night_80 : decode cX7_night 80 = .ok (.invokevirtual 220, 3) := by decide +kernel
theorem dX7_night_83 : decode cX7_night 83 = .ok (.pop, 1) := by decide +kernel
theorem dX7_night_84 : decode cX7_night 84 = .ok (.aload_n 0, 1) := by decide +kernel
theorem dX7_night_85 : decode cX7_night 85 = .ok (.getfield 23, 3) := by decide +kernel
theorem dX7_night_88 : decode cX7_night 88 = .ok (.aload_n 0, 1) := by decide +kernel
theorem dX7_night_89 : decode cX7_night 89 = .ok (.getfield 65, 3) := by decide +kernel
theorem dX7_night_92 : decode cX7_night 92 = .ok (.invokevirtual 164, 3) := by decide +kernel
theorem dX7_night_95 : decode cX7_night 95 = .ok (.pop, 1) := by decide +kernel
theorem dX7_night_96 : decode cX7_night 96 = .ok (.iinc 2 1, 3) := by decide +kernel
theorem dX7_night_99 : decode cX7_night 99 = .ok (.goto (-72), 3) := by decide +kernel
theorem dX7_night_102 : decode cX7_night 102 = .ok (.iconst 0, 1) := by decide +kernel
theorem dX7_night_103 : decode cX7_night 103 = .ok (.istore_n 2, 1) := by decide +kernel
theorem dX7_night_104 : decode cX7_night 104 = .ok (.iconst 0, 1) := by decide +kernel
theorem dX7_night_105 : decode cX7_night 105 = .ok (.istore_n 3, 1) := by decide +kernel
theorem dX7_night_106 : decode cX7_night 106 = .ok (.iload_n 3, 1) := by decide +kernel
theorem dX7_night_107 : decode cX7_night 107 = .ok (.aload_n 0, 1) := by decide +kernel
theorem dX7_night_108 : decode cX7_night 108 = .ok (.getfield 65, 3) := by decide +kernel
theorem dX7_night_111 : decode cX7_night 111 = .ok (.getfield 102, 3) := by decide +kernel
theorem dX7_night_114 : decode cX7_night 114 = .ok (.if_icmp .ge 21, 3) := by decide +kernel
theorem dX7_night_117 : decode cX7_night 117 = .ok (.iload_n 2, 1) := by decide +kernel
theorem dX7_night_118 : decode cX7_night 118 = .ok (.aload_n 0, 1) := by decide +kernel
theorem dX7_night_119 : decode cX7_night 119 = .ok (.getfield 23, 3) := by decide +kernel
theorem dX7_night_122 : decode cX7_night 122 = .ok (.getfield 142, 3) := by decide +kernel
theorem dX7_night_125 : decode cX7_night 125 = .ok (.iload_n 3, 1) := by decide +kernel
theorem dX7_night_126 : decode cX7_night 126 = .ok (.iaload, 1) := by decide +kernel
theorem dX7_night_127 : decode cX7_night 127 = .ok (.iadd, 1) := by decide +kernel
theorem dX7_night_128 : decode cX7_night 128 = .ok (.istore_n 2, 1) := by decide +kernel
theorem dX7_night_129 : decode cX7_night 129 = .ok (.iinc 3 1, 3) := by decide +kernel
theorem dX7_night_132 : decode cX7_night 132 = .ok (.goto (-26), 3) := by decide +kernel
theorem dX7_night_135 : decode cX7_night 135 = .ok (.iload_n 2, 1) := by decide +kernel
theorem dX7_night_136 : decode cX7_night 136 = .ok (.ireturn, 1) := by decide +kernel
theorem dX7_keep_0 : decode cX7_keep 0 = .ok (.iload_n 1, 1) := by decide +kernel
theorem dX7_keep_1 : decode cX7_keep 1 = .ok (.ifCond .lt 8, 3) := by decide +kernel
theorem dX7_keep_4 : decode cX7_keep 4 = .ok (.iload_n 1, 1) := by decide +kernel
theorem dX7_keep_5 : decode cX7_keep 5 = .ok (.iconst 2, 1) := by decide +kernel
theorem dX7_keep_6 : decode cX7_keep 6 = .ok (.if_icmp .lt 5, 3) := by decide +kernel
theorem dX7_keep_9 : decode cX7_keep 9 = .ok (.iconst (-1), 1) := by decide +kernel
theorem dX7_keep_10 : decode cX7_keep 10 = .ok (.ireturn, 1) := by decide +kernel
theorem dX7_keep_11 : decode cX7_keep 11 = .ok (.aload_n 0, 1) := by decide +kernel
theorem dX7_keep_12 : decode cX7_keep 12 = .ok (.getfield 19, 3) := by decide +kernel
theorem dX7_keep_15 : decode cX7_keep 15 = .ok (.aload_n 0, 1) := by decide +kernel
theorem dX7_keep_16 : decode cX7_keep 16 = .ok (.getfield 54, 3) := by decide +kernel
theorem dX7_keep_19 : decode cX7_keep 19 = .ok (.iload_n 1, 1) := by decide +kernel
theorem dX7_keep_20 : decode cX7_keep 20 = .ok (.bipush 18, 2) := by decide +kernel
theorem dX7_keep_22 : decode cX7_keep 22 = .ok (.imul, 1) := by decide +kernel
theorem dX7_keep_23 : decode cX7_keep 23 = .ok (.invokevirtual 270, 3) := by decide +kernel
theorem dX7_keep_26 : decode cX7_keep 26 = .ok (.aload_n 0, 1) := by decide +kernel
theorem dX7_keep_27 : decode cX7_keep 27 = .ok (.getfield 58, 3) := by decide +kernel
theorem dX7_keep_30 : decode cX7_keep 30 = .ok (.iload_n 1, 1) := by decide +kernel
theorem dX7_keep_31 : decode cX7_keep 31 = .ok (.iconst 1, 1) := by decide +kernel
theorem dX7_keep_32 : decode cX7_keep 32 = .ok (.bastore, 1) := by decide +kernel
theorem dX7_keep_33 : decode cX7_keep 33 = .ok (.aload_n 0, 1) := by decide +kernel
theorem dX7_keep_34 : decode cX7_keep 34 = .ok (.getfield 19, 3) := by decide +kernel
theorem dX7_keep_37 : decode cX7_keep 37 = .ok (.getfield 161, 3) := by decide +kernel
theorem dX7_keep_40 : decode cX7_keep 40 = .ok (.ireturn, 1) := by decide +kernel
theorem dX7_again_0 : decode cX7_again 0 = .ok (.iload_n 1, 1) := by decide +kernel
theorem dX7_again_1 : decode cX7_again 1 = .ok (.ifCond .lt 8, 3) := by decide +kernel
theorem dX7_again_4 : decode cX7_again 4 = .ok (.iload_n 1, 1) := by decide +kernel
theorem dX7_again_5 : decode cX7_again 5 = .ok (.iconst 2, 1) := by decide +kernel
theorem dX7_again_6 : decode cX7_again 6 = .ok (.if_icmp .lt 5, 3) := by decide +kernel
theorem dX7_again_9 : decode cX7_again 9 = .ok (.iconst (-1), 1) := by decide +kernel
theorem dX7_again_10 : decode cX7_again 10 = .ok (.ireturn, 1) := by decide +kernel
theorem dX7_again_11 : decode cX7_again 11 = .ok (.aload_n 0, 1) := by decide +kernel
theorem dX7_again_12 : decode cX7_again 12 = .ok (.getfield 58, 3) := by decide +kernel
theorem dX7_again_15 : decode cX7_again 15 = .ok (.iload_n 1, 1) := by decide +kernel
theorem dX7_again_16 : decode cX7_again 16 = .ok (.baload, 1) := by decide +kernel
theorem dX7_again_17 : decode cX7_again 17 = .ok (.ifCond .ne 6, 3) := by decide +kernel
theorem dX7_again_20 : decode cX7_again 20 = .ok (.bipush (-3), 2) := by decide +kernel
theorem dX7_again_22 : decode cX7_again 22 = .ok (.ireturn, 1) := by decide +kernel
theorem dX7_again_23 : decode cX7_again 23 = .ok (.aload_n 0, 1) := by decide +kernel
theorem dX7_again_24 : decode cX7_again 24 = .ok (.getfield 19, 3) := by decide +kernel
theorem dX7_again_27 : decode cX7_again 27 = .ok (.aload_n 0, 1) := by decide +kernel
theorem dX7_again_28 : decode cX7_again 28 = .ok (.getfield 54, 3) := by decide +kernel
theorem dX7_again_31 : decode cX7_again 31 = .ok (.iload_n 1, 1) := by decide +kernel
theorem dX7_again_32 : decode cX7_again 32 = .ok (.bipush 18, 2) := by decide +kernel
theorem dX7_again_34 : decode cX7_again 34 = .ok (.imul, 1) := by decide +kernel
theorem dX7_again_35 : decode cX7_again 35 = .ok (.invokevirtual 274, 3) := by decide +kernel
theorem dX7_again_38 : decode cX7_again 38 = .ok (.aload_n 0, 1) := by decide +kernel
theorem dX7_again_39 : decode cX7_again 39 = .ok (.getfield 29, 3) := by decide +kernel
theorem dX7_again_42 : decode cX7_again 42 = .ok (.invokevirtual 92, 3) := by decide +kernel
theorem dX7_again_45 : decode cX7_again 45 = .ok (.aload_n 0, 1) := by decide +kernel
theorem dX7_again_46 : decode cX7_again 46 = .ok (.getfield 36, 3) := by decide +kernel
theorem dX7_again_49 : decode cX7_again 49 = .ok (.iconst 0, 1) := by decide +kernel
theorem dX7_again_50 : decode cX7_again 50 = .ok (.putfield 94, 3) := by decide +kernel
theorem dX7_again_53 : decode cX7_again 53 = .ok (.aload_n 0, 1) := by decide +kernel
theorem dX7_again_54 : decode cX7_again 54 = .ok (.getfield 19, 3) := by decide +kernel
theorem dX7_again_57 : decode cX7_again 57 = .ok (.getfield 161, 3) := by decide +kernel
theorem dX7_again_60 : decode cX7_again 60 = .ok (.ireturn, 1) := by decide +kernel
theorem dX7_count_0 : decode cX7_count 0 = .ok (.iload_n 1, 1) := by decide +kernel
theorem dX7_count_1 : decode cX7_count 1 = .ok (.tableswitch 144 0 9 #[55, 63, 71, 79, 87, 95, 108, 120, 128, 136], 55) := by decide +kernel
theorem dX7_count_56 : decode cX7_count 56 = .ok (.aload_n 0, 1) := by decide +kernel
theorem dX7_count_57 : decode cX7_count 57 = .ok (.getfield 10, 3) := by decide +kernel
theorem dX7_count_60 : decode cX7_count 60 = .ok (.getfield 277, 3) := by decide +kernel
theorem dX7_count_63 : decode cX7_count 63 = .ok (.ireturn, 1) := by decide +kernel
theorem dX7_count_64 : decode cX7_count 64 = .ok (.aload_n 0, 1) := by decide +kernel
theorem dX7_count_65 : decode cX7_count 65 = .ok (.getfield 65, 3) := by decide +kernel
theorem dX7_count_68 : decode cX7_count 68 = .ok (.getfield 105, 3) := by decide +kernel
theorem dX7_count_71 : decode cX7_count 71 = .ok (.ireturn, 1) := by decide +kernel
theorem dX7_count_72 : decode cX7_count 72 = .ok (.aload_n 0, 1) := by decide +kernel
theorem dX7_count_73 : decode cX7_count 73 = .ok (.getfield 65, 3) := by decide +kernel
theorem dX7_count_76 : decode cX7_count 76 = .ok (.getfield 98, 3) := by decide +kernel
theorem dX7_count_79 : decode cX7_count 79 = .ok (.ireturn, 1) := by decide +kernel
theorem dX7_count_80 : decode cX7_count 80 = .ok (.aload_n 0, 1) := by decide +kernel
theorem dX7_count_81 : decode cX7_count 81 = .ok (.getfield 65, 3) := by decide +kernel
theorem dX7_count_84 : decode cX7_count 84 = .ok (.getfield 102, 3) := by decide +kernel
theorem dX7_count_87 : decode cX7_count 87 = .ok (.ireturn, 1) := by decide +kernel
theorem dX7_count_88 : decode cX7_count 88 = .ok (.aload_n 0, 1) := by decide +kernel
theorem dX7_count_89 : decode cX7_count 89 = .ok (.getfield 19, 3) := by decide +kernel
theorem dX7_count_92 : decode cX7_count 92 = .ok (.getfield 161, 3) := by decide +kernel
theorem dX7_count_95 : decode cX7_count 95 = .ok (.ireturn, 1) := by decide +kernel
theorem dX7_count_96 : decode cX7_count 96 = .ok (.aload_n 0, 1) := by decide +kernel
theorem dX7_count_97 : decode cX7_count 97 = .ok (.getfield 19, 3) := by decide +kernel
theorem dX7_count_100 : decode cX7_count 100 = .ok (.aload_n 0, 1) := by decide +kernel
theorem dX7_count_101 : decode cX7_count 101 = .ok (.getfield 65, 3) := by decide +kernel
theorem dX7_count_104 : decode cX7_count 104 = .ok (.iconst 1, 1) := by decide +kernel
theorem dX7_count_105 : decode cX7_count 105 = .ok (.invokevirtual 152, 3) := by decide +kernel
theorem dX7_count_108 : decode cX7_count 108 = .ok (.ireturn, 1) := by decide +kernel
theorem dX7_count_109 : decode cX7_count 109 = .ok (.aload_n 0, 1) := by decide +kernel
theorem dX7_count_110 : decode cX7_count 110 = .ok (.getfield 19, 3) := by decide +kernel
theorem dX7_count_113 : decode cX7_count 113 = .ok (.aload_n 0, 1) := by decide +kernel
theorem dX7_count_114 : decode cX7_count 114 = .ok (.getfield 65, 3) := by decide +kernel
theorem dX7_count_117 : decode cX7_count 117 = .ok (.invokevirtual 280, 3) := by decide +kernel
theorem dX7_count_120 : decode cX7_count 120 = .ok (.ireturn, 1) := by decide +kernel
theorem dX7_count_121 : decode cX7_count 121 = .ok (.aload_n 0, 1) := by decide +kernel
theorem dX7_count_122 : decode cX7_count 122 = .ok (.getfield 19, 3) := by decide +kernel
theorem dX7_count_125 : decode cX7_count 125 = .ok (.getfield 283, 3) := by decide +kernel
theorem dX7_count_128 : decode cX7_count 128 = .ok (.ireturn, 1) := by decide +kernel
theorem dX7_count_129 : decode cX7_count 129 = .ok (.aload_n 0, 1) := by decide +kernel
theorem dX7_count_130 : decode cX7_count 130 = .ok (.getfield 29, 3) := by decide +kernel
theorem dX7_count_133 : decode cX7_count 133 = .ok (.getfield 167, 3) := by decide +kernel
theorem dX7_count_136 : decode cX7_count 136 = .ok (.ireturn, 1) := by decide +kernel
theorem dX7_count_137 : decode cX7_count 137 = .ok (.aload_n 0, 1) := by decide +kernel
theorem dX7_count_138 : decode cX7_count 138 = .ok (.getfield 43, 3) := by decide +kernel
theorem dX7_count_141 : decode cX7_count 141 = .ok (.getfield 260, 3) := by decide +kernel
theorem dX7_count_144 : decode cX7_count 144 = .ok (.ireturn, 1) := by decide +kernel
theorem dX7_count_145 : decode cX7_count 145 = .ok (.bipush (-2), 2) := by decide +kernel
theorem dX7_count_147 : decode cX7_count 147 = .ok (.ireturn, 1) := by decide +kernel
theorem dX7_figure_0 : decode cX7_figure 0 = .ok (.iload_n 1, 1) := by decide +kernel
theorem dX7_figure_1 : decode cX7_figure 1 = .ok (.iconst 1, 1) := by decide +kernel
theorem dX7_figure_2 : decode cX7_figure 2 = .ok (.isub, 1) := by decide +kernel
theorem dX7_figure_3 : decode cX7_figure 3 = .ok (.iload_n 2, 1) := by decide +kernel
theorem dX7_figure_4 : decode cX7_figure 4 = .ok (.isub, 1) := by decide +kernel
theorem dX7_figure_5 : decode cX7_figure 5 = .ok (.istore_n 3, 1) := by decide +kernel
theorem dX7_figure_6 : decode cX7_figure 6 = .ok (.iload_n 3, 1) := by decide +kernel
theorem dX7_figure_7 : decode cX7_figure 7 = .ok (.ifCond .lt 11, 3) := by decide +kernel
theorem dX7_figure_10 : decode cX7_figure 10 = .ok (.iload_n 3, 1) := by decide +kernel
theorem dX7_figure_11 : decode cX7_figure 11 = .ok (.getstatic 207, 3) := by decide +kernel
theorem dX7_figure_14 : decode cX7_figure 14 = .ok (.arraylength, 1) := by decide +kernel
theorem dX7_figure_15 : decode cX7_figure 15 = .ok (.if_icmp .lt 7, 3) := by decide +kernel
theorem dX7_figure_18 : decode cX7_figure 18 = .ok (.iconst 0, 1) := by decide +kernel
theorem dX7_figure_19 : decode cX7_figure 19 = .ok (.goto 13, 3) := by decide +kernel
theorem dX7_figure_22 : decode cX7_figure 22 = .ok (.iload_n 0, 1) := by decide +kernel
theorem dX7_figure_23 : decode cX7_figure 23 = .ok (.getstatic 207, 3) := by decide +kernel
theorem dX7_figure_26 : decode cX7_figure 26 = .ok (.iload_n 3, 1) := by decide +kernel
theorem dX7_figure_27 : decode cX7_figure 27 = .ok (.iaload, 1) := by decide +kernel
theorem dX7_figure_28 : decode cX7_figure 28 = .ok (.idiv, 1) := by decide +kernel
theorem dX7_figure_29 : decode cX7_figure 29 = .ok (.bipush 10, 2) := by decide +kernel
theorem dX7_figure_31 : decode cX7_figure 31 = .ok (.irem, 1) := by decide +kernel
theorem dX7_figure_32 : decode cX7_figure 32 = .ok (.ireturn, 1) := by decide +kernel
theorem dX7_fraction_0 : decode cX7_fraction 0 = .ok (.iload_n 1, 1) := by decide +kernel
theorem dX7_fraction_1 : decode cX7_fraction 1 = .ok (.istore_n 3, 1) := by decide +kernel
theorem dX7_fraction_2 : decode cX7_fraction 2 = .ok (.iload_n 0, 1) := by decide +kernel
theorem dX7_fraction_3 : decode cX7_fraction 3 = .ok (.istore 4, 2) := by decide +kernel
theorem dX7_fraction_5 : decode cX7_fraction 5 = .ok (.iconst 0, 1) := by decide +kernel
theorem dX7_fraction_6 : decode cX7_fraction 6 = .ok (.istore 5, 2) := by decide +kernel
theorem dX7_fraction_8 : decode cX7_fraction 8 = .ok (.iload 5, 2) := by decide +kernel
theorem dX7_fraction_10 : decode cX7_fraction 10 = .ok (.bipush 64, 2) := by decide +kernel
theorem dX7_fraction_12 : decode cX7_fraction 12 = .ok (.if_icmp .ge 27, 3) := by decide +kernel
theorem dX7_fraction_15 : decode cX7_fraction 15 = .ok (.iload 4, 2) := by decide +kernel
theorem dX7_fraction_17 : decode cX7_fraction 17 = .ok (.ifCond .eq 22, 3) := by decide +kernel
theorem dX7_fraction_20 : decode cX7_fraction 20 = .ok (.iload_n 3, 1) := by decide +kernel
theorem dX7_fraction_21 : decode cX7_fraction 21 = .ok (.iload 4, 2) := by decide +kernel
theorem dX7_fraction_23 : decode cX7_fraction 23 = .ok (.irem, 1) := by decide +kernel
theorem dX7_fraction_24 : decode cX7_fraction 24 = .ok (.istore 6, 2) := by decide +kernel
theorem dX7_fraction_26 : decode cX7_fraction 26 = .ok (.iload 4, 2) := by decide +kernel
theorem dX7_fraction_28 : decode cX7_fraction 28 = .ok (.istore_n 3, 1) := by decide +kernel
theorem dX7_fraction_29 : decode cX7_fraction 29 = .ok (.iload 6, 2) := by decide +kernel
theorem dX7_fraction_31 : decode cX7_fraction 31 = .ok (.istore 4, 2) := by decide +kernel
theorem dX7_fraction_33 : decode cX7_fraction 33 = .ok (.iinc 5 1, 3) := by decide +kernel
theorem dX7_fraction_36 : decode cX7_fraction 36 = .ok (.goto (-28), 3) := by decide +kernel
theorem dX7_fraction_39 : decode cX7_fraction 39 = .ok (.iload_n 3, 1) := by decide +kernel
theorem dX7_fraction_40 : decode cX7_fraction 40 = .ok (.ifCond .ne 5, 3) := by decide +kernel
theorem dX7_fraction_43 : decode cX7_fraction 43 = .ok (.iconst 0, 1) := by decide +kernel
theorem dX7_fraction_44 : decode cX7_fraction 44 = .ok (.ireturn, 1) := by decide +kernel
theorem dX7_fraction_45 : decode cX7_fraction 45 = .ok (.iload_n 2, 1) := by decide +kernel
theorem dX7_fraction_46 : decode cX7_fraction 46 = .ok (.ifCond .eq 9, 3) := by decide +kernel
theorem dX7_fraction_49 : decode cX7_fraction 49 = .ok (.iload_n 0, 1) := by decide +kernel
theorem dX7_fraction_50 : decode cX7_fraction 50 = .ok (.iload_n 3, 1) := by decide +kernel
theorem dX7_fraction_51 : decode cX7_fraction 51 = .ok (.idiv, 1) := by decide +kernel
theorem dX7_fraction_52 : decode cX7_fraction 52 = .ok (.goto 6, 3) := by decide +kernel
theorem dX7_fraction_55 : decode cX7_fraction 55 = .ok (.iload_n 1, 1) := by decide +kernel
theorem dX7_fraction_56 : decode cX7_fraction 56 = .ok (.iload_n 3, 1) := by decide +kernel
theorem dX7_fraction_57 : decode cX7_fraction 57 = .ok (.idiv, 1) := by decide +kernel
theorem dX7_fraction_58 : decode cX7_fraction 58 = .ok (.ireturn, 1) := by decide +kernel
theorem dL_law_0 : decode cL_law 0 = .ok (.new 7, 3) := by decide +kernel
theorem dL_law_3 : decode cL_law 3 = .ok (.dup, 1) := by decide +kernel
theorem dL_law_4 : decode cL_law 4 = .ok (.invokespecial 9, 3) := by decide +kernel
theorem dL_law_7 : decode cL_law 7 = .ok (.astore_n 1, 1) := by decide +kernel
theorem dL_law_8 : decode cL_law 8 = .ok (.new 10, 3) := by decide +kernel
theorem dL_law_11 : decode cL_law 11 = .ok (.dup, 1) := by decide +kernel
theorem dL_law_12 : decode cL_law 12 = .ok (.invokespecial 12, 3) := by decide +kernel
theorem dL_law_15 : decode cL_law 15 = .ok (.astore_n 2, 1) := by decide +kernel
theorem dL_law_16 : decode cL_law 16 = .ok (.iconst 0, 1) := by decide +kernel
theorem dL_law_17 : decode cL_law 17 = .ok (.istore_n 3, 1) := by decide +kernel
theorem dL_law_18 : decode cL_law 18 = .ok (.iload_n 3, 1) := by decide +kernel
theorem dL_law_19 : decode cL_law 19 = .ok (.aload_n 0, 1) := by decide +kernel
theorem dL_law_20 : decode cL_law 20 = .ok (.arraylength, 1) := by decide +kernel
theorem dL_law_21 : decode cL_law 21 = .ok (.iconst 5, 1) := by decide +kernel
theorem dL_law_22 : decode cL_law 22 = .ok (.isub, 1) := by decide +kernel
theorem dL_law_23 : decode cL_law 23 = .ok (.if_icmp .gt 1023, 3) := by decide +kernel
theorem dL_law_26 : decode cL_law 26 = .ok (.aload_n 0, 1) := by decide +kernel
theorem dL_law_27 : decode cL_law 27 = .ok (.iload_n 3, 1) := by decide +kernel
theorem dL_law_28 : decode cL_law 28 = .ok (.iaload, 1) := by decide +kernel
theorem dL_law_29 : decode cL_law 29 = .ok (.bipush 31, 2) := by decide +kernel
theorem dL_law_31 : decode cL_law 31 = .ok (.iand, 1) := by decide +kernel
theorem dL_law_32 : decode cL_law 32 = .ok (.tableswitch 1008 0 30 #[140, 163, 176, 189, 202, 225, 258, 291, 314, 337, 370, 383, 396, 409, 432, 445, 494, 527, 540, 573, 632, 655, 668, 691, 750, 793, 862, 916, 939, 962, 985], 140) := by decide +kernel
theorem dL_law_172 : decode cL_law 172 = .ok (.aload_n 1, 1) := by decide +kernel
theorem dL_law_173 : decode cL_law 173 = .ok (.aload_n 0, 1) := by decide +kernel
theorem dL_law_174 : decode cL_law 174 = .ok (.iload_n 3, 1) := by decide +kernel
theorem dL_law_175 : decode cL_law 175 = .ok (.iconst 1, 1) := by decide +kernel
theorem dL_law_176 : decode cL_law 176 = .ok (.iadd, 1) := by decide +kernel
theorem dL_law_177 : decode cL_law 177 = .ok (.iaload, 1) := by decide +kernel
theorem dL_law_178 : decode cL_law 178 = .ok (.invokevirtual 13, 3) := by decide +kernel
theorem dL_law_181 : decode cL_law 181 = .ok (.aload_n 2, 1) := by decide +kernel
theorem dL_law_182 : decode cL_law 182 = .ok (.aload_n 0, 1) := by decide +kernel
theorem dL_law_183 : decode cL_law 183 = .ok (.iload_n 3, 1) := by decide +kernel
theorem dL_law_184 : decode cL_law 184 = .ok (.iconst 1, 1) := by decide +kernel
theorem dL_law_185 : decode cL_law 185 = .ok (.iadd, 1) := by decide +kernel
theorem dL_law_186 : decode cL_law 186 = .ok (.iaload, 1) := by decide +kernel
theorem dL_law_187 : decode cL_law 187 = .ok (.invokevirtual 17, 3) := by decide +kernel
theorem dL_law_190 : decode cL_law 190 = .ok (.if_icmp .eq 850, 3) := by decide +kernel
theorem dL_law_193 : decode cL_law 193 = .ok (.iconst 0, 1) := by decide +kernel
theorem dL_law_194 : decode cL_law 194 = .ok (.ireturn, 1) := by decide +kernel
theorem dL_law_195 : decode cL_law 195 = .ok (.aload_n 1, 1) := by decide +kernel
theorem dL_law_196 : decode cL_law 196 = .ok (.invokevirtual 18, 3) := by decide +kernel
theorem dL_law_199 : decode cL_law 199 = .ok (.aload_n 2, 1) := by decide +kernel
theorem dL_law_200 : decode cL_law 200 = .ok (.invokevirtual 22, 3) := by decide +kernel
theorem dL_law_203 : decode cL_law 203 = .ok (.if_icmp .eq 837, 3) := by decide +kernel
theorem dL_law_206 : decode cL_law 206 = .ok (.iconst 0, 1) := by decide +kernel
theorem dL_law_207 : decode cL_law 207 = .ok (.ireturn, 1) := by decide +kernel
theorem dL_law_208 : decode cL_law 208 = .ok (.aload_n 1, 1) := by decide +kernel
theorem dL_law_209 : decode cL_law 209 = .ok (.invokevirtual 23, 3) := by decide +kernel
theorem dL_law_212 : decode cL_law 212 = .ok (.aload_n 2, 1) := by decide +kernel
theorem dL_law_213 : decode cL_law 213 = .ok (.invokevirtual 26, 3) := by decide +kernel
theorem dL_law_216 : decode cL_law 216 = .ok (.if_icmp .eq 824, 3) := by decide +kernel
theorem dL_law_219 : decode cL_law 219 = .ok (.iconst 0, 1) := by decide +kernel
theorem dL_law_220 : decode cL_law 220 = .ok (.ireturn, 1) := by decide +kernel
theorem dL_law_221 : decode cL_law 221 = .ok (.aload_n 1, 1) := by decide +kernel
theorem dL_law_222 : decode cL_law 222 = .ok (.invokevirtual 27, 3) := by decide +kernel
theorem dL_law_225 : decode cL_law 225 = .ok (.aload_n 2, 1) := by decide +kernel
theorem dL_law_226 : decode cL_law 226 = .ok (.invokevirtual 30, 3) := by decide +kernel
theorem dL_law_229 : decode cL_law 229 = .ok (.if_icmp .eq 811, 3) := by decide +kernel
theorem dL_law_232 : decode cL_law 232 = .ok (.iconst 0, 1) := by decide +kernel
theorem dL_law_233 : decode cL_law 233 = .ok (.ireturn, 1) := by decide +kernel
theorem dL_law_234 : decode cL_law 234 = .ok (.aload_n 1, 1) := by decide +kernel
theorem dL_law_235 : decode cL_law 235 = .ok (.aload_n 0, 1) := by decide +kernel
theorem dL_law_236 : decode cL_law 236 = .ok (.iload_n 3, 1) := by decide +kernel
theorem dL_law_237 : decode cL_law 237 = .ok (.iconst 1, 1) := by decide +kernel
theorem dL_law_238 : decode cL_law 238 = .ok (.iadd, 1) := by decide +kernel
theorem dL_law_239 : decode cL_law 239 = .ok (.iaload, 1) := by decide +kernel
theorem dL_law_240 : decode cL_law 240 = .ok (.invokevirtual 31, 3) := by decide +kernel
theorem dL_law_243 : decode cL_law 243 = .ok (.aload_n 2, 1) := by decide +kernel
theorem dL_law_244 : decode cL_law 244 = .ok (.aload_n 0, 1) := by decide +kernel
theorem dL_law_245 : decode cL_law 245 = .ok (.iload_n 3, 1) := by decide +kernel
theorem dL_law_246 : decode cL_law 246 = .ok (.iconst 1, 1) := by decide +kernel
theorem dL_law_247 : decode cL_law 247 = .ok (.iadd, 1) := by decide +kernel
theorem dL_law_248 : decode cL_law 248 = .ok (.iaload, 1) := by decide +kernel
theorem dL_law_249 : decode cL_law 249 = .ok (.invokevirtual 34, 3) := by decide +kernel
theorem dL_law_252 : decode cL_law 252 = .ok (.if_icmp .eq 788, 3) := by decide +kernel
theorem dL_law_255 : decode cL_law 255 = .ok (.iconst 0, 1) := by decide +kernel
theorem dL_law_256 : decode cL_law 256 = .ok (.ireturn, 1) := by decide +kernel
theorem dL_law_257 : decode cL_law 257 = .ok (.aload_n 1, 1) := by decide +kernel
theorem dL_law_258 : decode cL_law 258 = .ok (.aload_n 0, 1) := by decide +kernel
theorem dL_law_259 : decode cL_law 259 = .ok (.iload_n 3, 1) := by decide +kernel
theorem dL_law_260 : decode cL_law 260 = .ok (.iconst 1, 1) := by decide +kernel
theorem dL_law_261 : decode cL_law 261 = .ok (.iadd, 1) := by decide +kernel
theorem dL_law_262 : decode cL_law 262 = .ok (.iaload, 1) := by decide +kernel
theorem dL_law_263 : decode cL_law 263 = .ok (.aload_n 0, 1) := by decide +kernel
theorem dL_law_264 : decode cL_law 264 = .ok (.iload_n 3, 1) := by decide +kernel
theorem dL_law_265 : decode cL_law 265 = .ok (.iconst 2, 1) := by decide +kernel
theorem dL_law_266 : decode cL_law 266 = .ok (.iadd, 1) := by decide +kernel
theorem dL_law_267 : decode cL_law 267 = .ok (.iaload, 1) := by decide +kernel
theorem dL_law_268 : decode cL_law 268 = .ok (.invokevirtual 35, 3) := by decide +kernel
theorem dL_law_271 : decode cL_law 271 = .ok (.aload_n 2, 1) := by decide +kernel
theorem dL_law_272 : decode cL_law 272 = .ok (.aload_n 0, 1) := by decide +kernel
theorem dL_law_273 : decode cL_law 273 = .ok (.iload_n 3, 1) := by decide +kernel
theorem dL_law_274 : decode cL_law 274 = .ok (.iconst 1, 1) := by decide +kernel
theorem dL_law_275 : decode cL_law 275 = .ok (.iadd, 1) := by decide +kernel
theorem dL_law_276 : decode cL_law 276 = .ok (.iaload, 1) := by decide +kernel
theorem dL_law_277 : decode cL_law 277 = .ok (.aload_n 0, 1) := by decide +kernel
theorem dL_law_278 : decode cL_law 278 = .ok (.iload_n 3, 1) := by decide +kernel
theorem dL_law_279 : decode cL_law 279 = .ok (.iconst 2, 1) := by decide +kernel
theorem dL_law_280 : decode cL_law 280 = .ok (.iadd, 1) := by decide +kernel
theorem dL_law_281 : decode cL_law 281 = .ok (.iaload, 1) := by decide +kernel
theorem dL_law_282 : decode cL_law 282 = .ok (.invokevirtual 39, 3) := by decide +kernel
theorem dL_law_285 : decode cL_law 285 = .ok (.if_icmp .eq 755, 3) := by decide +kernel
theorem dL_law_288 : decode cL_law 288 = .ok (.iconst 0, 1) := by decide +kernel
theorem dL_law_289 : decode cL_law 289 = .ok (.ireturn, 1) := by decide +kernel
theorem dL_law_290 : decode cL_law 290 = .ok (.aload_n 1, 1) := by decide +kernel
theorem dL_law_291 : decode cL_law 291 = .ok (.aload_n 0, 1) := by decide +kernel
theorem dL_law_292 : decode cL_law 292 = .ok (.iload_n 3, 1) := by decide +kernel
theorem dL_law_293 : decode cL_law 293 = .ok (.iconst 1, 1) := by decide +kernel
theorem dL_law_294 : decode cL_law 294 = .ok (.iadd, 1) := by decide +kernel
theorem dL_law_295 : decode cL_law 295 = .ok (.iaload, 1) := by decide +kernel
theorem dL_law_296 : decode cL_law 296 = .ok (.aload_n 0, 1) := by decide +kernel
theorem dL_law_297 : decode cL_law 297 = .ok (.iload_n 3, 1) := by decide +kernel
theorem dL_law_298 : decode cL_law 298 = .ok (.iconst 2, 1) := by decide +kernel
theorem dL_law_299 : decode cL_law 299 = .ok (.iadd, 1) := by decide +kernel
theorem dL_law_300 : decode cL_law 300 = .ok (.iaload, 1) := by decide +kernel
theorem dL_law_301 : decode cL_law 301 = .ok (.invokevirtual 40, 3) := by decide +kernel
theorem dL_law_304 : decode cL_law 304 = .ok (.aload_n 2, 1) := by decide +kernel
theorem dL_law_305 : decode cL_law 305 = .ok (.aload_n 0, 1) := by decide +kernel
theorem dL_law_306 : decode cL_law 306 = .ok (.iload_n 3, 1) := by decide +kernel
theorem dL_law_307 : decode cL_law 307 = .ok (.iconst 1, 1) := by decide +kernel
theorem dL_law_308 : decode cL_law 308 = .ok (.iadd, 1) := by decide +kernel
theorem dL_law_309 : decode cL_law 309 = .ok (.iaload, 1) := by decide +kernel
theorem dL_law_310 : decode cL_law 310 = .ok (.aload_n 0, 1) := by decide +kernel
theorem dL_law_311 : decode cL_law 311 = .ok (.iload_n 3, 1) := by decide +kernel
theorem dL_law_312 : decode cL_law 312 = .ok (.iconst 2, 1) := by decide +kernel
theorem dL_law_313 : decode cL_law 313 = .ok (.iadd, 1) := by decide +kernel
theorem dL_law_314 : decode cL_law 314 = .ok (.iaload, 1) := by decide +kernel
theorem dL_law_315 : decode cL_law 315 = .ok (.invokevirtual 43, 3) := by decide +kernel
theorem dL_law_318 : decode cL_law 318 = .ok (.if_icmp .eq 722, 3) := by decide +kernel
theorem dL_law_321 : decode cL_law 321 = .ok (.iconst 0, 1) := by decide +kernel
theorem dL_law_322 : decode cL_law 322 = .ok (.ireturn, 1) := by decide +kernel
theorem dL_law_323 : decode cL_law 323 = .ok (.aload_n 1, 1) := by decide +kernel
theorem dL_law_324 : decode cL_law 324 = .ok (.aload_n 0, 1) := by decide +kernel
theorem dL_law_325 : decode cL_law 325 = .ok (.iload_n 3, 1) := by decide +kernel
theorem dL_law_326 : decode cL_law 326 = .ok (.iconst 1, 1) := by decide +kernel
theorem dL_law_327 : decode cL_law 327 = .ok (.iadd, 1) := by decide +kernel
theorem dL_law_328 : decode cL_law 328 = .ok (.iaload, 1) := by decide +kernel
theorem dL_law_329 : decode cL_law 329 = .ok (.invokevirtual 44, 3) := by decide +kernel
theorem dL_law_332 : decode cL_law 332 = .ok (.aload_n 2, 1) := by decide +kernel
theorem dL_law_333 : decode cL_law 333 = .ok (.aload_n 0, 1) := by decide +kernel
theorem dL_law_334 : decode cL_law 334 = .ok (.iload_n 3, 1) := by decide +kernel
theorem dL_law_335 : decode cL_law 335 = .ok (.iconst 1, 1) := by decide +kernel
theorem dL_law_336 : decode cL_law 336 = .ok (.iadd, 1) := by decide +kernel
theorem dL_law_337 : decode cL_law 337 = .ok (.iaload, 1) := by decide +kernel
theorem dL_law_338 : decode cL_law 338 = .ok (.invokevirtual 47, 3) := by decide +kernel
theorem dL_law_341 : decode cL_law 341 = .ok (.if_icmp .eq 699, 3) := by decide +kernel
theorem dL_law_344 : decode cL_law 344 = .ok (.iconst 0, 1) := by decide +kernel
theorem dL_law_345 : decode cL_law 345 = .ok (.ireturn, 1) := by decide +kernel
theorem dL_law_346 : decode cL_law 346 = .ok (.aload_n 1, 1) := by decide +kernel
theorem dL_law_347 : decode cL_law 347 = .ok (.aload_n 0, 1) := by decide +kernel
theorem dL_law_348 : decode cL_law 348 = .ok (.iload_n 3, 1) := by decide +kernel
theorem dL_law_349 : decode cL_law 349 = .ok (.iconst 1, 1) := by decide +kernel
theorem dL_law_350 : decode cL_law 350 = .ok (.iadd, 1) := by decide +kernel
theorem dL_law_351 : decode cL_law 351 = .ok (.iaload, 1) := by decide +kernel
theorem dL_law_352 : decode cL_law 352 = .ok (.invokevirtual 48, 3) := by decide +kernel
theorem dL_law_355 : decode cL_law 355 = .ok (.aload_n 2, 1) := by decide +kernel
theorem dL_law_356 : decode cL_law 356 = .ok (.aload_n 0, 1) := by decide +kernel
theorem dL_law_357 : decode cL_law 357 = .ok (.iload_n 3, 1) := by decide +kernel
theorem dL_law_358 : decode cL_law 358 = .ok (.iconst 1, 1) := by decide +kernel
theorem dL_law_359 : decode cL_law 359 = .ok (.iadd, 1) := by decide +kernel
theorem dL_law_360 : decode cL_law 360 = .ok (.iaload, 1) := by decide +kernel
theorem dL_law_361 : decode cL_law 361 = .ok (.invokevirtual 51, 3) := by decide +kernel
theorem dL_law_364 : decode cL_law 364 = .ok (.if_icmp .eq 676, 3) := by decide +kernel
theorem dL_law_367 : decode cL_law 367 = .ok (.iconst 0, 1) := by decide +kernel
theorem dL_law_368 : decode cL_law 368 = .ok (.ireturn, 1) := by decide +kernel
theorem dL_law_369 : decode cL_law 369 = .ok (.aload_n 1, 1) := by decide +kernel
theorem dL_law_370 : decode cL_law 370 = .ok (.aload_n 0, 1) := by decide +kernel
theorem dL_law_371 : decode cL_law 371 = .ok (.iload_n 3, 1) := by decide +kernel
theorem dL_law_372 : decode cL_law 372 = .ok (.iconst 1, 1) := by decide +kernel
theorem dL_law_373 : decode cL_law 373 = .ok (.iadd, 1) := by decide +kernel
theorem dL_law_374 : decode cL_law 374 = .ok (.iaload, 1) := by decide +kernel
theorem dL_law_375 : decode cL_law 375 = .ok (.aload_n 0, 1) := by decide +kernel
theorem dL_law_376 : decode cL_law 376 = .ok (.iload_n 3, 1) := by decide +kernel
theorem dL_law_377 : decode cL_law 377 = .ok (.iconst 2, 1) := by decide +kernel
theorem dL_law_378 : decode cL_law 378 = .ok (.iadd, 1) := by decide +kernel
theorem dL_law_379 : decode cL_law 379 = .ok (.iaload, 1) := by decide +kernel
theorem dL_law_380 : decode cL_law 380 = .ok (.invokevirtual 52, 3) := by decide +kernel
theorem dL_law_383 : decode cL_law 383 = .ok (.aload_n 2, 1) := by decide +kernel
theorem dL_law_384 : decode cL_law 384 = .ok (.aload_n 0, 1) := by decide +kernel
theorem dL_law_385 : decode cL_law 385 = .ok (.iload_n 3, 1) := by decide +kernel
theorem dL_law_386 : decode cL_law 386 = .ok (.iconst 1, 1) := by decide +kernel
theorem dL_law_387 : decode cL_law 387 = .ok (.iadd, 1) := by decide +kernel
theorem dL_law_388 : decode cL_law 388 = .ok (.iaload, 1) := by decide +kernel
theorem dL_law_389 : decode cL_law 389 = .ok (.aload_n 0, 1) := by decide +kernel
theorem dL_law_390 : decode cL_law 390 = .ok (.iload_n 3, 1) := by decide +kernel
theorem dL_law_391 : decode cL_law 391 = .ok (.iconst 2, 1) := by decide +kernel
theorem dL_law_392 : decode cL_law 392 = .ok (.iadd, 1) := by decide +kernel
theorem dL_law_393 : decode cL_law 393 = .ok (.iaload, 1) := by decide +kernel
theorem dL_law_394 : decode cL_law 394 = .ok (.invokevirtual 55, 3) := by decide +kernel
theorem dL_law_397 : decode cL_law 397 = .ok (.if_icmp .eq 643, 3) := by decide +kernel
theorem dL_law_400 : decode cL_law 400 = .ok (.iconst 0, 1) := by decide +kernel
theorem dL_law_401 : decode cL_law 401 = .ok (.ireturn, 1) := by decide +kernel
theorem dL_law_402 : decode cL_law 402 = .ok (.aload_n 1, 1) := by decide +kernel
theorem dL_law_403 : decode cL_law 403 = .ok (.invokevirtual 56, 3) := by decide +kernel
theorem dL_law_406 : decode cL_law 406 = .ok (.aload_n 2, 1) := by decide +kernel
theorem dL_law_407 : decode cL_law 407 = .ok (.invokevirtual 59, 3) := by decide +kernel
theorem dL_law_410 : decode cL_law 410 = .ok (.if_icmp .eq 630, 3) := by decide +kernel
theorem dL_law_413 : decode cL_law 413 = .ok (.iconst 0, 1) := by decide +kernel
theorem dL_law_414 : decode cL_law 414 = .ok (.ireturn, 1) := by decide +kernel
theorem dL_law_415 : decode cL_law 415 = .ok (.aload_n 1, 1) := by decide +kernel
theorem dL_law_416 : decode cL_law 416 = .ok (.invokevirtual 60, 3) := by decide +kernel
theorem dL_law_419 : decode cL_law 419 = .ok (.aload_n 2, 1) := by decide +kernel
theorem dL_law_420 : decode cL_law 420 = .ok (.invokevirtual 63, 3) := by decide +kernel
theorem dL_law_423 : decode cL_law 423 = .ok (.if_icmp .eq 617, 3) := by decide +kernel
theorem dL_law_426 : decode cL_law 426 = .ok (.iconst 0, 1) := by decide +kernel
theorem dL_law_427 : decode cL_law 427 = .ok (.ireturn, 1) := by decide +kernel
theorem dL_law_428 : decode cL_law 428 = .ok (.aload_n 1, 1) := by decide +kernel
theorem dL_law_429 : decode cL_law 429 = .ok (.invokevirtual 64, 3) := by decide +kernel
theorem dL_law_432 : decode cL_law 432 = .ok (.aload_n 2, 1) := by decide +kernel
theorem dL_law_433 : decode cL_law 433 = .ok (.invokevirtual 67, 3) := by decide +kernel
theorem dL_law_436 : decode cL_law 436 = .ok (.if_icmp .eq 604, 3) := by decide +kernel
theorem dL_law_439 : decode cL_law 439 = .ok (.iconst 0, 1) := by decide +kernel
theorem dL_law_440 : decode cL_law 440 = .ok (.ireturn, 1) := by decide +kernel
theorem dL_law_441 : decode cL_law 441 = .ok (.aload_n 1, 1) := by decide +kernel
theorem dL_law_442 : decode cL_law 442 = .ok (.aload_n 0, 1) := by decide +kernel
theorem dL_law_443 : decode cL_law 443 = .ok (.iload_n 3, 1) := by decide +kernel
theorem dL_law_444 : decode cL_law 444 = .ok (.iconst 1, 1) := by decide +kernel
theorem dL_law_445 : decode cL_law 445 = .ok (.iadd, 1) := by decide +kernel
theorem dL_law_446 : decode cL_law 446 = .ok (.iaload, 1) := by decide +kernel
theorem dL_law_447 : decode cL_law 447 = .ok (.invokevirtual 68, 3) := by decide +kernel
theorem dL_law_450 : decode cL_law 450 = .ok (.aload_n 2, 1) := by decide +kernel
theorem dL_law_451 : decode cL_law 451 = .ok (.aload_n 0, 1) := by decide +kernel
theorem dL_law_452 : decode cL_law 452 = .ok (.iload_n 3, 1) := by decide +kernel
theorem dL_law_453 : decode cL_law 453 = .ok (.iconst 1, 1) := by decide +kernel
theorem dL_law_454 : decode cL_law 454 = .ok (.iadd, 1) := by decide +kernel
theorem dL_law_455 : decode cL_law 455 = .ok (.iaload, 1) := by decide +kernel
theorem dL_law_456 : decode cL_law 456 = .ok (.invokevirtual 71, 3) := by decide +kernel
theorem dL_law_459 : decode cL_law 459 = .ok (.if_icmp .eq 581, 3) := by decide +kernel
theorem dL_law_462 : decode cL_law 462 = .ok (.iconst 0, 1) := by decide +kernel
theorem dL_law_463 : decode cL_law 463 = .ok (.ireturn, 1) := by decide +kernel
theorem dL_law_464 : decode cL_law 464 = .ok (.aload_n 1, 1) := by decide +kernel
theorem dL_law_465 : decode cL_law 465 = .ok (.invokevirtual 72, 3) := by decide +kernel
theorem dL_law_468 : decode cL_law 468 = .ok (.aload_n 2, 1) := by decide +kernel
theorem dL_law_469 : decode cL_law 469 = .ok (.invokevirtual 75, 3) := by decide +kernel
theorem dL_law_472 : decode cL_law 472 = .ok (.if_icmp .eq 568, 3) := by decide +kernel
theorem dL_law_475 : decode cL_law 475 = .ok (.iconst 0, 1) := by decide +kernel
theorem dL_law_476 : decode cL_law 476 = .ok (.ireturn, 1) := by decide +kernel
theorem dL_law_477 : decode cL_law 477 = .ok (.aload_n 1, 1) := by decide +kernel
theorem dL_law_478 : decode cL_law 478 = .ok (.aload_n 0, 1) := by decide +kernel
theorem dL_law_479 : decode cL_law 479 = .ok (.iload_n 3, 1) := by decide +kernel
theorem dL_law_480 : decode cL_law 480 = .ok (.iconst 1, 1) := by decide +kernel
theorem dL_law_481 : decode cL_law 481 = .ok (.iadd, 1) := by decide +kernel
theorem dL_law_482 : decode cL_law 482 = .ok (.iaload, 1) := by decide +kernel
theorem dL_law_483 : decode cL_law 483 = .ok (.aload_n 0, 1) := by decide +kernel
theorem dL_law_484 : decode cL_law 484 = .ok (.iload_n 3, 1) := by decide +kernel
theorem dL_law_485 : decode cL_law 485 = .ok (.iconst 2, 1) := by decide +kernel
theorem dL_law_486 : decode cL_law 486 = .ok (.iadd, 1) := by decide +kernel
theorem dL_law_487 : decode cL_law 487 = .ok (.iaload, 1) := by decide +kernel
theorem dL_law_488 : decode cL_law 488 = .ok (.ifCond .eq 7, 3) := by decide +kernel
theorem dL_law_491 : decode cL_law 491 = .ok (.iconst 1, 1) := by decide +kernel
theorem dL_law_492 : decode cL_law 492 = .ok (.goto 4, 3) := by decide +kernel
theorem dL_law_495 : decode cL_law 495 = .ok (.iconst 0, 1) := by decide +kernel
theorem dL_law_496 : decode cL_law 496 = .ok (.invokevirtual 76, 3) := by decide +kernel
theorem dL_law_499 : decode cL_law 499 = .ok (.aload_n 2, 1) := by decide +kernel
theorem dL_law_500 : decode cL_law 500 = .ok (.aload_n 0, 1) := by decide +kernel
theorem dL_law_501 : decode cL_law 501 = .ok (.iload_n 3, 1) := by decide +kernel
theorem dL_law_502 : decode cL_law 502 = .ok (.iconst 1, 1) := by decide +kernel
theorem dL_law_503 : decode cL_law 503 = .ok (.iadd, 1) := by decide +kernel
theorem dL_law_504 : decode cL_law 504 = .ok (.iaload, 1) := by decide +kernel
theorem dL_law_505 : decode cL_law 505 = .ok (.aload_n 0, 1) := by decide +kernel
theorem dL_law_506 : decode cL_law 506 = .ok (.iload_n 3, 1) := by decide +kernel
theorem dL_law_507 : decode cL_law 507 = .ok (.iconst 2, 1) := by decide +kernel
theorem dL_law_508 : decode cL_law 508 = .ok (.iadd, 1) := by decide +kernel
theorem dL_law_509 : decode cL_law 509 = .ok (.iaload, 1) := by decide +kernel
theorem dL_law_510 : decode cL_law 510 = .ok (.ifCond .eq 7, 3) := by decide +kernel
theorem dL_law_513 : decode cL_law 513 = .ok (.iconst 1, 1) := by decide +kernel
theorem dL_law_514 : decode cL_law 514 = .ok (.goto 4, 3) := by decide +kernel
theorem dL_law_517 : decode cL_law 517 = .ok (.iconst 0, 1) := by decide +kernel
theorem dL_law_518 : decode cL_law 518 = .ok (.invokevirtual 80, 3) := by decide +kernel
theorem dL_law_521 : decode cL_law 521 = .ok (.if_icmp .eq 519, 3) := by decide +kernel
theorem dL_law_524 : decode cL_law 524 = .ok (.iconst 0, 1) := by decide +kernel
theorem dL_law_525 : decode cL_law 525 = .ok (.ireturn, 1) := by decide +kernel
theorem dL_law_526 : decode cL_law 526 = .ok (.aload_n 1, 1) := by decide +kernel
theorem dL_law_527 : decode cL_law 527 = .ok (.aload_n 0, 1) := by decide +kernel
theorem dL_law_528 : decode cL_law 528 = .ok (.iload_n 3, 1) := by decide +kernel
theorem dL_law_529 : decode cL_law 529 = .ok (.iconst 1, 1) := by decide +kernel
theorem dL_law_530 : decode cL_law 530 = .ok (.iadd, 1) := by decide +kernel
theorem dL_law_531 : decode cL_law 531 = .ok (.iaload, 1) := by decide +kernel
theorem dL_law_532 : decode cL_law 532 = .ok (.aload_n 0, 1) := by decide +kernel
theorem dL_law_533 : decode cL_law 533 = .ok (.iload_n 3, 1) := by decide +kernel
theorem dL_law_534 : decode cL_law 534 = .ok (.iconst 2, 1) := by decide +kernel
theorem dL_law_535 : decode cL_law 535 = .ok (.iadd, 1) := by decide +kernel
theorem dL_law_536 : decode cL_law 536 = .ok (.iaload, 1) := by decide +kernel
theorem dL_law_537 : decode cL_law 537 = .ok (.invokevirtual 81, 3) := by decide +kernel
theorem dL_law_540 : decode cL_law 540 = .ok (.aload_n 2, 1) := by decide +kernel
theorem dL_law_541 : decode cL_law 541 = .ok (.aload_n 0, 1) := by decide +kernel
theorem dL_law_542 : decode cL_law 542 = .ok (.iload_n 3, 1) := by decide +kernel
theorem dL_law_543 : decode cL_law 543 = .ok (.iconst 1, 1) := by decide +kernel
theorem dL_law_544 : decode cL_law 544 = .ok (.iadd, 1) := by decide +kernel
theorem dL_law_545 : decode cL_law 545 = .ok (.iaload, 1) := by decide +kernel
theorem dL_law_546 : decode cL_law 546 = .ok (.aload_n 0, 1) := by decide +kernel
theorem dL_law_547 : decode cL_law 547 = .ok (.iload_n 3, 1) := by decide +kernel
theorem dL_law_548 : decode cL_law 548 = .ok (.iconst 2, 1) := by decide +kernel
theorem dL_law_549 : decode cL_law 549 = .ok (.iadd, 1) := by decide +kernel
theorem dL_law_550 : decode cL_law 550 = .ok (.iaload, 1) := by decide +kernel
theorem dL_law_551 : decode cL_law 551 = .ok (.invokevirtual 84, 3) := by decide +kernel
theorem dL_law_554 : decode cL_law 554 = .ok (.if_icmp .eq 486, 3) := by decide +kernel
theorem dL_law_557 : decode cL_law 557 = .ok (.iconst 0, 1) := by decide +kernel
theorem dL_law_558 : decode cL_law 558 = .ok (.ireturn, 1) := by decide +kernel
theorem dL_law_559 : decode cL_law 559 = .ok (.aload_n 1, 1) := by decide +kernel
theorem dL_law_560 : decode cL_law 560 = .ok (.invokevirtual 85, 3) := by decide +kernel
theorem dL_law_563 : decode cL_law 563 = .ok (.aload_n 2, 1) := by decide +kernel
theorem dL_law_564 : decode cL_law 564 = .ok (.invokevirtual 88, 3) := by decide +kernel
theorem dL_law_567 : decode cL_law 567 = .ok (.if_icmp .eq 473, 3) := by decide +kernel
theorem dL_law_570 : decode cL_law 570 = .ok (.iconst 0, 1) := by decide +kernel
theorem dL_law_571 : decode cL_law 571 = .ok (.ireturn, 1) := by decide +kernel
theorem dL_law_572 : decode cL_law 572 = .ok (.aload_n 1, 1) := by decide +kernel
theorem dL_law_573 : decode cL_law 573 = .ok (.aload_n 0, 1) := by decide +kernel
theorem dL_law_574 : decode cL_law 574 = .ok (.iload_n 3, 1) := by decide +kernel
theorem dL_law_575 : decode cL_law 575 = .ok (.iconst 1, 1) := by decide +kernel
theorem dL_law_576 : decode cL_law 576 = .ok (.iadd, 1) := by decide +kernel
theorem dL_law_577 : decode cL_law 577 = .ok (.iaload, 1) := by decide +kernel
theorem dL_law_578 : decode cL_law 578 = .ok (.aload_n 0, 1) := by decide +kernel
theorem dL_law_579 : decode cL_law 579 = .ok (.iload_n 3, 1) := by decide +kernel
theorem dL_law_580 : decode cL_law 580 = .ok (.iconst 2, 1) := by decide +kernel
theorem dL_law_581 : decode cL_law 581 = .ok (.iadd, 1) := by decide +kernel
theorem dL_law_582 : decode cL_law 582 = .ok (.iaload, 1) := by decide +kernel
theorem dL_law_583 : decode cL_law 583 = .ok (.invokevirtual 89, 3) := by decide +kernel
theorem dL_law_586 : decode cL_law 586 = .ok (.aload_n 2, 1) := by decide +kernel
theorem dL_law_587 : decode cL_law 587 = .ok (.aload_n 0, 1) := by decide +kernel
theorem dL_law_588 : decode cL_law 588 = .ok (.iload_n 3, 1) := by decide +kernel
theorem dL_law_589 : decode cL_law 589 = .ok (.iconst 1, 1) := by decide +kernel
theorem dL_law_590 : decode cL_law 590 = .ok (.iadd, 1) := by decide +kernel
theorem dL_law_591 : decode cL_law 591 = .ok (.iaload, 1) := by decide +kernel
theorem dL_law_592 : decode cL_law 592 = .ok (.aload_n 0, 1) := by decide +kernel
theorem dL_law_593 : decode cL_law 593 = .ok (.iload_n 3, 1) := by decide +kernel
theorem dL_law_594 : decode cL_law 594 = .ok (.iconst 2, 1) := by decide +kernel
theorem dL_law_595 : decode cL_law 595 = .ok (.iadd, 1) := by decide +kernel
theorem dL_law_596 : decode cL_law 596 = .ok (.iaload, 1) := by decide +kernel
theorem dL_law_597 : decode cL_law 597 = .ok (.invokevirtual 92, 3) := by decide +kernel
theorem dL_law_600 : decode cL_law 600 = .ok (.if_icmp .eq 440, 3) := by decide +kernel
theorem dL_law_603 : decode cL_law 603 = .ok (.iconst 0, 1) := by decide +kernel
theorem dL_law_604 : decode cL_law 604 = .ok (.ireturn, 1) := by decide +kernel
theorem dL_law_605 : decode cL_law 605 = .ok (.aload_n 1, 1) := by decide +kernel
theorem dL_law_606 : decode cL_law 606 = .ok (.aload_n 0, 1) := by decide +kernel
theorem dL_law_607 : decode cL_law 607 = .ok (.iload_n 3, 1) := by decide +kernel
theorem dL_law_608 : decode cL_law 608 = .ok (.iconst 1, 1) := by decide +kernel
theorem dL_law_609 : decode cL_law 609 = .ok (.iadd, 1) := by decide +kernel
theorem dL_law_610 : decode cL_law 610 = .ok (.iaload, 1) := by decide +kernel
theorem dL_law_611 : decode cL_law 611 = .ok (.aload_n 0, 1) := by decide +kernel
theorem dL_law_612 : decode cL_law 612 = .ok (.iload_n 3, 1) := by decide +kernel
theorem dL_law_613 : decode cL_law 613 = .ok (.iconst 2, 1) := by decide +kernel
theorem dL_law_614 : decode cL_law 614 = .ok (.iadd, 1) := by decide +kernel
theorem dL_law_615 : decode cL_law 615 = .ok (.iaload, 1) := by decide +kernel
theorem dL_law_616 : decode cL_law 616 = .ok (.aload_n 0, 1) := by decide +kernel
theorem dL_law_617 : decode cL_law 617 = .ok (.iload_n 3, 1) := by decide +kernel
theorem dL_law_618 : decode cL_law 618 = .ok (.iconst 3, 1) := by decide +kernel
theorem dL_law_619 : decode cL_law 619 = .ok (.iadd, 1) := by decide +kernel
theorem dL_law_620 : decode cL_law 620 = .ok (.iaload, 1) := by decide +kernel
theorem dL_law_621 : decode cL_law 621 = .ok (.ifCond .eq 7, 3) := by decide +kernel
theorem dL_law_624 : decode cL_law 624 = .ok (.iconst 1, 1) := by decide +kernel
theorem dL_law_625 : decode cL_law 625 = .ok (.goto 4, 3) := by decide +kernel
theorem dL_law_628 : decode cL_law 628 = .ok (.iconst 0, 1) := by decide +kernel
theorem dL_law_629 : decode cL_law 629 = .ok (.invokevirtual 93, 3) := by decide +kernel
theorem dL_law_632 : decode cL_law 632 = .ok (.aload_n 2, 1) := by decide +kernel
theorem dL_law_633 : decode cL_law 633 = .ok (.aload_n 0, 1) := by decide +kernel
theorem dL_law_634 : decode cL_law 634 = .ok (.iload_n 3, 1) := by decide +kernel
theorem dL_law_635 : decode cL_law 635 = .ok (.iconst 1, 1) := by decide +kernel
theorem dL_law_636 : decode cL_law 636 = .ok (.iadd, 1) := by decide +kernel
theorem dL_law_637 : decode cL_law 637 = .ok (.iaload, 1) := by decide +kernel
theorem dL_law_638 : decode cL_law 638 = .ok (.aload_n 0, 1) := by decide +kernel
theorem dL_law_639 : decode cL_law 639 = .ok (.iload_n 3, 1) := by decide +kernel
theorem dL_law_640 : decode cL_law 640 = .ok (.iconst 2, 1) := by decide +kernel
theorem dL_law_641 : decode cL_law 641 = .ok (.iadd, 1) := by decide +kernel
theorem dL_law_642 : decode cL_law 642 = .ok (.iaload, 1) := by decide +kernel
theorem dL_law_643 : decode cL_law 643 = .ok (.aload_n 0, 1) := by decide +kernel
theorem dL_law_644 : decode cL_law 644 = .ok (.iload_n 3, 1) := by decide +kernel
theorem dL_law_645 : decode cL_law 645 = .ok (.iconst 3, 1) := by decide +kernel
theorem dL_law_646 : decode cL_law 646 = .ok (.iadd, 1) := by decide +kernel
theorem dL_law_647 : decode cL_law 647 = .ok (.iaload, 1) := by decide +kernel
theorem dL_law_648 : decode cL_law 648 = .ok (.ifCond .eq 7, 3) := by decide +kernel
theorem dL_law_651 : decode cL_law 651 = .ok (.iconst 1, 1) := by decide +kernel
theorem dL_law_652 : decode cL_law 652 = .ok (.goto 4, 3) := by decide +kernel
theorem dL_law_655 : decode cL_law 655 = .ok (.iconst 0, 1) := by decide +kernel
theorem dL_law_656 : decode cL_law 656 = .ok (.invokevirtual 97, 3) := by decide +kernel
theorem dL_law_659 : decode cL_law 659 = .ok (.if_icmp .eq 381, 3) := by decide +kernel
theorem dL_law_662 : decode cL_law 662 = .ok (.iconst 0, 1) := by decide +kernel
theorem dL_law_663 : decode cL_law 663 = .ok (.ireturn, 1) := by decide +kernel
theorem dL_law_664 : decode cL_law 664 = .ok (.aload_n 1, 1) := by decide +kernel
theorem dL_law_665 : decode cL_law 665 = .ok (.aload_n 0, 1) := by decide +kernel
theorem dL_law_666 : decode cL_law 666 = .ok (.iload_n 3, 1) := by decide +kernel
theorem dL_law_667 : decode cL_law 667 = .ok (.iconst 1, 1) := by decide +kernel
theorem dL_law_668 : decode cL_law 668 = .ok (.iadd, 1) := by decide +kernel
theorem dL_law_669 : decode cL_law 669 = .ok (.iaload, 1) := by decide +kernel
theorem dL_law_670 : decode cL_law 670 = .ok (.invokevirtual 98, 3) := by decide +kernel
theorem dL_law_673 : decode cL_law 673 = .ok (.aload_n 2, 1) := by decide +kernel
theorem dL_law_674 : decode cL_law 674 = .ok (.aload_n 0, 1) := by decide +kernel
theorem dL_law_675 : decode cL_law 675 = .ok (.iload_n 3, 1) := by decide +kernel
theorem dL_law_676 : decode cL_law 676 = .ok (.iconst 1, 1) := by decide +kernel
theorem dL_law_677 : decode cL_law 677 = .ok (.iadd, 1) := by decide +kernel
theorem dL_law_678 : decode cL_law 678 = .ok (.iaload, 1) := by decide +kernel
theorem dL_law_679 : decode cL_law 679 = .ok (.invokevirtual 101, 3) := by decide +kernel
theorem dL_law_682 : decode cL_law 682 = .ok (.if_icmp .eq 358, 3) := by decide +kernel
theorem dL_law_685 : decode cL_law 685 = .ok (.iconst 0, 1) := by decide +kernel
theorem dL_law_686 : decode cL_law 686 = .ok (.ireturn, 1) := by decide +kernel
theorem dL_law_687 : decode cL_law 687 = .ok (.aload_n 1, 1) := by decide +kernel
theorem dL_law_688 : decode cL_law 688 = .ok (.invokevirtual 102, 3) := by decide +kernel
theorem dL_law_691 : decode cL_law 691 = .ok (.aload_n 2, 1) := by decide +kernel
theorem dL_law_692 : decode cL_law 692 = .ok (.invokevirtual 105, 3) := by decide +kernel
theorem dL_law_695 : decode cL_law 695 = .ok (.if_icmp .eq 345, 3) := by decide +kernel
theorem dL_law_698 : decode cL_law 698 = .ok (.iconst 0, 1) := by decide +kernel
theorem dL_law_699 : decode cL_law 699 = .ok (.ireturn, 1) := by decide +kernel
theorem dL_law_700 : decode cL_law 700 = .ok (.aload_n 1, 1) := by decide +kernel
theorem dL_law_701 : decode cL_law 701 = .ok (.aload_n 0, 1) := by decide +kernel
theorem dL_law_702 : decode cL_law 702 = .ok (.iload_n 3, 1) := by decide +kernel
theorem dL_law_703 : decode cL_law 703 = .ok (.iconst 1, 1) := by decide +kernel
theorem dL_law_704 : decode cL_law 704 = .ok (.iadd, 1) := by decide +kernel
theorem dL_law_705 : decode cL_law 705 = .ok (.iaload, 1) := by decide +kernel
theorem dL_law_706 : decode cL_law 706 = .ok (.invokevirtual 106, 3) := by decide +kernel
theorem dL_law_709 : decode cL_law 709 = .ok (.aload_n 2, 1) := by decide +kernel
theorem dL_law_710 : decode cL_law 710 = .ok (.aload_n 0, 1) := by decide +kernel
theorem dL_law_711 : decode cL_law 711 = .ok (.iload_n 3, 1) := by decide +kernel
theorem dL_law_712 : decode cL_law 712 = .ok (.iconst 1, 1) := by decide +kernel
theorem dL_law_713 : decode cL_law 713 = .ok (.iadd, 1) := by decide +kernel
theorem dL_law_714 : decode cL_law 714 = .ok (.iaload, 1) := by decide +kernel
theorem dL_law_715 : decode cL_law 715 = .ok (.invokevirtual 109, 3) := by decide +kernel
theorem dL_law_718 : decode cL_law 718 = .ok (.if_icmp .eq 322, 3) := by decide +kernel
theorem dL_law_721 : decode cL_law 721 = .ok (.iconst 0, 1) := by decide +kernel
theorem dL_law_722 : decode cL_law 722 = .ok (.ireturn, 1) := by decide +kernel
theorem dL_law_723 : decode cL_law 723 = .ok (.aload_n 1, 1) := by decide +kernel
theorem dL_law_724 : decode cL_law 724 = .ok (.aload_n 0, 1) := by decide +kernel
theorem dL_law_725 : decode cL_law 725 = .ok (.iload_n 3, 1) := by decide +kernel
theorem dL_law_726 : decode cL_law 726 = .ok (.iconst 1, 1) := by decide +kernel
theorem dL_law_727 : decode cL_law 727 = .ok (.iadd, 1) := by decide +kernel
theorem dL_law_728 : decode cL_law 728 = .ok (.iaload, 1) := by decide +kernel
theorem dL_law_729 : decode cL_law 729 = .ok (.aload_n 0, 1) := by decide +kernel
theorem dL_law_730 : decode cL_law 730 = .ok (.iload_n 3, 1) := by decide +kernel
theorem dL_law_731 : decode cL_law 731 = .ok (.iconst 2, 1) := by decide +kernel
theorem dL_law_732 : decode cL_law 732 = .ok (.iadd, 1) := by decide +kernel
theorem dL_law_733 : decode cL_law 733 = .ok (.iaload, 1) := by decide +kernel
theorem dL_law_734 : decode cL_law 734 = .ok (.aload_n 0, 1) := by decide +kernel
theorem dL_law_735 : decode cL_law 735 = .ok (.iload_n 3, 1) := by decide +kernel
theorem dL_law_736 : decode cL_law 736 = .ok (.iconst 3, 1) := by decide +kernel
theorem dL_law_737 : decode cL_law 737 = .ok (.iadd, 1) := by decide +kernel
theorem dL_law_738 : decode cL_law 738 = .ok (.iaload, 1) := by decide +kernel
theorem dL_law_739 : decode cL_law 739 = .ok (.ifCond .eq 7, 3) := by decide +kernel
theorem dL_law_742 : decode cL_law 742 = .ok (.iconst 1, 1) := by decide +kernel
theorem dL_law_743 : decode cL_law 743 = .ok (.goto 4, 3) := by decide +kernel
theorem dL_law_746 : decode cL_law 746 = .ok (.iconst 0, 1) := by decide +kernel
theorem dL_law_747 : decode cL_law 747 = .ok (.invokevirtual 110, 3) := by decide +kernel
theorem dL_law_750 : decode cL_law 750 = .ok (.aload_n 2, 1) := by decide +kernel
theorem dL_law_751 : decode cL_law 751 = .ok (.aload_n 0, 1) := by decide +kernel
theorem dL_law_752 : decode cL_law 752 = .ok (.iload_n 3, 1) := by decide +kernel
theorem dL_law_753 : decode cL_law 753 = .ok (.iconst 1, 1) := by decide +kernel
theorem dL_law_754 : decode cL_law 754 = .ok (.iadd, 1) := by decide +kernel
theorem dL_law_755 : decode cL_law 755 = .ok (.iaload, 1) := by decide +kernel
theorem dL_law_756 : decode cL_law 756 = .ok (.aload_n 0, 1) := by decide +kernel
theorem dL_law_757 : decode cL_law 757 = .ok (.iload_n 3, 1) := by decide +kernel
theorem dL_law_758 : decode cL_law 758 = .ok (.iconst 2, 1) := by decide +kernel
theorem dL_law_759 : decode cL_law 759 = .ok (.iadd, 1) := by decide +kernel
theorem dL_law_760 : decode cL_law 760 = .ok (.iaload, 1) := by decide +kernel
theorem dL_law_761 : decode cL_law 761 = .ok (.aload_n 0, 1) := by decide +kernel
theorem dL_law_762 : decode cL_law 762 = .ok (.iload_n 3, 1) := by decide +kernel
theorem dL_law_763 : decode cL_law 763 = .ok (.iconst 3, 1) := by decide +kernel
theorem dL_law_764 : decode cL_law 764 = .ok (.iadd, 1) := by decide +kernel
theorem dL_law_765 : decode cL_law 765 = .ok (.iaload, 1) := by decide +kernel
theorem dL_law_766 : decode cL_law 766 = .ok (.ifCond .eq 7, 3) := by decide +kernel
theorem dL_law_769 : decode cL_law 769 = .ok (.iconst 1, 1) := by decide +kernel
theorem dL_law_770 : decode cL_law 770 = .ok (.goto 4, 3) := by decide +kernel
theorem dL_law_773 : decode cL_law 773 = .ok (.iconst 0, 1) := by decide +kernel
theorem dL_law_774 : decode cL_law 774 = .ok (.invokevirtual 113, 3) := by decide +kernel
theorem dL_law_777 : decode cL_law 777 = .ok (.if_icmp .eq 263, 3) := by decide +kernel
theorem dL_law_780 : decode cL_law 780 = .ok (.iconst 0, 1) := by decide +kernel
theorem dL_law_781 : decode cL_law 781 = .ok (.ireturn, 1) := by decide +kernel
theorem dL_law_782 : decode cL_law 782 = .ok (.aload_n 1, 1) := by decide +kernel
theorem dL_law_783 : decode cL_law 783 = .ok (.aload_n 0, 1) := by decide +kernel
theorem dL_law_784 : decode cL_law 784 = .ok (.iload_n 3, 1) := by decide +kernel
theorem dL_law_785 : decode cL_law 785 = .ok (.iconst 1, 1) := by decide +kernel
theorem dL_law_786 : decode cL_law 786 = .ok (.iadd, 1) := by decide +kernel
theorem dL_law_787 : decode cL_law 787 = .ok (.iaload, 1) := by decide +kernel
theorem dL_law_788 : decode cL_law 788 = .ok (.aload_n 0, 1) := by decide +kernel
theorem dL_law_789 : decode cL_law 789 = .ok (.iload_n 3, 1) := by decide +kernel
theorem dL_law_790 : decode cL_law 790 = .ok (.iconst 2, 1) := by decide +kernel
theorem dL_law_791 : decode cL_law 791 = .ok (.iadd, 1) := by decide +kernel
theorem dL_law_792 : decode cL_law 792 = .ok (.iaload, 1) := by decide +kernel
theorem dL_law_793 : decode cL_law 793 = .ok (.aload_n 0, 1) := by decide +kernel
theorem dL_law_794 : decode cL_law 794 = .ok (.iload_n 3, 1) := by decide +kernel
theorem dL_law_795 : decode cL_law 795 = .ok (.iconst 3, 1) := by decide +kernel
theorem dL_law_796 : decode cL_law 796 = .ok (.iadd, 1) := by decide +kernel
theorem dL_law_797 : decode cL_law 797 = .ok (.iaload, 1) := by decide +kernel
theorem dL_law_798 : decode cL_law 798 = .ok (.invokevirtual 114, 3) := by decide +kernel
theorem dL_law_801 : decode cL_law 801 = .ok (.aload_n 2, 1) := by decide +kernel
theorem dL_law_802 : decode cL_law 802 = .ok (.aload_n 0, 1) := by decide +kernel
theorem dL_law_803 : decode cL_law 803 = .ok (.iload_n 3, 1) := by decide +kernel
theorem dL_law_804 : decode cL_law 804 = .ok (.iconst 1, 1) := by decide +kernel
theorem dL_law_805 : decode cL_law 805 = .ok (.iadd, 1) := by decide +kernel
theorem dL_law_806 : decode cL_law 806 = .ok (.iaload, 1) := by decide +kernel
theorem dL_law_807 : decode cL_law 807 = .ok (.aload_n 0, 1) := by decide +kernel
theorem dL_law_808 : decode cL_law 808 = .ok (.iload_n 3, 1) := by decide +kernel
theorem dL_law_809 : decode cL_law 809 = .ok (.iconst 2, 1) := by decide +kernel
theorem dL_law_810 : decode cL_law 810 = .ok (.iadd, 1) := by decide +kernel
theorem dL_law_811 : decode cL_law 811 = .ok (.iaload, 1) := by decide +kernel
theorem dL_law_812 : decode cL_law 812 = .ok (.aload_n 0, 1) := by decide +kernel
theorem dL_law_813 : decode cL_law 813 = .ok (.iload_n 3, 1) := by decide +kernel
theorem dL_law_814 : decode cL_law 814 = .ok (.iconst 3, 1) := by decide +kernel
theorem dL_law_815 : decode cL_law 815 = .ok (.iadd, 1) := by decide +kernel
theorem dL_law_816 : decode cL_law 816 = .ok (.iaload, 1) := by decide +kernel
theorem dL_law_817 : decode cL_law 817 = .ok (.invokevirtual 118, 3) := by decide +kernel
theorem dL_law_820 : decode cL_law 820 = .ok (.if_icmp .eq 220, 3) := by decide +kernel
theorem dL_law_823 : decode cL_law 823 = .ok (.iconst 0, 1) := by decide +kernel
theorem dL_law_824 : decode cL_law 824 = .ok (.ireturn, 1) := by decide +kernel
theorem dL_law_825 : decode cL_law 825 = .ok (.aload_n 1, 1) := by decide +kernel
theorem dL_law_826 : decode cL_law 826 = .ok (.aload_n 0, 1) := by decide +kernel
theorem dL_law_827 : decode cL_law 827 = .ok (.iload_n 3, 1) := by decide +kernel
theorem dL_law_828 : decode cL_law 828 = .ok (.iconst 1, 1) := by decide +kernel
theorem dL_law_829 : decode cL_law 829 = .ok (.iadd, 1) := by decide +kernel
theorem dL_law_830 : decode cL_law 830 = .ok (.iaload, 1) := by decide +kernel
theorem dL_law_831 : decode cL_law 831 = .ok (.aload_n 0, 1) := by decide +kernel
theorem dL_law_832 : decode cL_law 832 = .ok (.iload_n 3, 1) := by decide +kernel
theorem dL_law_833 : decode cL_law 833 = .ok (.iconst 2, 1) := by decide +kernel
theorem dL_law_834 : decode cL_law 834 = .ok (.iadd, 1) := by decide +kernel
theorem dL_law_835 : decode cL_law 835 = .ok (.iaload, 1) := by decide +kernel
theorem dL_law_836 : decode cL_law 836 = .ok (.aload_n 0, 1) := by decide +kernel
theorem dL_law_837 : decode cL_law 837 = .ok (.iload_n 3, 1) := by decide +kernel
theorem dL_law_838 : decode cL_law 838 = .ok (.iconst 3, 1) := by decide +kernel
theorem dL_law_839 : decode cL_law 839 = .ok (.iadd, 1) := by decide +kernel
theorem dL_law_840 : decode cL_law 840 = .ok (.iaload, 1) := by decide +kernel
theorem dL_law_841 : decode cL_law 841 = .ok (.aload_n 0, 1) := by decide +kernel
theorem dL_law_842 : decode cL_law 842 = .ok (.iload_n 3, 1) := by decide +kernel
theorem dL_law_843 : decode cL_law 843 = .ok (.iconst 4, 1) := by decide +kernel
theorem dL_law_844 : decode cL_law 844 = .ok (.iadd, 1) := by decide +kernel
theorem dL_law_845 : decode cL_law 845 = .ok (.iaload, 1) := by decide +kernel
theorem dL_law_846 : decode cL_law 846 = .ok (.ifCond .eq 7, 3) := by decide +kernel
theorem dL_law_849 : decode cL_law 849 = .ok (.iconst 1, 1) := by decide +kernel
theorem dL_law_850 : decode cL_law 850 = .ok (.goto 4, 3) := by decide +kernel
theorem dL_law_853 : decode cL_law 853 = .ok (.iconst 0, 1) := by decide +kernel
theorem dL_law_854 : decode cL_law 854 = .ok (.invokevirtual 119, 3) := by decide +kernel
theorem dL_law_857 : decode cL_law 857 = .ok (.aload_n 2, 1) := by decide +kernel
theorem dL_law_858 : decode cL_law 858 = .ok (.aload_n 0, 1) := by decide +kernel
theorem dL_law_859 : decode cL_law 859 = .ok (.iload_n 3, 1) := by decide +kernel
theorem dL_law_860 : decode cL_law 860 = .ok (.iconst 1, 1) := by decide +kernel
theorem dL_law_861 : decode cL_law 861 = .ok (.iadd, 1) := by decide +kernel
theorem dL_law_862 : decode cL_law 862 = .ok (.iaload, 1) := by decide +kernel
theorem dL_law_863 : decode cL_law 863 = .ok (.aload_n 0, 1) := by decide +kernel
theorem dL_law_864 : decode cL_law 864 = .ok (.iload_n 3, 1) := by decide +kernel
theorem dL_law_865 : decode cL_law 865 = .ok (.iconst 2, 1) := by decide +kernel
theorem dL_law_866 : decode cL_law 866 = .ok (.iadd, 1) := by decide +kernel
theorem dL_law_867 : decode cL_law 867 = .ok (.iaload, 1) := by decide +kernel
theorem dL_law_868 : decode cL_law 868 = .ok (.aload_n 0, 1) := by decide +kernel
theorem dL_law_869 : decode cL_law 869 = .ok (.iload_n 3, 1) := by decide +kernel
theorem dL_law_870 : decode cL_law 870 = .ok (.iconst 3, 1) := by decide +kernel
theorem dL_law_871 : decode cL_law 871 = .ok (.iadd, 1) := by decide +kernel
theorem dL_law_872 : decode cL_law 872 = .ok (.iaload, 1) := by decide +kernel
theorem dL_law_873 : decode cL_law 873 = .ok (.aload_n 0, 1) := by decide +kernel
theorem dL_law_874 : decode cL_law 874 = .ok (.iload_n 3, 1) := by decide +kernel
theorem dL_law_875 : decode cL_law 875 = .ok (.iconst 4, 1) := by decide +kernel
theorem dL_law_876 : decode cL_law 876 = .ok (.iadd, 1) := by decide +kernel
theorem dL_law_877 : decode cL_law 877 = .ok (.iaload, 1) := by decide +kernel
theorem dL_law_878 : decode cL_law 878 = .ok (.ifCond .eq 7, 3) := by decide +kernel
theorem dL_law_881 : decode cL_law 881 = .ok (.iconst 1, 1) := by decide +kernel
theorem dL_law_882 : decode cL_law 882 = .ok (.goto 4, 3) := by decide +kernel
theorem dL_law_885 : decode cL_law 885 = .ok (.iconst 0, 1) := by decide +kernel
theorem dL_law_886 : decode cL_law 886 = .ok (.invokevirtual 123, 3) := by decide +kernel
theorem dL_law_889 : decode cL_law 889 = .ok (.if_icmp .eq 151, 3) := by decide +kernel
theorem dL_law_892 : decode cL_law 892 = .ok (.iconst 0, 1) := by decide +kernel
theorem dL_law_893 : decode cL_law 893 = .ok (.ireturn, 1) := by decide +kernel
theorem dL_law_894 : decode cL_law 894 = .ok (.aload_n 1, 1) := by decide +kernel
theorem dL_law_895 : decode cL_law 895 = .ok (.aload_n 0, 1) := by decide +kernel
theorem dL_law_896 : decode cL_law 896 = .ok (.iload_n 3, 1) := by decide +kernel
theorem dL_law_897 : decode cL_law 897 = .ok (.iconst 1, 1) := by decide +kernel
theorem dL_law_898 : decode cL_law 898 = .ok (.iadd, 1) := by decide +kernel
theorem dL_law_899 : decode cL_law 899 = .ok (.iaload, 1) := by decide +kernel
theorem dL_law_900 : decode cL_law 900 = .ok (.i2l, 1) := by decide +kernel
theorem dL_law_901 : decode cL_law 901 = .ok (.bipush 32, 2) := by decide +kernel
theorem dL_law_903 : decode cL_law 903 = .ok (.lshl, 1) := by decide +kernel
theorem dL_law_904 : decode cL_law 904 = .ok (.aload_n 0, 1) := by decide +kernel
theorem dL_law_905 : decode cL_law 905 = .ok (.iload_n 3, 1) := by decide +kernel
theorem dL_law_906 : decode cL_law 906 = .ok (.iconst 2, 1) := by decide +kernel
theorem dL_law_907 : decode cL_law 907 = .ok (.iadd, 1) := by decide +kernel
theorem dL_law_908 : decode cL_law 908 = .ok (.iaload, 1) := by decide +kernel
theorem dL_law_909 : decode cL_law 909 = .ok (.i2l, 1) := by decide +kernel
theorem dL_law_910 : decode cL_law 910 = .ok (.ldc2_w 124, 3) := by decide +kernel
theorem dL_law_913 : decode cL_law 913 = .ok (.land, 1) := by decide +kernel
theorem dL_law_914 : decode cL_law 914 = .ok (.lor, 1) := by decide +kernel
theorem dL_law_915 : decode cL_law 915 = .ok (.invokevirtual 126, 3) := by decide +kernel
theorem dL_law_918 : decode cL_law 918 = .ok (.aload_n 2, 1) := by decide +kernel
theorem dL_law_919 : decode cL_law 919 = .ok (.aload_n 0, 1) := by decide +kernel
theorem dL_law_920 : decode cL_law 920 = .ok (.iload_n 3, 1) := by decide +kernel
theorem dL_law_921 : decode cL_law 921 = .ok (.iconst 1, 1) := by decide +kernel
theorem dL_law_922 : decode cL_law 922 = .ok (.iadd, 1) := by decide +kernel
theorem dL_law_923 : decode cL_law 923 = .ok (.iaload, 1) := by decide +kernel
theorem dL_law_924 : decode cL_law 924 = .ok (.i2l, 1) := by decide +kernel
theorem dL_law_925 : decode cL_law 925 = .ok (.bipush 32, 2) := by decide +kernel
theorem dL_law_927 : decode cL_law 927 = .ok (.lshl, 1) := by decide +kernel
theorem dL_law_928 : decode cL_law 928 = .ok (.aload_n 0, 1) := by decide +kernel
theorem dL_law_929 : decode cL_law 929 = .ok (.iload_n 3, 1) := by decide +kernel
theorem dL_law_930 : decode cL_law 930 = .ok (.iconst 2, 1) := by decide +kernel
theorem dL_law_931 : decode cL_law 931 = .ok (.iadd, 1) := by decide +kernel
theorem dL_law_932 : decode cL_law 932 = .ok (.iaload, 1) := by decide +kernel
theorem dL_law_933 : decode cL_law 933 = .ok (.i2l, 1) := by decide +kernel
theorem dL_law_934 : decode cL_law 934 = .ok (.ldc2_w 124, 3) := by decide +kernel
theorem dL_law_937 : decode cL_law 937 = .ok (.land, 1) := by decide +kernel
theorem dL_law_938 : decode cL_law 938 = .ok (.lor, 1) := by decide +kernel
theorem dL_law_939 : decode cL_law 939 = .ok (.invokevirtual 130, 3) := by decide +kernel
theorem dL_law_942 : decode cL_law 942 = .ok (.lcmp, 1) := by decide +kernel
theorem dL_law_943 : decode cL_law 943 = .ok (.ifCond .eq 97, 3) := by decide +kernel
theorem dL_law_946 : decode cL_law 946 = .ok (.iconst 0, 1) := by decide +kernel
theorem dL_law_947 : decode cL_law 947 = .ok (.ireturn, 1) := by decide +kernel
theorem dL_law_948 : decode cL_law 948 = .ok (.aload_n 1, 1) := by decide +kernel
theorem dL_law_949 : decode cL_law 949 = .ok (.aload_n 0, 1) := by decide +kernel
theorem dL_law_950 : decode cL_law 950 = .ok (.iload_n 3, 1) := by decide +kernel
theorem dL_law_951 : decode cL_law 951 = .ok (.iconst 1, 1) := by decide +kernel
theorem dL_law_952 : decode cL_law 952 = .ok (.iadd, 1) := by decide +kernel
theorem dL_law_953 : decode cL_law 953 = .ok (.iaload, 1) := by decide +kernel
theorem dL_law_954 : decode cL_law 954 = .ok (.invokevirtual 131, 3) := by decide +kernel
theorem dL_law_957 : decode cL_law 957 = .ok (.aload_n 2, 1) := by decide +kernel
theorem dL_law_958 : decode cL_law 958 = .ok (.aload_n 0, 1) := by decide +kernel
theorem dL_law_959 : decode cL_law 959 = .ok (.iload_n 3, 1) := by decide +kernel
theorem dL_law_960 : decode cL_law 960 = .ok (.iconst 1, 1) := by decide +kernel
theorem dL_law_961 : decode cL_law 961 = .ok (.iadd, 1) := by decide +kernel
theorem dL_law_962 : decode cL_law 962 = .ok (.iaload, 1) := by decide +kernel
theorem dL_law_963 : decode cL_law 963 = .ok (.invokevirtual 134, 3) := by decide +kernel
theorem dL_law_966 : decode cL_law 966 = .ok (.if_icmp .eq 74, 3) := by decide +kernel
theorem dL_law_969 : decode cL_law 969 = .ok (.iconst 0, 1) := by decide +kernel
theorem dL_law_970 : decode cL_law 970 = .ok (.ireturn, 1) := by decide +kernel
theorem dL_law_971 : decode cL_law 971 = .ok (.aload_n 1, 1) := by decide +kernel
theorem dL_law_972 : decode cL_law 972 = .ok (.aload_n 0, 1) := by decide +kernel
theorem dL_law_973 : decode cL_law 973 = .ok (.iload_n 3, 1) := by decide +kernel
theorem dL_law_974 : decode cL_law 974 = .ok (.iconst 1, 1) := by decide +kernel
theorem dL_law_975 : decode cL_law 975 = .ok (.iadd, 1) := by decide +kernel
theorem dL_law_976 : decode cL_law 976 = .ok (.iaload, 1) := by decide +kernel
theorem dL_law_977 : decode cL_law 977 = .ok (.invokevirtual 135, 3) := by decide +kernel
theorem dL_law_980 : decode cL_law 980 = .ok (.aload_n 2, 1) := by decide +kernel
theorem dL_law_981 : decode cL_law 981 = .ok (.aload_n 0, 1) := by decide +kernel
theorem dL_law_982 : decode cL_law 982 = .ok (.iload_n 3, 1) := by decide +kernel
theorem dL_law_983 : decode cL_law 983 = .ok (.iconst 1, 1) := by decide +kernel
theorem dL_law_984 : decode cL_law 984 = .ok (.iadd, 1) := by decide +kernel
theorem dL_law_985 : decode cL_law 985 = .ok (.iaload, 1) := by decide +kernel
theorem dL_law_986 : decode cL_law 986 = .ok (.invokevirtual 138, 3) := by decide +kernel
theorem dL_law_989 : decode cL_law 989 = .ok (.if_icmp .eq 51, 3) := by decide +kernel
theorem dL_law_992 : decode cL_law 992 = .ok (.iconst 0, 1) := by decide +kernel
theorem dL_law_993 : decode cL_law 993 = .ok (.ireturn, 1) := by decide +kernel
theorem dL_law_994 : decode cL_law 994 = .ok (.aload_n 1, 1) := by decide +kernel
theorem dL_law_995 : decode cL_law 995 = .ok (.aload_n 0, 1) := by decide +kernel
theorem dL_law_996 : decode cL_law 996 = .ok (.iload_n 3, 1) := by decide +kernel
theorem dL_law_997 : decode cL_law 997 = .ok (.iconst 1, 1) := by decide +kernel
theorem dL_law_998 : decode cL_law 998 = .ok (.iadd, 1) := by decide +kernel
theorem dL_law_999 : decode cL_law 999 = .ok (.iaload, 1) := by decide +kernel
theorem dL_law_1000 : decode cL_law 1000 = .ok (.invokevirtual 139, 3) := by decide +kernel
theorem dL_law_1003 : decode cL_law 1003 = .ok (.aload_n 2, 1) := by decide +kernel
theorem dL_law_1004 : decode cL_law 1004 = .ok (.aload_n 0, 1) := by decide +kernel
theorem dL_law_1005 : decode cL_law 1005 = .ok (.iload_n 3, 1) := by decide +kernel
theorem dL_law_1006 : decode cL_law 1006 = .ok (.iconst 1, 1) := by decide +kernel
theorem dL_law_1007 : decode cL_law 1007 = .ok (.iadd, 1) := by decide +kernel
theorem dL_law_1008 : decode cL_law 1008 = .ok (.iaload, 1) := by decide +kernel
theorem dL_law_1009 : decode cL_law 1009 = .ok (.invokevirtual 142, 3) := by decide +kernel
theorem dL_law_1012 : decode cL_law 1012 = .ok (.if_icmp .eq 28, 3) := by decide +kernel
theorem dL_law_1015 : decode cL_law 1015 = .ok (.iconst 0, 1) := by decide +kernel
theorem dL_law_1016 : decode cL_law 1016 = .ok (.ireturn, 1) := by decide +kernel
theorem dL_law_1017 : decode cL_law 1017 = .ok (.aload_n 1, 1) := by decide +kernel
theorem dL_law_1018 : decode cL_law 1018 = .ok (.aload_n 0, 1) := by decide +kernel
theorem dL_law_1019 : decode cL_law 1019 = .ok (.iload_n 3, 1) := by decide +kernel
theorem dL_law_1020 : decode cL_law 1020 = .ok (.iconst 1, 1) := by decide +kernel
theorem dL_law_1021 : decode cL_law 1021 = .ok (.iadd, 1) := by decide +kernel
theorem dL_law_1022 : decode cL_law 1022 = .ok (.iaload, 1) := by decide +kernel
theorem dL_law_1023 : decode cL_law 1023 = .ok (.invokevirtual 143, 3) := by decide +kernel
theorem dL_law_1026 : decode cL_law 1026 = .ok (.aload_n 2, 1) := by decide +kernel
theorem dL_law_1027 : decode cL_law 1027 = .ok (.aload_n 0, 1) := by decide +kernel
theorem dL_law_1028 : decode cL_law 1028 = .ok (.iload_n 3, 1) := by decide +kernel
theorem dL_law_1029 : decode cL_law 1029 = .ok (.iconst 1, 1) := by decide +kernel
theorem dL_law_1030 : decode cL_law 1030 = .ok (.iadd, 1) := by decide +kernel
theorem dL_law_1031 : decode cL_law 1031 = .ok (.iaload, 1) := by decide +kernel
theorem dL_law_1032 : decode cL_law 1032 = .ok (.invokevirtual 146, 3) := by decide +kernel
theorem dL_law_1035 : decode cL_law 1035 = .ok (.if_icmp .eq 5, 3) := by decide +kernel
theorem dL_law_1038 : decode cL_law 1038 = .ok (.iconst 0, 1) := by decide +kernel
theorem dL_law_1039 : decode cL_law 1039 = .ok (.ireturn, 1) := by decide +kernel
theorem dL_law_1040 : decode cL_law 1040 = .ok (.iinc 3 5, 3) := by decide +kernel
theorem dL_law_1043 : decode cL_law 1043 = .ok (.goto (-1025), 3) := by decide +kernel
theorem dL_law_1046 : decode cL_law 1046 = .ok (.iconst 1, 1) := by decide +kernel
theorem dL_law_1047 : decode cL_law 1047 = .ok (.ireturn, 1) := by decide +kernel
end
section
theorem dX8_init_0 : decode cX8_init 0 = .ok (.aload_n 0, 1) := by decide +kernel
theorem dX8_init_1 : decode cX8_init 1 = .ok (.invokespecial 1, 3) := by decide +kernel
theorem dX8_init_4 : decode cX8_init 4 = .ok (.aload_n 0, 1) := by decide +kernel
theorem dX8_init_5 : decode cX8_init 5 = .ok (.bipush 12, 2) := by decide +kernel
theorem dX8_init_7 : decode cX8_init 7 = .ok (.newarray .int, 2) := by decide +kernel
theorem dX8_init_9 : decode cX8_init 9 = .ok (.putfield 7, 3) := by decide +kernel
theorem dX8_init_12 : decode cX8_init 12 = .ok (.aload_n 0, 1) := by decide +kernel
theorem dX8_init_13 : decode cX8_init 13 = .ok (.iconst 4, 1) := by decide +kernel
theorem dX8_init_14 : decode cX8_init 14 = .ok (.newarray .int, 2) := by decide +kernel
theorem dX8_init_16 : decode cX8_init 16 = .ok (.putfield 13, 3) := by decide +kernel
theorem dX8_init_19 : decode cX8_init 19 = .ok (.aload_n 0, 1) := by decide +kernel
theorem dX8_init_20 : decode cX8_init 20 = .ok (.iconst 4, 1) := by decide +kernel
theorem dX8_init_21 : decode cX8_init 21 = .ok (.newarray .int, 2) := by decide +kernel
theorem dX8_init_23 : decode cX8_init 23 = .ok (.putfield 16, 3) := by decide +kernel
theorem dX8_init_26 : decode cX8_init 26 = .ok (.aload_n 0, 1) := by decide +kernel
theorem dX8_init_27 : decode cX8_init 27 = .ok (.iconst 4, 1) := by decide +kernel
theorem dX8_init_28 : decode cX8_init 28 = .ok (.newarray .int, 2) := by decide +kernel
theorem dX8_init_30 : decode cX8_init 30 = .ok (.putfield 19, 3) := by decide +kernel
theorem dX8_init_33 : decode cX8_init 33 = .ok (.aload_n 0, 1) := by decide +kernel
theorem dX8_init_34 : decode cX8_init 34 = .ok (.iconst 4, 1) := by decide +kernel
theorem dX8_init_35 : decode cX8_init 35 = .ok (.newarray .int, 2) := by decide +kernel
theorem dX8_init_37 : decode cX8_init 37 = .ok (.putfield 22, 3) := by decide +kernel
theorem dX8_init_40 : decode cX8_init 40 = .ok (.aload_n 0, 1) := by decide +kernel
theorem dX8_init_41 : decode cX8_init 41 = .ok (.iconst 4, 1) := by decide +kernel
theorem dX8_init_42 : decode cX8_init 42 = .ok (.newarray .int, 2) := by decide +kernel
theorem dX8_init_44 : decode cX8_init 44 = .ok (.putfield 25, 3) := by decide +kernel
theorem dX8_init_47 : decode cX8_init 47 = .ok (.aload_n 0, 1) := by decide +kernel
theorem dX8_init_48 : decode cX8_init 48 = .ok (.iconst 4, 1) := by decide +kernel
theorem dX8_init_49 : decode cX8_init 49 = .ok (.newarray .int, 2) := by decide +kernel
theorem dX8_init_51 : decode cX8_init 51 = .ok (.putfield 28, 3) := by decide +kernel
theorem dX8_init_54 : decode cX8_init 54 = .ok (.aload_n 0, 1) := by decide +kernel
theorem dX8_init_55 : decode cX8_init 55 = .ok (.iconst 4, 1) := by decide +kernel
theorem dX8_init_56 : decode cX8_init 56 = .ok (.newarray .int, 2) := by decide +kernel
theorem dX8_init_58 : decode cX8_init 58 = .ok (.putfield 31, 3) := by decide +kernel
theorem dX8_init_61 : decode cX8_init 61 = .ok (.aload_n 0, 1) := by decide +kernel
theorem dX8_init_62 : decode cX8_init 62 = .ok (.bipush 72, 2) := by decide +kernel
theorem dX8_init_64 : decode cX8_init 64 = .ok (.newarray .int, 2) := by decide +kernel
theorem dX8_init_66 : decode cX8_init 66 = .ok (.putfield 34, 3) := by decide +kernel
theorem dX8_init_69 : decode cX8_init 69 = .ok (.aload_n 0, 1) := by decide +kernel
theorem dX8_init_70 : decode cX8_init 70 = .ok (.bipush 64, 2) := by decide +kernel
theorem dX8_init_72 : decode cX8_init 72 = .ok (.newarray .int, 2) := by decide +kernel
theorem dX8_init_74 : decode cX8_init 74 = .ok (.putfield 37, 3) := by decide +kernel
theorem dX8_init_77 : decode cX8_init 77 = .ok (.aload_n 0, 1) := by decide +kernel
theorem dX8_init_78 : decode cX8_init 78 = .ok (.bipush 12, 2) := by decide +kernel
theorem dX8_init_80 : decode cX8_init 80 = .ok (.newarray .int, 2) := by decide +kernel
theorem dX8_init_82 : decode cX8_init 82 = .ok (.putfield 40, 3) := by decide +kernel
theorem dX8_init_85 : decode cX8_init 85 = .ok (.aload_n 0, 1) := by decide +kernel
theorem dX8_init_86 : decode cX8_init 86 = .ok (.bipush 12, 2) := by decide +kernel
theorem dX8_init_88 : decode cX8_init 88 = .ok (.newarray .int, 2) := by decide +kernel
theorem dX8_init_90 : decode cX8_init 90 = .ok (.putfield 43, 3) := by decide +kernel
theorem dX8_init_93 : decode cX8_init 93 = .ok (.aload_n 0, 1) := by decide +kernel
theorem dX8_init_94 : decode cX8_init 94 = .ok (.bipush 16, 2) := by decide +kernel
theorem dX8_init_96 : decode cX8_init 96 = .ok (.newarray .int, 2) := by decide +kernel
theorem dX8_init_98 : decode cX8_init 98 = .ok (.putfield 46, 3) := by decide +kernel
theorem dX8_init_101 : decode cX8_init 101 = .ok (.aload_n 0, 1) := by decide +kernel
theorem dX8_init_102 : decode cX8_init 102 = .ok (.sipush 288, 3) := by decide +kernel
theorem dX8_init_105 : decode cX8_init 105 = .ok (.newarray .int, 2) := by decide +kernel
theorem dX8_init_107 : decode cX8_init 107 = .ok (.putfield 49, 3) := by decide +kernel
theorem dX8_init_110 : decode cX8_init 110 = .ok (.aload_n 0, 1) := by decide +kernel
theorem dX8_init_111 : decode cX8_init 111 = .ok (.bipush 16, 2) := by decide +kernel
theorem dX8_init_113 : decode cX8_init 113 = .ok (.newarray .int, 2) := by decide +kernel
theorem dX8_init_115 : decode cX8_init 115 = .ok (.putfield 52, 3) := by decide +kernel
theorem dX8_init_118 : decode cX8_init 118 = .ok (.aload_n 0, 1) := by decide +kernel
theorem dX8_init_119 : decode cX8_init 119 = .ok (.bipush 16, 2) := by decide +kernel
theorem dX8_init_121 : decode cX8_init 121 = .ok (.newarray .int, 2) := by decide +kernel
theorem dX8_init_123 : decode cX8_init 123 = .ok (.putfield 55, 3) := by decide +kernel
theorem dX8_init_126 : decode cX8_init 126 = .ok (.aload_n 0, 1) := by decide +kernel
theorem dX8_init_127 : decode cX8_init 127 = .ok (.bipush 16, 2) := by decide +kernel
theorem dX8_init_129 : decode cX8_init 129 = .ok (.newarray .int, 2) := by decide +kernel
theorem dX8_init_131 : decode cX8_init 131 = .ok (.putfield 58, 3) := by decide +kernel
theorem dX8_init_134 : decode cX8_init 134 = .ok (.aload_n 0, 1) := by decide +kernel
theorem dX8_init_135 : decode cX8_init 135 = .ok (.bipush 6, 2) := by decide +kernel
theorem dX8_init_137 : decode cX8_init 137 = .ok (.newarray .int, 2) := by decide +kernel
theorem dX8_init_139 : decode cX8_init 139 = .ok (.putfield 61, 3) := by decide +kernel
theorem dX8_init_142 : decode cX8_init 142 = .ok (.aload_n 0, 1) := by decide +kernel
theorem dX8_init_143 : decode cX8_init 143 = .ok (.bipush 64, 2) := by decide +kernel
theorem dX8_init_145 : decode cX8_init 145 = .ok (.newarray .int, 2) := by decide +kernel
theorem dX8_init_147 : decode cX8_init 147 = .ok (.putfield 64, 3) := by decide +kernel
theorem dX8_init_150 : decode cX8_init 150 = .ok (.aload_n 0, 1) := by decide +kernel
theorem dX8_init_151 : decode cX8_init 151 = .ok (.iconst 2, 1) := by decide +kernel
theorem dX8_init_152 : decode cX8_init 152 = .ok (.newarray .boolean, 2) := by decide +kernel
theorem dX8_init_154 : decode cX8_init 154 = .ok (.putfield 67, 3) := by decide +kernel
theorem dX8_init_157 : decode cX8_init 157 = .ok (.aload_n 0, 1) := by decide +kernel
theorem dX8_init_158 : decode cX8_init 158 = .ok (.bipush 36, 2) := by decide +kernel
theorem dX8_init_160 : decode cX8_init 160 = .ok (.newarray .int, 2) := by decide +kernel
theorem dX8_init_162 : decode cX8_init 162 = .ok (.putfield 71, 3) := by decide +kernel
theorem dX8_init_165 : decode cX8_init 165 = .ok (.aload_n 0, 1) := by decide +kernel
theorem dX8_init_166 : decode cX8_init 166 = .ok (.iconst 0, 1) := by decide +kernel
theorem dX8_init_167 : decode cX8_init 167 = .ok (.putfield 74, 3) := by decide +kernel
theorem dX8_init_170 : decode cX8_init 170 = .ok (.return_, 1) := by decide +kernel
theorem dX8_in_0 : decode cX8_in 0 = .ok (.lload_n 0, 1) := by decide +kernel
theorem dX8_in_1 : decode cX8_in 1 = .ok (.lload_n 2, 1) := by decide +kernel
theorem dX8_in_2 : decode cX8_in 2 = .ok (.lcmp, 1) := by decide +kernel
theorem dX8_in_3 : decode cX8_in 3 = .ok (.ifCond .lt 14, 3) := by decide +kernel
theorem dX8_in_6 : decode cX8_in 6 = .ok (.lload_n 0, 1) := by decide +kernel
theorem dX8_in_7 : decode cX8_in 7 = .ok (.lload 4, 2) := by decide +kernel
theorem dX8_in_9 : decode cX8_in 9 = .ok (.lcmp, 1) := by decide +kernel
theorem dX8_in_10 : decode cX8_in 10 = .ok (.ifCond .gt 7, 3) := by decide +kernel
theorem dX8_in_13 : decode cX8_in 13 = .ok (.iconst 1, 1) := by decide +kernel
theorem dX8_in_14 : decode cX8_in 14 = .ok (.goto 4, 3) := by decide +kernel
theorem dX8_in_17 : decode cX8_in 17 = .ok (.iconst 0, 1) := by decide +kernel
theorem dX8_in_18 : decode cX8_in 18 = .ok (.ireturn, 1) := by decide +kernel
theorem dX8_has_0 : decode cX8_has 0 = .ok (.iload_n 0, 1) := by decide +kernel
theorem dX8_has_1 : decode cX8_has 1 = .ok (.iload_n 1, 1) := by decide +kernel
theorem dX8_has_2 : decode cX8_has 2 = .ok (.ishr, 1) := by decide +kernel
theorem dX8_has_3 : decode cX8_has 3 = .ok (.iconst 1, 1) := by decide +kernel
theorem dX8_has_4 : decode cX8_has 4 = .ok (.iand, 1) := by decide +kernel
theorem dX8_has_5 : decode cX8_has 5 = .ok (.iconst 1, 1) := by decide +kernel
theorem dX8_has_6 : decode cX8_has 6 = .ok (.if_icmp .ne 7, 3) := by decide +kernel
theorem dX8_has_9 : decode cX8_has 9 = .ok (.iconst 1, 1) := by decide +kernel
theorem dX8_has_10 : decode cX8_has 10 = .ok (.goto 4, 3) := by decide +kernel
theorem dX8_has_13 : decode cX8_has 13 = .ok (.iconst 0, 1) := by decide +kernel
theorem dX8_has_14 : decode cX8_has 14 = .ok (.ireturn, 1) := by decide +kernel
theorem dX8_write_0 : decode cX8_write 0 = .ok (.iload_n 1, 1) := by decide +kernel
theorem dX8_write_1 : decode cX8_write 1 = .ok (.i2l, 1) := by decide +kernel
theorem dX8_write_2 : decode cX8_write 2 = .ok (.lconst 0, 1) := by decide +kernel
theorem dX8_write_3 : decode cX8_write 3 = .ok (.ldc2_w 78, 3) := by decide +kernel
theorem dX8_write_6 : decode cX8_write 6 = .ok (.invokestatic 80, 3) := by decide +kernel
theorem dX8_write_9 : decode cX8_write 9 = .ok (.ifCond .ne 6, 3) := by decide +kernel
theorem dX8_write_12 : decode cX8_write 12 = .ok (.bipush (-2), 2) := by decide +kernel
theorem dX8_write_14 : decode cX8_write 14 = .ok (.ireturn, 1) := by decide +kernel
theorem dX8_write_15 : decode cX8_write 15 = .ok (.aload_n 0, 1) := by decide +kernel
theorem dX8_write_16 : decode cX8_write 16 = .ok (.getfield 84, 3) := by decide +kernel
theorem dX8_write_19 : decode cX8_write 19 = .ok (.bipush 64, 2) := by decide +kernel
theorem dX8_write_21 : decode cX8_write 21 = .ok (.if_icmp .ne 6, 3) := by decide +kernel
theorem dX8_write_24 : decode cX8_write 24 = .ok (.bipush (-4), 2) := by decide +kernel
theorem dX8_write_26 : decode cX8_write 26 = .ok (.ireturn, 1) := by decide +kernel
theorem dX8_write_27 : decode cX8_write 27 = .ok (.aload_n 0, 1) := by decide +kernel
theorem dX8_write_28 : decode cX8_write 28 = .ok (.getfield 37, 3) := by decide +kernel
theorem dX8_write_31 : decode cX8_write 31 = .ok (.aload_n 0, 1) := by decide +kernel
theorem dX8_write_32 : decode cX8_write 32 = .ok (.getfield 84, 3) := by decide +kernel
theorem dX8_write_35 : decode cX8_write 35 = .ok (.iload_n 1, 1) := by decide +kernel
theorem dX8_write_36 : decode cX8_write 36 = .ok (.iastore, 1) := by decide +kernel
theorem dX8_write_37 : decode cX8_write 37 = .ok (.aload_n 0, 1) := by decide +kernel
theorem dX8_write_38 : decode cX8_write 38 = .ok (.dup, 1) := by decide +kernel
theorem dX8_write_39 : decode cX8_write 39 = .ok (.getfield 84, 3) := by decide +kernel
theorem dX8_write_42 : decode cX8_write 42 = .ok (.iconst 1, 1) := by decide +kernel
theorem dX8_write_43 : decode cX8_write 43 = .ok (.iadd, 1) := by decide +kernel
theorem dX8_write_44 : decode cX8_write 44 = .ok (.putfield 84, 3) := by decide +kernel
theorem dX8_write_47 : decode cX8_write 47 = .ok (.aload_n 0, 1) := by decide +kernel
theorem dX8_write_48 : decode cX8_write 48 = .ok (.getfield 84, 3) := by decide +kernel
theorem dX8_write_51 : decode cX8_write 51 = .ok (.ireturn, 1) := by decide +kernel
theorem dX8_wipe_0 : decode cX8_wipe 0 = .ok (.aload_n 0, 1) := by decide +kernel
theorem dX8_wipe_1 : decode cX8_wipe 1 = .ok (.getfield 84, 3) := by decide +kernel
theorem dX8_wipe_4 : decode cX8_wipe 4 = .ok (.istore_n 1, 1) := by decide +kernel
theorem dX8_wipe_5 : decode cX8_wipe 5 = .ok (.aload_n 0, 1) := by decide +kernel
theorem dX8_wipe_6 : decode cX8_wipe 6 = .ok (.iconst 0, 1) := by decide +kernel
theorem dX8_wipe_7 : decode cX8_wipe 7 = .ok (.putfield 84, 3) := by decide +kernel
theorem dX8_wipe_10 : decode cX8_wipe 10 = .ok (.iload_n 1, 1) := by decide +kernel
theorem dX8_wipe_11 : decode cX8_wipe 11 = .ok (.ireturn, 1) := by decide +kernel
theorem dX8_figure_0 : decode cX8_figure 0 = .ok (.aload_n 0, 1) := by decide +kernel
theorem dX8_figure_1 : decode cX8_figure 1 = .ok (.getfield 87, 3) := by decide +kernel
theorem dX8_figure_4 : decode cX8_figure 4 = .ok (.bipush (-9), 2) := by decide +kernel
theorem dX8_figure_6 : decode cX8_figure 6 = .ok (.if_icmp .ne 28, 3) := by decide +kernel
theorem dX8_figure_9 : decode cX8_figure 9 = .ok (.aload_n 0, 1) := by decide +kernel
theorem dX8_figure_10 : decode cX8_figure 10 = .ok (.getfield 90, 3) := by decide +kernel
theorem dX8_figure_13 : decode cX8_figure 13 = .ok (.aload_n 0, 1) := by decide +kernel
theorem dX8_figure_14 : decode cX8_figure 14 = .ok (.getfield 84, 3) := by decide +kernel
theorem dX8_figure_17 : decode cX8_figure 17 = .ok (.if_icmp .ge 17, 3) := by decide +kernel
theorem dX8_figure_20 : decode cX8_figure 20 = .ok (.aload_n 0, 1) := by decide +kernel
theorem dX8_figure_21 : decode cX8_figure 21 = .ok (.getfield 37, 3) := by decide +kernel
theorem dX8_figure_24 : decode cX8_figure 24 = .ok (.aload_n 0, 1) := by decide +kernel
theorem dX8_figure_25 : decode cX8_figure 25 = .ok (.getfield 90, 3) := by decide +kernel
theorem dX8_figure_28 : decode cX8_figure 28 = .ok (.iaload, 1) := by decide +kernel
theorem dX8_figure_29 : decode cX8_figure 29 = .ok (.iload_n 3, 1) := by decide +kernel
theorem dX8_figure_30 : decode cX8_figure 30 = .ok (.isub, 1) := by decide +kernel
theorem dX8_figure_31 : decode cX8_figure 31 = .ok (.goto 5, 3) := by decide +kernel
theorem dX8_figure_34 : decode cX8_figure 34 = .ok (.bipush (-9), 2) := by decide +kernel
theorem dX8_figure_36 : decode cX8_figure 36 = .ok (.istore 4, 2) := by decide +kernel
theorem dX8_figure_38 : decode cX8_figure 38 = .ok (.iload 4, 2) := by decide +kernel
theorem dX8_figure_40 : decode cX8_figure 40 = .ok (.i2l, 1) := by decide +kernel
theorem dX8_figure_41 : decode cX8_figure 41 = .ok (.iload_n 1, 1) := by decide +kernel
theorem dX8_figure_42 : decode cX8_figure 42 = .ok (.i2l, 1) := by decide +kernel
theorem dX8_figure_43 : decode cX8_figure 43 = .ok (.iload_n 2, 1) := by decide +kernel
theorem dX8_figure_44 : decode cX8_figure 44 = .ok (.i2l, 1) := by decide +kernel
theorem dX8_figure_45 : decode cX8_figure 45 = .ok (.invokestatic 80, 3) := by decide +kernel
theorem dX8_figure_48 : decode cX8_figure 48 = .ok (.ifCond .ne 29, 3) := by decide +kernel
theorem dX8_figure_51 : decode cX8_figure 51 = .ok (.aload_n 0, 1) := by decide +kernel
theorem dX8_figure_52 : decode cX8_figure 52 = .ok (.aload_n 0, 1) := by decide +kernel
theorem dX8_figure_53 : decode cX8_figure 53 = .ok (.getfield 87, 3) := by decide +kernel
theorem dX8_figure_56 : decode cX8_figure 56 = .ok (.bipush (-9), 2) := by decide +kernel
theorem dX8_figure_58 : decode cX8_figure 58 = .ok (.if_icmp .ne 10, 3) := by decide +kernel
theorem dX8_figure_61 : decode cX8_figure 61 = .ok (.aload_n 0, 1) := by decide +kernel
theorem dX8_figure_62 : decode cX8_figure 62 = .ok (.getfield 90, 3) := by decide +kernel
theorem dX8_figure_65 : decode cX8_figure 65 = .ok (.goto 7, 3) := by decide +kernel
theorem dX8_figure_68 : decode cX8_figure 68 = .ok (.aload_n 0, 1) := by decide +kernel
theorem dX8_figure_69 : decode cX8_figure 69 = .ok (.getfield 87, 3) := by decide +kernel
theorem dX8_figure_72 : decode cX8_figure 72 = .ok (.putfield 87, 3) := by decide +kernel
theorem dX8_figure_75 : decode cX8_figure 75 = .ok (.iload_n 1, 1) := by decide +kernel
theorem dX8_figure_76 : decode cX8_figure 76 = .ok (.ireturn, 1) := by decide +kernel
theorem dX8_figure_77 : decode cX8_figure 77 = .ok (.aload_n 0, 1) := by decide +kernel
theorem dX8_figure_78 : decode cX8_figure 78 = .ok (.dup, 1) := by decide +kernel
theorem dX8_figure_79 : decode cX8_figure 79 = .ok (.getfield 90, 3) := by decide +kernel
theorem dX8_figure_82 : decode cX8_figure 82 = .ok (.iconst 1, 1) := by decide +kernel
theorem dX8_figure_83 : decode cX8_figure 83 = .ok (.iadd, 1) := by decide +kernel
theorem dX8_figure_84 : decode cX8_figure 84 = .ok (.putfield 90, 3) := by decide +kernel
theorem dX8_figure_87 : decode cX8_figure 87 = .ok (.iload 4, 2) := by decide +kernel
theorem dX8_figure_89 : decode cX8_figure 89 = .ok (.ireturn, 1) := by decide +kernel
theorem dX8_giftOf_0 : decode cX8_giftOf 0 = .ok (.iload_n 0, 1) := by decide +kernel
theorem dX8_giftOf_1 : decode cX8_giftOf 1 = .ok (.bipush 45, 2) := by decide +kernel
theorem dX8_giftOf_3 : decode cX8_giftOf 3 = .ok (.if_icmp .ne 7, 3) := by decide +kernel
theorem dX8_giftOf_6 : decode cX8_giftOf 6 = .ok (.iconst 4, 1) := by decide +kernel
theorem dX8_giftOf_7 : decode cX8_giftOf 7 = .ok (.goto 26, 3) := by decide +kernel
theorem dX8_giftOf_10 : decode cX8_giftOf 10 = .ok (.iload_n 0, 1) := by decide +kernel
theorem dX8_giftOf_11 : decode cX8_giftOf 11 = .ok (.i2l, 1) := by decide +kernel
theorem dX8_giftOf_12 : decode cX8_giftOf 12 = .ok (.ldc2_w 93, 3) := by decide +kernel
theorem dX8_giftOf_15 : decode cX8_giftOf 15 = .ok (.ldc2_w 95, 3) := by decide +kernel
theorem dX8_giftOf_18 : decode cX8_giftOf 18 = .ok (.invokestatic 80, 3) := by decide +kernel
theorem dX8_giftOf_21 : decode cX8_giftOf 21 = .ok (.ifCond .eq 10, 3) := by decide +kernel
theorem dX8_giftOf_24 : decode cX8_giftOf 24 = .ok (.iload_n 0, 1) := by decide +kernel
theorem dX8_giftOf_25 : decode cX8_giftOf 25 = .ok (.bipush 97, 2) := by decide +kernel
theorem dX8_giftOf_27 : decode cX8_giftOf 27 = .ok (.isub, 1) := by decide +kernel
theorem dX8_giftOf_28 : decode cX8_giftOf 28 = .ok (.goto 5, 3) := by decide +kernel
theorem dX8_giftOf_31 : decode cX8_giftOf 31 = .ok (.bipush (-9), 2) := by decide +kernel
theorem dX8_giftOf_33 : decode cX8_giftOf 33 = .ok (.ireturn, 1) := by decide +kernel
theorem dX8_readText_0 : decode cX8_readText 0 = .ok (.aload_n 0, 1) := by decide +kernel
theorem dX8_readText_1 : decode cX8_readText 1 = .ok (.iconst 0, 1) := by decide +kernel
theorem dX8_readText_2 : decode cX8_readText 2 = .ok (.putfield 90, 3) := by decide +kernel
theorem dX8_readText_5 : decode cX8_readText 5 = .ok (.aload_n 0, 1) := by decide +kernel
theorem dX8_readText_6 : decode cX8_readText 6 = .ok (.bipush (-9), 2) := by decide +kernel
theorem dX8_readText_8 : decode cX8_readText 8 = .ok (.putfield 87, 3) := by decide +kernel
theorem dX8_readText_11 : decode cX8_readText 11 = .ok (.aload_n 0, 1) := by decide +kernel
theorem dX8_readText_12 : decode cX8_readText 12 = .ok (.iconst 0, 1) := by decide +kernel
theorem dX8_readText_13 : decode cX8_readText 13 = .ok (.putfield 97, 3) := by decide +kernel
theorem dX8_readText_16 : decode cX8_readText 16 = .ok (.aload_n 0, 1) := by decide +kernel
theorem dX8_readText_17 : decode cX8_readText 17 = .ok (.iconst 0, 1) := by decide +kernel
theorem dX8_readText_18 : decode cX8_readText 18 = .ok (.putfield 100, 3) := by decide +kernel
theorem dX8_readText_21 : decode cX8_readText 21 = .ok (.aload_n 0, 1) := by decide +kernel
theorem dX8_readText_22 : decode cX8_readText 22 = .ok (.iconst 0, 1) := by decide +kernel
theorem dX8_readText_23 : decode cX8_readText 23 = .ok (.putfield 103, 3) := by decide +kernel
theorem dX8_readText_26 : decode cX8_readText 26 = .ok (.aload_n 0, 1) := by decide +kernel
theorem dX8_readText_27 : decode cX8_readText 27 = .ok (.getfield 84, 3) := by decide +kernel
theorem dX8_readText_30 : decode cX8_readText 30 = .ok (.ifCond .eq 14, 3) := by decide +kernel
theorem dX8_readText_33 : decode cX8_readText 33 = .ok (.aload_n 0, 1) := by decide +kernel
theorem dX8_readText_34 : decode cX8_readText 34 = .ok (.getfield 37, 3) := by decide +kernel
theorem dX8_readText_37 : decode cX8_readText 37 = .ok (.iconst 0, 1) := by decide +kernel
theorem dX8_readText_38 : decode cX8_readText 38 = .ok (.iaload, 1) := by decide +kernel
theorem dX8_readText_39 : decode cX8_readText 39 = .ok (.bipush 69, 2) := by decide +kernel
theorem dX8_readText_41 : decode cX8_readText 41 = .ok (.if_icmp .eq 5, 3) := by decide +kernel
theorem dX8_readText_44 : decode cX8_readText 44 = .ok (.iconst 0, 1) := by decide +kernel
theorem dX8_readText_45 : decode cX8_readText 45 = .ok (.ireturn, 1) := by decide +kernel
theorem dX8_readText_46 : decode cX8_readText 46 = .ok (.aload_n 0, 1) := by decide +kernel
theorem dX8_readText_47 : decode cX8_readText 47 = .ok (.iconst 1, 1) := by decide +kernel
theorem dX8_readText_48 : decode cX8_readText 48 = .ok (.putfield 90, 3) := by decide +kernel
theorem dX8_readText_51 : decode cX8_readText 51 = .ok (.aload_n 0, 1) := by decide +kernel
theorem dX8_readText_52 : decode cX8_readText 52 = .ok (.getfield 90, 3) := by decide +kernel
theorem dX8_readText_55 : decode cX8_readText 55 = .ok (.aload_n 0, 1) := by decide +kernel
theorem dX8_readText_56 : decode cX8_readText 56 = .ok (.getfield 84, 3) := by decide +kernel
theorem dX8_readText_59 : decode cX8_readText 59 = .ok (.if_icmp .ge 73, 3) := by decide +kernel
theorem dX8_readText_62 : decode cX8_readText 62 = .ok (.aload_n 0, 1) := by decide +kernel
theorem dX8_readText_63 : decode cX8_readText 63 = .ok (.getfield 97, 3) := by decide +kernel
theorem dX8_readText_66 : decode cX8_readText 66 = .ok (.bipush 12, 2) := by decide +kernel
theorem dX8_readText_68 : decode cX8_readText 68 = .ok (.if_icmp .ge 64, 3) := by decide +kernel
theorem dX8_readText_71 : decode cX8_readText 71 = .ok (.aload_n 0, 1) := by decide +kernel
theorem dX8_readText_72 : decode cX8_readText 72 = .ok (.getfield 37, 3) := by decide +kernel
theorem dX8_readText_75 : decode cX8_readText 75 = .ok (.aload_n 0, 1) := by decide +kernel
theorem dX8_readText_76 : decode cX8_readText 76 = .ok (.getfield 90, 3) := by decide +kernel
theorem dX8_readText_79 : decode cX8_readText 79 = .ok (.iaload, 1) := by decide +kernel
theorem dX8_readText_80 : decode cX8_readText 80 = .ok (.invokestatic 106, 3) := by decide +kernel
theorem dX8_readText_83 : decode cX8_readText 83 = .ok (.bipush (-9), 2) := by decide +kernel
theorem dX8_readText_85 : decode cX8_readText 85 = .ok (.if_icmp .eq 47, 3) := by decide +kernel
theorem dX8_readText_88 : decode cX8_readText 88 = .ok (.aload_n 0, 1) := by decide +kernel
theorem dX8_readText_89 : decode cX8_readText 89 = .ok (.getfield 40, 3) := by decide +kernel
theorem dX8_readText_92 : decode cX8_readText 92 = .ok (.aload_n 0, 1) := by decide +kernel
theorem dX8_readText_93 : decode cX8_readText 93 = .ok (.getfield 97, 3) := by decide +kernel
theorem dX8_readText_96 : decode cX8_readText 96 = .ok (.aload_n 0, 1) := by decide +kernel
theorem dX8_readText_97 : decode cX8_readText 97 = .ok (.getfield 37, 3) := by decide +kernel
theorem dX8_readText_100 : decode cX8_readText 100 = .ok (.aload_n 0, 1) := by decide +kernel
theorem dX8_readText_101 : decode cX8_readText 101 = .ok (.getfield 90, 3) := by decide +kernel
theorem dX8_readText_104 : decode cX8_readText 104 = .ok (.iaload, 1) := by decide +kernel
theorem dX8_readText_105 : decode cX8_readText 105 = .ok (.invokestatic 106, 3) := by decide +kernel
theorem dX8_readText_108 : decode cX8_readText 108 = .ok (.iastore, 1) := by decide +kernel
theorem dX8_readText_109 : decode cX8_readText 109 = .ok (.aload_n 0, 1) := by decide +kernel
theorem dX8_readText_110 : decode cX8_readText 110 = .ok (.dup, 1) := by decide +kernel
theorem dX8_readText_111 : decode cX8_readText 111 = .ok (.getfield 97, 3) := by decide +kernel
theorem dX8_readText_114 : decode cX8_readText 114 = .ok (.iconst 1, 1) := by decide +kernel
theorem dX8_readText_115 : decode cX8_readText 115 = .ok (.iadd, 1) := by decide +kernel
theorem dX8_readText_116 : decode cX8_readText 116 = .ok (.putfield 97, 3) := by decide +kernel
theorem dX8_readText_119 : decode cX8_readText 119 = .ok (.aload_n 0, 1) := by decide +kernel
theorem dX8_readText_120 : decode cX8_readText 120 = .ok (.dup, 1) := by decide +kernel
theorem dX8_readText_121 : decode cX8_readText 121 = .ok (.getfield 90, 3) := by decide +kernel
theorem dX8_readText_124 : decode cX8_readText 124 = .ok (.iconst 1, 1) := by decide +kernel
theorem dX8_readText_125 : decode cX8_readText 125 = .ok (.iadd, 1) := by decide +kernel
theorem dX8_readText_126 : decode cX8_readText 126 = .ok (.putfield 90, 3) := by decide +kernel
theorem dX8_readText_129 : decode cX8_readText 129 = .ok (.goto (-78), 3) := by decide +kernel
theorem dX8_readText_132 : decode cX8_readText 132 = .ok (.aload_n 0, 1) := by decide +kernel
theorem dX8_readText_133 : decode cX8_readText 133 = .ok (.getfield 87, 3) := by decide +kernel
theorem dX8_readText_136 : decode cX8_readText 136 = .ok (.bipush (-9), 2) := by decide +kernel
theorem dX8_readText_138 : decode cX8_readText 138 = .ok (.if_icmp .ne 30, 3) := by decide +kernel
theorem dX8_readText_141 : decode cX8_readText 141 = .ok (.aload_n 0, 1) := by decide +kernel
theorem dX8_readText_142 : decode cX8_readText 142 = .ok (.getfield 90, 3) := by decide +kernel
theorem dX8_readText_145 : decode cX8_readText 145 = .ok (.aload_n 0, 1) := by decide +kernel
theorem dX8_readText_146 : decode cX8_readText 146 = .ok (.getfield 84, 3) := by decide +kernel
theorem dX8_readText_149 : decode cX8_readText 149 = .ok (.if_icmp .ge 19, 3) := by decide +kernel
theorem dX8_readText_152 : decode cX8_readText 152 = .ok (.aload_n 0, 1) := by decide +kernel
theorem dX8_readText_153 : decode cX8_readText 153 = .ok (.aload_n 0, 1) := by decide +kernel
theorem dX8_readText_154 : decode cX8_readText 154 = .ok (.getfield 37, 3) := by decide +kernel
theorem dX8_readText_157 : decode cX8_readText 157 = .ok (.aload_n 0, 1) := by decide +kernel
theorem dX8_readText_158 : decode cX8_readText 158 = .ok (.getfield 90, 3) := by decide +kernel
theorem dX8_readText_161 : decode cX8_readText 161 = .ok (.iaload, 1) := by decide +kernel
theorem dX8_readText_162 : decode cX8_readText 162 = .ok (.invokevirtual 110, 3) := by decide +kernel
theorem dX8_readText_165 : decode cX8_readText 165 = .ok (.goto (-33), 3) := by decide +kernel
theorem dX8_readText_168 : decode cX8_readText 168 = .ok (.aload_n 0, 1) := by decide +kernel
theorem dX8_readText_169 : decode cX8_readText 169 = .ok (.getfield 87, 3) := by decide +kernel
theorem dX8_readText_172 : decode cX8_readText 172 = .ok (.ireturn, 1) := by decide +kernel
theorem dX8_readPart_0 : decode cX8_readPart 0 = .ok (.iload_n 1, 1) := by decide +kernel
theorem dX8_readPart_1 : decode cX8_readPart 1 = .ok (.bipush 67, 2) := by decide +kernel
theorem dX8_readPart_3 : decode cX8_readPart 3 = .ok (.if_icmp .ne 180, 3) := by decide +kernel
theorem dX8_readPart_6 : decode cX8_readPart 6 = .ok (.aload_n 0, 1) := by decide +kernel
theorem dX8_readPart_7 : decode cX8_readPart 7 = .ok (.getfield 100, 3) := by decide +kernel
theorem dX8_readPart_10 : decode cX8_readPart 10 = .ok (.iconst 4, 1) := by decide +kernel
theorem dX8_readPart_11 : decode cX8_readPart 11 = .ok (.if_icmp .ge 172, 3) := by decide +kernel
theorem dX8_readPart_14 : decode cX8_readPart 14 = .ok (.aload_n 0, 1) := by decide +kernel
theorem dX8_readPart_15 : decode cX8_readPart 15 = .ok (.getfield 97, 3) := by decide +kernel
theorem dX8_readPart_18 : decode cX8_readPart 18 = .ok (.ifCond .le 165, 3) := by decide +kernel
theorem dX8_readPart_21 : decode cX8_readPart 21 = .ok (.aload_n 0, 1) := by decide +kernel
theorem dX8_readPart_22 : decode cX8_readPart 22 = .ok (.dup, 1) := by decide +kernel
theorem dX8_readPart_23 : decode cX8_readPart 23 = .ok (.getfield 90, 3) := by decide +kernel
theorem dX8_readPart_26 : decode cX8_readPart 26 = .ok (.iconst 1, 1) := by decide +kernel
theorem dX8_readPart_27 : decode cX8_readPart 27 = .ok (.iadd, 1) := by decide +kernel
theorem dX8_readPart_28 : decode cX8_readPart 28 = .ok (.putfield 90, 3) := by decide +kernel
theorem dX8_readPart_31 : decode cX8_readPart 31 = .ok (.aload_n 0, 1) := by decide +kernel
theorem dX8_readPart_32 : decode cX8_readPart 32 = .ok (.iconst 0, 1) := by decide +kernel
theorem dX8_readPart_33 : decode cX8_readPart 33 = .ok (.aload_n 0, 1) := by decide +kernel
theorem dX8_readPart_34 : decode cX8_readPart 34 = .ok (.getfield 97, 3) := by decide +kernel
theorem dX8_readPart_37 : decode cX8_readPart 37 = .ok (.iconst 1, 1) := by decide +kernel
theorem dX8_readPart_38 : decode cX8_readPart 38 = .ok (.isub, 1) := by decide +kernel
theorem dX8_readPart_39 : decode cX8_readPart 39 = .ok (.bipush 10, 2) := by decide +kernel
theorem dX8_readPart_41 : decode cX8_readPart 41 = .ok (.idiv, 1) := by decide +kernel
theorem dX8_readPart_42 : decode cX8_readPart 42 = .ok (.bipush 48, 2) := by decide +kernel
theorem dX8_readPart_44 : decode cX8_readPart 44 = .ok (.invokevirtual 114, 3) := by decide +kernel
theorem dX8_readPart_47 : decode cX8_readPart 47 = .ok (.istore_n 2, 1) := by decide +kernel
theorem dX8_readPart_48 : decode cX8_readPart 48 = .ok (.aload_n 0, 1) := by decide +kernel
theorem dX8_readPart_49 : decode cX8_readPart 49 = .ok (.iconst 0, 1) := by decide +kernel
theorem dX8_readPart_50 : decode cX8_readPart 50 = .ok (.aload_n 0, 1) := by decide +kernel
theorem dX8_readPart_51 : decode cX8_readPart 51 = .ok (.getfield 97, 3) := by decide +kernel
theorem dX8_readPart_54 : decode cX8_readPart 54 = .ok (.iconst 1, 1) := by decide +kernel
theorem dX8_readPart_55 : decode cX8_readPart 55 = .ok (.isub, 1) := by decide +kernel
theorem dX8_readPart_56 : decode cX8_readPart 56 = .ok (.bipush 10, 2) := by decide +kernel
theorem dX8_readPart_58 : decode cX8_readPart 58 = .ok (.iload_n 2, 1) := by decide +kernel
theorem dX8_readPart_59 : decode cX8_readPart 59 = .ok (.imul, 1) := by decide +kernel
theorem dX8_readPart_60 : decode cX8_readPart 60 = .ok (.isub, 1) := by decide +kernel
theorem dX8_readPart_61 : decode cX8_readPart 61 = .ok (.bipush 9, 2) := by decide +kernel
theorem dX8_readPart_63 : decode cX8_readPart 63 = .ok (.if_icmp .ge 17, 3) := by decide +kernel
theorem dX8_readPart_66 : decode cX8_readPart 66 = .ok (.aload_n 0, 1) := by decide +kernel
theorem dX8_readPart_67 : decode cX8_readPart 67 = .ok (.getfield 97, 3) := by decide +kernel
theorem dX8_readPart_70 : decode cX8_readPart 70 = .ok (.iconst 1, 1) := by decide +kernel
theorem dX8_readPart_71 : decode cX8_readPart 71 = .ok (.isub, 1) := by decide +kernel
theorem dX8_readPart_72 : decode cX8_readPart 72 = .ok (.bipush 10, 2) := by decide +kernel
theorem dX8_readPart_74 : decode cX8_readPart 74 = .ok (.iload_n 2, 1) := by decide +kernel
theorem dX8_readPart_75 : decode cX8_readPart 75 = .ok (.imul, 1) := by decide +kernel
theorem dX8_readPart_76 : decode cX8_readPart 76 = .ok (.isub, 1) := by decide +kernel
theorem dX8_readPart_77 : decode cX8_readPart 77 = .ok (.goto 5, 3) := by decide +kernel
theorem dX8_readPart_80 : decode cX8_readPart 80 = .ok (.bipush 9, 2) := by decide +kernel
theorem dX8_readPart_82 : decode cX8_readPart 82 = .ok (.bipush 48, 2) := by decide +kernel
theorem dX8_readPart_84 : decode cX8_readPart 84 = .ok (.invokevirtual 114, 3) := by decide +kernel
theorem dX8_readPart_87 : decode cX8_readPart 87 = .ok (.istore_n 3, 1) := by decide +kernel
theorem dX8_readPart_88 : decode cX8_readPart 88 = .ok (.aload_n 0, 1) := by decide +kernel
theorem dX8_readPart_89 : decode cX8_readPart 89 = .ok (.getfield 97, 3) := by decide +kernel
theorem dX8_readPart_92 : decode cX8_readPart 92 = .ok (.bipush 10, 2) := by decide +kernel
theorem dX8_readPart_94 : decode cX8_readPart 94 = .ok (.iload_n 2, 1) := by decide +kernel
theorem dX8_readPart_95 : decode cX8_readPart 95 = .ok (.imul, 1) := by decide +kernel
theorem dX8_readPart_96 : decode cX8_readPart 96 = .ok (.isub, 1) := by decide +kernel
theorem dX8_readPart_97 : decode cX8_readPart 97 = .ok (.iload_n 3, 1) := by decide +kernel
theorem dX8_readPart_98 : decode cX8_readPart 98 = .ok (.isub, 1) := by decide +kernel
theorem dX8_readPart_99 : decode cX8_readPart 99 = .ok (.istore 4, 2) := by decide +kernel
theorem dX8_readPart_101 : decode cX8_readPart 101 = .ok (.iconst 3, 1) := by decide +kernel
theorem dX8_readPart_102 : decode cX8_readPart 102 = .ok (.aload_n 0, 1) := by decide +kernel
theorem dX8_readPart_103 : decode cX8_readPart 103 = .ok (.getfield 100, 3) := by decide +kernel
theorem dX8_readPart_106 : decode cX8_readPart 106 = .ok (.imul, 1) := by decide +kernel
theorem dX8_readPart_107 : decode cX8_readPart 107 = .ok (.istore 5, 2) := by decide +kernel
theorem dX8_readPart_109 : decode cX8_readPart 109 = .ok (.aload_n 0, 1) := by decide +kernel
theorem dX8_readPart_110 : decode cX8_readPart 110 = .ok (.getfield 43, 3) := by decide +kernel
theorem dX8_readPart_113 : decode cX8_readPart 113 = .ok (.iload 5, 2) := by decide +kernel
theorem dX8_readPart_115 : decode cX8_readPart 115 = .ok (.bipush 10, 2) := by decide +kernel
theorem dX8_readPart_117 : decode cX8_readPart 117 = .ok (.iload_n 2, 1) := by decide +kernel
theorem dX8_readPart_118 : decode cX8_readPart 118 = .ok (.imul, 1) := by decide +kernel
theorem dX8_readPart_119 : decode cX8_readPart 119 = .ok (.iload_n 3, 1) := by decide +kernel
theorem dX8_readPart_120 : decode cX8_readPart 120 = .ok (.iadd, 1) := by decide +kernel
theorem dX8_readPart_121 : decode cX8_readPart 121 = .ok (.iastore, 1) := by decide +kernel
theorem dX8_readPart_122 : decode cX8_readPart 122 = .ok (.aload_n 0, 1) := by decide +kernel
theorem dX8_readPart_123 : decode cX8_readPart 123 = .ok (.getfield 43, 3) := by decide +kernel
theorem dX8_readPart_126 : decode cX8_readPart 126 = .ok (.iload 5, 2) := by decide +kernel
theorem dX8_readPart_128 : decode cX8_readPart 128 = .ok (.iconst 1, 1) := by decide +kernel
theorem dX8_readPart_129 : decode cX8_readPart 129 = .ok (.iadd, 1) := by decide +kernel
theorem dX8_readPart_130 : decode cX8_readPart 130 = .ok (.aload_n 0, 1) := by decide +kernel
theorem dX8_readPart_131 : decode cX8_readPart 131 = .ok (.iconst 1, 1) := by decide +kernel
theorem dX8_readPart_132 : decode cX8_readPart 132 = .ok (.iload 4, 2) := by decide +kernel
theorem dX8_readPart_134 : decode cX8_readPart 134 = .ok (.bipush 6, 2) := by decide +kernel
theorem dX8_readPart_136 : decode cX8_readPart 136 = .ok (.if_icmp .ge 8, 3) := by decide +kernel
theorem dX8_readPart_139 : decode cX8_readPart 139 = .ok (.iload 4, 2) := by decide +kernel
theorem dX8_readPart_141 : decode cX8_readPart 141 = .ok (.goto 5, 3) := by decide +kernel
theorem dX8_readPart_144 : decode cX8_readPart 144 = .ok (.bipush 6, 2) := by decide +kernel
theorem dX8_readPart_146 : decode cX8_readPart 146 = .ok (.bipush 48, 2) := by decide +kernel
theorem dX8_readPart_148 : decode cX8_readPart 148 = .ok (.invokevirtual 114, 3) := by decide +kernel
theorem dX8_readPart_151 : decode cX8_readPart 151 = .ok (.iastore, 1) := by decide +kernel
theorem dX8_readPart_152 : decode cX8_readPart 152 = .ok (.aload_n 0, 1) := by decide +kernel
theorem dX8_readPart_153 : decode cX8_readPart 153 = .ok (.getfield 43, 3) := by decide +kernel
theorem dX8_readPart_156 : decode cX8_readPart 156 = .ok (.iload 5, 2) := by decide +kernel
theorem dX8_readPart_158 : decode cX8_readPart 158 = .ok (.iconst 2, 1) := by decide +kernel
theorem dX8_readPart_159 : decode cX8_readPart 159 = .ok (.iadd, 1) := by decide +kernel
theorem dX8_readPart_160 : decode cX8_readPart 160 = .ok (.aload_n 0, 1) := by decide +kernel
theorem dX8_readPart_161 : decode cX8_readPart 161 = .ok (.iconst 1, 1) := by decide +kernel
theorem dX8_readPart_162 : decode cX8_readPart 162 = .ok (.bipush 9, 2) := by decide +kernel
theorem dX8_readPart_164 : decode cX8_readPart 164 = .ok (.bipush 48, 2) := by decide +kernel
theorem dX8_readPart_166 : decode cX8_readPart 166 = .ok (.invokevirtual 114, 3) := by decide +kernel
theorem dX8_readPart_169 : decode cX8_readPart 169 = .ok (.iastore, 1) := by decide +kernel
theorem dX8_readPart_170 : decode cX8_readPart 170 = .ok (.aload_n 0, 1) := by decide +kernel
theorem dX8_readPart_171 : decode cX8_readPart 171 = .ok (.dup, 1) := by decide +kernel
theorem dX8_readPart_172 : decode cX8_readPart 172 = .ok (.getfield 100, 3) := by decide +kernel
theorem dX8_readPart_175 : decode cX8_readPart 175 = .ok (.iconst 1, 1) := by decide +kernel
theorem dX8_readPart_176 : decode cX8_readPart 176 = .ok (.iadd, 1) := by decide +kernel
theorem dX8_readPart_177 : decode cX8_readPart 177 = .ok (.putfield 100, 3) := by decide +kernel
theorem dX8_readPart_180 : decode cX8_readPart 180 = .ok (.goto 127, 3) := by decide +kernel
theorem dX8_readPart_183 : decode cX8_readPart 183 = .ok (.iload_n 1, 1) := by decide +kernel
theorem dX8_readPart_184 : decode cX8_readPart 184 = .ok (.bipush 71, 2) := by decide +kernel
theorem dX8_readPart_186 : decode cX8_readPart 186 = .ok (.if_icmp .ne 113, 3) := by decide +kernel
theorem dX8_readPart_189 : decode cX8_readPart 189 = .ok (.aload_n 0, 1) := by decide +kernel
theorem dX8_readPart_190 : decode cX8_readPart 190 = .ok (.getfield 103, 3) := by decide +kernel
theorem dX8_readPart_193 : decode cX8_readPart 193 = .ok (.iconst 4, 1) := by decide +kernel
theorem dX8_readPart_194 : decode cX8_readPart 194 = .ok (.if_icmp .ge 105, 3) := by decide +kernel
theorem dX8_readPart_197 : decode cX8_readPart 197 = .ok (.aload_n 0, 1) := by decide +kernel
theorem dX8_readPart_198 : decode cX8_readPart 198 = .ok (.dup, 1) := by decide +kernel
theorem dX8_readPart_199 : decode cX8_readPart 199 = .ok (.getfield 90, 3) := by decide +kernel
theorem dX8_readPart_202 : decode cX8_readPart 202 = .ok (.iconst 1, 1) := by decide +kernel
theorem dX8_readPart_203 : decode cX8_readPart 203 = .ok (.iadd, 1) := by decide +kernel
theorem dX8_readPart_204 : decode cX8_readPart 204 = .ok (.putfield 90, 3) := by decide +kernel
theorem dX8_readPart_207 : decode cX8_readPart 207 = .ok (.iconst 4, 1) := by decide +kernel
theorem dX8_readPart_208 : decode cX8_readPart 208 = .ok (.aload_n 0, 1) := by decide +kernel
theorem dX8_readPart_209 : decode cX8_readPart 209 = .ok (.getfield 103, 3) := by decide +kernel
theorem dX8_readPart_212 : decode cX8_readPart 212 = .ok (.imul, 1) := by decide +kernel
theorem dX8_readPart_213 : decode cX8_readPart 213 = .ok (.istore_n 2, 1) := by decide +kernel
theorem dX8_readPart_214 : decode cX8_readPart 214 = .ok (.aload_n 0, 1) := by decide +kernel
theorem dX8_readPart_215 : decode cX8_readPart 215 = .ok (.getfield 46, 3) := by decide +kernel
theorem dX8_readPart_218 : decode cX8_readPart 218 = .ok (.iload_n 2, 1) := by decide +kernel
theorem dX8_readPart_219 : decode cX8_readPart 219 = .ok (.aload_n 0, 1) := by decide +kernel
theorem dX8_readPart_220 : decode cX8_readPart 220 = .ok (.iconst 0, 1) := by decide +kernel
theorem dX8_readPart_221 : decode cX8_readPart 221 = .ok (.iconst 3, 1) := by decide +kernel
theorem dX8_readPart_222 : decode cX8_readPart 222 = .ok (.bipush 97, 2) := by decide +kernel
theorem dX8_readPart_224 : decode cX8_readPart 224 = .ok (.invokevirtual 114, 3) := by decide +kernel
theorem dX8_readPart_227 : decode cX8_readPart 227 = .ok (.iastore, 1) := by decide +kernel
theorem dX8_readPart_228 : decode cX8_readPart 228 = .ok (.aload_n 0, 1) := by decide +kernel
theorem dX8_readPart_229 : decode cX8_readPart 229 = .ok (.getfield 46, 3) := by decide +kernel
theorem dX8_readPart_232 : decode cX8_readPart 232 = .ok (.iload_n 2, 1) := by decide +kernel
theorem dX8_readPart_233 : decode cX8_readPart 233 = .ok (.iconst 1, 1) := by decide +kernel
theorem dX8_readPart_234 : decode cX8_readPart 234 = .ok (.iadd, 1) := by decide +kernel
theorem dX8_readPart_235 : decode cX8_readPart 235 = .ok (.aload_n 0, 1) := by decide +kernel
theorem dX8_readPart_236 : decode cX8_readPart 236 = .ok (.iconst 1, 1) := by decide +kernel
theorem dX8_readPart_237 : decode cX8_readPart 237 = .ok (.bipush 6, 2) := by decide +kernel
theorem dX8_readPart_239 : decode cX8_readPart 239 = .ok (.bipush 48, 2) := by decide +kernel
theorem dX8_readPart_241 : decode cX8_readPart 241 = .ok (.invokevirtual 114, 3) := by decide +kernel
theorem dX8_readPart_244 : decode cX8_readPart 244 = .ok (.iastore, 1) := by decide +kernel
theorem dX8_readPart_245 : decode cX8_readPart 245 = .ok (.aload_n 0, 1) := by decide +kernel
theorem dX8_readPart_246 : decode cX8_readPart 246 = .ok (.getfield 46, 3) := by decide +kernel
theorem dX8_readPart_249 : decode cX8_readPart 249 = .ok (.iload_n 2, 1) := by decide +kernel
theorem dX8_readPart_250 : decode cX8_readPart 250 = .ok (.iconst 2, 1) := by decide +kernel
theorem dX8_readPart_251 : decode cX8_readPart 251 = .ok (.iadd, 1) := by decide +kernel
theorem dX8_readPart_252 : decode cX8_readPart 252 = .ok (.aload_n 0, 1) := by decide +kernel
theorem dX8_readPart_253 : decode cX8_readPart 253 = .ok (.iconst 0, 1) := by decide +kernel
theorem dX8_readPart_254 : decode cX8_readPart 254 = .ok (.bipush 9, 2) := by decide +kernel
theorem dX8_readPart_256 : decode cX8_readPart 256 = .ok (.bipush 48, 2) := by decide +kernel
theorem dX8_readPart_258 : decode cX8_readPart 258 = .ok (.invokevirtual 114, 3) := by decide +kernel
theorem dX8_readPart_261 : decode cX8_readPart 261 = .ok (.iastore, 1) := by decide +kernel
theorem dX8_readPart_262 : decode cX8_readPart 262 = .ok (.aload_n 0, 1) := by decide +kernel
theorem dX8_readPart_263 : decode cX8_readPart 263 = .ok (.getfield 46, 3) := by decide +kernel
theorem dX8_readPart_266 : decode cX8_readPart 266 = .ok (.iload_n 2, 1) := by decide +kernel
theorem dX8_readPart_267 : decode cX8_readPart 267 = .ok (.iconst 3, 1) := by decide +kernel
theorem dX8_readPart_268 : decode cX8_readPart 268 = .ok (.iadd, 1) := by decide +kernel
theorem dX8_readPart_269 : decode cX8_readPart 269 = .ok (.aload_n 0, 1) := by decide +kernel
theorem dX8_readPart_270 : decode cX8_readPart 270 = .ok (.aload_n 0, 1) := by decide +kernel
theorem dX8_readPart_271 : decode cX8_readPart 271 = .ok (.getfield 46, 3) := by decide +kernel
theorem dX8_readPart_274 : decode cX8_readPart 274 = .ok (.iload_n 2, 1) := by decide +kernel
theorem dX8_readPart_275 : decode cX8_readPart 275 = .ok (.iconst 2, 1) := by decide +kernel
theorem dX8_readPart_276 : decode cX8_readPart 276 = .ok (.iadd, 1) := by decide +kernel
theorem dX8_readPart_277 : decode cX8_readPart 277 = .ok (.iaload, 1) := by decide +kernel
theorem dX8_readPart_278 : decode cX8_readPart 278 = .ok (.bipush 9, 2) := by decide +kernel
theorem dX8_readPart_280 : decode cX8_readPart 280 = .ok (.bipush 48, 2) := by decide +kernel
theorem dX8_readPart_282 : decode cX8_readPart 282 = .ok (.invokevirtual 114, 3) := by decide +kernel
theorem dX8_readPart_285 : decode cX8_readPart 285 = .ok (.iastore, 1) := by decide +kernel
theorem dX8_readPart_286 : decode cX8_readPart 286 = .ok (.aload_n 0, 1) := by decide +kernel
theorem dX8_readPart_287 : decode cX8_readPart 287 = .ok (.dup, 1) := by decide +kernel
theorem dX8_readPart_288 : decode cX8_readPart 288 = .ok (.getfield 103, 3) := by decide +kernel
theorem dX8_readPart_291 : decode cX8_readPart 291 = .ok (.iconst 1, 1) := by decide +kernel
theorem dX8_readPart_292 : decode cX8_readPart 292 = .ok (.iadd, 1) := by decide +kernel
theorem dX8_readPart_293 : decode cX8_readPart 293 = .ok (.putfield 103, 3) := by decide +kernel
theorem dX8_readPart_296 : decode cX8_readPart 296 = .ok (.goto 11, 3) := by decide +kernel
theorem dX8_readPart_299 : decode cX8_readPart 299 = .ok (.aload_n 0, 1) := by decide +kernel
theorem dX8_readPart_300 : decode cX8_readPart 300 = .ok (.aload_n 0, 1) := by decide +kernel
theorem dX8_readPart_301 : decode cX8_readPart 301 = .ok (.getfield 90, 3) := by decide +kernel
theorem dX8_readPart_304 : decode cX8_readPart 304 = .ok (.putfield 87, 3) := by decide +kernel
theorem dX8_readPart_307 : decode cX8_readPart 307 = .ok (.return_, 1) := by decide +kernel
theorem dX8_fault_0 : decode cX8_fault 0 = .ok (.aload_n 0, 1) := by decide +kernel
theorem dX8_fault_1 : decode cX8_fault 1 = .ok (.invokevirtual 118, 3) := by decide +kernel
theorem dX8_fault_4 : decode cX8_fault 4 = .ok (.ireturn, 1) := by decide +kernel
theorem dX8_party_0 : decode cX8_party 0 = .ok (.aload_n 0, 1) := by decide +kernel
theorem dX8_party_1 : decode cX8_party 1 = .ok (.invokevirtual 118, 3) := by decide +kernel
theorem dX8_party_4 : decode cX8_party 4 = .ok (.bipush (-9), 2) := by decide +kernel
theorem dX8_party_6 : decode cX8_party 6 = .ok (.if_icmp .eq 6, 3) := by decide +kernel
theorem dX8_party_9 : decode cX8_party 9 = .ok (.bipush (-3), 2) := by decide +kernel
theorem dX8_party_11 : decode cX8_party 11 = .ok (.ireturn, 1) := by decide +kernel
theorem dX8_party_12 : decode cX8_party 12 = .ok (.aload_n 0, 1) := by decide +kernel
theorem dX8_party_13 : decode cX8_party 13 = .ok (.aload_n 0, 1) := by decide +kernel
theorem dX8_party_14 : decode cX8_party 14 = .ok (.getfield 97, 3) := by decide +kernel
theorem dX8_party_17 : decode cX8_party 17 = .ok (.putfield 74, 3) := by decide +kernel
theorem dX8_party_20 : decode cX8_party 20 = .ok (.aload_n 0, 1) := by decide +kernel
theorem dX8_party_21 : decode cX8_party 21 = .ok (.aload_n 0, 1) := by decide +kernel
theorem dX8_party_22 : decode cX8_party 22 = .ok (.getfield 100, 3) := by decide +kernel
theorem dX8_party_25 : decode cX8_party 25 = .ok (.putfield 122, 3) := by decide +kernel
theorem dX8_party_28 : decode cX8_party 28 = .ok (.aload_n 0, 1) := by decide +kernel
theorem dX8_party_29 : decode cX8_party 29 = .ok (.aload_n 0, 1) := by decide +kernel
theorem dX8_party_30 : decode cX8_party 30 = .ok (.getfield 103, 3) := by decide +kernel
theorem dX8_party_33 : decode cX8_party 33 = .ok (.putfield 125, 3) := by decide +kernel
theorem dX8_party_36 : decode cX8_party 36 = .ok (.iconst 0, 1) := by decide +kernel
theorem dX8_party_37 : decode cX8_party 37 = .ok (.istore_n 1, 1) := by decide +kernel
theorem dX8_party_38 : decode cX8_party 38 = .ok (.iload_n 1, 1) := by decide +kernel
theorem dX8_party_39 : decode cX8_party 39 = .ok (.bipush 12, 2) := by decide +kernel
theorem dX8_party_41 : decode cX8_party 41 = .ok (.if_icmp .ge 21, 3) := by decide +kernel
theorem dX8_party_44 : decode cX8_party 44 = .ok (.aload_n 0, 1) := by decide +kernel
theorem dX8_party_45 : decode cX8_party 45 = .ok (.getfield 7, 3) := by decide +kernel
theorem dX8_party_48 : decode cX8_party 48 = .ok (.iload_n 1, 1) := by decide +kernel
theorem dX8_party_49 : decode cX8_party 49 = .ok (.aload_n 0, 1) := by decide +kernel
theorem dX8_party_50 : decode cX8_party 50 = .ok (.getfield 40, 3) := by decide +kernel
theorem dX8_party_53 : decode cX8_party 53 = .ok (.iload_n 1, 1) := by decide +kernel
theorem dX8_party_54 : decode cX8_party 54 = .ok (.iaload, 1) := by decide +kernel
theorem dX8_party_55 : decode cX8_party 55 = .ok (.iastore, 1) := by decide +kernel
theorem dX8_party_56 : decode cX8_party 56 = .ok (.iinc 1 1, 3) := by decide +kernel
theorem dX8_party_59 : decode cX8_party 59 = .ok (.goto (-21), 3) := by decide +kernel
theorem dX8_party_62 : decode cX8_party 62 = .ok (.iconst 0, 1) := by decide +kernel
theorem dX8_party_63 : decode cX8_party 63 = .ok (.istore_n 1, 1) := by decide +kernel
theorem dX8_party_64 : decode cX8_party 64 = .ok (.iload_n 1, 1) := by decide +kernel
theorem dX8_party_65 : decode cX8_party 65 = .ok (.iconst 4, 1) := by decide +kernel
theorem dX8_party_66 : decode cX8_party 66 = .ok (.if_icmp .ge 163, 3) := by decide +kernel
theorem dX8_party_69 : decode cX8_party 69 = .ok (.aload_n 0, 1) := by decide +kernel
theorem dX8_party_70 : decode cX8_party 70 = .ok (.getfield 13, 3) := by decide +kernel
theorem dX8_party_73 : decode cX8_party 73 = .ok (.iload_n 1, 1) := by decide +kernel
theorem dX8_party_74 : decode cX8_party 74 = .ok (.aload_n 0, 1) := by decide +kernel
theorem dX8_party_75 : decode cX8_party 75 = .ok (.getfield 43, 3) := by decide +kernel
theorem dX8_party_78 : decode cX8_party 78 = .ok (.iconst 3, 1) := by decide +kernel
theorem dX8_party_79 : decode cX8_party 79 = .ok (.iload_n 1, 1) := by decide +kernel
theorem dX8_party_80 : decode cX8_party 80 = .ok (.imul, 1) := by decide +kernel
theorem dX8_party_81 : decode cX8_party 81 = .ok (.iaload, 1) := by decide +kernel
theorem dX8_party_82 : decode cX8_party 82 = .ok (.iastore, 1) := by decide +kernel
theorem dX8_party_83 : decode cX8_party 83 = .ok (.aload_n 0, 1) := by decide +kernel
theorem dX8_party_84 : decode cX8_party 84 = .ok (.getfield 16, 3) := by decide +kernel
theorem dX8_party_87 : decode cX8_party 87 = .ok (.iload_n 1, 1) := by decide +kernel
theorem dX8_party_88 : decode cX8_party 88 = .ok (.aload_n 0, 1) := by decide +kernel
theorem dX8_party_89 : decode cX8_party 89 = .ok (.getfield 43, 3) := by decide +kernel
theorem dX8_party_92 : decode cX8_party 92 = .ok (.iconst 3, 1) := by decide +kernel
theorem dX8_party_93 : decode cX8_party 93 = .ok (.iload_n 1, 1) := by decide +kernel
theorem dX8_party_94 : decode cX8_party 94 = .ok (.imul, 1) := by decide +kernel
theorem dX8_party_95 : decode cX8_party 95 = .ok (.iconst 1, 1) := by decide +kernel
theorem dX8_party_96 : decode cX8_party 96 = .ok (.iadd, 1) := by decide +kernel
theorem dX8_party_97 : decode cX8_party 97 = .ok (.iaload, 1) := by decide +kernel
theorem dX8_party_98 : decode cX8_party 98 = .ok (.iastore, 1) := by decide +kernel
theorem dX8_party_99 : decode cX8_party 99 = .ok (.aload_n 0, 1) := by decide +kernel
theorem dX8_party_100 : decode cX8_party 100 = .ok (.getfield 19, 3) := by decide +kernel
theorem dX8_party_103 : decode cX8_party 103 = .ok (.iload_n 1, 1) := by decide +kernel
theorem dX8_party_104 : decode cX8_party 104 = .ok (.aload_n 0, 1) := by decide +kernel
theorem dX8_party_105 : decode cX8_party 105 = .ok (.getfield 43, 3) := by decide +kernel
theorem dX8_party_108 : decode cX8_party 108 = .ok (.iconst 3, 1) := by decide +kernel
theorem dX8_party_109 : decode cX8_party 109 = .ok (.iload_n 1, 1) := by decide +kernel
theorem dX8_party_110 : decode cX8_party 110 = .ok (.imul, 1) := by decide +kernel
theorem dX8_party_111 : decode cX8_party 111 = .ok (.iconst 2, 1) := by decide +kernel
theorem dX8_party_112 : decode cX8_party 112 = .ok (.iadd, 1) := by decide +kernel
theorem dX8_party_113 : decode cX8_party 113 = .ok (.iaload, 1) := by decide +kernel
theorem dX8_party_114 : decode cX8_party 114 = .ok (.iastore, 1) := by decide +kernel
theorem dX8_party_115 : decode cX8_party 115 = .ok (.aload_n 0, 1) := by decide +kernel
theorem dX8_party_116 : decode cX8_party 116 = .ok (.getfield 34, 3) := by decide +kernel
theorem dX8_party_119 : decode cX8_party 119 = .ok (.iload_n 1, 1) := by decide +kernel
theorem dX8_party_120 : decode cX8_party 120 = .ok (.aload_n 0, 1) := by decide +kernel
theorem dX8_party_121 : decode cX8_party 121 = .ok (.getfield 13, 3) := by decide +kernel
theorem dX8_party_124 : decode cX8_party 124 = .ok (.iload_n 1, 1) := by decide +kernel
theorem dX8_party_125 : decode cX8_party 125 = .ok (.iaload, 1) := by decide +kernel
theorem dX8_party_126 : decode cX8_party 126 = .ok (.iastore, 1) := by decide +kernel
theorem dX8_party_127 : decode cX8_party 127 = .ok (.aload_n 0, 1) := by decide +kernel
theorem dX8_party_128 : decode cX8_party 128 = .ok (.getfield 34, 3) := by decide +kernel
theorem dX8_party_131 : decode cX8_party 131 = .ok (.iconst 4, 1) := by decide +kernel
theorem dX8_party_132 : decode cX8_party 132 = .ok (.iload_n 1, 1) := by decide +kernel
theorem dX8_party_133 : decode cX8_party 133 = .ok (.iadd, 1) := by decide +kernel
theorem dX8_party_134 : decode cX8_party 134 = .ok (.aload_n 0, 1) := by decide +kernel
theorem dX8_party_135 : decode cX8_party 135 = .ok (.getfield 16, 3) := by decide +kernel
theorem dX8_party_138 : decode cX8_party 138 = .ok (.iload_n 1, 1) := by decide +kernel
theorem dX8_party_139 : decode cX8_party 139 = .ok (.iaload, 1) := by decide +kernel
theorem dX8_party_140 : decode cX8_party 140 = .ok (.iastore, 1) := by decide +kernel
theorem dX8_party_141 : decode cX8_party 141 = .ok (.aload_n 0, 1) := by decide +kernel
theorem dX8_party_142 : decode cX8_party 142 = .ok (.getfield 34, 3) := by decide +kernel
theorem dX8_party_145 : decode cX8_party 145 = .ok (.bipush 8, 2) := by decide +kernel
theorem dX8_party_147 : decode cX8_party 147 = .ok (.iload_n 1, 1) := by decide +kernel
theorem dX8_party_148 : decode cX8_party 148 = .ok (.iadd, 1) := by decide +kernel
theorem dX8_party_149 : decode cX8_party 149 = .ok (.iconst 0, 1) := by decide +kernel
theorem dX8_party_150 : decode cX8_party 150 = .ok (.iastore, 1) := by decide +kernel
theorem dX8_party_151 : decode cX8_party 151 = .ok (.aload_n 0, 1) := by decide +kernel
theorem dX8_party_152 : decode cX8_party 152 = .ok (.getfield 34, 3) := by decide +kernel
theorem dX8_party_155 : decode cX8_party 155 = .ok (.bipush 12, 2) := by decide +kernel
theorem dX8_party_157 : decode cX8_party 157 = .ok (.iload_n 1, 1) := by decide +kernel
theorem dX8_party_158 : decode cX8_party 158 = .ok (.iadd, 1) := by decide +kernel
theorem dX8_party_159 : decode cX8_party 159 = .ok (.iconst 0, 1) := by decide +kernel
theorem dX8_party_160 : decode cX8_party 160 = .ok (.iastore, 1) := by decide +kernel
theorem dX8_party_161 : decode cX8_party 161 = .ok (.aload_n 0, 1) := by decide +kernel
theorem dX8_party_162 : decode cX8_party 162 = .ok (.getfield 22, 3) := by decide +kernel
theorem dX8_party_165 : decode cX8_party 165 = .ok (.iload_n 1, 1) := by decide +kernel
theorem dX8_party_166 : decode cX8_party 166 = .ok (.aload_n 0, 1) := by decide +kernel
theorem dX8_party_167 : decode cX8_party 167 = .ok (.getfield 46, 3) := by decide +kernel
theorem dX8_party_170 : decode cX8_party 170 = .ok (.iconst 4, 1) := by decide +kernel
theorem dX8_party_171 : decode cX8_party 171 = .ok (.iload_n 1, 1) := by decide +kernel
theorem dX8_party_172 : decode cX8_party 172 = .ok (.imul, 1) := by decide +kernel
theorem dX8_party_173 : decode cX8_party 173 = .ok (.iaload, 1) := by decide +kernel
theorem dX8_party_174 : decode cX8_party 174 = .ok (.iastore, 1) := by decide +kernel
theorem dX8_party_175 : decode cX8_party 175 = .ok (.aload_n 0, 1) := by decide +kernel
theorem dX8_party_176 : decode cX8_party 176 = .ok (.getfield 25, 3) := by decide +kernel
theorem dX8_party_179 : decode cX8_party 179 = .ok (.iload_n 1, 1) := by decide +kernel
theorem dX8_party_180 : decode cX8_party 180 = .ok (.aload_n 0, 1) := by decide +kernel
theorem dX8_party_181 : decode cX8_party 181 = .ok (.getfield 46, 3) := by decide +kernel
theorem dX8_party_184 : decode cX8_party 184 = .ok (.iconst 4, 1) := by decide +kernel
theorem dX8_party_185 : decode cX8_party 185 = .ok (.iload_n 1, 1) := by decide +kernel
theorem dX8_party_186 : decode cX8_party 186 = .ok (.imul, 1) := by decide +kernel
theorem dX8_party_187 : decode cX8_party 187 = .ok (.iconst 1, 1) := by decide +kernel
theorem dX8_party_188 : decode cX8_party 188 = .ok (.iadd, 1) := by decide +kernel
theorem dX8_party_189 : decode cX8_party 189 = .ok (.iaload, 1) := by decide +kernel
theorem dX8_party_190 : decode cX8_party 190 = .ok (.iastore, 1) := by decide +kernel
theorem dX8_party_191 : decode cX8_party 191 = .ok (.aload_n 0, 1) := by decide +kernel
theorem dX8_party_192 : decode cX8_party 192 = .ok (.getfield 28, 3) := by decide +kernel
theorem dX8_party_195 : decode cX8_party 195 = .ok (.iload_n 1, 1) := by decide +kernel
theorem dX8_party_196 : decode cX8_party 196 = .ok (.aload_n 0, 1) := by decide +kernel
theorem dX8_party_197 : decode cX8_party 197 = .ok (.getfield 46, 3) := by decide +kernel
theorem dX8_party_200 : decode cX8_party 200 = .ok (.iconst 4, 1) := by decide +kernel
theorem dX8_party_201 : decode cX8_party 201 = .ok (.iload_n 1, 1) := by decide +kernel
theorem dX8_party_202 : decode cX8_party 202 = .ok (.imul, 1) := by decide +kernel
theorem dX8_party_203 : decode cX8_party 203 = .ok (.iconst 2, 1) := by decide +kernel
theorem dX8_party_204 : decode cX8_party 204 = .ok (.iadd, 1) := by decide +kernel
theorem dX8_party_205 : decode cX8_party 205 = .ok (.iaload, 1) := by decide +kernel
theorem dX8_party_206 : decode cX8_party 206 = .ok (.iastore, 1) := by decide +kernel
theorem dX8_party_207 : decode cX8_party 207 = .ok (.aload_n 0, 1) := by decide +kernel
theorem dX8_party_208 : decode cX8_party 208 = .ok (.getfield 31, 3) := by decide +kernel
theorem dX8_party_211 : decode cX8_party 211 = .ok (.iload_n 1, 1) := by decide +kernel
theorem dX8_party_212 : decode cX8_party 212 = .ok (.aload_n 0, 1) := by decide +kernel
theorem dX8_party_213 : decode cX8_party 213 = .ok (.getfield 46, 3) := by decide +kernel
theorem dX8_party_216 : decode cX8_party 216 = .ok (.iconst 4, 1) := by decide +kernel
theorem dX8_party_217 : decode cX8_party 217 = .ok (.iload_n 1, 1) := by decide +kernel
theorem dX8_party_218 : decode cX8_party 218 = .ok (.imul, 1) := by decide +kernel
theorem dX8_party_219 : decode cX8_party 219 = .ok (.iconst 3, 1) := by decide +kernel
theorem dX8_party_220 : decode cX8_party 220 = .ok (.iadd, 1) := by decide +kernel
theorem dX8_party_221 : decode cX8_party 221 = .ok (.iaload, 1) := by decide +kernel
theorem dX8_party_222 : decode cX8_party 222 = .ok (.iastore, 1) := by decide +kernel
theorem dX8_party_223 : decode cX8_party 223 = .ok (.iinc 1 1, 3) := by decide +kernel
theorem dX8_party_226 : decode cX8_party 226 = .ok (.goto (-162), 3) := by decide +kernel
theorem dX8_party_229 : decode cX8_party 229 = .ok (.aload_n 0, 1) := by decide +kernel
theorem dX8_party_230 : decode cX8_party 230 = .ok (.getfield 34, 3) := by decide +kernel
theorem dX8_party_233 : decode cX8_party 233 = .ok (.bipush 16, 2) := by decide +kernel
theorem dX8_party_235 : decode cX8_party 235 = .ok (.iconst 0, 1) := by decide +kernel
theorem dX8_party_236 : decode cX8_party 236 = .ok (.iastore, 1) := by decide +kernel
theorem dX8_party_237 : decode cX8_party 237 = .ok (.aload_n 0, 1) := by decide +kernel
theorem dX8_party_238 : decode cX8_party 238 = .ok (.getfield 34, 3) := by decide +kernel
theorem dX8_party_241 : decode cX8_party 241 = .ok (.bipush 17, 2) := by decide +kernel
theorem dX8_party_243 : decode cX8_party 243 = .ok (.iconst 0, 1) := by decide +kernel
theorem dX8_party_244 : decode cX8_party 244 = .ok (.iastore, 1) := by decide +kernel
theorem dX8_party_245 : decode cX8_party 245 = .ok (.aload_n 0, 1) := by decide +kernel
theorem dX8_party_246 : decode cX8_party 246 = .ok (.iconst 0, 1) := by decide +kernel
theorem dX8_party_247 : decode cX8_party 247 = .ok (.putfield 128, 3) := by decide +kernel
theorem dX8_party_250 : decode cX8_party 250 = .ok (.aload_n 0, 1) := by decide +kernel
theorem dX8_party_251 : decode cX8_party 251 = .ok (.getfield 67, 3) := by decide +kernel
theorem dX8_party_254 : decode cX8_party 254 = .ok (.iconst 0, 1) := by decide +kernel
theorem dX8_party_255 : decode cX8_party 255 = .ok (.iconst 0, 1) := by decide +kernel
theorem dX8_party_256 : decode cX8_party 256 = .ok (.bastore, 1) := by decide +kernel
theorem dX8_party_257 : decode cX8_party 257 = .ok (.aload_n 0, 1) := by decide +kernel
theorem dX8_party_258 : decode cX8_party 258 = .ok (.getfield 67, 3) := by decide +kernel
theorem dX8_party_261 : decode cX8_party 261 = .ok (.iconst 1, 1) := by decide +kernel
theorem dX8_party_262 : decode cX8_party 262 = .ok (.iconst 0, 1) := by decide +kernel
theorem dX8_party_263 : decode cX8_party 263 = .ok (.bastore, 1) := by decide +kernel
theorem dX8_party_264 : decode cX8_party 264 = .ok (.bipush 10, 2) := by decide +kernel
theorem dX8_party_266 : decode cX8_party 266 = .ok (.aload_n 0, 1) := by decide +kernel
theorem dX8_party_267 : decode cX8_party 267 = .ok (.getfield 122, 3) := by decide +kernel
theorem dX8_party_270 : decode cX8_party 270 = .ok (.imul, 1) := by decide +kernel
theorem dX8_party_271 : decode cX8_party 271 = .ok (.aload_n 0, 1) := by decide +kernel
theorem dX8_party_272 : decode cX8_party 272 = .ok (.getfield 125, 3) := by decide +kernel
theorem dX8_party_275 : decode cX8_party 275 = .ok (.iadd, 1) := by decide +kernel
theorem dX8_party_276 : decode cX8_party 276 = .ok (.ireturn, 1) := by decide +kernel
theorem dX8_moment_0 : decode cX8_moment 0 = .ok (.iload_n 1, 1) := by decide +kernel
theorem dX8_moment_1 : decode cX8_moment 1 = .ok (.i2l, 1) := by decide +kernel
theorem dX8_moment_2 : decode cX8_moment 2 = .ok (.lconst 0, 1) := by decide +kernel
theorem dX8_moment_3 : decode cX8_moment 3 = .ok (.aload_n 0, 1) := by decide +kernel
theorem dX8_moment_4 : decode cX8_moment 4 = .ok (.getfield 74, 3) := by decide +kernel
theorem dX8_moment_7 : decode cX8_moment 7 = .ok (.iconst 1, 1) := by decide +kernel
theorem dX8_moment_8 : decode cX8_moment 8 = .ok (.isub, 1) := by decide +kernel
theorem dX8_moment_9 : decode cX8_moment 9 = .ok (.i2l, 1) := by decide +kernel
theorem dX8_moment_10 : decode cX8_moment 10 = .ok (.invokestatic 80, 3) := by decide +kernel
theorem dX8_moment_13 : decode cX8_moment 13 = .ok (.ifCond .eq 12, 3) := by decide +kernel
theorem dX8_moment_16 : decode cX8_moment 16 = .ok (.aload_n 0, 1) := by decide +kernel
theorem dX8_moment_17 : decode cX8_moment 17 = .ok (.getfield 7, 3) := by decide +kernel
theorem dX8_moment_20 : decode cX8_moment 20 = .ok (.iload_n 1, 1) := by decide +kernel
theorem dX8_moment_21 : decode cX8_moment 21 = .ok (.iaload, 1) := by decide +kernel
theorem dX8_moment_22 : decode cX8_moment 22 = .ok (.goto 5, 3) := by decide +kernel
theorem dX8_moment_25 : decode cX8_moment 25 = .ok (.bipush (-9), 2) := by decide +kernel
theorem dX8_moment_27 : decode cX8_moment 27 = .ok (.ireturn, 1) := by decide +kernel
theorem dX8_isCandle_0 : decode cX8_isCandle 0 = .ok (.iload_n 1, 1) := by decide +kernel
theorem dX8_isCandle_1 : decode cX8_isCandle 1 = .ok (.i2l, 1) := by decide +kernel
theorem dX8_isCandle_2 : decode cX8_isCandle 2 = .ok (.lconst 0, 1) := by decide +kernel
theorem dX8_isCandle_3 : decode cX8_isCandle 3 = .ok (.aload_n 0, 1) := by decide +kernel
theorem dX8_isCandle_4 : decode cX8_isCandle 4 = .ok (.getfield 122, 3) := by decide +kernel
theorem dX8_isCandle_7 : decode cX8_isCandle 7 = .ok (.iconst 1, 1) := by decide +kernel
theorem dX8_isCandle_8 : decode cX8_isCandle 8 = .ok (.isub, 1) := by decide +kernel
theorem dX8_isCandle_9 : decode cX8_isCandle 9 = .ok (.i2l, 1) := by decide +kernel
theorem dX8_isCandle_10 : decode cX8_isCandle 10 = .ok (.invokestatic 80, 3) := by decide +kernel
theorem dX8_isCandle_13 : decode cX8_isCandle 13 = .ok (.ireturn, 1) := by decide +kernel
theorem dX8_isGuest_0 : decode cX8_isGuest 0 = .ok (.iload_n 1, 1) := by decide +kernel
theorem dX8_isGuest_1 : decode cX8_isGuest 1 = .ok (.i2l, 1) := by decide +kernel
theorem dX8_isGuest_2 : decode cX8_isGuest 2 = .ok (.lconst 0, 1) := by decide +kernel
theorem dX8_isGuest_3 : decode cX8_isGuest 3 = .ok (.aload_n 0, 1) := by decide +kernel
theorem dX8_isGuest_4 : decode cX8_isGuest 4 = .ok (.getfield 125, 3) := by decide +kernel
theorem dX8_isGuest_7 : decode cX8_isGuest 7 = .ok (.iconst 1, 1) := by decide +kernel
theorem dX8_isGuest_8 : decode cX8_isGuest 8 = .ok (.isub, 1) := by decide +kernel
theorem dX8_isGuest_9 : decode cX8_isGuest 9 = .ok (.i2l, 1) := by decide +kernel
theorem dX8_isGuest_10 : decode cX8_isGuest 10 = .ok (.invokestatic 80, 3) := by decide +kernel
theorem dX8_isGuest_13 : decode cX8_isGuest 13 = .ok (.ireturn, 1) := by decide +kernel
theorem dX8_candle_0 : decode cX8_candle 0 = .ok (.aload_n 0, 1) := by decide +kernel
theorem dX8_candle_1 : decode cX8_candle 1 = .ok (.iload_n 1, 1) := by decide +kernel
theorem dX8_candle_2 : decode cX8_candle 2 = .ok (.invokevirtual 131, 3) := by decide +kernel
theorem dX8_candle_5 : decode cX8_candle 5 = .ok (.ifCond .ne 5, 3) := by decide +kernel
theorem dX8_candle_8 : decode cX8_candle 8 = .ok (.iconst (-1), 1) := by decide +kernel
theorem dX8_candle_9 : decode cX8_candle 9 = .ok (.ireturn, 1) := by decide +kernel
theorem dX8_candle_10 : decode cX8_candle 10 = .ok (.iload_n 2, 1) := by decide +kernel
theorem dX8_candle_11 : decode cX8_candle 11 = .ok (.tableswitch 78 0 3 #[29, 52, 61, 68], 29) := by decide +kernel
theorem dX8_candle_40 : decode cX8_candle 40 = .ok (.aload_n 0, 1) := by decide +kernel
theorem dX8_candle_41 : decode cX8_candle 41 = .ok (.getfield 34, 3) := by decide +kernel
theorem dX8_candle_44 : decode cX8_candle 44 = .ok (.iconst 4, 1) := by decide +kernel
theorem dX8_candle_45 : decode cX8_candle 45 = .ok (.iload_n 1, 1) := by decide +kernel
theorem dX8_candle_46 : decode cX8_candle 46 = .ok (.iadd, 1) := by decide +kernel
theorem dX8_candle_47 : decode cX8_candle 47 = .ok (.iaload, 1) := by decide +kernel
theorem dX8_candle_48 : decode cX8_candle 48 = .ok (.ifCond .le 12, 3) := by decide +kernel
theorem dX8_candle_51 : decode cX8_candle 51 = .ok (.aload_n 0, 1) := by decide +kernel
theorem dX8_candle_52 : decode cX8_candle 52 = .ok (.getfield 34, 3) := by decide +kernel
theorem dX8_candle_55 : decode cX8_candle 55 = .ok (.iload_n 1, 1) := by decide +kernel
theorem dX8_candle_56 : decode cX8_candle 56 = .ok (.iaload, 1) := by decide +kernel
theorem dX8_candle_57 : decode cX8_candle 57 = .ok (.goto 5, 3) := by decide +kernel
theorem dX8_candle_60 : decode cX8_candle 60 = .ok (.bipush (-9), 2) := by decide +kernel
theorem dX8_candle_62 : decode cX8_candle 62 = .ok (.ireturn, 1) := by decide +kernel
theorem dX8_candle_63 : decode cX8_candle 63 = .ok (.aload_n 0, 1) := by decide +kernel
theorem dX8_candle_64 : decode cX8_candle 64 = .ok (.getfield 34, 3) := by decide +kernel
theorem dX8_candle_67 : decode cX8_candle 67 = .ok (.iconst 4, 1) := by decide +kernel
theorem dX8_candle_68 : decode cX8_candle 68 = .ok (.iload_n 1, 1) := by decide +kernel
theorem dX8_candle_69 : decode cX8_candle 69 = .ok (.iadd, 1) := by decide +kernel
theorem dX8_candle_70 : decode cX8_candle 70 = .ok (.iaload, 1) := by decide +kernel
theorem dX8_candle_71 : decode cX8_candle 71 = .ok (.ireturn, 1) := by decide +kernel
theorem dX8_candle_72 : decode cX8_candle 72 = .ok (.aload_n 0, 1) := by decide +kernel
theorem dX8_candle_73 : decode cX8_candle 73 = .ok (.getfield 19, 3) := by decide +kernel
theorem dX8_candle_76 : decode cX8_candle 76 = .ok (.iload_n 1, 1) := by decide +kernel
theorem dX8_candle_77 : decode cX8_candle 77 = .ok (.iaload, 1) := by decide +kernel
theorem dX8_candle_78 : decode cX8_candle 78 = .ok (.ireturn, 1) := by decide +kernel
theorem dX8_candle_79 : decode cX8_candle 79 = .ok (.aload_n 0, 1) := by decide +kernel
theorem dX8_candle_80 : decode cX8_candle 80 = .ok (.getfield 34, 3) := by decide +kernel
theorem dX8_candle_83 : decode cX8_candle 83 = .ok (.bipush 8, 2) := by decide +kernel
theorem dX8_candle_85 : decode cX8_candle 85 = .ok (.iload_n 1, 1) := by decide +kernel
theorem dX8_candle_86 : decode cX8_candle 86 = .ok (.iadd, 1) := by decide +kernel
theorem dX8_candle_87 : decode cX8_candle 87 = .ok (.iaload, 1) := by decide +kernel
theorem dX8_candle_88 : decode cX8_candle 88 = .ok (.ireturn, 1) := by decide +kernel
theorem dX8_candle_89 : decode cX8_candle 89 = .ok (.bipush (-2), 2) := by decide +kernel
theorem dX8_candle_91 : decode cX8_candle 91 = .ok (.ireturn, 1) := by decide +kernel
theorem dX8_isContent_0 : decode cX8_isContent 0 = .ok (.aload_n 0, 1) := by decide +kernel
theorem dX8_isContent_1 : decode cX8_isContent 1 = .ok (.getfield 34, 3) := by decide +kernel
theorem dX8_isContent_4 : decode cX8_isContent 4 = .ok (.bipush 18, 2) := by decide +kernel
theorem dX8_isContent_6 : decode cX8_isContent 6 = .ok (.iload_n 1, 1) := by decide +kernel
theorem dX8_isContent_7 : decode cX8_isContent 7 = .ok (.imul, 1) := by decide +kernel
theorem dX8_isContent_8 : decode cX8_isContent 8 = .ok (.bipush 12, 2) := by decide +kernel
theorem dX8_isContent_10 : decode cX8_isContent 10 = .ok (.iadd, 1) := by decide +kernel
theorem dX8_isContent_11 : decode cX8_isContent 11 = .ok (.iload_n 2, 1) := by decide +kernel
theorem dX8_isContent_12 : decode cX8_isContent 12 = .ok (.iadd, 1) := by decide +kernel
theorem dX8_isContent_13 : decode cX8_isContent 13 = .ok (.iaload, 1) := by decide +kernel
theorem dX8_isContent_14 : decode cX8_isContent 14 = .ok (.aload_n 0, 1) := by decide +kernel
theorem dX8_isContent_15 : decode cX8_isContent 15 = .ok (.getfield 25, 3) := by decide +kernel
theorem dX8_isContent_18 : decode cX8_isContent 18 = .ok (.iload_n 2, 1) := by decide +kernel
theorem dX8_isContent_19 : decode cX8_isContent 19 = .ok (.iaload, 1) := by decide +kernel
theorem dX8_isContent_20 : decode cX8_isContent 20 = .ok (.if_icmp .lt 7, 3) := by decide +kernel
theorem dX8_isContent_23 : decode cX8_isContent 23 = .ok (.iconst 1, 1) := by decide +kernel
theorem dX8_isContent_24 : decode cX8_isContent 24 = .ok (.goto 4, 3) := by decide +kernel
theorem dX8_isContent_27 : decode cX8_isContent 27 = .ok (.iconst 0, 1) := by decide +kernel
theorem dX8_isContent_28 : decode cX8_isContent 28 = .ok (.ireturn, 1) := by decide +kernel
theorem dX8_guest_0 : decode cX8_guest 0 = .ok (.aload_n 0, 1) := by decide +kernel
theorem dX8_guest_1 : decode cX8_guest 1 = .ok (.iload_n 1, 1) := by decide +kernel
theorem dX8_guest_2 : decode cX8_guest 2 = .ok (.invokevirtual 135, 3) := by decide +kernel
theorem dX8_guest_5 : decode cX8_guest 5 = .ok (.ifCond .ne 5, 3) := by decide +kernel
theorem dX8_guest_8 : decode cX8_guest 8 = .ok (.iconst (-1), 1) := by decide +kernel
theorem dX8_guest_9 : decode cX8_guest 9 = .ok (.ireturn, 1) := by decide +kernel
theorem dX8_guest_10 : decode cX8_guest 10 = .ok (.iload_n 2, 1) := by decide +kernel
theorem dX8_guest_11 : decode cX8_guest 11 = .ok (.tableswitch 90 0 5 #[37, 44, 51, 58, 65, 75], 37) := by decide +kernel
theorem dX8_guest_48 : decode cX8_guest 48 = .ok (.aload_n 0, 1) := by decide +kernel
theorem dX8_guest_49 : decode cX8_guest 49 = .ok (.getfield 22, 3) := by decide +kernel
theorem dX8_guest_52 : decode cX8_guest 52 = .ok (.iload_n 1, 1) := by decide +kernel
theorem dX8_guest_53 : decode cX8_guest 53 = .ok (.iaload, 1) := by decide +kernel
theorem dX8_guest_54 : decode cX8_guest 54 = .ok (.ireturn, 1) := by decide +kernel
theorem dX8_guest_55 : decode cX8_guest 55 = .ok (.aload_n 0, 1) := by decide +kernel
theorem dX8_guest_56 : decode cX8_guest 56 = .ok (.getfield 25, 3) := by decide +kernel
theorem dX8_guest_59 : decode cX8_guest 59 = .ok (.iload_n 1, 1) := by decide +kernel
theorem dX8_guest_60 : decode cX8_guest 60 = .ok (.iaload, 1) := by decide +kernel
theorem dX8_guest_61 : decode cX8_guest 61 = .ok (.ireturn, 1) := by decide +kernel
theorem dX8_guest_62 : decode cX8_guest 62 = .ok (.aload_n 0, 1) := by decide +kernel
theorem dX8_guest_63 : decode cX8_guest 63 = .ok (.getfield 28, 3) := by decide +kernel
theorem dX8_guest_66 : decode cX8_guest 66 = .ok (.iload_n 1, 1) := by decide +kernel
theorem dX8_guest_67 : decode cX8_guest 67 = .ok (.iaload, 1) := by decide +kernel
theorem dX8_guest_68 : decode cX8_guest 68 = .ok (.ireturn, 1) := by decide +kernel
theorem dX8_guest_69 : decode cX8_guest 69 = .ok (.aload_n 0, 1) := by decide +kernel
theorem dX8_guest_70 : decode cX8_guest 70 = .ok (.getfield 31, 3) := by decide +kernel
theorem dX8_guest_73 : decode cX8_guest 73 = .ok (.iload_n 1, 1) := by decide +kernel
theorem dX8_guest_74 : decode cX8_guest 74 = .ok (.iaload, 1) := by decide +kernel
theorem dX8_guest_75 : decode cX8_guest 75 = .ok (.ireturn, 1) := by decide +kernel
theorem dX8_guest_76 : decode cX8_guest 76 = .ok (.aload_n 0, 1) := by decide +kernel
theorem dX8_guest_77 : decode cX8_guest 77 = .ok (.getfield 34, 3) := by decide +kernel
theorem dX8_guest_80 : decode cX8_guest 80 = .ok (.bipush 12, 2) := by decide +kernel
theorem dX8_guest_82 : decode cX8_guest 82 = .ok (.iload_n 1, 1) := by decide +kernel
theorem dX8_guest_83 : decode cX8_guest 83 = .ok (.iadd, 1) := by decide +kernel
theorem dX8_guest_84 : decode cX8_guest 84 = .ok (.iaload, 1) := by decide +kernel
theorem dX8_guest_85 : decode cX8_guest 85 = .ok (.ireturn, 1) := by decide +kernel
theorem dX8_guest_86 : decode cX8_guest 86 = .ok (.aload_n 0, 1) := by decide +kernel
theorem dX8_guest_87 : decode cX8_guest 87 = .ok (.iconst 0, 1) := by decide +kernel
theorem dX8_guest_88 : decode cX8_guest 88 = .ok (.iload_n 1, 1) := by decide +kernel
theorem dX8_guest_89 : decode cX8_guest 89 = .ok (.invokevirtual 138, 3) := by decide +kernel
theorem dX8_guest_92 : decode cX8_guest 92 = .ok (.ifCond .eq 7, 3) := by decide +kernel
theorem dX8_guest_95 : decode cX8_guest 95 = .ok (.iconst 1, 1) := by decide +kernel
theorem dX8_guest_96 : decode cX8_guest 96 = .ok (.goto 4, 3) := by decide +kernel
theorem dX8_guest_99 : decode cX8_guest 99 = .ok (.iconst 0, 1) := by decide +kernel
theorem dX8_guest_100 : decode cX8_guest 100 = .ok (.ireturn, 1) := by decide +kernel
theorem dX8_guest_101 : decode cX8_guest 101 = .ok (.bipush (-2), 2) := by decide +kernel
theorem dX8_guest_103 : decode cX8_guest 103 = .ok (.ireturn, 1) := by decide +kernel
theorem dX8_pass_0 : decode cX8_pass 0 = .ok (.bipush 18, 2) := by decide +kernel
theorem dX8_pass_2 : decode cX8_pass 2 = .ok (.iload_n 1, 1) := by decide +kernel
theorem dX8_pass_3 : decode cX8_pass 3 = .ok (.imul, 1) := by decide +kernel
theorem dX8_pass_4 : decode cX8_pass 4 = .ok (.istore_n 2, 1) := by decide +kernel
theorem dX8_pass_5 : decode cX8_pass 5 = .ok (.iconst 0, 1) := by decide +kernel
theorem dX8_pass_6 : decode cX8_pass 6 = .ok (.istore_n 3, 1) := by decide +kernel
theorem dX8_pass_7 : decode cX8_pass 7 = .ok (.iconst 0, 1) := by decide +kernel
theorem dX8_pass_8 : decode cX8_pass 8 = .ok (.istore 4, 2) := by decide +kernel
theorem dX8_pass_10 : decode cX8_pass 10 = .ok (.iload 4, 2) := by decide +kernel
theorem dX8_pass_12 : decode cX8_pass 12 = .ok (.aload_n 0, 1) := by decide +kernel
theorem dX8_pass_13 : decode cX8_pass 13 = .ok (.getfield 122, 3) := by decide +kernel
theorem dX8_pass_16 : decode cX8_pass 16 = .ok (.if_icmp .ge 122, 3) := by decide +kernel
theorem dX8_pass_19 : decode cX8_pass 19 = .ok (.aload_n 0, 1) := by decide +kernel
theorem dX8_pass_20 : decode cX8_pass 20 = .ok (.getfield 34, 3) := by decide +kernel
theorem dX8_pass_23 : decode cX8_pass 23 = .ok (.iload_n 2, 1) := by decide +kernel
theorem dX8_pass_24 : decode cX8_pass 24 = .ok (.bipush 8, 2) := by decide +kernel
theorem dX8_pass_26 : decode cX8_pass 26 = .ok (.iadd, 1) := by decide +kernel
theorem dX8_pass_27 : decode cX8_pass 27 = .ok (.iload 4, 2) := by decide +kernel
theorem dX8_pass_29 : decode cX8_pass 29 = .ok (.iadd, 1) := by decide +kernel
theorem dX8_pass_30 : decode cX8_pass 30 = .ok (.iaload, 1) := by decide +kernel
theorem dX8_pass_31 : decode cX8_pass 31 = .ok (.iconst 1, 1) := by decide +kernel
theorem dX8_pass_32 : decode cX8_pass 32 = .ok (.if_icmp .ne 100, 3) := by decide +kernel
theorem dX8_pass_35 : decode cX8_pass 35 = .ok (.iload_n 3, 1) := by decide +kernel
theorem dX8_pass_36 : decode cX8_pass 36 = .ok (.iconst 1, 1) := by decide +kernel
theorem dX8_pass_37 : decode cX8_pass 37 = .ok (.aload_n 0, 1) := by decide +kernel
theorem dX8_pass_38 : decode cX8_pass 38 = .ok (.getfield 7, 3) := by decide +kernel
theorem dX8_pass_41 : decode cX8_pass 41 = .ok (.aload_n 0, 1) := by decide +kernel
theorem dX8_pass_42 : decode cX8_pass 42 = .ok (.getfield 34, 3) := by decide +kernel
theorem dX8_pass_45 : decode cX8_pass 45 = .ok (.iload_n 2, 1) := by decide +kernel
theorem dX8_pass_46 : decode cX8_pass 46 = .ok (.iload 4, 2) := by decide +kernel
theorem dX8_pass_48 : decode cX8_pass 48 = .ok (.iadd, 1) := by decide +kernel
theorem dX8_pass_49 : decode cX8_pass 49 = .ok (.iaload, 1) := by decide +kernel
theorem dX8_pass_50 : decode cX8_pass 50 = .ok (.iaload, 1) := by decide +kernel
theorem dX8_pass_51 : decode cX8_pass 51 = .ok (.ishl, 1) := by decide +kernel
theorem dX8_pass_52 : decode cX8_pass 52 = .ok (.ior, 1) := by decide +kernel
theorem dX8_pass_53 : decode cX8_pass 53 = .ok (.istore_n 3, 1) := by decide +kernel
theorem dX8_pass_54 : decode cX8_pass 54 = .ok (.aload_n 0, 1) := by decide +kernel
theorem dX8_pass_55 : decode cX8_pass 55 = .ok (.getfield 34, 3) := by decide +kernel
theorem dX8_pass_58 : decode cX8_pass 58 = .ok (.iload_n 2, 1) := by decide +kernel
theorem dX8_pass_59 : decode cX8_pass 59 = .ok (.iload 4, 2) := by decide +kernel
theorem dX8_pass_61 : decode cX8_pass 61 = .ok (.iadd, 1) := by decide +kernel
theorem dX8_pass_62 : decode cX8_pass 62 = .ok (.dup2, 1) := by decide +kernel
theorem dX8_pass_63 : decode cX8_pass 63 = .ok (.iaload, 1) := by decide +kernel
theorem dX8_pass_64 : decode cX8_pass 64 = .ok (.iconst 1, 1) := by decide +kernel
theorem dX8_pass_65 : decode cX8_pass 65 = .ok (.iadd, 1) := by decide +kernel
theorem dX8_pass_66 : decode cX8_pass 66 = .ok (.iastore, 1) := by decide +kernel
theorem dX8_pass_67 : decode cX8_pass 67 = .ok (.aload_n 0, 1) := by decide +kernel
theorem dX8_pass_68 : decode cX8_pass 68 = .ok (.getfield 34, 3) := by decide +kernel
theorem dX8_pass_71 : decode cX8_pass 71 = .ok (.iload_n 2, 1) := by decide +kernel
theorem dX8_pass_72 : decode cX8_pass 72 = .ok (.iconst 4, 1) := by decide +kernel
theorem dX8_pass_73 : decode cX8_pass 73 = .ok (.iadd, 1) := by decide +kernel
theorem dX8_pass_74 : decode cX8_pass 74 = .ok (.iload 4, 2) := by decide +kernel
theorem dX8_pass_76 : decode cX8_pass 76 = .ok (.iadd, 1) := by decide +kernel
theorem dX8_pass_77 : decode cX8_pass 77 = .ok (.dup2, 1) := by decide +kernel
theorem dX8_pass_78 : decode cX8_pass 78 = .ok (.iaload, 1) := by decide +kernel
theorem dX8_pass_79 : decode cX8_pass 79 = .ok (.iconst 1, 1) := by decide +kernel
theorem dX8_pass_80 : decode cX8_pass 80 = .ok (.isub, 1) := by decide +kernel
theorem dX8_pass_81 : decode cX8_pass 81 = .ok (.iastore, 1) := by decide +kernel
theorem dX8_pass_82 : decode cX8_pass 82 = .ok (.aload_n 0, 1) := by decide +kernel
theorem dX8_pass_83 : decode cX8_pass 83 = .ok (.getfield 34, 3) := by decide +kernel
theorem dX8_pass_86 : decode cX8_pass 86 = .ok (.iload_n 2, 1) := by decide +kernel
theorem dX8_pass_87 : decode cX8_pass 87 = .ok (.bipush 16, 2) := by decide +kernel
theorem dX8_pass_89 : decode cX8_pass 89 = .ok (.iadd, 1) := by decide +kernel
theorem dX8_pass_90 : decode cX8_pass 90 = .ok (.dup2, 1) := by decide +kernel
theorem dX8_pass_91 : decode cX8_pass 91 = .ok (.iaload, 1) := by decide +kernel
theorem dX8_pass_92 : decode cX8_pass 92 = .ok (.aload_n 0, 1) := by decide +kernel
theorem dX8_pass_93 : decode cX8_pass 93 = .ok (.getfield 19, 3) := by decide +kernel
theorem dX8_pass_96 : decode cX8_pass 96 = .ok (.iload 4, 2) := by decide +kernel
theorem dX8_pass_98 : decode cX8_pass 98 = .ok (.iaload, 1) := by decide +kernel
theorem dX8_pass_99 : decode cX8_pass 99 = .ok (.iadd, 1) := by decide +kernel
theorem dX8_pass_100 : decode cX8_pass 100 = .ok (.iastore, 1) := by decide +kernel
theorem dX8_pass_101 : decode cX8_pass 101 = .ok (.aload_n 0, 1) := by decide +kernel
theorem dX8_pass_102 : decode cX8_pass 102 = .ok (.getfield 34, 3) := by decide +kernel
theorem dX8_pass_105 : decode cX8_pass 105 = .ok (.iload_n 2, 1) := by decide +kernel
theorem dX8_pass_106 : decode cX8_pass 106 = .ok (.bipush 8, 2) := by decide +kernel
theorem dX8_pass_108 : decode cX8_pass 108 = .ok (.iadd, 1) := by decide +kernel
theorem dX8_pass_109 : decode cX8_pass 109 = .ok (.iload 4, 2) := by decide +kernel
theorem dX8_pass_111 : decode cX8_pass 111 = .ok (.iadd, 1) := by decide +kernel
theorem dX8_pass_112 : decode cX8_pass 112 = .ok (.aload_n 0, 1) := by decide +kernel
theorem dX8_pass_113 : decode cX8_pass 113 = .ok (.getfield 34, 3) := by decide +kernel
theorem dX8_pass_116 : decode cX8_pass 116 = .ok (.iload_n 2, 1) := by decide +kernel
theorem dX8_pass_117 : decode cX8_pass 117 = .ok (.iconst 4, 1) := by decide +kernel
theorem dX8_pass_118 : decode cX8_pass 118 = .ok (.iadd, 1) := by decide +kernel
theorem dX8_pass_119 : decode cX8_pass 119 = .ok (.iload 4, 2) := by decide +kernel
theorem dX8_pass_121 : decode cX8_pass 121 = .ok (.iadd, 1) := by decide +kernel
theorem dX8_pass_122 : decode cX8_pass 122 = .ok (.iaload, 1) := by decide +kernel
theorem dX8_pass_123 : decode cX8_pass 123 = .ok (.ifCond .ne 7, 3) := by decide +kernel
theorem dX8_pass_126 : decode cX8_pass 126 = .ok (.iconst 2, 1) := by decide +kernel
theorem dX8_pass_127 : decode cX8_pass 127 = .ok (.goto 4, 3) := by decide +kernel
theorem dX8_pass_130 : decode cX8_pass 130 = .ok (.iconst 1, 1) := by decide +kernel
theorem dX8_pass_131 : decode cX8_pass 131 = .ok (.iastore, 1) := by decide +kernel
theorem dX8_pass_132 : decode cX8_pass 132 = .ok (.iinc 4 1, 3) := by decide +kernel
theorem dX8_pass_135 : decode cX8_pass 135 = .ok (.goto (-125), 3) := by decide +kernel
theorem dX8_pass_138 : decode cX8_pass 138 = .ok (.iconst 0, 1) := by decide +kernel
theorem dX8_pass_139 : decode cX8_pass 139 = .ok (.istore 4, 2) := by decide +kernel
theorem dX8_pass_141 : decode cX8_pass 141 = .ok (.iconst 0, 1) := by decide +kernel
theorem dX8_pass_142 : decode cX8_pass 142 = .ok (.istore 5, 2) := by decide +kernel
theorem dX8_pass_144 : decode cX8_pass 144 = .ok (.iload 5, 2) := by decide +kernel
theorem dX8_pass_146 : decode cX8_pass 146 = .ok (.aload_n 0, 1) := by decide +kernel
theorem dX8_pass_147 : decode cX8_pass 147 = .ok (.getfield 125, 3) := by decide +kernel
theorem dX8_pass_150 : decode cX8_pass 150 = .ok (.if_icmp .ge 105, 3) := by decide +kernel
theorem dX8_pass_153 : decode cX8_pass 153 = .ok (.aload_n 0, 1) := by decide +kernel
theorem dX8_pass_154 : decode cX8_pass 154 = .ok (.getfield 34, 3) := by decide +kernel
theorem dX8_pass_157 : decode cX8_pass 157 = .ok (.iload_n 2, 1) := by decide +kernel
theorem dX8_pass_158 : decode cX8_pass 158 = .ok (.bipush 17, 2) := by decide +kernel
theorem dX8_pass_160 : decode cX8_pass 160 = .ok (.iadd, 1) := by decide +kernel
theorem dX8_pass_161 : decode cX8_pass 161 = .ok (.iaload, 1) := by decide +kernel
theorem dX8_pass_162 : decode cX8_pass 162 = .ok (.i2l, 1) := by decide +kernel
theorem dX8_pass_163 : decode cX8_pass 163 = .ok (.aload_n 0, 1) := by decide +kernel
theorem dX8_pass_164 : decode cX8_pass 164 = .ok (.getfield 28, 3) := by decide +kernel
theorem dX8_pass_167 : decode cX8_pass 167 = .ok (.iload 5, 2) := by decide +kernel
theorem dX8_pass_169 : decode cX8_pass 169 = .ok (.iaload, 1) := by decide +kernel
theorem dX8_pass_170 : decode cX8_pass 170 = .ok (.i2l, 1) := by decide +kernel
theorem dX8_pass_171 : decode cX8_pass 171 = .ok (.aload_n 0, 1) := by decide +kernel
theorem dX8_pass_172 : decode cX8_pass 172 = .ok (.getfield 31, 3) := by decide +kernel
theorem dX8_pass_175 : decode cX8_pass 175 = .ok (.iload 5, 2) := by decide +kernel
theorem dX8_pass_177 : decode cX8_pass 177 = .ok (.iaload, 1) := by decide +kernel
theorem dX8_pass_178 : decode cX8_pass 178 = .ok (.i2l, 1) := by decide +kernel
theorem dX8_pass_179 : decode cX8_pass 179 = .ok (.invokestatic 80, 3) := by decide +kernel
theorem dX8_pass_182 : decode cX8_pass 182 = .ok (.ifCond .eq 21, 3) := by decide +kernel
theorem dX8_pass_185 : decode cX8_pass 185 = .ok (.iload_n 3, 1) := by decide +kernel
theorem dX8_pass_186 : decode cX8_pass 186 = .ok (.aload_n 0, 1) := by decide +kernel
theorem dX8_pass_187 : decode cX8_pass 187 = .ok (.getfield 22, 3) := by decide +kernel
theorem dX8_pass_190 : decode cX8_pass 190 = .ok (.iload 5, 2) := by decide +kernel
theorem dX8_pass_192 : decode cX8_pass 192 = .ok (.iaload, 1) := by decide +kernel
theorem dX8_pass_193 : decode cX8_pass 193 = .ok (.invokestatic 142, 3) := by decide +kernel
theorem dX8_pass_196 : decode cX8_pass 196 = .ok (.ifCond .eq 7, 3) := by decide +kernel
theorem dX8_pass_199 : decode cX8_pass 199 = .ok (.iconst 1, 1) := by decide +kernel
theorem dX8_pass_200 : decode cX8_pass 200 = .ok (.goto 4, 3) := by decide +kernel
theorem dX8_pass_203 : decode cX8_pass 203 = .ok (.iconst 0, 1) := by decide +kernel
theorem dX8_pass_204 : decode cX8_pass 204 = .ok (.istore 6, 2) := by decide +kernel
theorem dX8_pass_206 : decode cX8_pass 206 = .ok (.aload_n 0, 1) := by decide +kernel
theorem dX8_pass_207 : decode cX8_pass 207 = .ok (.getfield 34, 3) := by decide +kernel
theorem dX8_pass_210 : decode cX8_pass 210 = .ok (.iload_n 2, 1) := by decide +kernel
theorem dX8_pass_211 : decode cX8_pass 211 = .ok (.bipush 12, 2) := by decide +kernel
theorem dX8_pass_213 : decode cX8_pass 213 = .ok (.iadd, 1) := by decide +kernel
theorem dX8_pass_214 : decode cX8_pass 214 = .ok (.iload 5, 2) := by decide +kernel
theorem dX8_pass_216 : decode cX8_pass 216 = .ok (.iadd, 1) := by decide +kernel
theorem dX8_pass_217 : decode cX8_pass 217 = .ok (.dup2, 1) := by decide +kernel
theorem dX8_pass_218 : decode cX8_pass 218 = .ok (.iaload, 1) := by decide +kernel
theorem dX8_pass_219 : decode cX8_pass 219 = .ok (.iload 6, 2) := by decide +kernel
theorem dX8_pass_221 : decode cX8_pass 221 = .ok (.ifCond .eq 7, 3) := by decide +kernel
theorem dX8_pass_224 : decode cX8_pass 224 = .ok (.iconst 1, 1) := by decide +kernel
theorem dX8_pass_225 : decode cX8_pass 225 = .ok (.goto 4, 3) := by decide +kernel
theorem dX8_pass_228 : decode cX8_pass 228 = .ok (.iconst 0, 1) := by decide +kernel
theorem dX8_pass_229 : decode cX8_pass 229 = .ok (.iadd, 1) := by decide +kernel
theorem dX8_pass_230 : decode cX8_pass 230 = .ok (.iastore, 1) := by decide +kernel
theorem dX8_pass_231 : decode cX8_pass 231 = .ok (.iload 4, 2) := by decide +kernel
theorem dX8_pass_233 : decode cX8_pass 233 = .ok (.iload 6, 2) := by decide +kernel
theorem dX8_pass_235 : decode cX8_pass 235 = .ok (.ifCond .eq 10, 3) := by decide +kernel
theorem dX8_pass_238 : decode cX8_pass 238 = .ok (.iconst 1, 1) := by decide +kernel
theorem dX8_pass_239 : decode cX8_pass 239 = .ok (.iload 5, 2) := by decide +kernel
theorem dX8_pass_241 : decode cX8_pass 241 = .ok (.ishl, 1) := by decide +kernel
theorem dX8_pass_242 : decode cX8_pass 242 = .ok (.goto 4, 3) := by decide +kernel
theorem dX8_pass_245 : decode cX8_pass 245 = .ok (.iconst 0, 1) := by decide +kernel
theorem dX8_pass_246 : decode cX8_pass 246 = .ok (.ior, 1) := by decide +kernel
theorem dX8_pass_247 : decode cX8_pass 247 = .ok (.istore 4, 2) := by decide +kernel
theorem dX8_pass_249 : decode cX8_pass 249 = .ok (.iinc 5 1, 3) := by decide +kernel
theorem dX8_pass_252 : decode cX8_pass 252 = .ok (.goto (-108), 3) := by decide +kernel
theorem dX8_pass_255 : decode cX8_pass 255 = .ok (.aload_n 0, 1) := by decide +kernel
theorem dX8_pass_256 : decode cX8_pass 256 = .ok (.getfield 34, 3) := by decide +kernel
theorem dX8_pass_259 : decode cX8_pass 259 = .ok (.iload_n 2, 1) := by decide +kernel
theorem dX8_pass_260 : decode cX8_pass 260 = .ok (.bipush 17, 2) := by decide +kernel
theorem dX8_pass_262 : decode cX8_pass 262 = .ok (.iadd, 1) := by decide +kernel
theorem dX8_pass_263 : decode cX8_pass 263 = .ok (.dup2, 1) := by decide +kernel
theorem dX8_pass_264 : decode cX8_pass 264 = .ok (.iaload, 1) := by decide +kernel
theorem dX8_pass_265 : decode cX8_pass 265 = .ok (.iconst 1, 1) := by decide +kernel
theorem dX8_pass_266 : decode cX8_pass 266 = .ok (.iadd, 1) := by decide +kernel
theorem dX8_pass_267 : decode cX8_pass 267 = .ok (.iastore, 1) := by decide +kernel
theorem dX8_pass_268 : decode cX8_pass 268 = .ok (.iload 4, 2) := by decide +kernel
theorem dX8_pass_270 : decode cX8_pass 270 = .ok (.ireturn, 1) := by decide +kernel
theorem dX8_burning_0 : decode cX8_burning 0 = .ok (.iconst 0, 1) := by decide +kernel
theorem dX8_burning_1 : decode cX8_burning 1 = .ok (.istore_n 2, 1) := by decide +kernel
theorem dX8_burning_2 : decode cX8_burning 2 = .ok (.iconst 0, 1) := by decide +kernel
theorem dX8_burning_3 : decode cX8_burning 3 = .ok (.istore_n 3, 1) := by decide +kernel
theorem dX8_burning_4 : decode cX8_burning 4 = .ok (.iload_n 3, 1) := by decide +kernel
theorem dX8_burning_5 : decode cX8_burning 5 = .ok (.aload_n 0, 1) := by decide +kernel
theorem dX8_burning_6 : decode cX8_burning 6 = .ok (.getfield 122, 3) := by decide +kernel
theorem dX8_burning_9 : decode cX8_burning 9 = .ok (.if_icmp .ge 35, 3) := by decide +kernel
theorem dX8_burning_12 : decode cX8_burning 12 = .ok (.iload_n 2, 1) := by decide +kernel
theorem dX8_burning_13 : decode cX8_burning 13 = .ok (.aload_n 0, 1) := by decide +kernel
theorem dX8_burning_14 : decode cX8_burning 14 = .ok (.getfield 34, 3) := by decide +kernel
theorem dX8_burning_17 : decode cX8_burning 17 = .ok (.bipush 18, 2) := by decide +kernel
theorem dX8_burning_19 : decode cX8_burning 19 = .ok (.iload_n 1, 1) := by decide +kernel
theorem dX8_burning_20 : decode cX8_burning 20 = .ok (.imul, 1) := by decide +kernel
theorem dX8_burning_21 : decode cX8_burning 21 = .ok (.bipush 8, 2) := by decide +kernel
theorem dX8_burning_23 : decode cX8_burning 23 = .ok (.iadd, 1) := by decide +kernel
theorem dX8_burning_24 : decode cX8_burning 24 = .ok (.iload_n 3, 1) := by decide +kernel
theorem dX8_burning_25 : decode cX8_burning 25 = .ok (.iadd, 1) := by decide +kernel
theorem dX8_burning_26 : decode cX8_burning 26 = .ok (.iaload, 1) := by decide +kernel
theorem dX8_burning_27 : decode cX8_burning 27 = .ok (.iconst 1, 1) := by decide +kernel
theorem dX8_burning_28 : decode cX8_burning 28 = .ok (.if_icmp .ne 7, 3) := by decide +kernel
theorem dX8_burning_31 : decode cX8_burning 31 = .ok (.iconst 1, 1) := by decide +kernel
theorem dX8_burning_32 : decode cX8_burning 32 = .ok (.goto 4, 3) := by decide +kernel
theorem dX8_burning_35 : decode cX8_burning 35 = .ok (.iconst 0, 1) := by decide +kernel
theorem dX8_burning_36 : decode cX8_burning 36 = .ok (.iadd, 1) := by decide +kernel
theorem dX8_burning_37 : decode cX8_burning 37 = .ok (.istore_n 2, 1) := by decide +kernel
theorem dX8_burning_38 : decode cX8_burning 38 = .ok (.iinc 3 1, 3) := by decide +kernel
theorem dX8_burning_41 : decode cX8_burning 41 = .ok (.goto (-37), 3) := by decide +kernel
theorem dX8_burning_44 : decode cX8_burning 44 = .ok (.iload_n 2, 1) := by decide +kernel
theorem dX8_burning_45 : decode cX8_burning 45 = .ok (.ireturn, 1) := by decide +kernel
theorem dX8_lay_0 : decode cX8_lay 0 = .ok (.iconst 0, 1) := by decide +kernel
theorem dX8_lay_1 : decode cX8_lay 1 = .ok (.istore_n 3, 1) := by decide +kernel
theorem dX8_lay_2 : decode cX8_lay 2 = .ok (.iload_n 3, 1) := by decide +kernel
theorem dX8_lay_3 : decode cX8_lay 3 = .ok (.bipush 18, 2) := by decide +kernel
theorem dX8_lay_5 : decode cX8_lay 5 = .ok (.if_icmp .ge 31, 3) := by decide +kernel
theorem dX8_lay_8 : decode cX8_lay 8 = .ok (.aload_n 0, 1) := by decide +kernel
theorem dX8_lay_9 : decode cX8_lay 9 = .ok (.getfield 34, 3) := by decide +kernel
theorem dX8_lay_12 : decode cX8_lay 12 = .ok (.bipush 18, 2) := by decide +kernel
theorem dX8_lay_14 : decode cX8_lay 14 = .ok (.iload_n 2, 1) := by decide +kernel
theorem dX8_lay_15 : decode cX8_lay 15 = .ok (.imul, 1) := by decide +kernel
theorem dX8_lay_16 : decode cX8_lay 16 = .ok (.iload_n 3, 1) := by decide +kernel
theorem dX8_lay_17 : decode cX8_lay 17 = .ok (.iadd, 1) := by decide +kernel
theorem dX8_lay_18 : decode cX8_lay 18 = .ok (.aload_n 0, 1) := by decide +kernel
theorem dX8_lay_19 : decode cX8_lay 19 = .ok (.getfield 34, 3) := by decide +kernel
theorem dX8_lay_22 : decode cX8_lay 22 = .ok (.bipush 18, 2) := by decide +kernel
theorem dX8_lay_24 : decode cX8_lay 24 = .ok (.iload_n 1, 1) := by decide +kernel
theorem dX8_lay_25 : decode cX8_lay 25 = .ok (.imul, 1) := by decide +kernel
theorem dX8_lay_26 : decode cX8_lay 26 = .ok (.iload_n 3, 1) := by decide +kernel
theorem dX8_lay_27 : decode cX8_lay 27 = .ok (.iadd, 1) := by decide +kernel
theorem dX8_lay_28 : decode cX8_lay 28 = .ok (.iaload, 1) := by decide +kernel
theorem dX8_lay_29 : decode cX8_lay 29 = .ok (.iastore, 1) := by decide +kernel
theorem dX8_lay_30 : decode cX8_lay 30 = .ok (.iinc 3 1, 3) := by decide +kernel
theorem dX8_lay_33 : decode cX8_lay 33 = .ok (.goto (-31), 3) := by decide +kernel
theorem dX8_lay_36 : decode cX8_lay 36 = .ok (.return_, 1) := by decide +kernel
theorem dX8_keepAct_0 : decode cX8_keepAct 0 = .ok (.iconst 0, 1) := by decide +kernel
theorem dX8_keepAct_1 : decode cX8_keepAct 1 = .ok (.istore_n 1, 1) := by decide +kernel
theorem dX8_keepAct_2 : decode cX8_keepAct 2 = .ok (.iload_n 1, 1) := by decide +kernel
theorem dX8_keepAct_3 : decode cX8_keepAct 3 = .ok (.bipush 18, 2) := by decide +kernel
theorem dX8_keepAct_5 : decode cX8_keepAct 5 = .ok (.if_icmp .ge 29, 3) := by decide +kernel
theorem dX8_keepAct_8 : decode cX8_keepAct 8 = .ok (.aload_n 0, 1) := by decide +kernel
theorem dX8_keepAct_9 : decode cX8_keepAct 9 = .ok (.getfield 49, 3) := by decide +kernel
theorem dX8_keepAct_12 : decode cX8_keepAct 12 = .ok (.bipush 18, 2) := by decide +kernel
theorem dX8_keepAct_14 : decode cX8_keepAct 14 = .ok (.aload_n 0, 1) := by decide +kernel
theorem dX8_keepAct_15 : decode cX8_keepAct 15 = .ok (.getfield 145, 3) := by decide +kernel
theorem dX8_keepAct_18 : decode cX8_keepAct 18 = .ok (.imul, 1) := by decide +kernel
theorem dX8_keepAct_19 : decode cX8_keepAct 19 = .ok (.iload_n 1, 1) := by decide +kernel
theorem dX8_keepAct_20 : decode cX8_keepAct 20 = .ok (.iadd, 1) := by decide +kernel
theorem dX8_keepAct_21 : decode cX8_keepAct 21 = .ok (.aload_n 0, 1) := by decide +kernel
theorem dX8_keepAct_22 : decode cX8_keepAct 22 = .ok (.getfield 34, 3) := by decide +kernel
theorem dX8_keepAct_25 : decode cX8_keepAct 25 = .ok (.iload_n 1, 1) := by decide +kernel
theorem dX8_keepAct_26 : decode cX8_keepAct 26 = .ok (.iaload, 1) := by decide +kernel
theorem dX8_keepAct_27 : decode cX8_keepAct 27 = .ok (.iastore, 1) := by decide +kernel
theorem dX8_keepAct_28 : decode cX8_keepAct 28 = .ok (.iinc 1 1, 3) := by decide +kernel
theorem dX8_keepAct_31 : decode cX8_keepAct 31 = .ok (.goto (-29), 3) := by decide +kernel
theorem dX8_keepAct_34 : decode cX8_keepAct 34 = .ok (.aload_n 0, 1) := by decide +kernel
theorem dX8_keepAct_35 : decode cX8_keepAct 35 = .ok (.aload_n 0, 1) := by decide +kernel
theorem dX8_keepAct_36 : decode cX8_keepAct 36 = .ok (.getfield 145, 3) := by decide +kernel
theorem dX8_keepAct_39 : decode cX8_keepAct 39 = .ok (.iconst 1, 1) := by decide +kernel
theorem dX8_keepAct_40 : decode cX8_keepAct 40 = .ok (.iadd, 1) := by decide +kernel
theorem dX8_keepAct_41 : decode cX8_keepAct 41 = .ok (.bipush 16, 2) := by decide +kernel
theorem dX8_keepAct_43 : decode cX8_keepAct 43 = .ok (.irem, 1) := by decide +kernel
theorem dX8_keepAct_44 : decode cX8_keepAct 44 = .ok (.putfield 145, 3) := by decide +kernel
theorem dX8_keepAct_47 : decode cX8_keepAct 47 = .ok (.aload_n 0, 1) := by decide +kernel
theorem dX8_keepAct_48 : decode cX8_keepAct 48 = .ok (.aload_n 0, 1) := by decide +kernel
theorem dX8_keepAct_49 : decode cX8_keepAct 49 = .ok (.getfield 128, 3) := by decide +kernel
theorem dX8_keepAct_52 : decode cX8_keepAct 52 = .ok (.bipush 16, 2) := by decide +kernel
theorem dX8_keepAct_54 : decode cX8_keepAct 54 = .ok (.if_icmp .ge 12, 3) := by decide +kernel
theorem dX8_keepAct_57 : decode cX8_keepAct 57 = .ok (.aload_n 0, 1) := by decide +kernel
theorem dX8_keepAct_58 : decode cX8_keepAct 58 = .ok (.getfield 128, 3) := by decide +kernel
theorem dX8_keepAct_61 : decode cX8_keepAct 61 = .ok (.iconst 1, 1) := by decide +kernel
theorem dX8_keepAct_62 : decode cX8_keepAct 62 = .ok (.iadd, 1) := by decide +kernel
theorem dX8_keepAct_63 : decode cX8_keepAct 63 = .ok (.goto 5, 3) := by decide +kernel
theorem dX8_keepAct_66 : decode cX8_keepAct 66 = .ok (.bipush 16, 2) := by decide +kernel
theorem dX8_keepAct_68 : decode cX8_keepAct 68 = .ok (.putfield 128, 3) := by decide +kernel
theorem dX8_keepAct_71 : decode cX8_keepAct 71 = .ok (.return_, 1) := by decide +kernel
theorem dX8_light_0 : decode cX8_light 0 = .ok (.aload_n 0, 1) := by decide +kernel
theorem dX8_light_1 : decode cX8_light 1 = .ok (.iload_n 1, 1) := by decide +kernel
theorem dX8_light_2 : decode cX8_light 2 = .ok (.invokevirtual 131, 3) := by decide +kernel
theorem dX8_light_5 : decode cX8_light 5 = .ok (.ifCond .ne 5, 3) := by decide +kernel
theorem dX8_light_8 : decode cX8_light 8 = .ok (.iconst (-1), 1) := by decide +kernel
theorem dX8_light_9 : decode cX8_light 9 = .ok (.ireturn, 1) := by decide +kernel
theorem dX8_light_10 : decode cX8_light 10 = .ok (.aload_n 0, 1) := by decide +kernel
theorem dX8_light_11 : decode cX8_light 11 = .ok (.getfield 34, 3) := by decide +kernel
theorem dX8_light_14 : decode cX8_light 14 = .ok (.bipush 8, 2) := by decide +kernel
theorem dX8_light_16 : decode cX8_light 16 = .ok (.iload_n 1, 1) := by decide +kernel
theorem dX8_light_17 : decode cX8_light 17 = .ok (.iadd, 1) := by decide +kernel
theorem dX8_light_18 : decode cX8_light 18 = .ok (.iaload, 1) := by decide +kernel
theorem dX8_light_19 : decode cX8_light 19 = .ok (.ifCond .eq 6, 3) := by decide +kernel
theorem dX8_light_22 : decode cX8_light 22 = .ok (.bipush (-3), 2) := by decide +kernel
theorem dX8_light_24 : decode cX8_light 24 = .ok (.ireturn, 1) := by decide +kernel
theorem dX8_light_25 : decode cX8_light 25 = .ok (.aload_n 0, 1) := by decide +kernel
theorem dX8_light_26 : decode cX8_light 26 = .ok (.invokevirtual 148, 3) := by decide +kernel
theorem dX8_light_29 : decode cX8_light 29 = .ok (.aload_n 0, 1) := by decide +kernel
theorem dX8_light_30 : decode cX8_light 30 = .ok (.getfield 34, 3) := by decide +kernel
theorem dX8_light_33 : decode cX8_light 33 = .ok (.bipush 8, 2) := by decide +kernel
theorem dX8_light_35 : decode cX8_light 35 = .ok (.iload_n 1, 1) := by decide +kernel
theorem dX8_light_36 : decode cX8_light 36 = .ok (.iadd, 1) := by decide +kernel
theorem dX8_light_37 : decode cX8_light 37 = .ok (.iconst 1, 1) := by decide +kernel
theorem dX8_light_38 : decode cX8_light 38 = .ok (.iastore, 1) := by decide +kernel
theorem dX8_light_39 : decode cX8_light 39 = .ok (.aload_n 0, 1) := by decide +kernel
theorem dX8_light_40 : decode cX8_light 40 = .ok (.iconst 0, 1) := by decide +kernel
theorem dX8_light_41 : decode cX8_light 41 = .ok (.invokevirtual 151, 3) := by decide +kernel
theorem dX8_light_44 : decode cX8_light 44 = .ok (.ireturn, 1) := by decide +kernel
theorem dX8_out_0 : decode cX8_out 0 = .ok (.aload_n 0, 1) := by decide +kernel
theorem dX8_out_1 : decode cX8_out 1 = .ok (.iload_n 1, 1) := by decide +kernel
theorem dX8_out_2 : decode cX8_out 2 = .ok (.invokevirtual 131, 3) := by decide +kernel
theorem dX8_out_5 : decode cX8_out 5 = .ok (.ifCond .ne 5, 3) := by decide +kernel
theorem dX8_out_8 : decode cX8_out 8 = .ok (.iconst (-1), 1) := by decide +kernel
theorem dX8_out_9 : decode cX8_out 9 = .ok (.ireturn, 1) := by decide +kernel
theorem dX8_out_10 : decode cX8_out 10 = .ok (.aload_n 0, 1) := by decide +kernel
theorem dX8_out_11 : decode cX8_out 11 = .ok (.getfield 34, 3) := by decide +kernel
theorem dX8_out_14 : decode cX8_out 14 = .ok (.bipush 8, 2) := by decide +kernel
theorem dX8_out_16 : decode cX8_out 16 = .ok (.iload_n 1, 1) := by decide +kernel
theorem dX8_out_17 : decode cX8_out 17 = .ok (.iadd, 1) := by decide +kernel
theorem dX8_out_18 : decode cX8_out 18 = .ok (.iaload, 1) := by decide +kernel
theorem dX8_out_19 : decode cX8_out 19 = .ok (.iconst 1, 1) := by decide +kernel
theorem dX8_out_20 : decode cX8_out 20 = .ok (.if_icmp .eq 6, 3) := by decide +kernel
theorem dX8_out_23 : decode cX8_out 23 = .ok (.bipush (-3), 2) := by decide +kernel
theorem dX8_out_25 : decode cX8_out 25 = .ok (.ireturn, 1) := by decide +kernel
theorem dX8_out_26 : decode cX8_out 26 = .ok (.aload_n 0, 1) := by decide +kernel
theorem dX8_out_27 : decode cX8_out 27 = .ok (.invokevirtual 148, 3) := by decide +kernel
theorem dX8_out_30 : decode cX8_out 30 = .ok (.aload_n 0, 1) := by decide +kernel
theorem dX8_out_31 : decode cX8_out 31 = .ok (.getfield 34, 3) := by decide +kernel
theorem dX8_out_34 : decode cX8_out 34 = .ok (.bipush 8, 2) := by decide +kernel
theorem dX8_out_36 : decode cX8_out 36 = .ok (.iload_n 1, 1) := by decide +kernel
theorem dX8_out_37 : decode cX8_out 37 = .ok (.iadd, 1) := by decide +kernel
theorem dX8_out_38 : decode cX8_out 38 = .ok (.iconst 2, 1) := by decide +kernel
theorem dX8_out_39 : decode cX8_out 39 = .ok (.iastore, 1) := by decide +kernel
theorem dX8_out_40 : decode cX8_out 40 = .ok (.aload_n 0, 1) := by decide +kernel
theorem dX8_out_41 : decode cX8_out 41 = .ok (.getfield 34, 3) := by decide +kernel
theorem dX8_out_44 : decode cX8_out 44 = .ok (.iconst 4, 1) := by decide +kernel
theorem dX8_out_45 : decode cX8_out 45 = .ok (.iload_n 1, 1) := by decide +kernel
theorem dX8_out_46 : decode cX8_out 46 = .ok (.iadd, 1) := by decide +kernel
theorem dX8_out_47 : decode cX8_out 47 = .ok (.iaload, 1) := by decide +kernel
theorem dX8_out_48 : decode cX8_out 48 = .ok (.ireturn, 1) := by decide +kernel
theorem dX8_trim_0 : decode cX8_trim 0 = .ok (.aload_n 0, 1) := by decide +kernel
theorem dX8_trim_1 : decode cX8_trim 1 = .ok (.iload_n 1, 1) := by decide +kernel
theorem dX8_trim_2 : decode cX8_trim 2 = .ok (.invokevirtual 131, 3) := by decide +kernel
theorem dX8_trim_5 : decode cX8_trim 5 = .ok (.ifCond .ne 5, 3) := by decide +kernel
theorem dX8_trim_8 : decode cX8_trim 8 = .ok (.iconst (-1), 1) := by decide +kernel
theorem dX8_trim_9 : decode cX8_trim 9 = .ok (.ireturn, 1) := by decide +kernel
theorem dX8_trim_10 : decode cX8_trim 10 = .ok (.iload_n 2, 1) := by decide +kernel
theorem dX8_trim_11 : decode cX8_trim 11 = .ok (.i2l, 1) := by decide +kernel
theorem dX8_trim_12 : decode cX8_trim 12 = .ok (.lconst 1, 1) := by decide +kernel
theorem dX8_trim_13 : decode cX8_trim 13 = .ok (.ldc2_w 154, 3) := by decide +kernel
theorem dX8_trim_16 : decode cX8_trim 16 = .ok (.invokestatic 80, 3) := by decide +kernel
theorem dX8_trim_19 : decode cX8_trim 19 = .ok (.ifCond .ne 6, 3) := by decide +kernel
theorem dX8_trim_22 : decode cX8_trim 22 = .ok (.bipush (-2), 2) := by decide +kernel
theorem dX8_trim_24 : decode cX8_trim 24 = .ok (.ireturn, 1) := by decide +kernel
theorem dX8_trim_25 : decode cX8_trim 25 = .ok (.aload_n 0, 1) := by decide +kernel
theorem dX8_trim_26 : decode cX8_trim 26 = .ok (.getfield 34, 3) := by decide +kernel
theorem dX8_trim_29 : decode cX8_trim 29 = .ok (.bipush 8, 2) := by decide +kernel
theorem dX8_trim_31 : decode cX8_trim 31 = .ok (.iload_n 1, 1) := by decide +kernel
theorem dX8_trim_32 : decode cX8_trim 32 = .ok (.iadd, 1) := by decide +kernel
theorem dX8_trim_33 : decode cX8_trim 33 = .ok (.iaload, 1) := by decide +kernel
theorem dX8_trim_34 : decode cX8_trim 34 = .ok (.ifCond .ne 15, 3) := by decide +kernel
theorem dX8_trim_37 : decode cX8_trim 37 = .ok (.aload_n 0, 1) := by decide +kernel
theorem dX8_trim_38 : decode cX8_trim 38 = .ok (.getfield 34, 3) := by decide +kernel
theorem dX8_trim_41 : decode cX8_trim 41 = .ok (.iconst 4, 1) := by decide +kernel
theorem dX8_trim_42 : decode cX8_trim 42 = .ok (.iload_n 1, 1) := by decide +kernel
theorem dX8_trim_43 : decode cX8_trim 43 = .ok (.iadd, 1) := by decide +kernel
theorem dX8_trim_44 : decode cX8_trim 44 = .ok (.iaload, 1) := by decide +kernel
theorem dX8_trim_45 : decode cX8_trim 45 = .ok (.iload_n 2, 1) := by decide +kernel
theorem dX8_trim_46 : decode cX8_trim 46 = .ok (.if_icmp .gt 6, 3) := by decide +kernel
theorem dX8_trim_49 : decode cX8_trim 49 = .ok (.bipush (-3), 2) := by decide +kernel
theorem dX8_trim_51 : decode cX8_trim 51 = .ok (.ireturn, 1) := by decide +kernel
theorem dX8_trim_52 : decode cX8_trim 52 = .ok (.aload_n 0, 1) := by decide +kernel
theorem dX8_trim_53 : decode cX8_trim 53 = .ok (.invokevirtual 148, 3) := by decide +kernel
theorem dX8_trim_56 : decode cX8_trim 56 = .ok (.aload_n 0, 1) := by decide +kernel
theorem dX8_trim_57 : decode cX8_trim 57 = .ok (.getfield 34, 3) := by decide +kernel
theorem dX8_trim_60 : decode cX8_trim 60 = .ok (.iload_n 1, 1) := by decide +kernel
theorem dX8_trim_61 : decode cX8_trim 61 = .ok (.dup2, 1) := by decide +kernel
theorem dX8_trim_62 : decode cX8_trim 62 = .ok (.iaload, 1) := by decide +kernel
theorem dX8_trim_63 : decode cX8_trim 63 = .ok (.iload_n 2, 1) := by decide +kernel
theorem dX8_trim_64 : decode cX8_trim 64 = .ok (.iadd, 1) := by decide +kernel
theorem dX8_trim_65 : decode cX8_trim 65 = .ok (.iastore, 1) := by decide +kernel
theorem dX8_trim_66 : decode cX8_trim 66 = .ok (.aload_n 0, 1) := by decide +kernel
theorem dX8_trim_67 : decode cX8_trim 67 = .ok (.getfield 34, 3) := by decide +kernel
theorem dX8_trim_70 : decode cX8_trim 70 = .ok (.iconst 4, 1) := by decide +kernel
theorem dX8_trim_71 : decode cX8_trim 71 = .ok (.iload_n 1, 1) := by decide +kernel
theorem dX8_trim_72 : decode cX8_trim 72 = .ok (.iadd, 1) := by decide +kernel
theorem dX8_trim_73 : decode cX8_trim 73 = .ok (.dup2, 1) := by decide +kernel
theorem dX8_trim_74 : decode cX8_trim 74 = .ok (.iaload, 1) := by decide +kernel
theorem dX8_trim_75 : decode cX8_trim 75 = .ok (.iload_n 2, 1) := by decide +kernel
theorem dX8_trim_76 : decode cX8_trim 76 = .ok (.isub, 1) := by decide +kernel
theorem dX8_trim_77 : decode cX8_trim 77 = .ok (.iastore, 1) := by decide +kernel
theorem dX8_trim_78 : decode cX8_trim 78 = .ok (.aload_n 0, 1) := by decide +kernel
theorem dX8_trim_79 : decode cX8_trim 79 = .ok (.getfield 34, 3) := by decide +kernel
theorem dX8_trim_82 : decode cX8_trim 82 = .ok (.iconst 4, 1) := by decide +kernel
theorem dX8_trim_83 : decode cX8_trim 83 = .ok (.iload_n 1, 1) := by decide +kernel
theorem dX8_trim_84 : decode cX8_trim 84 = .ok (.iadd, 1) := by decide +kernel
theorem dX8_trim_85 : decode cX8_trim 85 = .ok (.iaload, 1) := by decide +kernel
theorem dX8_trim_86 : decode cX8_trim 86 = .ok (.ireturn, 1) := by decide +kernel
theorem dX8_step_0 : decode cX8_step 0 = .ok (.aload_n 0, 1) := by decide +kernel
theorem dX8_step_1 : decode cX8_step 1 = .ok (.getfield 34, 3) := by decide +kernel
theorem dX8_step_4 : decode cX8_step 4 = .ok (.bipush 17, 2) := by decide +kernel
theorem dX8_step_6 : decode cX8_step 6 = .ok (.iaload, 1) := by decide +kernel
theorem dX8_step_7 : decode cX8_step 7 = .ok (.bipush 20, 2) := by decide +kernel
theorem dX8_step_9 : decode cX8_step 9 = .ok (.if_icmp .ne 6, 3) := by decide +kernel
theorem dX8_step_12 : decode cX8_step 12 = .ok (.bipush (-3), 2) := by decide +kernel
theorem dX8_step_14 : decode cX8_step 14 = .ok (.ireturn, 1) := by decide +kernel
theorem dX8_step_15 : decode cX8_step 15 = .ok (.aload_n 0, 1) := by decide +kernel
theorem dX8_step_16 : decode cX8_step 16 = .ok (.invokevirtual 148, 3) := by decide +kernel
theorem dX8_step_19 : decode cX8_step 19 = .ok (.aload_n 0, 1) := by decide +kernel
theorem dX8_step_20 : decode cX8_step 20 = .ok (.iconst 0, 1) := by decide +kernel
theorem dX8_step_21 : decode cX8_step 21 = .ok (.invokevirtual 156, 3) := by decide +kernel
theorem dX8_step_24 : decode cX8_step 24 = .ok (.ireturn, 1) := by decide +kernel
theorem dX8_undo_0 : decode cX8_undo 0 = .ok (.aload_n 0, 1) := by decide +kernel
theorem dX8_undo_1 : decode cX8_undo 1 = .ok (.getfield 128, 3) := by decide +kernel
theorem dX8_undo_4 : decode cX8_undo 4 = .ok (.ifCond .ne 6, 3) := by decide +kernel
theorem dX8_undo_7 : decode cX8_undo 7 = .ok (.bipush (-3), 2) := by decide +kernel
theorem dX8_undo_9 : decode cX8_undo 9 = .ok (.ireturn, 1) := by decide +kernel
theorem dX8_undo_10 : decode cX8_undo 10 = .ok (.aload_n 0, 1) := by decide +kernel
theorem dX8_undo_11 : decode cX8_undo 11 = .ok (.dup, 1) := by decide +kernel
theorem dX8_undo_12 : decode cX8_undo 12 = .ok (.getfield 128, 3) := by decide +kernel
theorem dX8_undo_15 : decode cX8_undo 15 = .ok (.iconst 1, 1) := by decide +kernel
theorem dX8_undo_16 : decode cX8_undo 16 = .ok (.isub, 1) := by decide +kernel
theorem dX8_undo_17 : decode cX8_undo 17 = .ok (.putfield 128, 3) := by decide +kernel
theorem dX8_undo_20 : decode cX8_undo 20 = .ok (.aload_n 0, 1) := by decide +kernel
theorem dX8_undo_21 : decode cX8_undo 21 = .ok (.aload_n 0, 1) := by decide +kernel
theorem dX8_undo_22 : decode cX8_undo 22 = .ok (.getfield 145, 3) := by decide +kernel
theorem dX8_undo_25 : decode cX8_undo 25 = .ok (.bipush 15, 2) := by decide +kernel
theorem dX8_undo_27 : decode cX8_undo 27 = .ok (.iadd, 1) := by decide +kernel
theorem dX8_undo_28 : decode cX8_undo 28 = .ok (.bipush 16, 2) := by decide +kernel
theorem dX8_undo_30 : decode cX8_undo 30 = .ok (.irem, 1) := by decide +kernel
theorem dX8_undo_31 : decode cX8_undo 31 = .ok (.putfield 145, 3) := by decide +kernel
theorem dX8_undo_34 : decode cX8_undo 34 = .ok (.iconst 0, 1) := by decide +kernel
theorem dX8_undo_35 : decode cX8_undo 35 = .ok (.istore_n 1, 1) := by decide +kernel
theorem dX8_undo_36 : decode cX8_undo 36 = .ok (.iload_n 1, 1) := by decide +kernel
theorem dX8_undo_37 : decode cX8_undo 37 = .ok (.bipush 18, 2) := by decide +kernel
theorem dX8_undo_39 : decode cX8_undo 39 = .ok (.if_icmp .ge 29, 3) := by decide +kernel
theorem dX8_undo_42 : decode cX8_undo 42 = .ok (.aload_n 0, 1) := by decide +kernel
theorem dX8_undo_43 : decode cX8_undo 43 = .ok (.getfield 34, 3) := by decide +kernel
theorem dX8_undo_46 : decode cX8_undo 46 = .ok (.iload_n 1, 1) := by decide +kernel
theorem dX8_undo_47 : decode cX8_undo 47 = .ok (.aload_n 0, 1) := by decide +kernel
theorem dX8_undo_48 : decode cX8_undo 48 = .ok (.getfield 49, 3) := by decide +kernel
theorem dX8_undo_51 : decode cX8_undo 51 = .ok (.bipush 18, 2) := by decide +kernel
theorem dX8_undo_53 : decode cX8_undo 53 = .ok (.aload_n 0, 1) := by decide +kernel
theorem dX8_undo_54 : decode cX8_undo 54 = .ok (.getfield 145, 3) := by decide +kernel
theorem dX8_undo_57 : decode cX8_undo 57 = .ok (.imul, 1) := by decide +kernel
theorem dX8_undo_58 : decode cX8_undo 58 = .ok (.iload_n 1, 1) := by decide +kernel
theorem dX8_undo_59 : decode cX8_undo 59 = .ok (.iadd, 1) := by decide +kernel
theorem dX8_undo_60 : decode cX8_undo 60 = .ok (.iaload, 1) := by decide +kernel
theorem dX8_undo_61 : decode cX8_undo 61 = .ok (.iastore, 1) := by decide +kernel
theorem dX8_undo_62 : decode cX8_undo 62 = .ok (.iinc 1 1, 3) := by decide +kernel
theorem dX8_undo_65 : decode cX8_undo 65 = .ok (.goto (-29), 3) := by decide +kernel
theorem dX8_undo_68 : decode cX8_undo 68 = .ok (.aload_n 0, 1) := by decide +kernel
theorem dX8_undo_69 : decode cX8_undo 69 = .ok (.getfield 128, 3) := by decide +kernel
theorem dX8_undo_72 : decode cX8_undo 72 = .ok (.ireturn, 1) := by decide +kernel
theorem dX8_power_0 : decode cX8_power 0 = .ok (.iconst 1, 1) := by decide +kernel
theorem dX8_power_1 : decode cX8_power 1 = .ok (.istore_n 2, 1) := by decide +kernel
theorem dX8_power_2 : decode cX8_power 2 = .ok (.iconst 0, 1) := by decide +kernel
theorem dX8_power_3 : decode cX8_power 3 = .ok (.istore_n 3, 1) := by decide +kernel
theorem dX8_power_4 : decode cX8_power 4 = .ok (.iload_n 3, 1) := by decide +kernel
theorem dX8_power_5 : decode cX8_power 5 = .ok (.iload_n 1, 1) := by decide +kernel
theorem dX8_power_6 : decode cX8_power 6 = .ok (.if_icmp .ge 13, 3) := by decide +kernel
theorem dX8_power_9 : decode cX8_power 9 = .ok (.iload_n 2, 1) := by decide +kernel
theorem dX8_power_10 : decode cX8_power 10 = .ok (.iload_n 0, 1) := by decide +kernel
theorem dX8_power_11 : decode cX8_power 11 = .ok (.imul, 1) := by decide +kernel
theorem dX8_power_12 : decode cX8_power 12 = .ok (.istore_n 2, 1) := by decide +kernel
theorem dX8_power_13 : decode cX8_power 13 = .ok (.iinc 3 1, 3) := by decide +kernel
theorem dX8_power_16 : decode cX8_power 16 = .ok (.goto (-12), 3) := by decide +kernel
theorem dX8_power_19 : decode cX8_power 19 = .ok (.iload_n 2, 1) := by decide +kernel
theorem dX8_power_20 : decode cX8_power 20 = .ok (.ireturn, 1) := by decide +kernel
theorem dX8_figureOf_0 : decode cX8_figureOf 0 = .ok (.iload_n 0, 1) := by decide +kernel
theorem dX8_figureOf_1 : decode cX8_figureOf 1 = .ok (.bipush 7, 2) := by decide +kernel
theorem dX8_figureOf_3 : decode cX8_figureOf 3 = .ok (.iconst 3, 1) := by decide +kernel
theorem dX8_figureOf_4 : decode cX8_figureOf 4 = .ok (.iload_n 1, 1) := by decide +kernel
theorem dX8_figureOf_5 : decode cX8_figureOf 5 = .ok (.isub, 1) := by decide +kernel
theorem dX8_figureOf_6 : decode cX8_figureOf 6 = .ok (.invokestatic 159, 3) := by decide +kernel
theorem dX8_figureOf_9 : decode cX8_figureOf 9 = .ok (.idiv, 1) := by decide +kernel
theorem dX8_figureOf_10 : decode cX8_figureOf 10 = .ok (.bipush 7, 2) := by decide +kernel
theorem dX8_figureOf_12 : decode cX8_figureOf 12 = .ok (.irem, 1) := by decide +kernel
theorem dX8_figureOf_13 : decode cX8_figureOf 13 = .ok (.ireturn, 1) := by decide +kernel
theorem dX8_isPlan_0 : decode cX8_isPlan 0 = .ok (.iconst 1, 1) := by decide +kernel
theorem dX8_isPlan_1 : decode cX8_isPlan 1 = .ok (.istore_n 2, 1) := by decide +kernel
theorem dX8_isPlan_2 : decode cX8_isPlan 2 = .ok (.iconst 0, 1) := by decide +kernel
theorem dX8_isPlan_3 : decode cX8_isPlan 3 = .ok (.istore_n 3, 1) := by decide +kernel
theorem dX8_isPlan_4 : decode cX8_isPlan 4 = .ok (.iload_n 3, 1) := by decide +kernel
theorem dX8_isPlan_5 : decode cX8_isPlan 5 = .ok (.iconst 4, 1) := by decide +kernel
theorem dX8_isPlan_6 : decode cX8_isPlan 6 = .ok (.if_icmp .ge 47, 3) := by decide +kernel
theorem dX8_isPlan_9 : decode cX8_isPlan 9 = .ok (.iload_n 2, 1) := by decide +kernel
theorem dX8_isPlan_10 : decode cX8_isPlan 10 = .ok (.ifCond .eq 35, 3) := by decide +kernel
theorem dX8_isPlan_13 : decode cX8_isPlan 13 = .ok (.iload_n 1, 1) := by decide +kernel
theorem dX8_isPlan_14 : decode cX8_isPlan 14 = .ok (.iload_n 3, 1) := by decide +kernel
theorem dX8_isPlan_15 : decode cX8_isPlan 15 = .ok (.invokestatic 163, 3) := by decide +kernel
theorem dX8_isPlan_18 : decode cX8_isPlan 18 = .ok (.ifCond .eq 23, 3) := by decide +kernel
theorem dX8_isPlan_21 : decode cX8_isPlan 21 = .ok (.iload_n 3, 1) := by decide +kernel
theorem dX8_isPlan_22 : decode cX8_isPlan 22 = .ok (.aload_n 0, 1) := by decide +kernel
theorem dX8_isPlan_23 : decode cX8_isPlan 23 = .ok (.getfield 122, 3) := by decide +kernel
theorem dX8_isPlan_26 : decode cX8_isPlan 26 = .ok (.if_icmp .ge 19, 3) := by decide +kernel
theorem dX8_isPlan_29 : decode cX8_isPlan 29 = .ok (.aload_n 0, 1) := by decide +kernel
theorem dX8_isPlan_30 : decode cX8_isPlan 30 = .ok (.getfield 34, 3) := by decide +kernel
theorem dX8_isPlan_33 : decode cX8_isPlan 33 = .ok (.bipush 8, 2) := by decide +kernel
theorem dX8_isPlan_35 : decode cX8_isPlan 35 = .ok (.iload_n 3, 1) := by decide +kernel
theorem dX8_isPlan_36 : decode cX8_isPlan 36 = .ok (.iadd, 1) := by decide +kernel
theorem dX8_isPlan_37 : decode cX8_isPlan 37 = .ok (.iaload, 1) := by decide +kernel
theorem dX8_isPlan_38 : decode cX8_isPlan 38 = .ok (.ifCond .ne 7, 3) := by decide +kernel
theorem dX8_isPlan_41 : decode cX8_isPlan 41 = .ok (.iconst 1, 1) := by decide +kernel
theorem dX8_isPlan_42 : decode cX8_isPlan 42 = .ok (.goto 4, 3) := by decide +kernel
theorem dX8_isPlan_45 : decode cX8_isPlan 45 = .ok (.iconst 0, 1) := by decide +kernel
theorem dX8_isPlan_46 : decode cX8_isPlan 46 = .ok (.istore_n 2, 1) := by decide +kernel
theorem dX8_isPlan_47 : decode cX8_isPlan 47 = .ok (.iinc 3 1, 3) := by decide +kernel
theorem dX8_isPlan_50 : decode cX8_isPlan 50 = .ok (.goto (-46), 3) := by decide +kernel
theorem dX8_isPlan_53 : decode cX8_isPlan 53 = .ok (.iload_n 2, 1) := by decide +kernel
theorem dX8_isPlan_54 : decode cX8_isPlan 54 = .ok (.ireturn, 1) := by decide +kernel
theorem dX8_costOf_0 : decode cX8_costOf 0 = .ok (.iconst 0, 1) := by decide +kernel
theorem dX8_costOf_1 : decode cX8_costOf 1 = .ok (.istore_n 2, 1) := by decide +kernel
theorem dX8_costOf_2 : decode cX8_costOf 2 = .ok (.iconst 0, 1) := by decide +kernel
theorem dX8_costOf_3 : decode cX8_costOf 3 = .ok (.istore_n 3, 1) := by decide +kernel
theorem dX8_costOf_4 : decode cX8_costOf 4 = .ok (.iload_n 3, 1) := by decide +kernel
theorem dX8_costOf_5 : decode cX8_costOf 5 = .ok (.aload_n 0, 1) := by decide +kernel
theorem dX8_costOf_6 : decode cX8_costOf 6 = .ok (.getfield 122, 3) := by decide +kernel
theorem dX8_costOf_9 : decode cX8_costOf 9 = .ok (.if_icmp .ge 39, 3) := by decide +kernel
theorem dX8_costOf_12 : decode cX8_costOf 12 = .ok (.iload_n 2, 1) := by decide +kernel
theorem dX8_costOf_13 : decode cX8_costOf 13 = .ok (.iload_n 1, 1) := by decide +kernel
theorem dX8_costOf_14 : decode cX8_costOf 14 = .ok (.iload_n 3, 1) := by decide +kernel
theorem dX8_costOf_15 : decode cX8_costOf 15 = .ok (.invokestatic 163, 3) := by decide +kernel
theorem dX8_costOf_18 : decode cX8_costOf 18 = .ok (.ifCond .le 21, 3) := by decide +kernel
theorem dX8_costOf_21 : decode cX8_costOf 21 = .ok (.aload_n 0, 1) := by decide +kernel
theorem dX8_costOf_22 : decode cX8_costOf 22 = .ok (.getfield 34, 3) := by decide +kernel
theorem dX8_costOf_25 : decode cX8_costOf 25 = .ok (.iconst 4, 1) := by decide +kernel
theorem dX8_costOf_26 : decode cX8_costOf 26 = .ok (.iload_n 3, 1) := by decide +kernel
theorem dX8_costOf_27 : decode cX8_costOf 27 = .ok (.iadd, 1) := by decide +kernel
theorem dX8_costOf_28 : decode cX8_costOf 28 = .ok (.iaload, 1) := by decide +kernel
theorem dX8_costOf_29 : decode cX8_costOf 29 = .ok (.aload_n 0, 1) := by decide +kernel
theorem dX8_costOf_30 : decode cX8_costOf 30 = .ok (.getfield 19, 3) := by decide +kernel
theorem dX8_costOf_33 : decode cX8_costOf 33 = .ok (.iload_n 3, 1) := by decide +kernel
theorem dX8_costOf_34 : decode cX8_costOf 34 = .ok (.iaload, 1) := by decide +kernel
theorem dX8_costOf_35 : decode cX8_costOf 35 = .ok (.imul, 1) := by decide +kernel
theorem dX8_costOf_36 : decode cX8_costOf 36 = .ok (.goto 4, 3) := by decide +kernel
theorem dX8_costOf_39 : decode cX8_costOf 39 = .ok (.iconst 0, 1) := by decide +kernel
theorem dX8_costOf_40 : decode cX8_costOf 40 = .ok (.iadd, 1) := by decide +kernel
theorem dX8_costOf_41 : decode cX8_costOf 41 = .ok (.istore_n 2, 1) := by decide +kernel
theorem dX8_costOf_42 : decode cX8_costOf 42 = .ok (.iinc 3 1, 3) := by decide +kernel
theorem dX8_costOf_45 : decode cX8_costOf 45 = .ok (.goto (-41), 3) := by decide +kernel
theorem dX8_costOf_48 : decode cX8_costOf 48 = .ok (.iload_n 2, 1) := by decide +kernel
theorem dX8_costOf_49 : decode cX8_costOf 49 = .ok (.ireturn, 1) := by decide +kernel
theorem dX8_contentBy_0 : decode cX8_contentBy 0 = .ok (.aload_n 0, 1) := by decide +kernel
theorem dX8_contentBy_1 : decode cX8_contentBy 1 = .ok (.iconst 0, 1) := by decide +kernel
theorem dX8_contentBy_2 : decode cX8_contentBy 2 = .ok (.iconst 1, 1) := by decide +kernel
theorem dX8_contentBy_3 : decode cX8_contentBy 3 = .ok (.invokevirtual 166, 3) := by decide +kernel
theorem dX8_contentBy_6 : decode cX8_contentBy 6 = .ok (.iconst 1, 1) := by decide +kernel
theorem dX8_contentBy_7 : decode cX8_contentBy 7 = .ok (.istore_n 2, 1) := by decide +kernel
theorem dX8_contentBy_8 : decode cX8_contentBy 8 = .ok (.iconst 1, 1) := by decide +kernel
theorem dX8_contentBy_9 : decode cX8_contentBy 9 = .ok (.istore_n 3, 1) := by decide +kernel
theorem dX8_contentBy_10 : decode cX8_contentBy 10 = .ok (.aload_n 0, 1) := by decide +kernel
theorem dX8_contentBy_11 : decode cX8_contentBy 11 = .ok (.getfield 34, 3) := by decide +kernel
theorem dX8_contentBy_14 : decode cX8_contentBy 14 = .ok (.bipush 35, 2) := by decide +kernel
theorem dX8_contentBy_16 : decode cX8_contentBy 16 = .ok (.iaload, 1) := by decide +kernel
theorem dX8_contentBy_17 : decode cX8_contentBy 17 = .ok (.bipush 20, 2) := by decide +kernel
theorem dX8_contentBy_19 : decode cX8_contentBy 19 = .ok (.if_icmp .ge 115, 3) := by decide +kernel
theorem dX8_contentBy_22 : decode cX8_contentBy 22 = .ok (.iload_n 2, 1) := by decide +kernel
theorem dX8_contentBy_23 : decode cX8_contentBy 23 = .ok (.ifCond .eq 111, 3) := by decide +kernel
theorem dX8_contentBy_26 : decode cX8_contentBy 26 = .ok (.iconst 0, 1) := by decide +kernel
theorem dX8_contentBy_27 : decode cX8_contentBy 27 = .ok (.istore_n 2, 1) := by decide +kernel
theorem dX8_contentBy_28 : decode cX8_contentBy 28 = .ok (.iconst 0, 1) := by decide +kernel
theorem dX8_contentBy_29 : decode cX8_contentBy 29 = .ok (.istore 4, 2) := by decide +kernel
theorem dX8_contentBy_31 : decode cX8_contentBy 31 = .ok (.iload 4, 2) := by decide +kernel
theorem dX8_contentBy_33 : decode cX8_contentBy 33 = .ok (.aload_n 0, 1) := by decide +kernel
theorem dX8_contentBy_34 : decode cX8_contentBy 34 = .ok (.getfield 122, 3) := by decide +kernel
theorem dX8_contentBy_37 : decode cX8_contentBy 37 = .ok (.if_icmp .ge 63, 3) := by decide +kernel
theorem dX8_contentBy_40 : decode cX8_contentBy 40 = .ok (.iload_n 1, 1) := by decide +kernel
theorem dX8_contentBy_41 : decode cX8_contentBy 41 = .ok (.iload 4, 2) := by decide +kernel
theorem dX8_contentBy_43 : decode cX8_contentBy 43 = .ok (.invokestatic 163, 3) := by decide +kernel
theorem dX8_contentBy_46 : decode cX8_contentBy 46 = .ok (.istore 5, 2) := by decide +kernel
theorem dX8_contentBy_48 : decode cX8_contentBy 48 = .ok (.aload_n 0, 1) := by decide +kernel
theorem dX8_contentBy_49 : decode cX8_contentBy 49 = .ok (.getfield 34, 3) := by decide +kernel
theorem dX8_contentBy_52 : decode cX8_contentBy 52 = .ok (.bipush 26, 2) := by decide +kernel
theorem dX8_contentBy_54 : decode cX8_contentBy 54 = .ok (.iload 4, 2) := by decide +kernel
theorem dX8_contentBy_56 : decode cX8_contentBy 56 = .ok (.iadd, 1) := by decide +kernel
theorem dX8_contentBy_57 : decode cX8_contentBy 57 = .ok (.iload 5, 2) := by decide +kernel
theorem dX8_contentBy_59 : decode cX8_contentBy 59 = .ok (.iload_n 3, 1) := by decide +kernel
theorem dX8_contentBy_60 : decode cX8_contentBy 60 = .ok (.if_icmp .ne 7, 3) := by decide +kernel
theorem dX8_contentBy_63 : decode cX8_contentBy 63 = .ok (.iconst 1, 1) := by decide +kernel
theorem dX8_contentBy_64 : decode cX8_contentBy 64 = .ok (.goto 13, 3) := by decide +kernel
theorem dX8_contentBy_67 : decode cX8_contentBy 67 = .ok (.aload_n 0, 1) := by decide +kernel
theorem dX8_contentBy_68 : decode cX8_contentBy 68 = .ok (.getfield 34, 3) := by decide +kernel
theorem dX8_contentBy_71 : decode cX8_contentBy 71 = .ok (.bipush 26, 2) := by decide +kernel
theorem dX8_contentBy_73 : decode cX8_contentBy 73 = .ok (.iload 4, 2) := by decide +kernel
theorem dX8_contentBy_75 : decode cX8_contentBy 75 = .ok (.iadd, 1) := by decide +kernel
theorem dX8_contentBy_76 : decode cX8_contentBy 76 = .ok (.iaload, 1) := by decide +kernel
theorem dX8_contentBy_77 : decode cX8_contentBy 77 = .ok (.iastore, 1) := by decide +kernel
theorem dX8_contentBy_78 : decode cX8_contentBy 78 = .ok (.iload_n 2, 1) := by decide +kernel
theorem dX8_contentBy_79 : decode cX8_contentBy 79 = .ok (.ifCond .ne 9, 3) := by decide +kernel
theorem dX8_contentBy_82 : decode cX8_contentBy 82 = .ok (.iload 5, 2) := by decide +kernel
theorem dX8_contentBy_84 : decode cX8_contentBy 84 = .ok (.iload_n 3, 1) := by decide +kernel
theorem dX8_contentBy_85 : decode cX8_contentBy 85 = .ok (.if_icmp .le 7, 3) := by decide +kernel
theorem dX8_contentBy_88 : decode cX8_contentBy 88 = .ok (.iconst 1, 1) := by decide +kernel
theorem dX8_contentBy_89 : decode cX8_contentBy 89 = .ok (.goto 4, 3) := by decide +kernel
theorem dX8_contentBy_92 : decode cX8_contentBy 92 = .ok (.iconst 0, 1) := by decide +kernel
theorem dX8_contentBy_93 : decode cX8_contentBy 93 = .ok (.istore_n 2, 1) := by decide +kernel
theorem dX8_contentBy_94 : decode cX8_contentBy 94 = .ok (.iinc 4 1, 3) := by decide +kernel
theorem dX8_contentBy_97 : decode cX8_contentBy 97 = .ok (.goto (-66), 3) := by decide +kernel
theorem dX8_contentBy_100 : decode cX8_contentBy 100 = .ok (.iload_n 2, 1) := by decide +kernel
theorem dX8_contentBy_101 : decode cX8_contentBy 101 = .ok (.ifCond .ne 11, 3) := by decide +kernel
theorem dX8_contentBy_104 : decode cX8_contentBy 104 = .ok (.aload_n 0, 1) := by decide +kernel
theorem dX8_contentBy_105 : decode cX8_contentBy 105 = .ok (.iconst 1, 1) := by decide +kernel
theorem dX8_contentBy_106 : decode cX8_contentBy 106 = .ok (.invokevirtual 151, 3) := by decide +kernel
theorem dX8_contentBy_109 : decode cX8_contentBy 109 = .ok (.ifCond .le 7, 3) := by decide +kernel
theorem dX8_contentBy_112 : decode cX8_contentBy 112 = .ok (.iconst 1, 1) := by decide +kernel
theorem dX8_contentBy_113 : decode cX8_contentBy 113 = .ok (.goto 4, 3) := by decide +kernel
theorem dX8_contentBy_116 : decode cX8_contentBy 116 = .ok (.iconst 0, 1) := by decide +kernel
theorem dX8_contentBy_117 : decode cX8_contentBy 117 = .ok (.istore_n 2, 1) := by decide +kernel
theorem dX8_contentBy_118 : decode cX8_contentBy 118 = .ok (.iload_n 2, 1) := by decide +kernel
theorem dX8_contentBy_119 : decode cX8_contentBy 119 = .ok (.ifCond .eq 9, 3) := by decide +kernel
theorem dX8_contentBy_122 : decode cX8_contentBy 122 = .ok (.aload_n 0, 1) := by decide +kernel
theorem dX8_contentBy_123 : decode cX8_contentBy 123 = .ok (.iconst 1, 1) := by decide +kernel
theorem dX8_contentBy_124 : decode cX8_contentBy 124 = .ok (.invokevirtual 156, 3) := by decide +kernel
theorem dX8_contentBy_127 : decode cX8_contentBy 127 = .ok (.pop, 1) := by decide +kernel
theorem dX8_contentBy_128 : decode cX8_contentBy 128 = .ok (.iinc 3 1, 3) := by decide +kernel
theorem dX8_contentBy_131 : decode cX8_contentBy 131 = .ok (.goto (-121), 3) := by decide +kernel
theorem dX8_contentBy_134 : decode cX8_contentBy 134 = .ok (.iconst 0, 1) := by decide +kernel
theorem dX8_contentBy_135 : decode cX8_contentBy 135 = .ok (.istore_n 3, 1) := by decide +kernel
theorem dX8_contentBy_136 : decode cX8_contentBy 136 = .ok (.iconst 0, 1) := by decide +kernel
theorem dX8_contentBy_137 : decode cX8_contentBy 137 = .ok (.istore 4, 2) := by decide +kernel
theorem dX8_contentBy_139 : decode cX8_contentBy 139 = .ok (.iload 4, 2) := by decide +kernel
theorem dX8_contentBy_141 : decode cX8_contentBy 141 = .ok (.aload_n 0, 1) := by decide +kernel
theorem dX8_contentBy_142 : decode cX8_contentBy 142 = .ok (.getfield 125, 3) := by decide +kernel
theorem dX8_contentBy_145 : decode cX8_contentBy 145 = .ok (.if_icmp .ge 30, 3) := by decide +kernel
theorem dX8_contentBy_148 : decode cX8_contentBy 148 = .ok (.iload_n 3, 1) := by decide +kernel
theorem dX8_contentBy_149 : decode cX8_contentBy 149 = .ok (.aload_n 0, 1) := by decide +kernel
theorem dX8_contentBy_150 : decode cX8_contentBy 150 = .ok (.iconst 1, 1) := by decide +kernel
theorem dX8_contentBy_151 : decode cX8_contentBy 151 = .ok (.iload 4, 2) := by decide +kernel
theorem dX8_contentBy_153 : decode cX8_contentBy 153 = .ok (.invokevirtual 138, 3) := by decide +kernel
theorem dX8_contentBy_156 : decode cX8_contentBy 156 = .ok (.ifCond .eq 10, 3) := by decide +kernel
theorem dX8_contentBy_159 : decode cX8_contentBy 159 = .ok (.iconst 1, 1) := by decide +kernel
theorem dX8_contentBy_160 : decode cX8_contentBy 160 = .ok (.iload 4, 2) := by decide +kernel
theorem dX8_contentBy_162 : decode cX8_contentBy 162 = .ok (.ishl, 1) := by decide +kernel
theorem dX8_contentBy_163 : decode cX8_contentBy 163 = .ok (.goto 4, 3) := by decide +kernel
theorem dX8_contentBy_166 : decode cX8_contentBy 166 = .ok (.iconst 0, 1) := by decide +kernel
theorem dX8_contentBy_167 : decode cX8_contentBy 167 = .ok (.ior, 1) := by decide +kernel
theorem dX8_contentBy_168 : decode cX8_contentBy 168 = .ok (.istore_n 3, 1) := by decide +kernel
theorem dX8_contentBy_169 : decode cX8_contentBy 169 = .ok (.iinc 4 1, 3) := by decide +kernel
theorem dX8_contentBy_172 : decode cX8_contentBy 172 = .ok (.goto (-33), 3) := by decide +kernel
theorem dX8_contentBy_175 : decode cX8_contentBy 175 = .ok (.iload_n 3, 1) := by decide +kernel
theorem dX8_contentBy_176 : decode cX8_contentBy 176 = .ok (.ireturn, 1) := by decide +kernel
theorem dX8_layPlans_0 : decode cX8_layPlans 0 = .ok (.iconst 0, 1) := by decide +kernel
theorem dX8_layPlans_1 : decode cX8_layPlans 1 = .ok (.istore_n 1, 1) := by decide +kernel
theorem dX8_layPlans_2 : decode cX8_layPlans 2 = .ok (.iload_n 1, 1) := by decide +kernel
theorem dX8_layPlans_3 : decode cX8_layPlans 3 = .ok (.bipush 16, 2) := by decide +kernel
theorem dX8_layPlans_5 : decode cX8_layPlans 5 = .ok (.if_icmp .ge 25, 3) := by decide +kernel
theorem dX8_layPlans_8 : decode cX8_layPlans 8 = .ok (.aload_n 0, 1) := by decide +kernel
theorem dX8_layPlans_9 : decode cX8_layPlans 9 = .ok (.getfield 52, 3) := by decide +kernel
theorem dX8_layPlans_12 : decode cX8_layPlans 12 = .ok (.iload_n 1, 1) := by decide +kernel
theorem dX8_layPlans_13 : decode cX8_layPlans 13 = .ok (.bipush (-9), 2) := by decide +kernel
theorem dX8_layPlans_15 : decode cX8_layPlans 15 = .ok (.iastore, 1) := by decide +kernel
theorem dX8_layPlans_16 : decode cX8_layPlans 16 = .ok (.aload_n 0, 1) := by decide +kernel
theorem dX8_layPlans_17 : decode cX8_layPlans 17 = .ok (.getfield 55, 3) := by decide +kernel
theorem dX8_layPlans_20 : decode cX8_layPlans 20 = .ok (.iload_n 1, 1) := by decide +kernel
theorem dX8_layPlans_21 : decode cX8_layPlans 21 = .ok (.bipush (-9), 2) := by decide +kernel
theorem dX8_layPlans_23 : decode cX8_layPlans 23 = .ok (.iastore, 1) := by decide +kernel
theorem dX8_layPlans_24 : decode cX8_layPlans 24 = .ok (.iinc 1 1, 3) := by decide +kernel
theorem dX8_layPlans_27 : decode cX8_layPlans 27 = .ok (.goto (-25), 3) := by decide +kernel
theorem dX8_layPlans_30 : decode cX8_layPlans 30 = .ok (.iconst 0, 1) := by decide +kernel
theorem dX8_layPlans_31 : decode cX8_layPlans 31 = .ok (.istore_n 1, 1) := by decide +kernel
theorem dX8_layPlans_32 : decode cX8_layPlans 32 = .ok (.iload_n 1, 1) := by decide +kernel
theorem dX8_layPlans_33 : decode cX8_layPlans 33 = .ok (.sipush 2401, 3) := by decide +kernel
theorem dX8_layPlans_36 : decode cX8_layPlans 36 = .ok (.if_icmp .ge 134, 3) := by decide +kernel
theorem dX8_layPlans_39 : decode cX8_layPlans 39 = .ok (.aload_n 0, 1) := by decide +kernel
theorem dX8_layPlans_40 : decode cX8_layPlans 40 = .ok (.iload_n 1, 1) := by decide +kernel
theorem dX8_layPlans_41 : decode cX8_layPlans 41 = .ok (.invokevirtual 170, 3) := by decide +kernel
theorem dX8_layPlans_44 : decode cX8_layPlans 44 = .ok (.ifCond .eq 120, 3) := by decide +kernel
theorem dX8_layPlans_47 : decode cX8_layPlans 47 = .ok (.aload_n 0, 1) := by decide +kernel
theorem dX8_layPlans_48 : decode cX8_layPlans 48 = .ok (.iload_n 1, 1) := by decide +kernel
theorem dX8_layPlans_49 : decode cX8_layPlans 49 = .ok (.invokevirtual 173, 3) := by decide +kernel
theorem dX8_layPlans_52 : decode cX8_layPlans 52 = .ok (.istore_n 2, 1) := by decide +kernel
theorem dX8_layPlans_53 : decode cX8_layPlans 53 = .ok (.aload_n 0, 1) := by decide +kernel
theorem dX8_layPlans_54 : decode cX8_layPlans 54 = .ok (.iload_n 1, 1) := by decide +kernel
theorem dX8_layPlans_55 : decode cX8_layPlans 55 = .ok (.invokevirtual 176, 3) := by decide +kernel
theorem dX8_layPlans_58 : decode cX8_layPlans 58 = .ok (.istore_n 3, 1) := by decide +kernel
theorem dX8_layPlans_59 : decode cX8_layPlans 59 = .ok (.iconst 0, 1) := by decide +kernel
theorem dX8_layPlans_60 : decode cX8_layPlans 60 = .ok (.istore 4, 2) := by decide +kernel
theorem dX8_layPlans_62 : decode cX8_layPlans 62 = .ok (.iload 4, 2) := by decide +kernel
theorem dX8_layPlans_64 : decode cX8_layPlans 64 = .ok (.iconst 1, 1) := by decide +kernel
theorem dX8_layPlans_65 : decode cX8_layPlans 65 = .ok (.aload_n 0, 1) := by decide +kernel
theorem dX8_layPlans_66 : decode cX8_layPlans 66 = .ok (.getfield 125, 3) := by decide +kernel
theorem dX8_layPlans_69 : decode cX8_layPlans 69 = .ok (.ishl, 1) := by decide +kernel
theorem dX8_layPlans_70 : decode cX8_layPlans 70 = .ok (.if_icmp .ge 94, 3) := by decide +kernel
theorem dX8_layPlans_73 : decode cX8_layPlans 73 = .ok (.iload 4, 2) := by decide +kernel
theorem dX8_layPlans_75 : decode cX8_layPlans 75 = .ok (.iload_n 2, 1) := by decide +kernel
theorem dX8_layPlans_76 : decode cX8_layPlans 76 = .ok (.iconst (-1), 1) := by decide +kernel
theorem dX8_layPlans_77 : decode cX8_layPlans 77 = .ok (.ixor, 1) := by decide +kernel
theorem dX8_layPlans_78 : decode cX8_layPlans 78 = .ok (.iand, 1) := by decide +kernel
theorem dX8_layPlans_79 : decode cX8_layPlans 79 = .ok (.ifCond .ne 30, 3) := by decide +kernel
theorem dX8_layPlans_82 : decode cX8_layPlans 82 = .ok (.aload_n 0, 1) := by decide +kernel
theorem dX8_layPlans_83 : decode cX8_layPlans 83 = .ok (.getfield 55, 3) := by decide +kernel
theorem dX8_layPlans_86 : decode cX8_layPlans 86 = .ok (.iload 4, 2) := by decide +kernel
theorem dX8_layPlans_88 : decode cX8_layPlans 88 = .ok (.iaload, 1) := by decide +kernel
theorem dX8_layPlans_89 : decode cX8_layPlans 89 = .ok (.bipush (-9), 2) := by decide +kernel
theorem dX8_layPlans_91 : decode cX8_layPlans 91 = .ok (.if_icmp .eq 14, 3) := by decide +kernel
theorem dX8_layPlans_94 : decode cX8_layPlans 94 = .ok (.iload_n 3, 1) := by decide +kernel
theorem dX8_layPlans_95 : decode cX8_layPlans 95 = .ok (.aload_n 0, 1) := by decide +kernel
theorem dX8_layPlans_96 : decode cX8_layPlans 96 = .ok (.getfield 55, 3) := by decide +kernel
theorem dX8_layPlans_99 : decode cX8_layPlans 99 = .ok (.iload 4, 2) := by decide +kernel
theorem dX8_layPlans_101 : decode cX8_layPlans 101 = .ok (.iaload, 1) := by decide +kernel
theorem dX8_layPlans_102 : decode cX8_layPlans 102 = .ok (.if_icmp .ge 7, 3) := by decide +kernel
theorem dX8_layPlans_105 : decode cX8_layPlans 105 = .ok (.iconst 1, 1) := by decide +kernel
theorem dX8_layPlans_106 : decode cX8_layPlans 106 = .ok (.goto 4, 3) := by decide +kernel
theorem dX8_layPlans_109 : decode cX8_layPlans 109 = .ok (.iconst 0, 1) := by decide +kernel
theorem dX8_layPlans_110 : decode cX8_layPlans 110 = .ok (.istore 5, 2) := by decide +kernel
theorem dX8_layPlans_112 : decode cX8_layPlans 112 = .ok (.aload_n 0, 1) := by decide +kernel
theorem dX8_layPlans_113 : decode cX8_layPlans 113 = .ok (.getfield 52, 3) := by decide +kernel
theorem dX8_layPlans_116 : decode cX8_layPlans 116 = .ok (.iload 4, 2) := by decide +kernel
theorem dX8_layPlans_118 : decode cX8_layPlans 118 = .ok (.iload 5, 2) := by decide +kernel
theorem dX8_layPlans_120 : decode cX8_layPlans 120 = .ok (.ifCond .eq 7, 3) := by decide +kernel
theorem dX8_layPlans_123 : decode cX8_layPlans 123 = .ok (.iload_n 1, 1) := by decide +kernel
theorem dX8_layPlans_124 : decode cX8_layPlans 124 = .ok (.goto 10, 3) := by decide +kernel
theorem dX8_layPlans_127 : decode cX8_layPlans 127 = .ok (.aload_n 0, 1) := by decide +kernel
theorem dX8_layPlans_128 : decode cX8_layPlans 128 = .ok (.getfield 52, 3) := by decide +kernel
theorem dX8_layPlans_131 : decode cX8_layPlans 131 = .ok (.iload 4, 2) := by decide +kernel
theorem dX8_layPlans_133 : decode cX8_layPlans 133 = .ok (.iaload, 1) := by decide +kernel
theorem dX8_layPlans_134 : decode cX8_layPlans 134 = .ok (.iastore, 1) := by decide +kernel
theorem dX8_layPlans_135 : decode cX8_layPlans 135 = .ok (.aload_n 0, 1) := by decide +kernel
theorem dX8_layPlans_136 : decode cX8_layPlans 136 = .ok (.getfield 55, 3) := by decide +kernel
theorem dX8_layPlans_139 : decode cX8_layPlans 139 = .ok (.iload 4, 2) := by decide +kernel
theorem dX8_layPlans_141 : decode cX8_layPlans 141 = .ok (.iload 5, 2) := by decide +kernel
theorem dX8_layPlans_143 : decode cX8_layPlans 143 = .ok (.ifCond .eq 7, 3) := by decide +kernel
theorem dX8_layPlans_146 : decode cX8_layPlans 146 = .ok (.iload_n 3, 1) := by decide +kernel
theorem dX8_layPlans_147 : decode cX8_layPlans 147 = .ok (.goto 10, 3) := by decide +kernel
theorem dX8_layPlans_150 : decode cX8_layPlans 150 = .ok (.aload_n 0, 1) := by decide +kernel
theorem dX8_layPlans_151 : decode cX8_layPlans 151 = .ok (.getfield 55, 3) := by decide +kernel
theorem dX8_layPlans_154 : decode cX8_layPlans 154 = .ok (.iload 4, 2) := by decide +kernel
theorem dX8_layPlans_156 : decode cX8_layPlans 156 = .ok (.iaload, 1) := by decide +kernel
theorem dX8_layPlans_157 : decode cX8_layPlans 157 = .ok (.iastore, 1) := by decide +kernel
theorem dX8_layPlans_158 : decode cX8_layPlans 158 = .ok (.iinc 4 1, 3) := by decide +kernel
theorem dX8_layPlans_161 : decode cX8_layPlans 161 = .ok (.goto (-99), 3) := by decide +kernel
theorem dX8_layPlans_164 : decode cX8_layPlans 164 = .ok (.iinc 1 1, 3) := by decide +kernel
theorem dX8_layPlans_167 : decode cX8_layPlans 167 = .ok (.goto (-135), 3) := by decide +kernel
theorem dX8_layPlans_170 : decode cX8_layPlans 170 = .ok (.return_, 1) := by decide +kernel
theorem dX8_all_0 : decode cX8_all 0 = .ok (.iconst 1, 1) := by decide +kernel
theorem dX8_all_1 : decode cX8_all 1 = .ok (.aload_n 0, 1) := by decide +kernel
theorem dX8_all_2 : decode cX8_all 2 = .ok (.getfield 125, 3) := by decide +kernel
theorem dX8_all_5 : decode cX8_all 5 = .ok (.ishl, 1) := by decide +kernel
theorem dX8_all_6 : decode cX8_all 6 = .ok (.iconst 1, 1) := by decide +kernel
theorem dX8_all_7 : decode cX8_all 7 = .ok (.isub, 1) := by decide +kernel
theorem dX8_all_8 : decode cX8_all 8 = .ok (.ireturn, 1) := by decide +kernel
theorem dX8_plan_0 : decode cX8_plan 0 = .ok (.aload_n 0, 1) := by decide +kernel
theorem dX8_plan_1 : decode cX8_plan 1 = .ok (.invokevirtual 179, 3) := by decide +kernel
theorem dX8_plan_4 : decode cX8_plan 4 = .ok (.aload_n 0, 1) := by decide +kernel
theorem dX8_plan_5 : decode cX8_plan 5 = .ok (.getfield 55, 3) := by decide +kernel
theorem dX8_plan_8 : decode cX8_plan 8 = .ok (.aload_n 0, 1) := by decide +kernel
theorem dX8_plan_9 : decode cX8_plan 9 = .ok (.invokevirtual 182, 3) := by decide +kernel
theorem dX8_plan_12 : decode cX8_plan 12 = .ok (.iaload, 1) := by decide +kernel
theorem dX8_plan_13 : decode cX8_plan 13 = .ok (.ireturn, 1) := by decide +kernel
theorem dX8_planOf_0 : decode cX8_planOf 0 = .ok (.aload_n 0, 1) := by decide +kernel
theorem dX8_planOf_1 : decode cX8_planOf 1 = .ok (.iload_n 1, 1) := by decide +kernel
theorem dX8_planOf_2 : decode cX8_planOf 2 = .ok (.invokevirtual 131, 3) := by decide +kernel
theorem dX8_planOf_5 : decode cX8_planOf 5 = .ok (.ifCond .ne 5, 3) := by decide +kernel
theorem dX8_planOf_8 : decode cX8_planOf 8 = .ok (.iconst (-1), 1) := by decide +kernel
theorem dX8_planOf_9 : decode cX8_planOf 9 = .ok (.ireturn, 1) := by decide +kernel
theorem dX8_planOf_10 : decode cX8_planOf 10 = .ok (.aload_n 0, 1) := by decide +kernel
theorem dX8_planOf_11 : decode cX8_planOf 11 = .ok (.invokevirtual 179, 3) := by decide +kernel
theorem dX8_planOf_14 : decode cX8_planOf 14 = .ok (.aload_n 0, 1) := by decide +kernel
theorem dX8_planOf_15 : decode cX8_planOf 15 = .ok (.getfield 52, 3) := by decide +kernel
theorem dX8_planOf_18 : decode cX8_planOf 18 = .ok (.aload_n 0, 1) := by decide +kernel
theorem dX8_planOf_19 : decode cX8_planOf 19 = .ok (.invokevirtual 182, 3) := by decide +kernel
theorem dX8_planOf_22 : decode cX8_planOf 22 = .ok (.iaload, 1) := by decide +kernel
theorem dX8_planOf_23 : decode cX8_planOf 23 = .ok (.bipush (-9), 2) := by decide +kernel
theorem dX8_planOf_25 : decode cX8_planOf 25 = .ok (.if_icmp .ne 8, 3) := by decide +kernel
theorem dX8_planOf_28 : decode cX8_planOf 28 = .ok (.bipush (-9), 2) := by decide +kernel
theorem dX8_planOf_30 : decode cX8_planOf 30 = .ok (.goto 16, 3) := by decide +kernel
theorem dX8_planOf_33 : decode cX8_planOf 33 = .ok (.aload_n 0, 1) := by decide +kernel
theorem dX8_planOf_34 : decode cX8_planOf 34 = .ok (.getfield 52, 3) := by decide +kernel
theorem dX8_planOf_37 : decode cX8_planOf 37 = .ok (.aload_n 0, 1) := by decide +kernel
theorem dX8_planOf_38 : decode cX8_planOf 38 = .ok (.invokevirtual 182, 3) := by decide +kernel
theorem dX8_planOf_41 : decode cX8_planOf 41 = .ok (.iaload, 1) := by decide +kernel
theorem dX8_planOf_42 : decode cX8_planOf 42 = .ok (.iload_n 1, 1) := by decide +kernel
theorem dX8_planOf_43 : decode cX8_planOf 43 = .ok (.invokestatic 163, 3) := by decide +kernel
theorem dX8_planOf_46 : decode cX8_planOf 46 = .ok (.ireturn, 1) := by decide +kernel
theorem dX8_bars_0 : decode cX8_bars 0 = .ok (.aload_n 0, 1) := by decide +kernel
theorem dX8_bars_1 : decode cX8_bars 1 = .ok (.invokevirtual 179, 3) := by decide +kernel
theorem dX8_bars_4 : decode cX8_bars 4 = .ok (.iconst 0, 1) := by decide +kernel
theorem dX8_bars_5 : decode cX8_bars 5 = .ok (.istore_n 1, 1) := by decide +kernel
theorem dX8_bars_6 : decode cX8_bars 6 = .ok (.iload_n 1, 1) := by decide +kernel
theorem dX8_bars_7 : decode cX8_bars 7 = .ok (.aload_n 0, 1) := by decide +kernel
theorem dX8_bars_8 : decode cX8_bars 8 = .ok (.getfield 125, 3) := by decide +kernel
theorem dX8_bars_11 : decode cX8_bars 11 = .ok (.if_icmp .ge 24, 3) := by decide +kernel
theorem dX8_bars_14 : decode cX8_bars 14 = .ok (.aload_n 0, 1) := by decide +kernel
theorem dX8_bars_15 : decode cX8_bars 15 = .ok (.getfield 52, 3) := by decide +kernel
theorem dX8_bars_18 : decode cX8_bars 18 = .ok (.iconst 1, 1) := by decide +kernel
theorem dX8_bars_19 : decode cX8_bars 19 = .ok (.iload_n 1, 1) := by decide +kernel
theorem dX8_bars_20 : decode cX8_bars 20 = .ok (.ishl, 1) := by decide +kernel
theorem dX8_bars_21 : decode cX8_bars 21 = .ok (.iaload, 1) := by decide +kernel
theorem dX8_bars_22 : decode cX8_bars 22 = .ok (.bipush (-9), 2) := by decide +kernel
theorem dX8_bars_24 : decode cX8_bars 24 = .ok (.if_icmp .ne 5, 3) := by decide +kernel
theorem dX8_bars_27 : decode cX8_bars 27 = .ok (.iload_n 1, 1) := by decide +kernel
theorem dX8_bars_28 : decode cX8_bars 28 = .ok (.ireturn, 1) := by decide +kernel
theorem dX8_bars_29 : decode cX8_bars 29 = .ok (.iinc 1 1, 3) := by decide +kernel
theorem dX8_bars_32 : decode cX8_bars 32 = .ok (.goto (-26), 3) := by decide +kernel
theorem dX8_bars_35 : decode cX8_bars 35 = .ok (.bipush (-9), 2) := by decide +kernel
theorem dX8_bars_37 : decode cX8_bars 37 = .ok (.ireturn, 1) := by decide +kernel
theorem dX8_factorial_0 : decode cX8_factorial 0 = .ok (.iconst 1, 1) := by decide +kernel
theorem dX8_factorial_1 : decode cX8_factorial 1 = .ok (.istore_n 1, 1) := by decide +kernel
theorem dX8_factorial_2 : decode cX8_factorial 2 = .ok (.iconst 2, 1) := by decide +kernel
theorem dX8_factorial_3 : decode cX8_factorial 3 = .ok (.istore_n 2, 1) := by decide +kernel
theorem dX8_factorial_4 : decode cX8_factorial 4 = .ok (.iload_n 2, 1) := by decide +kernel
theorem dX8_factorial_5 : decode cX8_factorial 5 = .ok (.iload_n 0, 1) := by decide +kernel
theorem dX8_factorial_6 : decode cX8_factorial 6 = .ok (.if_icmp .gt 13, 3) := by decide +kernel
theorem dX8_factorial_9 : decode cX8_factorial 9 = .ok (.iload_n 1, 1) := by decide +kernel
theorem dX8_factorial_10 : decode cX8_factorial 10 = .ok (.iload_n 2, 1) := by decide +kernel
theorem dX8_factorial_11 : decode cX8_factorial 11 = .ok (.imul, 1) := by decide +kernel
theorem dX8_factorial_12 : decode cX8_factorial 12 = .ok (.istore_n 1, 1) := by decide +kernel
theorem dX8_factorial_13 : decode cX8_factorial 13 = .ok (.iinc 2 1, 3) := by decide +kernel
theorem dX8_factorial_16 : decode cX8_factorial 16 = .ok (.goto (-12), 3) := by decide +kernel
theorem dX8_factorial_19 : decode cX8_factorial 19 = .ok (.iload_n 1, 1) := by decide +kernel
theorem dX8_factorial_20 : decode cX8_factorial 20 = .ok (.ireturn, 1) := by decide +kernel
theorem dX8_ones_0 : decode cX8_ones 0 = .ok (.iload_n 0, 1) := by decide +kernel
theorem dX8_ones_1 : decode cX8_ones 1 = .ok (.iconst 1, 1) := by decide +kernel
theorem dX8_ones_2 : decode cX8_ones 2 = .ok (.iand, 1) := by decide +kernel
theorem dX8_ones_3 : decode cX8_ones 3 = .ok (.iload_n 0, 1) := by decide +kernel
theorem dX8_ones_4 : decode cX8_ones 4 = .ok (.iconst 1, 1) := by decide +kernel
theorem dX8_ones_5 : decode cX8_ones 5 = .ok (.ishr, 1) := by decide +kernel
theorem dX8_ones_6 : decode cX8_ones 6 = .ok (.iconst 1, 1) := by decide +kernel
theorem dX8_ones_7 : decode cX8_ones 7 = .ok (.iand, 1) := by decide +kernel
theorem dX8_ones_8 : decode cX8_ones 8 = .ok (.iadd, 1) := by decide +kernel
theorem dX8_ones_9 : decode cX8_ones 9 = .ok (.iload_n 0, 1) := by decide +kernel
theorem dX8_ones_10 : decode cX8_ones 10 = .ok (.iconst 2, 1) := by decide +kernel
theorem dX8_ones_11 : decode cX8_ones 11 = .ok (.ishr, 1) := by decide +kernel
theorem dX8_ones_12 : decode cX8_ones 12 = .ok (.iconst 1, 1) := by decide +kernel
theorem dX8_ones_13 : decode cX8_ones 13 = .ok (.iand, 1) := by decide +kernel
theorem dX8_ones_14 : decode cX8_ones 14 = .ok (.iadd, 1) := by decide +kernel
theorem dX8_ones_15 : decode cX8_ones 15 = .ok (.iload_n 0, 1) := by decide +kernel
theorem dX8_ones_16 : decode cX8_ones 16 = .ok (.iconst 3, 1) := by decide +kernel
theorem dX8_ones_17 : decode cX8_ones 17 = .ok (.ishr, 1) := by decide +kernel
theorem dX8_ones_18 : decode cX8_ones 18 = .ok (.iconst 1, 1) := by decide +kernel
theorem dX8_ones_19 : decode cX8_ones 19 = .ok (.iand, 1) := by decide +kernel
theorem dX8_ones_20 : decode cX8_ones 20 = .ok (.iadd, 1) := by decide +kernel
theorem dX8_ones_21 : decode cX8_ones 21 = .ok (.ireturn, 1) := by decide +kernel
theorem dX8_common_0 : decode cX8_common 0 = .ok (.iload_n 0, 1) := by decide +kernel
theorem dX8_common_1 : decode cX8_common 1 = .ok (.istore_n 2, 1) := by decide +kernel
theorem dX8_common_2 : decode cX8_common 2 = .ok (.iload_n 1, 1) := by decide +kernel
theorem dX8_common_3 : decode cX8_common 3 = .ok (.istore_n 3, 1) := by decide +kernel
theorem dX8_common_4 : decode cX8_common 4 = .ok (.iload_n 3, 1) := by decide +kernel
theorem dX8_common_5 : decode cX8_common 5 = .ok (.ifCond .eq 16, 3) := by decide +kernel
theorem dX8_common_8 : decode cX8_common 8 = .ok (.iload_n 2, 1) := by decide +kernel
theorem dX8_common_9 : decode cX8_common 9 = .ok (.iload_n 3, 1) := by decide +kernel
theorem dX8_common_10 : decode cX8_common 10 = .ok (.irem, 1) := by decide +kernel
theorem dX8_common_11 : decode cX8_common 11 = .ok (.istore 4, 2) := by decide +kernel
theorem dX8_common_13 : decode cX8_common 13 = .ok (.iload_n 3, 1) := by decide +kernel
theorem dX8_common_14 : decode cX8_common 14 = .ok (.istore_n 2, 1) := by decide +kernel
theorem dX8_common_15 : decode cX8_common 15 = .ok (.iload 4, 2) := by decide +kernel
theorem dX8_common_17 : decode cX8_common 17 = .ok (.istore_n 3, 1) := by decide +kernel
theorem dX8_common_18 : decode cX8_common 18 = .ok (.goto (-14), 3) := by decide +kernel
theorem dX8_common_21 : decode cX8_common 21 = .ok (.iload_n 2, 1) := by decide +kernel
theorem dX8_common_22 : decode cX8_common 22 = .ok (.ireturn, 1) := by decide +kernel
theorem dX8_share_0 : decode cX8_share 0 = .ok (.aload_n 0, 1) := by decide +kernel
theorem dX8_share_1 : decode cX8_share 1 = .ok (.iload_n 1, 1) := by decide +kernel
theorem dX8_share_2 : decode cX8_share 2 = .ok (.invokevirtual 135, 3) := by decide +kernel
theorem dX8_share_5 : decode cX8_share 5 = .ok (.ifCond .ne 5, 3) := by decide +kernel
theorem dX8_share_8 : decode cX8_share 8 = .ok (.iconst (-1), 1) := by decide +kernel
theorem dX8_share_9 : decode cX8_share 9 = .ok (.ireturn, 1) := by decide +kernel
theorem dX8_share_10 : decode cX8_share 10 = .ok (.aload_n 0, 1) := by decide +kernel
theorem dX8_share_11 : decode cX8_share 11 = .ok (.invokevirtual 179, 3) := by decide +kernel
theorem dX8_share_14 : decode cX8_share 14 = .ok (.aload_n 0, 1) := by decide +kernel
theorem dX8_share_15 : decode cX8_share 15 = .ok (.getfield 55, 3) := by decide +kernel
theorem dX8_share_18 : decode cX8_share 18 = .ok (.aload_n 0, 1) := by decide +kernel
theorem dX8_share_19 : decode cX8_share 19 = .ok (.invokevirtual 182, 3) := by decide +kernel
theorem dX8_share_22 : decode cX8_share 22 = .ok (.iaload, 1) := by decide +kernel
theorem dX8_share_23 : decode cX8_share 23 = .ok (.bipush (-9), 2) := by decide +kernel
theorem dX8_share_25 : decode cX8_share 25 = .ok (.if_icmp .ne 6, 3) := by decide +kernel
theorem dX8_share_28 : decode cX8_share 28 = .ok (.bipush (-3), 2) := by decide +kernel
theorem dX8_share_30 : decode cX8_share 30 = .ok (.ireturn, 1) := by decide +kernel
theorem dX8_share_31 : decode cX8_share 31 = .ok (.iconst 0, 1) := by decide +kernel
theorem dX8_share_32 : decode cX8_share 32 = .ok (.istore_n 3, 1) := by decide +kernel
theorem dX8_share_33 : decode cX8_share 33 = .ok (.iconst 0, 1) := by decide +kernel
theorem dX8_share_34 : decode cX8_share 34 = .ok (.istore 4, 2) := by decide +kernel
theorem dX8_share_36 : decode cX8_share 36 = .ok (.iload 4, 2) := by decide +kernel
theorem dX8_share_38 : decode cX8_share 38 = .ok (.iconst 1, 1) := by decide +kernel
theorem dX8_share_39 : decode cX8_share 39 = .ok (.aload_n 0, 1) := by decide +kernel
theorem dX8_share_40 : decode cX8_share 40 = .ok (.getfield 125, 3) := by decide +kernel
theorem dX8_share_43 : decode cX8_share 43 = .ok (.ishl, 1) := by decide +kernel
theorem dX8_share_44 : decode cX8_share 44 = .ok (.if_icmp .ge 65, 3) := by decide +kernel
theorem dX8_share_47 : decode cX8_share 47 = .ok (.iload 4, 2) := by decide +kernel
theorem dX8_share_49 : decode cX8_share 49 = .ok (.iload_n 1, 1) := by decide +kernel
theorem dX8_share_50 : decode cX8_share 50 = .ok (.invokestatic 142, 3) := by decide +kernel
theorem dX8_share_53 : decode cX8_share 53 = .ok (.ifCond .ne 50, 3) := by decide +kernel
theorem dX8_share_56 : decode cX8_share 56 = .ok (.iload_n 3, 1) := by decide +kernel
theorem dX8_share_57 : decode cX8_share 57 = .ok (.iload 4, 2) := by decide +kernel
theorem dX8_share_59 : decode cX8_share 59 = .ok (.invokestatic 185, 3) := by decide +kernel
theorem dX8_share_62 : decode cX8_share 62 = .ok (.invokestatic 188, 3) := by decide +kernel
theorem dX8_share_65 : decode cX8_share 65 = .ok (.aload_n 0, 1) := by decide +kernel
theorem dX8_share_66 : decode cX8_share 66 = .ok (.getfield 125, 3) := by decide +kernel
theorem dX8_share_69 : decode cX8_share 69 = .ok (.iconst 1, 1) := by decide +kernel
theorem dX8_share_70 : decode cX8_share 70 = .ok (.isub, 1) := by decide +kernel
theorem dX8_share_71 : decode cX8_share 71 = .ok (.iload 4, 2) := by decide +kernel
theorem dX8_share_73 : decode cX8_share 73 = .ok (.invokestatic 185, 3) := by decide +kernel
theorem dX8_share_76 : decode cX8_share 76 = .ok (.isub, 1) := by decide +kernel
theorem dX8_share_77 : decode cX8_share 77 = .ok (.invokestatic 188, 3) := by decide +kernel
theorem dX8_share_80 : decode cX8_share 80 = .ok (.imul, 1) := by decide +kernel
theorem dX8_share_81 : decode cX8_share 81 = .ok (.aload_n 0, 1) := by decide +kernel
theorem dX8_share_82 : decode cX8_share 82 = .ok (.getfield 55, 3) := by decide +kernel
theorem dX8_share_85 : decode cX8_share 85 = .ok (.iload 4, 2) := by decide +kernel
theorem dX8_share_87 : decode cX8_share 87 = .ok (.iconst 1, 1) := by decide +kernel
theorem dX8_share_88 : decode cX8_share 88 = .ok (.iload_n 1, 1) := by decide +kernel
theorem dX8_share_89 : decode cX8_share 89 = .ok (.ishl, 1) := by decide +kernel
theorem dX8_share_90 : decode cX8_share 90 = .ok (.ior, 1) := by decide +kernel
theorem dX8_share_91 : decode cX8_share 91 = .ok (.iaload, 1) := by decide +kernel
theorem dX8_share_92 : decode cX8_share 92 = .ok (.aload_n 0, 1) := by decide +kernel
theorem dX8_share_93 : decode cX8_share 93 = .ok (.getfield 55, 3) := by decide +kernel
theorem dX8_share_96 : decode cX8_share 96 = .ok (.iload 4, 2) := by decide +kernel
theorem dX8_share_98 : decode cX8_share 98 = .ok (.iaload, 1) := by decide +kernel
theorem dX8_share_99 : decode cX8_share 99 = .ok (.isub, 1) := by decide +kernel
theorem dX8_share_100 : decode cX8_share 100 = .ok (.imul, 1) := by decide +kernel
theorem dX8_share_101 : decode cX8_share 101 = .ok (.iadd, 1) := by decide +kernel
theorem dX8_share_102 : decode cX8_share 102 = .ok (.istore_n 3, 1) := by decide +kernel
theorem dX8_share_103 : decode cX8_share 103 = .ok (.iinc 4 1, 3) := by decide +kernel
theorem dX8_share_106 : decode cX8_share 106 = .ok (.goto (-70), 3) := by decide +kernel
theorem dX8_share_109 : decode cX8_share 109 = .ok (.iload_n 3, 1) := by decide +kernel
theorem dX8_share_110 : decode cX8_share 110 = .ok (.aload_n 0, 1) := by decide +kernel
theorem dX8_share_111 : decode cX8_share 111 = .ok (.getfield 125, 3) := by decide +kernel
theorem dX8_share_114 : decode cX8_share 114 = .ok (.invokestatic 188, 3) := by decide +kernel
theorem dX8_share_117 : decode cX8_share 117 = .ok (.invokestatic 191, 3) := by decide +kernel
theorem dX8_share_120 : decode cX8_share 120 = .ok (.istore 4, 2) := by decide +kernel
theorem dX8_share_122 : decode cX8_share 122 = .ok (.iload_n 2, 1) := by decide +kernel
theorem dX8_share_123 : decode cX8_share 123 = .ok (.ifCond .eq 10, 3) := by decide +kernel
theorem dX8_share_126 : decode cX8_share 126 = .ok (.iload_n 3, 1) := by decide +kernel
theorem dX8_share_127 : decode cX8_share 127 = .ok (.iload 4, 2) := by decide +kernel
theorem dX8_share_129 : decode cX8_share 129 = .ok (.idiv, 1) := by decide +kernel
theorem dX8_share_130 : decode cX8_share 130 = .ok (.goto 13, 3) := by decide +kernel
theorem dX8_share_133 : decode cX8_share 133 = .ok (.aload_n 0, 1) := by decide +kernel
theorem dX8_share_134 : decode cX8_share 134 = .ok (.getfield 125, 3) := by decide +kernel
theorem dX8_share_137 : decode cX8_share 137 = .ok (.invokestatic 188, 3) := by decide +kernel
theorem dX8_share_140 : decode cX8_share 140 = .ok (.iload 4, 2) := by decide +kernel
theorem dX8_share_142 : decode cX8_share 142 = .ok (.idiv, 1) := by decide +kernel
theorem dX8_share_143 : decode cX8_share 143 = .ok (.ireturn, 1) := by decide +kernel
theorem dX8_gives_0 : decode cX8_gives 0 = .ok (.iload_n 1, 1) := by decide +kernel
theorem dX8_gives_1 : decode cX8_gives 1 = .ok (.bipush (-9), 2) := by decide +kernel
theorem dX8_gives_3 : decode cX8_gives 3 = .ok (.if_icmp .eq 32, 3) := by decide +kernel
theorem dX8_gives_6 : decode cX8_gives 6 = .ok (.iload_n 2, 1) := by decide +kernel
theorem dX8_gives_7 : decode cX8_gives 7 = .ok (.aload_n 0, 1) := by decide +kernel
theorem dX8_gives_8 : decode cX8_gives 8 = .ok (.getfield 34, 3) := by decide +kernel
theorem dX8_gives_11 : decode cX8_gives 11 = .ok (.iconst 4, 1) := by decide +kernel
theorem dX8_gives_12 : decode cX8_gives 12 = .ok (.iload_n 1, 1) := by decide +kernel
theorem dX8_gives_13 : decode cX8_gives 13 = .ok (.iadd, 1) := by decide +kernel
theorem dX8_gives_14 : decode cX8_gives 14 = .ok (.iaload, 1) := by decide +kernel
theorem dX8_gives_15 : decode cX8_gives 15 = .ok (.if_icmp .ge 20, 3) := by decide +kernel
theorem dX8_gives_18 : decode cX8_gives 18 = .ok (.aload_n 0, 1) := by decide +kernel
theorem dX8_gives_19 : decode cX8_gives 19 = .ok (.getfield 7, 3) := by decide +kernel
theorem dX8_gives_22 : decode cX8_gives 22 = .ok (.aload_n 0, 1) := by decide +kernel
theorem dX8_gives_23 : decode cX8_gives 23 = .ok (.getfield 34, 3) := by decide +kernel
theorem dX8_gives_26 : decode cX8_gives 26 = .ok (.iload_n 1, 1) := by decide +kernel
theorem dX8_gives_27 : decode cX8_gives 27 = .ok (.iaload, 1) := by decide +kernel
theorem dX8_gives_28 : decode cX8_gives 28 = .ok (.iload_n 2, 1) := by decide +kernel
theorem dX8_gives_29 : decode cX8_gives 29 = .ok (.iadd, 1) := by decide +kernel
theorem dX8_gives_30 : decode cX8_gives 30 = .ok (.iaload, 1) := by decide +kernel
theorem dX8_gives_31 : decode cX8_gives 31 = .ok (.iconst 4, 1) := by decide +kernel
theorem dX8_gives_32 : decode cX8_gives 32 = .ok (.if_icmp .ne 7, 3) := by decide +kernel
theorem dX8_gives_35 : decode cX8_gives 35 = .ok (.iconst 0, 1) := by decide +kernel
theorem dX8_gives_36 : decode cX8_gives 36 = .ok (.goto 18, 3) := by decide +kernel
theorem dX8_gives_39 : decode cX8_gives 39 = .ok (.iconst 1, 1) := by decide +kernel
theorem dX8_gives_40 : decode cX8_gives 40 = .ok (.aload_n 0, 1) := by decide +kernel
theorem dX8_gives_41 : decode cX8_gives 41 = .ok (.getfield 7, 3) := by decide +kernel
theorem dX8_gives_44 : decode cX8_gives 44 = .ok (.aload_n 0, 1) := by decide +kernel
theorem dX8_gives_45 : decode cX8_gives 45 = .ok (.getfield 34, 3) := by decide +kernel
theorem dX8_gives_48 : decode cX8_gives 48 = .ok (.iload_n 1, 1) := by decide +kernel
theorem dX8_gives_49 : decode cX8_gives 49 = .ok (.iaload, 1) := by decide +kernel
theorem dX8_gives_50 : decode cX8_gives 50 = .ok (.iload_n 2, 1) := by decide +kernel
theorem dX8_gives_51 : decode cX8_gives 51 = .ok (.iadd, 1) := by decide +kernel
theorem dX8_gives_52 : decode cX8_gives 52 = .ok (.iaload, 1) := by decide +kernel
theorem dX8_gives_53 : decode cX8_gives 53 = .ok (.ishl, 1) := by decide +kernel
theorem dX8_gives_54 : decode cX8_gives 54 = .ok (.ireturn, 1) := by decide +kernel
theorem dX8_tableOf_0 : decode cX8_tableOf 0 = .ok (.iconst 0, 1) := by decide +kernel
theorem dX8_tableOf_1 : decode cX8_tableOf 1 = .ok (.istore_n 3, 1) := by decide +kernel
theorem dX8_tableOf_2 : decode cX8_tableOf 2 = .ok (.iconst 0, 1) := by decide +kernel
theorem dX8_tableOf_3 : decode cX8_tableOf 3 = .ok (.istore 4, 2) := by decide +kernel
theorem dX8_tableOf_5 : decode cX8_tableOf 5 = .ok (.iload 4, 2) := by decide +kernel
theorem dX8_tableOf_7 : decode cX8_tableOf 7 = .ok (.bipush 6, 2) := by decide +kernel
theorem dX8_tableOf_9 : decode cX8_tableOf 9 = .ok (.if_icmp .ge 30, 3) := by decide +kernel
theorem dX8_tableOf_12 : decode cX8_tableOf 12 = .ok (.iload_n 3, 1) := by decide +kernel
theorem dX8_tableOf_13 : decode cX8_tableOf 13 = .ok (.aload_n 0, 1) := by decide +kernel
theorem dX8_tableOf_14 : decode cX8_tableOf 14 = .ok (.iload_n 1, 1) := by decide +kernel
theorem dX8_tableOf_15 : decode cX8_tableOf 15 = .ok (.iload 4, 2) := by decide +kernel
theorem dX8_tableOf_17 : decode cX8_tableOf 17 = .ok (.invokevirtual 194, 3) := by decide +kernel
theorem dX8_tableOf_20 : decode cX8_tableOf 20 = .ok (.aload_n 0, 1) := by decide +kernel
theorem dX8_tableOf_21 : decode cX8_tableOf 21 = .ok (.iload_n 2, 1) := by decide +kernel
theorem dX8_tableOf_22 : decode cX8_tableOf 22 = .ok (.iload 4, 2) := by decide +kernel
theorem dX8_tableOf_24 : decode cX8_tableOf 24 = .ok (.invokevirtual 194, 3) := by decide +kernel
theorem dX8_tableOf_27 : decode cX8_tableOf 27 = .ok (.ior, 1) := by decide +kernel
theorem dX8_tableOf_28 : decode cX8_tableOf 28 = .ok (.invokestatic 185, 3) := by decide +kernel
theorem dX8_tableOf_31 : decode cX8_tableOf 31 = .ok (.iadd, 1) := by decide +kernel
theorem dX8_tableOf_32 : decode cX8_tableOf 32 = .ok (.istore_n 3, 1) := by decide +kernel
theorem dX8_tableOf_33 : decode cX8_tableOf 33 = .ok (.iinc 4 1, 3) := by decide +kernel
theorem dX8_tableOf_36 : decode cX8_tableOf 36 = .ok (.goto (-31), 3) := by decide +kernel
theorem dX8_tableOf_39 : decode cX8_tableOf 39 = .ok (.iload_n 3, 1) := by decide +kernel
theorem dX8_tableOf_40 : decode cX8_tableOf 40 = .ok (.ireturn, 1) := by decide +kernel
theorem dX8_table_0 : decode cX8_table 0 = .ok (.aload_n 0, 1) := by decide +kernel
theorem dX8_table_1 : decode cX8_table 1 = .ok (.iload_n 1, 1) := by decide +kernel
theorem dX8_table_2 : decode cX8_table 2 = .ok (.invokevirtual 131, 3) := by decide +kernel
theorem dX8_table_5 : decode cX8_table 5 = .ok (.ifCond .eq 11, 3) := by decide +kernel
theorem dX8_table_8 : decode cX8_table 8 = .ok (.aload_n 0, 1) := by decide +kernel
theorem dX8_table_9 : decode cX8_table 9 = .ok (.iload_n 2, 1) := by decide +kernel
theorem dX8_table_10 : decode cX8_table 10 = .ok (.invokevirtual 131, 3) := by decide +kernel
theorem dX8_table_13 : decode cX8_table 13 = .ok (.ifCond .ne 5, 3) := by decide +kernel
theorem dX8_table_16 : decode cX8_table 16 = .ok (.iconst (-1), 1) := by decide +kernel
theorem dX8_table_17 : decode cX8_table 17 = .ok (.ireturn, 1) := by decide +kernel
theorem dX8_table_18 : decode cX8_table 18 = .ok (.iload_n 1, 1) := by decide +kernel
theorem dX8_table_19 : decode cX8_table 19 = .ok (.iload_n 2, 1) := by decide +kernel
theorem dX8_table_20 : decode cX8_table 20 = .ok (.if_icmp .ne 8, 3) := by decide +kernel
theorem dX8_table_23 : decode cX8_table 23 = .ok (.bipush (-2), 2) := by decide +kernel
theorem dX8_table_25 : decode cX8_table 25 = .ok (.goto 9, 3) := by decide +kernel
theorem dX8_table_28 : decode cX8_table 28 = .ok (.aload_n 0, 1) := by decide +kernel
theorem dX8_table_29 : decode cX8_table 29 = .ok (.iload_n 1, 1) := by decide +kernel
theorem dX8_table_30 : decode cX8_table 30 = .ok (.iload_n 2, 1) := by decide +kernel
theorem dX8_table_31 : decode cX8_table 31 = .ok (.invokevirtual 197, 3) := by decide +kernel
theorem dX8_table_34 : decode cX8_table 34 = .ok (.ireturn, 1) := by decide +kernel
theorem dX8_pairs_0 : decode cX8_pairs 0 = .ok (.iconst 0, 1) := by decide +kernel
theorem dX8_pairs_1 : decode cX8_pairs 1 = .ok (.istore_n 1, 1) := by decide +kernel
theorem dX8_pairs_2 : decode cX8_pairs 2 = .ok (.iconst 0, 1) := by decide +kernel
theorem dX8_pairs_3 : decode cX8_pairs 3 = .ok (.istore_n 2, 1) := by decide +kernel
theorem dX8_pairs_4 : decode cX8_pairs 4 = .ok (.iload_n 2, 1) := by decide +kernel
theorem dX8_pairs_5 : decode cX8_pairs 5 = .ok (.aload_n 0, 1) := by decide +kernel
theorem dX8_pairs_6 : decode cX8_pairs 6 = .ok (.getfield 122, 3) := by decide +kernel
theorem dX8_pairs_9 : decode cX8_pairs 9 = .ok (.if_icmp .ge 31, 3) := by decide +kernel
theorem dX8_pairs_12 : decode cX8_pairs 12 = .ok (.iload_n 1, 1) := by decide +kernel
theorem dX8_pairs_13 : decode cX8_pairs 13 = .ok (.aload_n 0, 1) := by decide +kernel
theorem dX8_pairs_14 : decode cX8_pairs 14 = .ok (.getfield 34, 3) := by decide +kernel
theorem dX8_pairs_17 : decode cX8_pairs 17 = .ok (.bipush 8, 2) := by decide +kernel
theorem dX8_pairs_19 : decode cX8_pairs 19 = .ok (.iload_n 2, 1) := by decide +kernel
theorem dX8_pairs_20 : decode cX8_pairs 20 = .ok (.iadd, 1) := by decide +kernel
theorem dX8_pairs_21 : decode cX8_pairs 21 = .ok (.iaload, 1) := by decide +kernel
theorem dX8_pairs_22 : decode cX8_pairs 22 = .ok (.ifCond .ne 9, 3) := by decide +kernel
theorem dX8_pairs_25 : decode cX8_pairs 25 = .ok (.iconst 1, 1) := by decide +kernel
theorem dX8_pairs_26 : decode cX8_pairs 26 = .ok (.iload_n 2, 1) := by decide +kernel
theorem dX8_pairs_27 : decode cX8_pairs 27 = .ok (.ishl, 1) := by decide +kernel
theorem dX8_pairs_28 : decode cX8_pairs 28 = .ok (.goto 4, 3) := by decide +kernel
theorem dX8_pairs_31 : decode cX8_pairs 31 = .ok (.iconst 0, 1) := by decide +kernel
theorem dX8_pairs_32 : decode cX8_pairs 32 = .ok (.ior, 1) := by decide +kernel
theorem dX8_pairs_33 : decode cX8_pairs 33 = .ok (.istore_n 1, 1) := by decide +kernel
theorem dX8_pairs_34 : decode cX8_pairs 34 = .ok (.iinc 2 1, 3) := by decide +kernel
theorem dX8_pairs_37 : decode cX8_pairs 37 = .ok (.goto (-33), 3) := by decide +kernel
theorem dX8_pairs_40 : decode cX8_pairs 40 = .ok (.aload_n 0, 1) := by decide +kernel
theorem dX8_pairs_41 : decode cX8_pairs 41 = .ok (.getfield 58, 3) := by decide +kernel
theorem dX8_pairs_44 : decode cX8_pairs 44 = .ok (.iconst 0, 1) := by decide +kernel
theorem dX8_pairs_45 : decode cX8_pairs 45 = .ok (.iconst 0, 1) := by decide +kernel
theorem dX8_pairs_46 : decode cX8_pairs 46 = .ok (.iastore, 1) := by decide +kernel
theorem dX8_pairs_47 : decode cX8_pairs 47 = .ok (.iconst 1, 1) := by decide +kernel
theorem dX8_pairs_48 : decode cX8_pairs 48 = .ok (.istore_n 2, 1) := by decide +kernel
theorem dX8_pairs_49 : decode cX8_pairs 49 = .ok (.iload_n 2, 1) := by decide +kernel
theorem dX8_pairs_50 : decode cX8_pairs 50 = .ok (.bipush 16, 2) := by decide +kernel
theorem dX8_pairs_52 : decode cX8_pairs 52 = .ok (.if_icmp .ge 209, 3) := by decide +kernel
theorem dX8_pairs_55 : decode cX8_pairs 55 = .ok (.aload_n 0, 1) := by decide +kernel
theorem dX8_pairs_56 : decode cX8_pairs 56 = .ok (.getfield 58, 3) := by decide +kernel
theorem dX8_pairs_59 : decode cX8_pairs 59 = .ok (.iload_n 2, 1) := by decide +kernel
theorem dX8_pairs_60 : decode cX8_pairs 60 = .ok (.bipush (-9), 2) := by decide +kernel
theorem dX8_pairs_62 : decode cX8_pairs 62 = .ok (.iastore, 1) := by decide +kernel
theorem dX8_pairs_63 : decode cX8_pairs 63 = .ok (.iload_n 2, 1) := by decide +kernel
theorem dX8_pairs_64 : decode cX8_pairs 64 = .ok (.invokestatic 185, 3) := by decide +kernel
theorem dX8_pairs_67 : decode cX8_pairs 67 = .ok (.iconst 2, 1) := by decide +kernel
theorem dX8_pairs_68 : decode cX8_pairs 68 = .ok (.irem, 1) := by decide +kernel
theorem dX8_pairs_69 : decode cX8_pairs 69 = .ok (.iconst 1, 1) := by decide +kernel
theorem dX8_pairs_70 : decode cX8_pairs 70 = .ok (.if_icmp .ne 7, 3) := by decide +kernel
theorem dX8_pairs_73 : decode cX8_pairs 73 = .ok (.iconst 1, 1) := by decide +kernel
theorem dX8_pairs_74 : decode cX8_pairs 74 = .ok (.goto 4, 3) := by decide +kernel
theorem dX8_pairs_77 : decode cX8_pairs 77 = .ok (.iconst 0, 1) := by decide +kernel
theorem dX8_pairs_78 : decode cX8_pairs 78 = .ok (.istore_n 3, 1) := by decide +kernel
theorem dX8_pairs_79 : decode cX8_pairs 79 = .ok (.iconst 0, 1) := by decide +kernel
theorem dX8_pairs_80 : decode cX8_pairs 80 = .ok (.istore 4, 2) := by decide +kernel
theorem dX8_pairs_82 : decode cX8_pairs 82 = .ok (.iload 4, 2) := by decide +kernel
theorem dX8_pairs_84 : decode cX8_pairs 84 = .ok (.aload_n 0, 1) := by decide +kernel
theorem dX8_pairs_85 : decode cX8_pairs 85 = .ok (.getfield 122, 3) := by decide +kernel
theorem dX8_pairs_88 : decode cX8_pairs 88 = .ok (.if_icmp .ge 167, 3) := by decide +kernel
theorem dX8_pairs_91 : decode cX8_pairs 91 = .ok (.iload 4, 2) := by decide +kernel
theorem dX8_pairs_93 : decode cX8_pairs 93 = .ok (.istore 5, 2) := by decide +kernel
theorem dX8_pairs_95 : decode cX8_pairs 95 = .ok (.iload 5, 2) := by decide +kernel
theorem dX8_pairs_97 : decode cX8_pairs 97 = .ok (.aload_n 0, 1) := by decide +kernel
theorem dX8_pairs_98 : decode cX8_pairs 98 = .ok (.getfield 122, 3) := by decide +kernel
theorem dX8_pairs_101 : decode cX8_pairs 101 = .ok (.if_icmp .ge 148, 3) := by decide +kernel
theorem dX8_pairs_104 : decode cX8_pairs 104 = .ok (.iload_n 2, 1) := by decide +kernel
theorem dX8_pairs_105 : decode cX8_pairs 105 = .ok (.iload 4, 2) := by decide +kernel
theorem dX8_pairs_107 : decode cX8_pairs 107 = .ok (.invokestatic 142, 3) := by decide +kernel
theorem dX8_pairs_110 : decode cX8_pairs 110 = .ok (.ifCond .eq 27, 3) := by decide +kernel
theorem dX8_pairs_113 : decode cX8_pairs 113 = .ok (.iload_n 2, 1) := by decide +kernel
theorem dX8_pairs_114 : decode cX8_pairs 114 = .ok (.iload 5, 2) := by decide +kernel
theorem dX8_pairs_116 : decode cX8_pairs 116 = .ok (.invokestatic 142, 3) := by decide +kernel
theorem dX8_pairs_119 : decode cX8_pairs 119 = .ok (.ifCond .eq 18, 3) := by decide +kernel
theorem dX8_pairs_122 : decode cX8_pairs 122 = .ok (.iload 4, 2) := by decide +kernel
theorem dX8_pairs_124 : decode cX8_pairs 124 = .ok (.iload 5, 2) := by decide +kernel
theorem dX8_pairs_126 : decode cX8_pairs 126 = .ok (.if_icmp .ne 7, 3) := by decide +kernel
theorem dX8_pairs_129 : decode cX8_pairs 129 = .ok (.iload_n 3, 1) := by decide +kernel
theorem dX8_pairs_130 : decode cX8_pairs 130 = .ok (.ifCond .eq 7, 3) := by decide +kernel
theorem dX8_pairs_133 : decode cX8_pairs 133 = .ok (.iconst 1, 1) := by decide +kernel
theorem dX8_pairs_134 : decode cX8_pairs 134 = .ok (.goto 4, 3) := by decide +kernel
theorem dX8_pairs_137 : decode cX8_pairs 137 = .ok (.iconst 0, 1) := by decide +kernel
theorem dX8_pairs_138 : decode cX8_pairs 138 = .ok (.istore 6, 2) := by decide +kernel
theorem dX8_pairs_140 : decode cX8_pairs 140 = .ok (.iload_n 2, 1) := by decide +kernel
theorem dX8_pairs_141 : decode cX8_pairs 141 = .ok (.iconst 1, 1) := by decide +kernel
theorem dX8_pairs_142 : decode cX8_pairs 142 = .ok (.iload 4, 2) := by decide +kernel
theorem dX8_pairs_144 : decode cX8_pairs 144 = .ok (.ishl, 1) := by decide +kernel
theorem dX8_pairs_145 : decode cX8_pairs 145 = .ok (.iconst (-1), 1) := by decide +kernel
theorem dX8_pairs_146 : decode cX8_pairs 146 = .ok (.ixor, 1) := by decide +kernel
theorem dX8_pairs_147 : decode cX8_pairs 147 = .ok (.iand, 1) := by decide +kernel
theorem dX8_pairs_148 : decode cX8_pairs 148 = .ok (.iconst 1, 1) := by decide +kernel
theorem dX8_pairs_149 : decode cX8_pairs 149 = .ok (.iload 5, 2) := by decide +kernel
theorem dX8_pairs_151 : decode cX8_pairs 151 = .ok (.ishl, 1) := by decide +kernel
theorem dX8_pairs_152 : decode cX8_pairs 152 = .ok (.iconst (-1), 1) := by decide +kernel
theorem dX8_pairs_153 : decode cX8_pairs 153 = .ok (.ixor, 1) := by decide +kernel
theorem dX8_pairs_154 : decode cX8_pairs 154 = .ok (.iand, 1) := by decide +kernel
theorem dX8_pairs_155 : decode cX8_pairs 155 = .ok (.istore 7, 2) := by decide +kernel
theorem dX8_pairs_157 : decode cX8_pairs 157 = .ok (.iload 6, 2) := by decide +kernel
theorem dX8_pairs_159 : decode cX8_pairs 159 = .ok (.ifCond .eq 52, 3) := by decide +kernel
theorem dX8_pairs_162 : decode cX8_pairs 162 = .ok (.aload_n 0, 1) := by decide +kernel
theorem dX8_pairs_163 : decode cX8_pairs 163 = .ok (.getfield 58, 3) := by decide +kernel
theorem dX8_pairs_166 : decode cX8_pairs 166 = .ok (.iload 7, 2) := by decide +kernel
theorem dX8_pairs_168 : decode cX8_pairs 168 = .ok (.iaload, 1) := by decide +kernel
theorem dX8_pairs_169 : decode cX8_pairs 169 = .ok (.bipush (-9), 2) := by decide +kernel
theorem dX8_pairs_171 : decode cX8_pairs 171 = .ok (.if_icmp .eq 40, 3) := by decide +kernel
theorem dX8_pairs_174 : decode cX8_pairs 174 = .ok (.aload_n 0, 1) := by decide +kernel
theorem dX8_pairs_175 : decode cX8_pairs 175 = .ok (.getfield 58, 3) := by decide +kernel
theorem dX8_pairs_178 : decode cX8_pairs 178 = .ok (.iload 7, 2) := by decide +kernel
theorem dX8_pairs_180 : decode cX8_pairs 180 = .ok (.iaload, 1) := by decide +kernel
theorem dX8_pairs_181 : decode cX8_pairs 181 = .ok (.iload 4, 2) := by decide +kernel
theorem dX8_pairs_183 : decode cX8_pairs 183 = .ok (.iload 5, 2) := by decide +kernel
theorem dX8_pairs_185 : decode cX8_pairs 185 = .ok (.if_icmp .ne 14, 3) := by decide +kernel
theorem dX8_pairs_188 : decode cX8_pairs 188 = .ok (.aload_n 0, 1) := by decide +kernel
theorem dX8_pairs_189 : decode cX8_pairs 189 = .ok (.iload 4, 2) := by decide +kernel
theorem dX8_pairs_191 : decode cX8_pairs 191 = .ok (.bipush (-9), 2) := by decide +kernel
theorem dX8_pairs_193 : decode cX8_pairs 193 = .ok (.invokevirtual 197, 3) := by decide +kernel
theorem dX8_pairs_196 : decode cX8_pairs 196 = .ok (.goto 11, 3) := by decide +kernel
theorem dX8_pairs_199 : decode cX8_pairs 199 = .ok (.aload_n 0, 1) := by decide +kernel
theorem dX8_pairs_200 : decode cX8_pairs 200 = .ok (.iload 4, 2) := by decide +kernel
theorem dX8_pairs_202 : decode cX8_pairs 202 = .ok (.iload 5, 2) := by decide +kernel
theorem dX8_pairs_204 : decode cX8_pairs 204 = .ok (.invokevirtual 197, 3) := by decide +kernel
theorem dX8_pairs_207 : decode cX8_pairs 207 = .ok (.iadd, 1) := by decide +kernel
theorem dX8_pairs_208 : decode cX8_pairs 208 = .ok (.goto 5, 3) := by decide +kernel
theorem dX8_pairs_211 : decode cX8_pairs 211 = .ok (.bipush (-9), 2) := by decide +kernel
theorem dX8_pairs_213 : decode cX8_pairs 213 = .ok (.istore 8, 2) := by decide +kernel
theorem dX8_pairs_215 : decode cX8_pairs 215 = .ok (.aload_n 0, 1) := by decide +kernel
theorem dX8_pairs_216 : decode cX8_pairs 216 = .ok (.getfield 58, 3) := by decide +kernel
theorem dX8_pairs_219 : decode cX8_pairs 219 = .ok (.iload_n 2, 1) := by decide +kernel
theorem dX8_pairs_220 : decode cX8_pairs 220 = .ok (.iload 8, 2) := by decide +kernel
theorem dX8_pairs_222 : decode cX8_pairs 222 = .ok (.aload_n 0, 1) := by decide +kernel
theorem dX8_pairs_223 : decode cX8_pairs 223 = .ok (.getfield 58, 3) := by decide +kernel
theorem dX8_pairs_226 : decode cX8_pairs 226 = .ok (.iload_n 2, 1) := by decide +kernel
theorem dX8_pairs_227 : decode cX8_pairs 227 = .ok (.iaload, 1) := by decide +kernel
theorem dX8_pairs_228 : decode cX8_pairs 228 = .ok (.if_icmp .le 8, 3) := by decide +kernel
theorem dX8_pairs_231 : decode cX8_pairs 231 = .ok (.iload 8, 2) := by decide +kernel
theorem dX8_pairs_233 : decode cX8_pairs 233 = .ok (.goto 9, 3) := by decide +kernel
theorem dX8_pairs_236 : decode cX8_pairs 236 = .ok (.aload_n 0, 1) := by decide +kernel
theorem dX8_pairs_237 : decode cX8_pairs 237 = .ok (.getfield 58, 3) := by decide +kernel
theorem dX8_pairs_240 : decode cX8_pairs 240 = .ok (.iload_n 2, 1) := by decide +kernel
theorem dX8_pairs_241 : decode cX8_pairs 241 = .ok (.iaload, 1) := by decide +kernel
theorem dX8_pairs_242 : decode cX8_pairs 242 = .ok (.iastore, 1) := by decide +kernel
theorem dX8_pairs_243 : decode cX8_pairs 243 = .ok (.iinc 5 1, 3) := by decide +kernel
theorem dX8_pairs_246 : decode cX8_pairs 246 = .ok (.goto (-151), 3) := by decide +kernel
theorem dX8_pairs_249 : decode cX8_pairs 249 = .ok (.iinc 4 1, 3) := by decide +kernel
theorem dX8_pairs_252 : decode cX8_pairs 252 = .ok (.goto (-170), 3) := by decide +kernel
theorem dX8_pairs_255 : decode cX8_pairs 255 = .ok (.iinc 2 1, 3) := by decide +kernel
theorem dX8_pairs_258 : decode cX8_pairs 258 = .ok (.goto (-209), 3) := by decide +kernel
theorem dX8_pairs_261 : decode cX8_pairs 261 = .ok (.aload_n 0, 1) := by decide +kernel
theorem dX8_pairs_262 : decode cX8_pairs 262 = .ok (.getfield 58, 3) := by decide +kernel
theorem dX8_pairs_265 : decode cX8_pairs 265 = .ok (.iload_n 1, 1) := by decide +kernel
theorem dX8_pairs_266 : decode cX8_pairs 266 = .ok (.iaload, 1) := by decide +kernel
theorem dX8_pairs_267 : decode cX8_pairs 267 = .ok (.ireturn, 1) := by decide +kernel
theorem dX8_judge_0 : decode cX8_judge 0 = .ok (.iload_n 1, 1) := by decide +kernel
theorem dX8_judge_1 : decode cX8_judge 1 = .ok (.i2l, 1) := by decide +kernel
theorem dX8_judge_2 : decode cX8_judge 2 = .ok (.lconst 1, 1) := by decide +kernel
theorem dX8_judge_3 : decode cX8_judge 3 = .ok (.ldc2_w 200, 3) := by decide +kernel
theorem dX8_judge_6 : decode cX8_judge 6 = .ok (.invokestatic 80, 3) := by decide +kernel
theorem dX8_judge_9 : decode cX8_judge 9 = .ok (.ifCond .eq 21, 3) := by decide +kernel
theorem dX8_judge_12 : decode cX8_judge 12 = .ok (.iload_n 2, 1) := by decide +kernel
theorem dX8_judge_13 : decode cX8_judge 13 = .ok (.i2l, 1) := by decide +kernel
theorem dX8_judge_14 : decode cX8_judge 14 = .ok (.lconst 0, 1) := by decide +kernel
theorem dX8_judge_15 : decode cX8_judge 15 = .ok (.bipush 10, 2) := by decide +kernel
theorem dX8_judge_17 : decode cX8_judge 17 = .ok (.iload_n 1, 1) := by decide +kernel
theorem dX8_judge_18 : decode cX8_judge 18 = .ok (.invokestatic 159, 3) := by decide +kernel
theorem dX8_judge_21 : decode cX8_judge 21 = .ok (.iconst 1, 1) := by decide +kernel
theorem dX8_judge_22 : decode cX8_judge 22 = .ok (.isub, 1) := by decide +kernel
theorem dX8_judge_23 : decode cX8_judge 23 = .ok (.i2l, 1) := by decide +kernel
theorem dX8_judge_24 : decode cX8_judge 24 = .ok (.invokestatic 80, 3) := by decide +kernel
theorem dX8_judge_27 : decode cX8_judge 27 = .ok (.ifCond .ne 6, 3) := by decide +kernel
theorem dX8_judge_30 : decode cX8_judge 30 = .ok (.bipush (-2), 2) := by decide +kernel
theorem dX8_judge_32 : decode cX8_judge 32 = .ok (.ireturn, 1) := by decide +kernel
theorem dX8_judge_33 : decode cX8_judge 33 = .ok (.aload_n 0, 1) := by decide +kernel
theorem dX8_judge_34 : decode cX8_judge 34 = .ok (.iconst 0, 1) := by decide +kernel
theorem dX8_judge_35 : decode cX8_judge 35 = .ok (.iconst 1, 1) := by decide +kernel
theorem dX8_judge_36 : decode cX8_judge 36 = .ok (.invokevirtual 166, 3) := by decide +kernel
theorem dX8_judge_39 : decode cX8_judge 39 = .ok (.iconst 0, 1) := by decide +kernel
theorem dX8_judge_40 : decode cX8_judge 40 = .ok (.istore_n 3, 1) := by decide +kernel
theorem dX8_judge_41 : decode cX8_judge 41 = .ok (.iload_n 3, 1) := by decide +kernel
theorem dX8_judge_42 : decode cX8_judge 42 = .ok (.iload_n 1, 1) := by decide +kernel
theorem dX8_judge_43 : decode cX8_judge 43 = .ok (.if_icmp .ge 118, 3) := by decide +kernel
theorem dX8_judge_46 : decode cX8_judge 46 = .ok (.iload_n 2, 1) := by decide +kernel
theorem dX8_judge_47 : decode cX8_judge 47 = .ok (.bipush 10, 2) := by decide +kernel
theorem dX8_judge_49 : decode cX8_judge 49 = .ok (.iload_n 1, 1) := by decide +kernel
theorem dX8_judge_50 : decode cX8_judge 50 = .ok (.iconst 1, 1) := by decide +kernel
theorem dX8_judge_51 : decode cX8_judge 51 = .ok (.isub, 1) := by decide +kernel
theorem dX8_judge_52 : decode cX8_judge 52 = .ok (.iload_n 3, 1) := by decide +kernel
theorem dX8_judge_53 : decode cX8_judge 53 = .ok (.isub, 1) := by decide +kernel
theorem dX8_judge_54 : decode cX8_judge 54 = .ok (.invokestatic 159, 3) := by decide +kernel
theorem dX8_judge_57 : decode cX8_judge 57 = .ok (.idiv, 1) := by decide +kernel
theorem dX8_judge_58 : decode cX8_judge 58 = .ok (.bipush 10, 2) := by decide +kernel
theorem dX8_judge_60 : decode cX8_judge 60 = .ok (.irem, 1) := by decide +kernel
theorem dX8_judge_61 : decode cX8_judge 61 = .ok (.istore 4, 2) := by decide +kernel
theorem dX8_judge_63 : decode cX8_judge 63 = .ok (.iload 4, 2) := by decide +kernel
theorem dX8_judge_65 : decode cX8_judge 65 = .ok (.iconst 4, 1) := by decide +kernel
theorem dX8_judge_66 : decode cX8_judge 66 = .ok (.if_icmp .ne 23, 3) := by decide +kernel
theorem dX8_judge_69 : decode cX8_judge 69 = .ok (.aload_n 0, 1) := by decide +kernel
theorem dX8_judge_70 : decode cX8_judge 70 = .ok (.getfield 34, 3) := by decide +kernel
theorem dX8_judge_73 : decode cX8_judge 73 = .ok (.bipush 35, 2) := by decide +kernel
theorem dX8_judge_75 : decode cX8_judge 75 = .ok (.iaload, 1) := by decide +kernel
theorem dX8_judge_76 : decode cX8_judge 76 = .ok (.bipush 20, 2) := by decide +kernel
theorem dX8_judge_78 : decode cX8_judge 78 = .ok (.if_icmp .ge 7, 3) := by decide +kernel
theorem dX8_judge_81 : decode cX8_judge 81 = .ok (.iconst 1, 1) := by decide +kernel
theorem dX8_judge_82 : decode cX8_judge 82 = .ok (.goto 34, 3) := by decide +kernel
theorem dX8_judge_85 : decode cX8_judge 85 = .ok (.iconst 0, 1) := by decide +kernel
theorem dX8_judge_86 : decode cX8_judge 86 = .ok (.goto 30, 3) := by decide +kernel
theorem dX8_judge_89 : decode cX8_judge 89 = .ok (.aload_n 0, 1) := by decide +kernel
theorem dX8_judge_90 : decode cX8_judge 90 = .ok (.iload 4, 2) := by decide +kernel
theorem dX8_judge_92 : decode cX8_judge 92 = .ok (.invokevirtual 131, 3) := by decide +kernel
theorem dX8_judge_95 : decode cX8_judge 95 = .ok (.ifCond .eq 20, 3) := by decide +kernel
theorem dX8_judge_98 : decode cX8_judge 98 = .ok (.aload_n 0, 1) := by decide +kernel
theorem dX8_judge_99 : decode cX8_judge 99 = .ok (.getfield 34, 3) := by decide +kernel
theorem dX8_judge_102 : decode cX8_judge 102 = .ok (.bipush 26, 2) := by decide +kernel
theorem dX8_judge_104 : decode cX8_judge 104 = .ok (.iload 4, 2) := by decide +kernel
theorem dX8_judge_106 : decode cX8_judge 106 = .ok (.iadd, 1) := by decide +kernel
theorem dX8_judge_107 : decode cX8_judge 107 = .ok (.iaload, 1) := by decide +kernel
theorem dX8_judge_108 : decode cX8_judge 108 = .ok (.ifCond .ne 7, 3) := by decide +kernel
theorem dX8_judge_111 : decode cX8_judge 111 = .ok (.iconst 1, 1) := by decide +kernel
theorem dX8_judge_112 : decode cX8_judge 112 = .ok (.goto 4, 3) := by decide +kernel
theorem dX8_judge_115 : decode cX8_judge 115 = .ok (.iconst 0, 1) := by decide +kernel
theorem dX8_judge_116 : decode cX8_judge 116 = .ok (.istore 5, 2) := by decide +kernel
theorem dX8_judge_118 : decode cX8_judge 118 = .ok (.iload 5, 2) := by decide +kernel
theorem dX8_judge_120 : decode cX8_judge 120 = .ok (.ifCond .ne 5, 3) := by decide +kernel
theorem dX8_judge_123 : decode cX8_judge 123 = .ok (.iload_n 3, 1) := by decide +kernel
theorem dX8_judge_124 : decode cX8_judge 124 = .ok (.ireturn, 1) := by decide +kernel
theorem dX8_judge_125 : decode cX8_judge 125 = .ok (.iload 4, 2) := by decide +kernel
theorem dX8_judge_127 : decode cX8_judge 127 = .ok (.iconst 4, 1) := by decide +kernel
theorem dX8_judge_128 : decode cX8_judge 128 = .ok (.if_icmp .ge 17, 3) := by decide +kernel
theorem dX8_judge_131 : decode cX8_judge 131 = .ok (.aload_n 0, 1) := by decide +kernel
theorem dX8_judge_132 : decode cX8_judge 132 = .ok (.getfield 34, 3) := by decide +kernel
theorem dX8_judge_135 : decode cX8_judge 135 = .ok (.bipush 26, 2) := by decide +kernel
theorem dX8_judge_137 : decode cX8_judge 137 = .ok (.iload 4, 2) := by decide +kernel
theorem dX8_judge_139 : decode cX8_judge 139 = .ok (.iadd, 1) := by decide +kernel
theorem dX8_judge_140 : decode cX8_judge 140 = .ok (.iconst 1, 1) := by decide +kernel
theorem dX8_judge_141 : decode cX8_judge 141 = .ok (.iastore, 1) := by decide +kernel
theorem dX8_judge_142 : decode cX8_judge 142 = .ok (.goto 13, 3) := by decide +kernel
theorem dX8_judge_145 : decode cX8_judge 145 = .ok (.aload_n 0, 1) := by decide +kernel
theorem dX8_judge_146 : decode cX8_judge 146 = .ok (.iconst 1, 1) := by decide +kernel
theorem dX8_judge_147 : decode cX8_judge 147 = .ok (.invokevirtual 156, 3) := by decide +kernel
theorem dX8_judge_150 : decode cX8_judge 150 = .ok (.ifCond .ne 5, 3) := by decide +kernel
theorem dX8_judge_153 : decode cX8_judge 153 = .ok (.iload_n 3, 1) := by decide +kernel
theorem dX8_judge_154 : decode cX8_judge 154 = .ok (.ireturn, 1) := by decide +kernel
theorem dX8_judge_155 : decode cX8_judge 155 = .ok (.iinc 3 1, 3) := by decide +kernel
theorem dX8_judge_158 : decode cX8_judge 158 = .ok (.goto (-117), 3) := by decide +kernel
theorem dX8_judge_161 : decode cX8_judge 161 = .ok (.bipush (-9), 2) := by decide +kernel
theorem dX8_judge_163 : decode cX8_judge 163 = .ok (.ireturn, 1) := by decide +kernel
theorem dX8_isSo_0 : decode cX8_isSo 0 = .ok (.iload_n 1, 1) := by decide +kernel
theorem dX8_isSo_1 : decode cX8_isSo 1 = .ok (.i2l, 1) := by decide +kernel
theorem dX8_isSo_2 : decode cX8_isSo 2 = .ok (.lconst 0, 1) := by decide +kernel
theorem dX8_isSo_3 : decode cX8_isSo 3 = .ok (.aload_n 0, 1) := by decide +kernel
theorem dX8_isSo_4 : decode cX8_isSo 4 = .ok (.getfield 74, 3) := by decide +kernel
theorem dX8_isSo_7 : decode cX8_isSo 7 = .ok (.iload_n 2, 1) := by decide +kernel
theorem dX8_isSo_8 : decode cX8_isSo 8 = .ok (.isub, 1) := by decide +kernel
theorem dX8_isSo_9 : decode cX8_isSo 9 = .ok (.i2l, 1) := by decide +kernel
theorem dX8_isSo_10 : decode cX8_isSo 10 = .ok (.invokestatic 80, 3) := by decide +kernel
theorem dX8_isSo_13 : decode cX8_isSo 13 = .ok (.istore 4, 2) := by decide +kernel
theorem dX8_isSo_15 : decode cX8_isSo 15 = .ok (.iconst 0, 1) := by decide +kernel
theorem dX8_isSo_16 : decode cX8_isSo 16 = .ok (.istore 5, 2) := by decide +kernel
theorem dX8_isSo_18 : decode cX8_isSo 18 = .ok (.iload 5, 2) := by decide +kernel
theorem dX8_isSo_20 : decode cX8_isSo 20 = .ok (.iload_n 2, 1) := by decide +kernel
theorem dX8_isSo_21 : decode cX8_isSo 21 = .ok (.if_icmp .ge 64, 3) := by decide +kernel
theorem dX8_isSo_24 : decode cX8_isSo 24 = .ok (.iload 4, 2) := by decide +kernel
theorem dX8_isSo_26 : decode cX8_isSo 26 = .ok (.ifCond .eq 59, 3) := by decide +kernel
theorem dX8_isSo_29 : decode cX8_isSo 29 = .ok (.iload_n 3, 1) := by decide +kernel
theorem dX8_isSo_30 : decode cX8_isSo 30 = .ok (.bipush 10, 2) := by decide +kernel
theorem dX8_isSo_32 : decode cX8_isSo 32 = .ok (.iload_n 2, 1) := by decide +kernel
theorem dX8_isSo_33 : decode cX8_isSo 33 = .ok (.iconst 1, 1) := by decide +kernel
theorem dX8_isSo_34 : decode cX8_isSo 34 = .ok (.isub, 1) := by decide +kernel
theorem dX8_isSo_35 : decode cX8_isSo 35 = .ok (.iload 5, 2) := by decide +kernel
theorem dX8_isSo_37 : decode cX8_isSo 37 = .ok (.isub, 1) := by decide +kernel
theorem dX8_isSo_38 : decode cX8_isSo 38 = .ok (.invokestatic 159, 3) := by decide +kernel
theorem dX8_isSo_41 : decode cX8_isSo 41 = .ok (.idiv, 1) := by decide +kernel
theorem dX8_isSo_42 : decode cX8_isSo 42 = .ok (.bipush 10, 2) := by decide +kernel
theorem dX8_isSo_44 : decode cX8_isSo 44 = .ok (.irem, 1) := by decide +kernel
theorem dX8_isSo_45 : decode cX8_isSo 45 = .ok (.istore 6, 2) := by decide +kernel
theorem dX8_isSo_47 : decode cX8_isSo 47 = .ok (.aload_n 0, 1) := by decide +kernel
theorem dX8_isSo_48 : decode cX8_isSo 48 = .ok (.getfield 7, 3) := by decide +kernel
theorem dX8_isSo_51 : decode cX8_isSo 51 = .ok (.iload_n 1, 1) := by decide +kernel
theorem dX8_isSo_52 : decode cX8_isSo 52 = .ok (.iload 5, 2) := by decide +kernel
theorem dX8_isSo_54 : decode cX8_isSo 54 = .ok (.iadd, 1) := by decide +kernel
theorem dX8_isSo_55 : decode cX8_isSo 55 = .ok (.iaload, 1) := by decide +kernel
theorem dX8_isSo_56 : decode cX8_isSo 56 = .ok (.iload 6, 2) := by decide +kernel
theorem dX8_isSo_58 : decode cX8_isSo 58 = .ok (.ifCond .ne 7, 3) := by decide +kernel
theorem dX8_isSo_61 : decode cX8_isSo 61 = .ok (.iconst 4, 1) := by decide +kernel
theorem dX8_isSo_62 : decode cX8_isSo 62 = .ok (.goto 7, 3) := by decide +kernel
theorem dX8_isSo_65 : decode cX8_isSo 65 = .ok (.iload 6, 2) := by decide +kernel
theorem dX8_isSo_67 : decode cX8_isSo 67 = .ok (.iconst 1, 1) := by decide +kernel
theorem dX8_isSo_68 : decode cX8_isSo 68 = .ok (.isub, 1) := by decide +kernel
theorem dX8_isSo_69 : decode cX8_isSo 69 = .ok (.if_icmp .ne 7, 3) := by decide +kernel
theorem dX8_isSo_72 : decode cX8_isSo 72 = .ok (.iconst 1, 1) := by decide +kernel
theorem dX8_isSo_73 : decode cX8_isSo 73 = .ok (.goto 4, 3) := by decide +kernel
theorem dX8_isSo_76 : decode cX8_isSo 76 = .ok (.iconst 0, 1) := by decide +kernel
theorem dX8_isSo_77 : decode cX8_isSo 77 = .ok (.istore 4, 2) := by decide +kernel
theorem dX8_isSo_79 : decode cX8_isSo 79 = .ok (.iinc 5 1, 3) := by decide +kernel
theorem dX8_isSo_82 : decode cX8_isSo 82 = .ok (.goto (-64), 3) := by decide +kernel
theorem dX8_isSo_85 : decode cX8_isSo 85 = .ok (.iload 4, 2) := by decide +kernel
theorem dX8_isSo_87 : decode cX8_isSo 87 = .ok (.ireturn, 1) := by decide +kernel
theorem dX8_stub_0 : decode cX8_stub 0 = .ok (.iload_n 1, 1) := by decide +kernel
theorem dX8_stub_1 : decode cX8_stub 1 = .ok (.i2l, 1) := by decide +kernel
theorem dX8_stub_2 : decode cX8_stub 2 = .ok (.lconst 1, 1) := by decide +kernel
theorem dX8_stub_3 : decode cX8_stub 3 = .ok (.ldc2_w 202, 3) := by decide +kernel
theorem dX8_stub_6 : decode cX8_stub 6 = .ok (.invokestatic 80, 3) := by decide +kernel
theorem dX8_stub_9 : decode cX8_stub 9 = .ok (.ifCond .eq 21, 3) := by decide +kernel
theorem dX8_stub_12 : decode cX8_stub 12 = .ok (.iload_n 2, 1) := by decide +kernel
theorem dX8_stub_13 : decode cX8_stub 13 = .ok (.i2l, 1) := by decide +kernel
theorem dX8_stub_14 : decode cX8_stub 14 = .ok (.lconst 0, 1) := by decide +kernel
theorem dX8_stub_15 : decode cX8_stub 15 = .ok (.bipush 10, 2) := by decide +kernel
theorem dX8_stub_17 : decode cX8_stub 17 = .ok (.iload_n 1, 1) := by decide +kernel
theorem dX8_stub_18 : decode cX8_stub 18 = .ok (.invokestatic 159, 3) := by decide +kernel
theorem dX8_stub_21 : decode cX8_stub 21 = .ok (.iconst 1, 1) := by decide +kernel
theorem dX8_stub_22 : decode cX8_stub 22 = .ok (.isub, 1) := by decide +kernel
theorem dX8_stub_23 : decode cX8_stub 23 = .ok (.i2l, 1) := by decide +kernel
theorem dX8_stub_24 : decode cX8_stub 24 = .ok (.invokestatic 80, 3) := by decide +kernel
theorem dX8_stub_27 : decode cX8_stub 27 = .ok (.ifCond .ne 6, 3) := by decide +kernel
theorem dX8_stub_30 : decode cX8_stub 30 = .ok (.bipush (-2), 2) := by decide +kernel
theorem dX8_stub_32 : decode cX8_stub 32 = .ok (.ireturn, 1) := by decide +kernel
theorem dX8_stub_33 : decode cX8_stub 33 = .ok (.iconst 0, 1) := by decide +kernel
theorem dX8_stub_34 : decode cX8_stub 34 = .ok (.istore 4, 2) := by decide +kernel
theorem dX8_stub_36 : decode cX8_stub 36 = .ok (.iload 4, 2) := by decide +kernel
theorem dX8_stub_38 : decode cX8_stub 38 = .ok (.iload_n 1, 1) := by decide +kernel
theorem dX8_stub_39 : decode cX8_stub 39 = .ok (.if_icmp .ge 28, 3) := by decide +kernel
theorem dX8_stub_42 : decode cX8_stub 42 = .ok (.iload_n 2, 1) := by decide +kernel
theorem dX8_stub_43 : decode cX8_stub 43 = .ok (.bipush 10, 2) := by decide +kernel
theorem dX8_stub_45 : decode cX8_stub 45 = .ok (.iload 4, 2) := by decide +kernel
theorem dX8_stub_47 : decode cX8_stub 47 = .ok (.invokestatic 159, 3) := by decide +kernel
theorem dX8_stub_50 : decode cX8_stub 50 = .ok (.idiv, 1) := by decide +kernel
theorem dX8_stub_51 : decode cX8_stub 51 = .ok (.bipush 10, 2) := by decide +kernel
theorem dX8_stub_53 : decode cX8_stub 53 = .ok (.irem, 1) := by decide +kernel
theorem dX8_stub_54 : decode cX8_stub 54 = .ok (.iconst 4, 1) := by decide +kernel
theorem dX8_stub_55 : decode cX8_stub 55 = .ok (.if_icmp .le 6, 3) := by decide +kernel
theorem dX8_stub_58 : decode cX8_stub 58 = .ok (.bipush (-2), 2) := by decide +kernel
theorem dX8_stub_60 : decode cX8_stub 60 = .ok (.ireturn, 1) := by decide +kernel
theorem dX8_stub_61 : decode cX8_stub 61 = .ok (.iinc 4 1, 3) := by decide +kernel
theorem dX8_stub_64 : decode cX8_stub 64 = .ok (.goto (-28), 3) := by decide +kernel
theorem dX8_stub_67 : decode cX8_stub 67 = .ok (.iconst 0, 1) := by decide +kernel
theorem dX8_stub_68 : decode cX8_stub 68 = .ok (.istore 4, 2) := by decide +kernel
theorem dX8_stub_70 : decode cX8_stub 70 = .ok (.iconst 0, 1) := by decide +kernel
theorem dX8_stub_71 : decode cX8_stub 71 = .ok (.istore 5, 2) := by decide +kernel
theorem dX8_stub_73 : decode cX8_stub 73 = .ok (.iload 5, 2) := by decide +kernel
theorem dX8_stub_75 : decode cX8_stub 75 = .ok (.aload_n 0, 1) := by decide +kernel
theorem dX8_stub_76 : decode cX8_stub 76 = .ok (.getfield 122, 3) := by decide +kernel
theorem dX8_stub_79 : decode cX8_stub 79 = .ok (.if_icmp .ge 59, 3) := by decide +kernel
theorem dX8_stub_82 : decode cX8_stub 82 = .ok (.iload 4, 2) := by decide +kernel
theorem dX8_stub_84 : decode cX8_stub 84 = .ok (.aload_n 0, 1) := by decide +kernel
theorem dX8_stub_85 : decode cX8_stub 85 = .ok (.getfield 16, 3) := by decide +kernel
theorem dX8_stub_88 : decode cX8_stub 88 = .ok (.iload 5, 2) := by decide +kernel
theorem dX8_stub_90 : decode cX8_stub 90 = .ok (.iaload, 1) := by decide +kernel
theorem dX8_stub_91 : decode cX8_stub 91 = .ok (.iload_n 1, 1) := by decide +kernel
theorem dX8_stub_92 : decode cX8_stub 92 = .ok (.if_icmp .lt 36, 3) := by decide +kernel
theorem dX8_stub_95 : decode cX8_stub 95 = .ok (.aload_n 0, 1) := by decide +kernel
theorem dX8_stub_96 : decode cX8_stub 96 = .ok (.aload_n 0, 1) := by decide +kernel
theorem dX8_stub_97 : decode cX8_stub 97 = .ok (.getfield 13, 3) := by decide +kernel
theorem dX8_stub_100 : decode cX8_stub 100 = .ok (.iload 5, 2) := by decide +kernel
theorem dX8_stub_102 : decode cX8_stub 102 = .ok (.iaload, 1) := by decide +kernel
theorem dX8_stub_103 : decode cX8_stub 103 = .ok (.aload_n 0, 1) := by decide +kernel
theorem dX8_stub_104 : decode cX8_stub 104 = .ok (.getfield 16, 3) := by decide +kernel
theorem dX8_stub_107 : decode cX8_stub 107 = .ok (.iload 5, 2) := by decide +kernel
theorem dX8_stub_109 : decode cX8_stub 109 = .ok (.iaload, 1) := by decide +kernel
theorem dX8_stub_110 : decode cX8_stub 110 = .ok (.iadd, 1) := by decide +kernel
theorem dX8_stub_111 : decode cX8_stub 111 = .ok (.iload_n 1, 1) := by decide +kernel
theorem dX8_stub_112 : decode cX8_stub 112 = .ok (.isub, 1) := by decide +kernel
theorem dX8_stub_113 : decode cX8_stub 113 = .ok (.iload_n 1, 1) := by decide +kernel
theorem dX8_stub_114 : decode cX8_stub 114 = .ok (.iload_n 2, 1) := by decide +kernel
theorem dX8_stub_115 : decode cX8_stub 115 = .ok (.invokevirtual 204, 3) := by decide +kernel
theorem dX8_stub_118 : decode cX8_stub 118 = .ok (.ifCond .eq 10, 3) := by decide +kernel
theorem dX8_stub_121 : decode cX8_stub 121 = .ok (.iconst 1, 1) := by decide +kernel
theorem dX8_stub_122 : decode cX8_stub 122 = .ok (.iload 5, 2) := by decide +kernel
theorem dX8_stub_124 : decode cX8_stub 124 = .ok (.ishl, 1) := by decide +kernel
theorem dX8_stub_125 : decode cX8_stub 125 = .ok (.goto 4, 3) := by decide +kernel
theorem dX8_stub_128 : decode cX8_stub 128 = .ok (.iconst 0, 1) := by decide +kernel
theorem dX8_stub_129 : decode cX8_stub 129 = .ok (.ior, 1) := by decide +kernel
theorem dX8_stub_130 : decode cX8_stub 130 = .ok (.istore 4, 2) := by decide +kernel
theorem dX8_stub_132 : decode cX8_stub 132 = .ok (.iinc 5 1, 3) := by decide +kernel
theorem dX8_stub_135 : decode cX8_stub 135 = .ok (.goto (-62), 3) := by decide +kernel
theorem dX8_stub_138 : decode cX8_stub 138 = .ok (.iconst 0, 1) := by decide +kernel
theorem dX8_stub_139 : decode cX8_stub 139 = .ok (.istore 5, 2) := by decide +kernel
theorem dX8_stub_141 : decode cX8_stub 141 = .ok (.iconst 0, 1) := by decide +kernel
theorem dX8_stub_142 : decode cX8_stub 142 = .ok (.istore 6, 2) := by decide +kernel
theorem dX8_stub_144 : decode cX8_stub 144 = .ok (.iload 6, 2) := by decide +kernel
theorem dX8_stub_146 : decode cX8_stub 146 = .ok (.aload_n 0, 1) := by decide +kernel
theorem dX8_stub_147 : decode cX8_stub 147 = .ok (.getfield 74, 3) := by decide +kernel
theorem dX8_stub_150 : decode cX8_stub 150 = .ok (.if_icmp .ge 30, 3) := by decide +kernel
theorem dX8_stub_153 : decode cX8_stub 153 = .ok (.iload 5, 2) := by decide +kernel
theorem dX8_stub_155 : decode cX8_stub 155 = .ok (.aload_n 0, 1) := by decide +kernel
theorem dX8_stub_156 : decode cX8_stub 156 = .ok (.iload 6, 2) := by decide +kernel
theorem dX8_stub_158 : decode cX8_stub 158 = .ok (.iload_n 1, 1) := by decide +kernel
theorem dX8_stub_159 : decode cX8_stub 159 = .ok (.iload_n 2, 1) := by decide +kernel
theorem dX8_stub_160 : decode cX8_stub 160 = .ok (.invokevirtual 204, 3) := by decide +kernel
theorem dX8_stub_163 : decode cX8_stub 163 = .ok (.ifCond .eq 7, 3) := by decide +kernel
theorem dX8_stub_166 : decode cX8_stub 166 = .ok (.iconst 1, 1) := by decide +kernel
theorem dX8_stub_167 : decode cX8_stub 167 = .ok (.goto 4, 3) := by decide +kernel
theorem dX8_stub_170 : decode cX8_stub 170 = .ok (.iconst 0, 1) := by decide +kernel
theorem dX8_stub_171 : decode cX8_stub 171 = .ok (.iadd, 1) := by decide +kernel
theorem dX8_stub_172 : decode cX8_stub 172 = .ok (.istore 5, 2) := by decide +kernel
theorem dX8_stub_174 : decode cX8_stub 174 = .ok (.iinc 6 1, 3) := by decide +kernel
theorem dX8_stub_177 : decode cX8_stub 177 = .ok (.goto (-33), 3) := by decide +kernel
theorem dX8_stub_180 : decode cX8_stub 180 = .ok (.iload_n 3, 1) := by decide +kernel
theorem dX8_stub_181 : decode cX8_stub 181 = .ok (.ifCond .eq 8, 3) := by decide +kernel
theorem dX8_stub_184 : decode cX8_stub 184 = .ok (.iload 4, 2) := by decide +kernel
theorem dX8_stub_186 : decode cX8_stub 186 = .ok (.goto 5, 3) := by decide +kernel
theorem dX8_stub_189 : decode cX8_stub 189 = .ok (.iload 5, 2) := by decide +kernel
theorem dX8_stub_191 : decode cX8_stub 191 = .ok (.ireturn, 1) := by decide +kernel
theorem dX8_see_0 : decode cX8_see 0 = .ok (.iload_n 1, 1) := by decide +kernel
theorem dX8_see_1 : decode cX8_see 1 = .ok (.i2l, 1) := by decide +kernel
theorem dX8_see_2 : decode cX8_see 2 = .ok (.lconst 0, 1) := by decide +kernel
theorem dX8_see_3 : decode cX8_see 3 = .ok (.ldc2_w 208, 3) := by decide +kernel
theorem dX8_see_6 : decode cX8_see 6 = .ok (.invokestatic 80, 3) := by decide +kernel
theorem dX8_see_9 : decode cX8_see 9 = .ok (.ifCond .ne 6, 3) := by decide +kernel
theorem dX8_see_12 : decode cX8_see 12 = .ok (.bipush (-2), 2) := by decide +kernel
theorem dX8_see_14 : decode cX8_see 14 = .ok (.ireturn, 1) := by decide +kernel
theorem dX8_see_15 : decode cX8_see 15 = .ok (.aload_n 0, 1) := by decide +kernel
theorem dX8_see_16 : decode cX8_see 16 = .ok (.getfield 210, 3) := by decide +kernel
theorem dX8_see_19 : decode cX8_see 19 = .ok (.bipush 6, 2) := by decide +kernel
theorem dX8_see_21 : decode cX8_see 21 = .ok (.if_icmp .ne 6, 3) := by decide +kernel
theorem dX8_see_24 : decode cX8_see 24 = .ok (.bipush (-4), 2) := by decide +kernel
theorem dX8_see_26 : decode cX8_see 26 = .ok (.ireturn, 1) := by decide +kernel
theorem dX8_see_27 : decode cX8_see 27 = .ok (.aload_n 0, 1) := by decide +kernel
theorem dX8_see_28 : decode cX8_see 28 = .ok (.getfield 61, 3) := by decide +kernel
theorem dX8_see_31 : decode cX8_see 31 = .ok (.aload_n 0, 1) := by decide +kernel
theorem dX8_see_32 : decode cX8_see 32 = .ok (.getfield 210, 3) := by decide +kernel
theorem dX8_see_35 : decode cX8_see 35 = .ok (.iload_n 1, 1) := by decide +kernel
theorem dX8_see_36 : decode cX8_see 36 = .ok (.iastore, 1) := by decide +kernel
theorem dX8_see_37 : decode cX8_see 37 = .ok (.aload_n 0, 1) := by decide +kernel
theorem dX8_see_38 : decode cX8_see 38 = .ok (.dup, 1) := by decide +kernel
theorem dX8_see_39 : decode cX8_see 39 = .ok (.getfield 210, 3) := by decide +kernel
theorem dX8_see_42 : decode cX8_see 42 = .ok (.iconst 1, 1) := by decide +kernel
theorem dX8_see_43 : decode cX8_see 43 = .ok (.iadd, 1) := by decide +kernel
theorem dX8_see_44 : decode cX8_see 44 = .ok (.putfield 210, 3) := by decide +kernel
theorem dX8_see_47 : decode cX8_see 47 = .ok (.aload_n 0, 1) := by decide +kernel
theorem dX8_see_48 : decode cX8_see 48 = .ok (.getfield 210, 3) := by decide +kernel
theorem dX8_see_51 : decode cX8_see 51 = .ok (.ireturn, 1) := by decide +kernel
theorem dX8_unsee_0 : decode cX8_unsee 0 = .ok (.aload_n 0, 1) := by decide +kernel
theorem dX8_unsee_1 : decode cX8_unsee 1 = .ok (.getfield 210, 3) := by decide +kernel
theorem dX8_unsee_4 : decode cX8_unsee 4 = .ok (.istore_n 1, 1) := by decide +kernel
theorem dX8_unsee_5 : decode cX8_unsee 5 = .ok (.aload_n 0, 1) := by decide +kernel
theorem dX8_unsee_6 : decode cX8_unsee 6 = .ok (.iconst 0, 1) := by decide +kernel
theorem dX8_unsee_7 : decode cX8_unsee 7 = .ok (.putfield 210, 3) := by decide +kernel
theorem dX8_unsee_10 : decode cX8_unsee 10 = .ok (.iload_n 1, 1) := by decide +kernel
theorem dX8_unsee_11 : decode cX8_unsee 11 = .ok (.ireturn, 1) := by decide +kernel
theorem dX8_fromOf_0 : decode cX8_fromOf 0 = .ok (.iconst 0, 1) := by decide +kernel
theorem dX8_fromOf_1 : decode cX8_fromOf 1 = .ok (.istore_n 2, 1) := by decide +kernel
theorem dX8_fromOf_2 : decode cX8_fromOf 2 = .ok (.iconst 0, 1) := by decide +kernel
theorem dX8_fromOf_3 : decode cX8_fromOf 3 = .ok (.istore_n 3, 1) := by decide +kernel
theorem dX8_fromOf_4 : decode cX8_fromOf 4 = .ok (.iload_n 3, 1) := by decide +kernel
theorem dX8_fromOf_5 : decode cX8_fromOf 5 = .ok (.aload_n 0, 1) := by decide +kernel
theorem dX8_fromOf_6 : decode cX8_fromOf 6 = .ok (.getfield 74, 3) := by decide +kernel
theorem dX8_fromOf_9 : decode cX8_fromOf 9 = .ok (.iload_n 1, 1) := by decide +kernel
theorem dX8_fromOf_10 : decode cX8_fromOf 10 = .ok (.isub, 1) := by decide +kernel
theorem dX8_fromOf_11 : decode cX8_fromOf 11 = .ok (.if_icmp .gt 84, 3) := by decide +kernel
theorem dX8_fromOf_14 : decode cX8_fromOf 14 = .ok (.aload_n 0, 1) := by decide +kernel
theorem dX8_fromOf_15 : decode cX8_fromOf 15 = .ok (.getfield 210, 3) := by decide +kernel
theorem dX8_fromOf_18 : decode cX8_fromOf 18 = .ok (.iload_n 1, 1) := by decide +kernel
theorem dX8_fromOf_19 : decode cX8_fromOf 19 = .ok (.if_icmp .gt 76, 3) := by decide +kernel
theorem dX8_fromOf_22 : decode cX8_fromOf 22 = .ok (.iconst 1, 1) := by decide +kernel
theorem dX8_fromOf_23 : decode cX8_fromOf 23 = .ok (.istore 4, 2) := by decide +kernel
theorem dX8_fromOf_25 : decode cX8_fromOf 25 = .ok (.iconst 0, 1) := by decide +kernel
theorem dX8_fromOf_26 : decode cX8_fromOf 26 = .ok (.istore 5, 2) := by decide +kernel
theorem dX8_fromOf_28 : decode cX8_fromOf 28 = .ok (.iload 5, 2) := by decide +kernel
theorem dX8_fromOf_30 : decode cX8_fromOf 30 = .ok (.aload_n 0, 1) := by decide +kernel
theorem dX8_fromOf_31 : decode cX8_fromOf 31 = .ok (.getfield 210, 3) := by decide +kernel
theorem dX8_fromOf_34 : decode cX8_fromOf 34 = .ok (.if_icmp .ge 40, 3) := by decide +kernel
theorem dX8_fromOf_37 : decode cX8_fromOf 37 = .ok (.iload 4, 2) := by decide +kernel
theorem dX8_fromOf_39 : decode cX8_fromOf 39 = .ok (.ifCond .eq 26, 3) := by decide +kernel
theorem dX8_fromOf_42 : decode cX8_fromOf 42 = .ok (.aload_n 0, 1) := by decide +kernel
theorem dX8_fromOf_43 : decode cX8_fromOf 43 = .ok (.getfield 7, 3) := by decide +kernel
theorem dX8_fromOf_46 : decode cX8_fromOf 46 = .ok (.iload_n 3, 1) := by decide +kernel
theorem dX8_fromOf_47 : decode cX8_fromOf 47 = .ok (.iload 5, 2) := by decide +kernel
theorem dX8_fromOf_49 : decode cX8_fromOf 49 = .ok (.iadd, 1) := by decide +kernel
theorem dX8_fromOf_50 : decode cX8_fromOf 50 = .ok (.iaload, 1) := by decide +kernel
theorem dX8_fromOf_51 : decode cX8_fromOf 51 = .ok (.aload_n 0, 1) := by decide +kernel
theorem dX8_fromOf_52 : decode cX8_fromOf 52 = .ok (.getfield 61, 3) := by decide +kernel
theorem dX8_fromOf_55 : decode cX8_fromOf 55 = .ok (.iload 5, 2) := by decide +kernel
theorem dX8_fromOf_57 : decode cX8_fromOf 57 = .ok (.iaload, 1) := by decide +kernel
theorem dX8_fromOf_58 : decode cX8_fromOf 58 = .ok (.if_icmp .ne 7, 3) := by decide +kernel
theorem dX8_fromOf_61 : decode cX8_fromOf 61 = .ok (.iconst 1, 1) := by decide +kernel
theorem dX8_fromOf_62 : decode cX8_fromOf 62 = .ok (.goto 4, 3) := by decide +kernel
theorem dX8_fromOf_65 : decode cX8_fromOf 65 = .ok (.iconst 0, 1) := by decide +kernel
theorem dX8_fromOf_66 : decode cX8_fromOf 66 = .ok (.istore 4, 2) := by decide +kernel
theorem dX8_fromOf_68 : decode cX8_fromOf 68 = .ok (.iinc 5 1, 3) := by decide +kernel
theorem dX8_fromOf_71 : decode cX8_fromOf 71 = .ok (.goto (-43), 3) := by decide +kernel
theorem dX8_fromOf_74 : decode cX8_fromOf 74 = .ok (.iload_n 2, 1) := by decide +kernel
theorem dX8_fromOf_75 : decode cX8_fromOf 75 = .ok (.iload 4, 2) := by decide +kernel
theorem dX8_fromOf_77 : decode cX8_fromOf 77 = .ok (.ifCond .eq 9, 3) := by decide +kernel
theorem dX8_fromOf_80 : decode cX8_fromOf 80 = .ok (.iconst 1, 1) := by decide +kernel
theorem dX8_fromOf_81 : decode cX8_fromOf 81 = .ok (.iload_n 3, 1) := by decide +kernel
theorem dX8_fromOf_82 : decode cX8_fromOf 82 = .ok (.ishl, 1) := by decide +kernel
theorem dX8_fromOf_83 : decode cX8_fromOf 83 = .ok (.goto 4, 3) := by decide +kernel
theorem dX8_fromOf_86 : decode cX8_fromOf 86 = .ok (.iconst 0, 1) := by decide +kernel
theorem dX8_fromOf_87 : decode cX8_fromOf 87 = .ok (.ior, 1) := by decide +kernel
theorem dX8_fromOf_88 : decode cX8_fromOf 88 = .ok (.istore_n 2, 1) := by decide +kernel
theorem dX8_fromOf_89 : decode cX8_fromOf 89 = .ok (.iinc 3 1, 3) := by decide +kernel
theorem dX8_fromOf_92 : decode cX8_fromOf 92 = .ok (.goto (-88), 3) := by decide +kernel
theorem dX8_fromOf_95 : decode cX8_fromOf 95 = .ok (.iload_n 2, 1) := by decide +kernel
theorem dX8_fromOf_96 : decode cX8_fromOf 96 = .ok (.ireturn, 1) := by decide +kernel
theorem dX8_from_0 : decode cX8_from 0 = .ok (.iload_n 1, 1) := by decide +kernel
theorem dX8_from_1 : decode cX8_from 1 = .ok (.i2l, 1) := by decide +kernel
theorem dX8_from_2 : decode cX8_from 2 = .ok (.lconst 1, 1) := by decide +kernel
theorem dX8_from_3 : decode cX8_from 3 = .ok (.ldc2_w 213, 3) := by decide +kernel
theorem dX8_from_6 : decode cX8_from 6 = .ok (.invokestatic 80, 3) := by decide +kernel
theorem dX8_from_9 : decode cX8_from 9 = .ok (.ifCond .eq 11, 3) := by decide +kernel
theorem dX8_from_12 : decode cX8_from 12 = .ok (.aload_n 0, 1) := by decide +kernel
theorem dX8_from_13 : decode cX8_from 13 = .ok (.iload_n 1, 1) := by decide +kernel
theorem dX8_from_14 : decode cX8_from 14 = .ok (.invokevirtual 215, 3) := by decide +kernel
theorem dX8_from_17 : decode cX8_from 17 = .ok (.goto 5, 3) := by decide +kernel
theorem dX8_from_20 : decode cX8_from 20 = .ok (.bipush (-2), 2) := by decide +kernel
theorem dX8_from_22 : decode cX8_from 22 = .ok (.ireturn, 1) := by decide +kernel
theorem dX8_next_0 : decode cX8_next 0 = .ok (.iload_n 1, 1) := by decide +kernel
theorem dX8_next_1 : decode cX8_next 1 = .ok (.i2l, 1) := by decide +kernel
theorem dX8_next_2 : decode cX8_next 2 = .ok (.lconst 1, 1) := by decide +kernel
theorem dX8_next_3 : decode cX8_next 3 = .ok (.ldc2_w 213, 3) := by decide +kernel
theorem dX8_next_6 : decode cX8_next 6 = .ok (.invokestatic 80, 3) := by decide +kernel
theorem dX8_next_9 : decode cX8_next 9 = .ok (.ifCond .eq 15, 3) := by decide +kernel
theorem dX8_next_12 : decode cX8_next 12 = .ok (.iload_n 2, 1) := by decide +kernel
theorem dX8_next_13 : decode cX8_next 13 = .ok (.i2l, 1) := by decide +kernel
theorem dX8_next_14 : decode cX8_next 14 = .ok (.lconst 0, 1) := by decide +kernel
theorem dX8_next_15 : decode cX8_next 15 = .ok (.ldc2_w 208, 3) := by decide +kernel
theorem dX8_next_18 : decode cX8_next 18 = .ok (.invokestatic 80, 3) := by decide +kernel
theorem dX8_next_21 : decode cX8_next 21 = .ok (.ifCond .ne 6, 3) := by decide +kernel
theorem dX8_next_24 : decode cX8_next 24 = .ok (.bipush (-2), 2) := by decide +kernel
theorem dX8_next_26 : decode cX8_next 26 = .ok (.ireturn, 1) := by decide +kernel
theorem dX8_next_27 : decode cX8_next 27 = .ok (.aload_n 0, 1) := by decide +kernel
theorem dX8_next_28 : decode cX8_next 28 = .ok (.iload_n 1, 1) := by decide +kernel
theorem dX8_next_29 : decode cX8_next 29 = .ok (.invokevirtual 215, 3) := by decide +kernel
theorem dX8_next_32 : decode cX8_next 32 = .ok (.istore 4, 2) := by decide +kernel
theorem dX8_next_34 : decode cX8_next 34 = .ok (.iload 4, 2) := by decide +kernel
theorem dX8_next_36 : decode cX8_next 36 = .ok (.ifCond .eq 11, 3) := by decide +kernel
theorem dX8_next_39 : decode cX8_next 39 = .ok (.aload_n 0, 1) := by decide +kernel
theorem dX8_next_40 : decode cX8_next 40 = .ok (.getfield 210, 3) := by decide +kernel
theorem dX8_next_43 : decode cX8_next 43 = .ok (.iload_n 1, 1) := by decide +kernel
theorem dX8_next_44 : decode cX8_next 44 = .ok (.if_icmp .lt 6, 3) := by decide +kernel
theorem dX8_next_47 : decode cX8_next 47 = .ok (.bipush (-3), 2) := by decide +kernel
theorem dX8_next_49 : decode cX8_next 49 = .ok (.ireturn, 1) := by decide +kernel
theorem dX8_next_50 : decode cX8_next 50 = .ok (.iconst 0, 1) := by decide +kernel
theorem dX8_next_51 : decode cX8_next 51 = .ok (.istore 5, 2) := by decide +kernel
theorem dX8_next_53 : decode cX8_next 53 = .ok (.iconst 0, 1) := by decide +kernel
theorem dX8_next_54 : decode cX8_next 54 = .ok (.istore 6, 2) := by decide +kernel
theorem dX8_next_56 : decode cX8_next 56 = .ok (.iconst 0, 1) := by decide +kernel
theorem dX8_next_57 : decode cX8_next 57 = .ok (.istore 7, 2) := by decide +kernel
theorem dX8_next_59 : decode cX8_next 59 = .ok (.iload 7, 2) := by decide +kernel
theorem dX8_next_61 : decode cX8_next 61 = .ok (.aload_n 0, 1) := by decide +kernel
theorem dX8_next_62 : decode cX8_next 62 = .ok (.getfield 74, 3) := by decide +kernel
theorem dX8_next_65 : decode cX8_next 65 = .ok (.if_icmp .ge 57, 3) := by decide +kernel
theorem dX8_next_68 : decode cX8_next 68 = .ok (.iload 6, 2) := by decide +kernel
theorem dX8_next_70 : decode cX8_next 70 = .ok (.iload 4, 2) := by decide +kernel
theorem dX8_next_72 : decode cX8_next 72 = .ok (.iload 7, 2) := by decide +kernel
theorem dX8_next_74 : decode cX8_next 74 = .ok (.ishr, 1) := by decide +kernel
theorem dX8_next_75 : decode cX8_next 75 = .ok (.iconst 1, 1) := by decide +kernel
theorem dX8_next_76 : decode cX8_next 76 = .ok (.iand, 1) := by decide +kernel
theorem dX8_next_77 : decode cX8_next 77 = .ok (.iadd, 1) := by decide +kernel
theorem dX8_next_78 : decode cX8_next 78 = .ok (.istore 6, 2) := by decide +kernel
theorem dX8_next_80 : decode cX8_next 80 = .ok (.iload 5, 2) := by decide +kernel
theorem dX8_next_82 : decode cX8_next 82 = .ok (.iload 4, 2) := by decide +kernel
theorem dX8_next_84 : decode cX8_next 84 = .ok (.iload 7, 2) := by decide +kernel
theorem dX8_next_86 : decode cX8_next 86 = .ok (.invokestatic 142, 3) := by decide +kernel
theorem dX8_next_89 : decode cX8_next 89 = .ok (.ifCond .eq 23, 3) := by decide +kernel
theorem dX8_next_92 : decode cX8_next 92 = .ok (.aload_n 0, 1) := by decide +kernel
theorem dX8_next_93 : decode cX8_next 93 = .ok (.getfield 7, 3) := by decide +kernel
theorem dX8_next_96 : decode cX8_next 96 = .ok (.iload 7, 2) := by decide +kernel
theorem dX8_next_98 : decode cX8_next 98 = .ok (.aload_n 0, 1) := by decide +kernel
theorem dX8_next_99 : decode cX8_next 99 = .ok (.getfield 210, 3) := by decide +kernel
theorem dX8_next_102 : decode cX8_next 102 = .ok (.iadd, 1) := by decide +kernel
theorem dX8_next_103 : decode cX8_next 103 = .ok (.iaload, 1) := by decide +kernel
theorem dX8_next_104 : decode cX8_next 104 = .ok (.iload_n 2, 1) := by decide +kernel
theorem dX8_next_105 : decode cX8_next 105 = .ok (.if_icmp .ne 7, 3) := by decide +kernel
theorem dX8_next_108 : decode cX8_next 108 = .ok (.iconst 1, 1) := by decide +kernel
theorem dX8_next_109 : decode cX8_next 109 = .ok (.goto 4, 3) := by decide +kernel
theorem dX8_next_112 : decode cX8_next 112 = .ok (.iconst 0, 1) := by decide +kernel
theorem dX8_next_113 : decode cX8_next 113 = .ok (.iadd, 1) := by decide +kernel
theorem dX8_next_114 : decode cX8_next 114 = .ok (.istore 5, 2) := by decide +kernel
theorem dX8_next_116 : decode cX8_next 116 = .ok (.iinc 7 1, 3) := by decide +kernel
theorem dX8_next_119 : decode cX8_next 119 = .ok (.goto (-60), 3) := by decide +kernel
theorem dX8_next_122 : decode cX8_next 122 = .ok (.iload 5, 2) := by decide +kernel
theorem dX8_next_124 : decode cX8_next 124 = .ok (.iload 6, 2) := by decide +kernel
theorem dX8_next_126 : decode cX8_next 126 = .ok (.invokestatic 191, 3) := by decide +kernel
theorem dX8_next_129 : decode cX8_next 129 = .ok (.istore 7, 2) := by decide +kernel
theorem dX8_next_131 : decode cX8_next 131 = .ok (.iload_n 3, 1) := by decide +kernel
theorem dX8_next_132 : decode cX8_next 132 = .ok (.ifCond .eq 11, 3) := by decide +kernel
theorem dX8_next_135 : decode cX8_next 135 = .ok (.iload 5, 2) := by decide +kernel
theorem dX8_next_137 : decode cX8_next 137 = .ok (.iload 7, 2) := by decide +kernel
theorem dX8_next_139 : decode cX8_next 139 = .ok (.idiv, 1) := by decide +kernel
theorem dX8_next_140 : decode cX8_next 140 = .ok (.goto 8, 3) := by decide +kernel
theorem dX8_next_143 : decode cX8_next 143 = .ok (.iload 6, 2) := by decide +kernel
theorem dX8_next_145 : decode cX8_next 145 = .ok (.iload 7, 2) := by decide +kernel
theorem dX8_next_147 : decode cX8_next 147 = .ok (.idiv, 1) := by decide +kernel
theorem dX8_next_148 : decode cX8_next 148 = .ok (.ireturn, 1) := by decide +kernel
theorem dX8_cut_0 : decode cX8_cut 0 = .ok (.iload_n 1, 1) := by decide +kernel
theorem dX8_cut_1 : decode cX8_cut 1 = .ok (.i2l, 1) := by decide +kernel
theorem dX8_cut_2 : decode cX8_cut 2 = .ok (.lconst 1, 1) := by decide +kernel
theorem dX8_cut_3 : decode cX8_cut 3 = .ok (.ldc2_w 218, 3) := by decide +kernel
theorem dX8_cut_6 : decode cX8_cut 6 = .ok (.invokestatic 80, 3) := by decide +kernel
theorem dX8_cut_9 : decode cX8_cut 9 = .ok (.ifCond .eq 41, 3) := by decide +kernel
theorem dX8_cut_12 : decode cX8_cut 12 = .ok (.iload_n 2, 1) := by decide +kernel
theorem dX8_cut_13 : decode cX8_cut 13 = .ok (.i2l, 1) := by decide +kernel
theorem dX8_cut_14 : decode cX8_cut 14 = .ok (.lconst 1, 1) := by decide +kernel
theorem dX8_cut_15 : decode cX8_cut 15 = .ok (.ldc2_w 213, 3) := by decide +kernel
theorem dX8_cut_18 : decode cX8_cut 18 = .ok (.invokestatic 80, 3) := by decide +kernel
theorem dX8_cut_21 : decode cX8_cut 21 = .ok (.ifCond .eq 29, 3) := by decide +kernel
theorem dX8_cut_24 : decode cX8_cut 24 = .ok (.iload_n 3, 1) := by decide +kernel
theorem dX8_cut_25 : decode cX8_cut 25 = .ok (.i2l, 1) := by decide +kernel
theorem dX8_cut_26 : decode cX8_cut 26 = .ok (.bipush 10, 2) := by decide +kernel
theorem dX8_cut_28 : decode cX8_cut 28 = .ok (.iload_n 2, 1) := by decide +kernel
theorem dX8_cut_29 : decode cX8_cut 29 = .ok (.iconst 1, 1) := by decide +kernel
theorem dX8_cut_30 : decode cX8_cut 30 = .ok (.isub, 1) := by decide +kernel
theorem dX8_cut_31 : decode cX8_cut 31 = .ok (.invokestatic 159, 3) := by decide +kernel
theorem dX8_cut_34 : decode cX8_cut 34 = .ok (.i2l, 1) := by decide +kernel
theorem dX8_cut_35 : decode cX8_cut 35 = .ok (.bipush 10, 2) := by decide +kernel
theorem dX8_cut_37 : decode cX8_cut 37 = .ok (.iload_n 2, 1) := by decide +kernel
theorem dX8_cut_38 : decode cX8_cut 38 = .ok (.invokestatic 159, 3) := by decide +kernel
theorem dX8_cut_41 : decode cX8_cut 41 = .ok (.iconst 1, 1) := by decide +kernel
theorem dX8_cut_42 : decode cX8_cut 42 = .ok (.isub, 1) := by decide +kernel
theorem dX8_cut_43 : decode cX8_cut 43 = .ok (.i2l, 1) := by decide +kernel
theorem dX8_cut_44 : decode cX8_cut 44 = .ok (.invokestatic 80, 3) := by decide +kernel
theorem dX8_cut_47 : decode cX8_cut 47 = .ok (.ifCond .ne 6, 3) := by decide +kernel
theorem dX8_cut_50 : decode cX8_cut 50 = .ok (.bipush (-2), 2) := by decide +kernel
theorem dX8_cut_52 : decode cX8_cut 52 = .ok (.ireturn, 1) := by decide +kernel
theorem dX8_cut_53 : decode cX8_cut 53 = .ok (.iconst 1, 1) := by decide +kernel
theorem dX8_cut_54 : decode cX8_cut 54 = .ok (.istore 4, 2) := by decide +kernel
theorem dX8_cut_56 : decode cX8_cut 56 = .ok (.iconst 0, 1) := by decide +kernel
theorem dX8_cut_57 : decode cX8_cut 57 = .ok (.istore 5, 2) := by decide +kernel
theorem dX8_cut_59 : decode cX8_cut 59 = .ok (.iload 5, 2) := by decide +kernel
theorem dX8_cut_61 : decode cX8_cut 61 = .ok (.iload_n 2, 1) := by decide +kernel
theorem dX8_cut_62 : decode cX8_cut 62 = .ok (.if_icmp .ge 49, 3) := by decide +kernel
theorem dX8_cut_65 : decode cX8_cut 65 = .ok (.iload_n 3, 1) := by decide +kernel
theorem dX8_cut_66 : decode cX8_cut 66 = .ok (.bipush 10, 2) := by decide +kernel
theorem dX8_cut_68 : decode cX8_cut 68 = .ok (.iload 5, 2) := by decide +kernel
theorem dX8_cut_70 : decode cX8_cut 70 = .ok (.invokestatic 159, 3) := by decide +kernel
theorem dX8_cut_73 : decode cX8_cut 73 = .ok (.idiv, 1) := by decide +kernel
theorem dX8_cut_74 : decode cX8_cut 74 = .ok (.bipush 10, 2) := by decide +kernel
theorem dX8_cut_76 : decode cX8_cut 76 = .ok (.irem, 1) := by decide +kernel
theorem dX8_cut_77 : decode cX8_cut 77 = .ok (.istore 6, 2) := by decide +kernel
theorem dX8_cut_79 : decode cX8_cut 79 = .ok (.iload 6, 2) := by decide +kernel
theorem dX8_cut_81 : decode cX8_cut 81 = .ok (.ifCond .ne 6, 3) := by decide +kernel
theorem dX8_cut_84 : decode cX8_cut 84 = .ok (.bipush (-2), 2) := by decide +kernel
theorem dX8_cut_86 : decode cX8_cut 86 = .ok (.ireturn, 1) := by decide +kernel
theorem dX8_cut_87 : decode cX8_cut 87 = .ok (.iload 4, 2) := by decide +kernel
theorem dX8_cut_89 : decode cX8_cut 89 = .ok (.ifCond .eq 13, 3) := by decide +kernel
theorem dX8_cut_92 : decode cX8_cut 92 = .ok (.iload 6, 2) := by decide +kernel
theorem dX8_cut_94 : decode cX8_cut 94 = .ok (.iload_n 1, 1) := by decide +kernel
theorem dX8_cut_95 : decode cX8_cut 95 = .ok (.if_icmp .gt 7, 3) := by decide +kernel
theorem dX8_cut_98 : decode cX8_cut 98 = .ok (.iconst 1, 1) := by decide +kernel
theorem dX8_cut_99 : decode cX8_cut 99 = .ok (.goto 4, 3) := by decide +kernel
theorem dX8_cut_102 : decode cX8_cut 102 = .ok (.iconst 0, 1) := by decide +kernel
theorem dX8_cut_103 : decode cX8_cut 103 = .ok (.istore 4, 2) := by decide +kernel
theorem dX8_cut_105 : decode cX8_cut 105 = .ok (.iinc 5 1, 3) := by decide +kernel
theorem dX8_cut_108 : decode cX8_cut 108 = .ok (.goto (-49), 3) := by decide +kernel
theorem dX8_cut_111 : decode cX8_cut 111 = .ok (.iload 4, 2) := by decide +kernel
theorem dX8_cut_113 : decode cX8_cut 113 = .ok (.ifCond .ne 6, 3) := by decide +kernel
theorem dX8_cut_116 : decode cX8_cut 116 = .ok (.bipush (-9), 2) := by decide +kernel
theorem dX8_cut_118 : decode cX8_cut 118 = .ok (.ireturn, 1) := by decide +kernel
theorem dX8_cut_119 : decode cX8_cut 119 = .ok (.aload_n 0, 1) := by decide +kernel
theorem dX8_cut_120 : decode cX8_cut 120 = .ok (.getfield 64, 3) := by decide +kernel
theorem dX8_cut_123 : decode cX8_cut 123 = .ok (.iconst 0, 1) := by decide +kernel
theorem dX8_cut_124 : decode cX8_cut 124 = .ok (.iconst 0, 1) := by decide +kernel
theorem dX8_cut_125 : decode cX8_cut 125 = .ok (.iastore, 1) := by decide +kernel
theorem dX8_cut_126 : decode cX8_cut 126 = .ok (.iconst 1, 1) := by decide +kernel
theorem dX8_cut_127 : decode cX8_cut 127 = .ok (.istore 5, 2) := by decide +kernel
theorem dX8_cut_129 : decode cX8_cut 129 = .ok (.iload 5, 2) := by decide +kernel
theorem dX8_cut_131 : decode cX8_cut 131 = .ok (.iconst 1, 1) := by decide +kernel
theorem dX8_cut_132 : decode cX8_cut 132 = .ok (.iload_n 2, 1) := by decide +kernel
theorem dX8_cut_133 : decode cX8_cut 133 = .ok (.ishl, 1) := by decide +kernel
theorem dX8_cut_134 : decode cX8_cut 134 = .ok (.if_icmp .ge 110, 3) := by decide +kernel
theorem dX8_cut_137 : decode cX8_cut 137 = .ok (.aload_n 0, 1) := by decide +kernel
theorem dX8_cut_138 : decode cX8_cut 138 = .ok (.getfield 64, 3) := by decide +kernel
theorem dX8_cut_141 : decode cX8_cut 141 = .ok (.iload 5, 2) := by decide +kernel
theorem dX8_cut_143 : decode cX8_cut 143 = .ok (.bipush 99, 2) := by decide +kernel
theorem dX8_cut_145 : decode cX8_cut 145 = .ok (.iastore, 1) := by decide +kernel
theorem dX8_cut_146 : decode cX8_cut 146 = .ok (.iconst 1, 1) := by decide +kernel
theorem dX8_cut_147 : decode cX8_cut 147 = .ok (.istore 6, 2) := by decide +kernel
theorem dX8_cut_149 : decode cX8_cut 149 = .ok (.iload 6, 2) := by decide +kernel
theorem dX8_cut_151 : decode cX8_cut 151 = .ok (.iload 5, 2) := by decide +kernel
theorem dX8_cut_153 : decode cX8_cut 153 = .ok (.if_icmp .gt 85, 3) := by decide +kernel
theorem dX8_cut_156 : decode cX8_cut 156 = .ok (.iload 6, 2) := by decide +kernel
theorem dX8_cut_158 : decode cX8_cut 158 = .ok (.iload 5, 2) := by decide +kernel
theorem dX8_cut_160 : decode cX8_cut 160 = .ok (.iconst (-1), 1) := by decide +kernel
theorem dX8_cut_161 : decode cX8_cut 161 = .ok (.ixor, 1) := by decide +kernel
theorem dX8_cut_162 : decode cX8_cut 162 = .ok (.iand, 1) := by decide +kernel
theorem dX8_cut_163 : decode cX8_cut 163 = .ok (.ifCond .ne 69, 3) := by decide +kernel
theorem dX8_cut_166 : decode cX8_cut 166 = .ok (.iload 6, 2) := by decide +kernel
theorem dX8_cut_168 : decode cX8_cut 168 = .ok (.iload_n 2, 1) := by decide +kernel
theorem dX8_cut_169 : decode cX8_cut 169 = .ok (.iload_n 3, 1) := by decide +kernel
theorem dX8_cut_170 : decode cX8_cut 170 = .ok (.invokestatic 220, 3) := by decide +kernel
theorem dX8_cut_173 : decode cX8_cut 173 = .ok (.iload_n 1, 1) := by decide +kernel
theorem dX8_cut_174 : decode cX8_cut 174 = .ok (.if_icmp .gt 58, 3) := by decide +kernel
theorem dX8_cut_177 : decode cX8_cut 177 = .ok (.aload_n 0, 1) := by decide +kernel
theorem dX8_cut_178 : decode cX8_cut 178 = .ok (.getfield 64, 3) := by decide +kernel
theorem dX8_cut_181 : decode cX8_cut 181 = .ok (.iload 5, 2) := by decide +kernel
theorem dX8_cut_183 : decode cX8_cut 183 = .ok (.aload_n 0, 1) := by decide +kernel
theorem dX8_cut_184 : decode cX8_cut 184 = .ok (.getfield 64, 3) := by decide +kernel
theorem dX8_cut_187 : decode cX8_cut 187 = .ok (.iload 5, 2) := by decide +kernel
theorem dX8_cut_189 : decode cX8_cut 189 = .ok (.iload 6, 2) := by decide +kernel
theorem dX8_cut_191 : decode cX8_cut 191 = .ok (.iconst (-1), 1) := by decide +kernel
theorem dX8_cut_192 : decode cX8_cut 192 = .ok (.ixor, 1) := by decide +kernel
theorem dX8_cut_193 : decode cX8_cut 193 = .ok (.iand, 1) := by decide +kernel
theorem dX8_cut_194 : decode cX8_cut 194 = .ok (.iaload, 1) := by decide +kernel
theorem dX8_cut_195 : decode cX8_cut 195 = .ok (.iconst 1, 1) := by decide +kernel
theorem dX8_cut_196 : decode cX8_cut 196 = .ok (.iadd, 1) := by decide +kernel
theorem dX8_cut_197 : decode cX8_cut 197 = .ok (.aload_n 0, 1) := by decide +kernel
theorem dX8_cut_198 : decode cX8_cut 198 = .ok (.getfield 64, 3) := by decide +kernel
theorem dX8_cut_201 : decode cX8_cut 201 = .ok (.iload 5, 2) := by decide +kernel
theorem dX8_cut_203 : decode cX8_cut 203 = .ok (.iaload, 1) := by decide +kernel
theorem dX8_cut_204 : decode cX8_cut 204 = .ok (.if_icmp .ge 20, 3) := by decide +kernel
theorem dX8_cut_207 : decode cX8_cut 207 = .ok (.aload_n 0, 1) := by decide +kernel
theorem dX8_cut_208 : decode cX8_cut 208 = .ok (.getfield 64, 3) := by decide +kernel
theorem dX8_cut_211 : decode cX8_cut 211 = .ok (.iload 5, 2) := by decide +kernel
theorem dX8_cut_213 : decode cX8_cut 213 = .ok (.iload 6, 2) := by decide +kernel
theorem dX8_cut_215 : decode cX8_cut 215 = .ok (.iconst (-1), 1) := by decide +kernel
theorem dX8_cut_216 : decode cX8_cut 216 = .ok (.ixor, 1) := by decide +kernel
theorem dX8_cut_217 : decode cX8_cut 217 = .ok (.iand, 1) := by decide +kernel
theorem dX8_cut_218 : decode cX8_cut 218 = .ok (.iaload, 1) := by decide +kernel
theorem dX8_cut_219 : decode cX8_cut 219 = .ok (.iconst 1, 1) := by decide +kernel
theorem dX8_cut_220 : decode cX8_cut 220 = .ok (.iadd, 1) := by decide +kernel
theorem dX8_cut_221 : decode cX8_cut 221 = .ok (.goto 10, 3) := by decide +kernel
theorem dX8_cut_224 : decode cX8_cut 224 = .ok (.aload_n 0, 1) := by decide +kernel
theorem dX8_cut_225 : decode cX8_cut 225 = .ok (.getfield 64, 3) := by decide +kernel
theorem dX8_cut_228 : decode cX8_cut 228 = .ok (.iload 5, 2) := by decide +kernel
theorem dX8_cut_230 : decode cX8_cut 230 = .ok (.iaload, 1) := by decide +kernel
theorem dX8_cut_231 : decode cX8_cut 231 = .ok (.iastore, 1) := by decide +kernel
theorem dX8_cut_232 : decode cX8_cut 232 = .ok (.iinc 6 1, 3) := by decide +kernel
theorem dX8_cut_235 : decode cX8_cut 235 = .ok (.goto (-86), 3) := by decide +kernel
theorem dX8_cut_238 : decode cX8_cut 238 = .ok (.iinc 5 1, 3) := by decide +kernel
theorem dX8_cut_241 : decode cX8_cut 241 = .ok (.goto (-112), 3) := by decide +kernel
theorem dX8_cut_244 : decode cX8_cut 244 = .ok (.aload_n 0, 1) := by decide +kernel
theorem dX8_cut_245 : decode cX8_cut 245 = .ok (.getfield 64, 3) := by decide +kernel
theorem dX8_cut_248 : decode cX8_cut 248 = .ok (.iconst 1, 1) := by decide +kernel
theorem dX8_cut_249 : decode cX8_cut 249 = .ok (.iload_n 2, 1) := by decide +kernel
theorem dX8_cut_250 : decode cX8_cut 250 = .ok (.ishl, 1) := by decide +kernel
theorem dX8_cut_251 : decode cX8_cut 251 = .ok (.iconst 1, 1) := by decide +kernel
theorem dX8_cut_252 : decode cX8_cut 252 = .ok (.isub, 1) := by decide +kernel
theorem dX8_cut_253 : decode cX8_cut 253 = .ok (.iaload, 1) := by decide +kernel
theorem dX8_cut_254 : decode cX8_cut 254 = .ok (.ireturn, 1) := by decide +kernel
theorem dX8_sum_0 : decode cX8_sum 0 = .ok (.iconst 0, 1) := by decide +kernel
theorem dX8_sum_1 : decode cX8_sum 1 = .ok (.istore_n 3, 1) := by decide +kernel
theorem dX8_sum_2 : decode cX8_sum 2 = .ok (.iconst 0, 1) := by decide +kernel
theorem dX8_sum_3 : decode cX8_sum 3 = .ok (.istore 4, 2) := by decide +kernel
theorem dX8_sum_5 : decode cX8_sum 5 = .ok (.iload 4, 2) := by decide +kernel
theorem dX8_sum_7 : decode cX8_sum 7 = .ok (.iload_n 1, 1) := by decide +kernel
theorem dX8_sum_8 : decode cX8_sum 8 = .ok (.if_icmp .ge 37, 3) := by decide +kernel
theorem dX8_sum_11 : decode cX8_sum 11 = .ok (.iload_n 3, 1) := by decide +kernel
theorem dX8_sum_12 : decode cX8_sum 12 = .ok (.iload_n 0, 1) := by decide +kernel
theorem dX8_sum_13 : decode cX8_sum 13 = .ok (.iload 4, 2) := by decide +kernel
theorem dX8_sum_15 : decode cX8_sum 15 = .ok (.invokestatic 142, 3) := by decide +kernel
theorem dX8_sum_18 : decode cX8_sum 18 = .ok (.ifCond .eq 18, 3) := by decide +kernel
theorem dX8_sum_21 : decode cX8_sum 21 = .ok (.iload_n 2, 1) := by decide +kernel
theorem dX8_sum_22 : decode cX8_sum 22 = .ok (.bipush 10, 2) := by decide +kernel
theorem dX8_sum_24 : decode cX8_sum 24 = .ok (.iload 4, 2) := by decide +kernel
theorem dX8_sum_26 : decode cX8_sum 26 = .ok (.invokestatic 159, 3) := by decide +kernel
theorem dX8_sum_29 : decode cX8_sum 29 = .ok (.idiv, 1) := by decide +kernel
theorem dX8_sum_30 : decode cX8_sum 30 = .ok (.bipush 10, 2) := by decide +kernel
theorem dX8_sum_32 : decode cX8_sum 32 = .ok (.irem, 1) := by decide +kernel
theorem dX8_sum_33 : decode cX8_sum 33 = .ok (.goto 4, 3) := by decide +kernel
theorem dX8_sum_36 : decode cX8_sum 36 = .ok (.iconst 0, 1) := by decide +kernel
theorem dX8_sum_37 : decode cX8_sum 37 = .ok (.iadd, 1) := by decide +kernel
theorem dX8_sum_38 : decode cX8_sum 38 = .ok (.istore_n 3, 1) := by decide +kernel
theorem dX8_sum_39 : decode cX8_sum 39 = .ok (.iinc 4 1, 3) := by decide +kernel
theorem dX8_sum_42 : decode cX8_sum 42 = .ok (.goto (-37), 3) := by decide +kernel
theorem dX8_sum_45 : decode cX8_sum 45 = .ok (.iload_n 3, 1) := by decide +kernel
theorem dX8_sum_46 : decode cX8_sum 46 = .ok (.ireturn, 1) := by decide +kernel
theorem dX8_draught_0 : decode cX8_draught 0 = .ok (.aload_n 0, 1) := by decide +kernel
theorem dX8_draught_1 : decode cX8_draught 1 = .ok (.iload_n 1, 1) := by decide +kernel
theorem dX8_draught_2 : decode cX8_draught 2 = .ok (.invokevirtual 131, 3) := by decide +kernel
theorem dX8_draught_5 : decode cX8_draught 5 = .ok (.ifCond .ne 5, 3) := by decide +kernel
theorem dX8_draught_8 : decode cX8_draught 8 = .ok (.iconst (-1), 1) := by decide +kernel
theorem dX8_draught_9 : decode cX8_draught 9 = .ok (.ireturn, 1) := by decide +kernel
theorem dX8_draught_10 : decode cX8_draught 10 = .ok (.iload_n 2, 1) := by decide +kernel
theorem dX8_draught_11 : decode cX8_draught 11 = .ok (.i2l, 1) := by decide +kernel
theorem dX8_draught_12 : decode cX8_draught 12 = .ok (.lconst 0, 1) := by decide +kernel
theorem dX8_draught_13 : decode cX8_draught 13 = .ok (.ldc2_w 223, 3) := by decide +kernel
theorem dX8_draught_16 : decode cX8_draught 16 = .ok (.invokestatic 80, 3) := by decide +kernel
theorem dX8_draught_19 : decode cX8_draught 19 = .ok (.ifCond .eq 15, 3) := by decide +kernel
theorem dX8_draught_22 : decode cX8_draught 22 = .ok (.iload_n 3, 1) := by decide +kernel
theorem dX8_draught_23 : decode cX8_draught 23 = .ok (.i2l, 1) := by decide +kernel
theorem dX8_draught_24 : decode cX8_draught 24 = .ok (.lconst 0, 1) := by decide +kernel
theorem dX8_draught_25 : decode cX8_draught 25 = .ok (.ldc2_w 202, 3) := by decide +kernel
theorem dX8_draught_28 : decode cX8_draught 28 = .ok (.invokestatic 80, 3) := by decide +kernel
theorem dX8_draught_31 : decode cX8_draught 31 = .ok (.ifCond .ne 6, 3) := by decide +kernel
theorem dX8_draught_34 : decode cX8_draught 34 = .ok (.bipush (-2), 2) := by decide +kernel
theorem dX8_draught_36 : decode cX8_draught 36 = .ok (.ireturn, 1) := by decide +kernel
theorem dX8_draught_37 : decode cX8_draught 37 = .ok (.aload_n 0, 1) := by decide +kernel
theorem dX8_draught_38 : decode cX8_draught 38 = .ok (.getfield 34, 3) := by decide +kernel
theorem dX8_draught_41 : decode cX8_draught 41 = .ok (.bipush 8, 2) := by decide +kernel
theorem dX8_draught_43 : decode cX8_draught 43 = .ok (.iload_n 1, 1) := by decide +kernel
theorem dX8_draught_44 : decode cX8_draught 44 = .ok (.iadd, 1) := by decide +kernel
theorem dX8_draught_45 : decode cX8_draught 45 = .ok (.iaload, 1) := by decide +kernel
theorem dX8_draught_46 : decode cX8_draught 46 = .ok (.ifCond .eq 6, 3) := by decide +kernel
theorem dX8_draught_49 : decode cX8_draught 49 = .ok (.bipush (-3), 2) := by decide +kernel
theorem dX8_draught_51 : decode cX8_draught 51 = .ok (.ireturn, 1) := by decide +kernel
theorem dX8_draught_52 : decode cX8_draught 52 = .ok (.aload_n 0, 1) := by decide +kernel
theorem dX8_draught_53 : decode cX8_draught 53 = .ok (.getfield 34, 3) := by decide +kernel
theorem dX8_draught_56 : decode cX8_draught 56 = .ok (.iconst 4, 1) := by decide +kernel
theorem dX8_draught_57 : decode cX8_draught 57 = .ok (.iload_n 1, 1) := by decide +kernel
theorem dX8_draught_58 : decode cX8_draught 58 = .ok (.iadd, 1) := by decide +kernel
theorem dX8_draught_59 : decode cX8_draught 59 = .ok (.iaload, 1) := by decide +kernel
theorem dX8_draught_60 : decode cX8_draught 60 = .ok (.istore 5, 2) := by decide +kernel
theorem dX8_draught_62 : decode cX8_draught 62 = .ok (.iconst 0, 1) := by decide +kernel
theorem dX8_draught_63 : decode cX8_draught 63 = .ok (.istore 6, 2) := by decide +kernel
theorem dX8_draught_65 : decode cX8_draught 65 = .ok (.iconst 0, 1) := by decide +kernel
theorem dX8_draught_66 : decode cX8_draught 66 = .ok (.istore 7, 2) := by decide +kernel
theorem dX8_draught_68 : decode cX8_draught 68 = .ok (.iload 7, 2) := by decide +kernel
theorem dX8_draught_70 : decode cX8_draught 70 = .ok (.iload 5, 2) := by decide +kernel
theorem dX8_draught_72 : decode cX8_draught 72 = .ok (.if_icmp .ge 60, 3) := by decide +kernel
theorem dX8_draught_75 : decode cX8_draught 75 = .ok (.iload 6, 2) := by decide +kernel
theorem dX8_draught_77 : decode cX8_draught 77 = .ok (.aload_n 0, 1) := by decide +kernel
theorem dX8_draught_78 : decode cX8_draught 78 = .ok (.getfield 7, 3) := by decide +kernel
theorem dX8_draught_81 : decode cX8_draught 81 = .ok (.aload_n 0, 1) := by decide +kernel
theorem dX8_draught_82 : decode cX8_draught 82 = .ok (.getfield 34, 3) := by decide +kernel
theorem dX8_draught_85 : decode cX8_draught 85 = .ok (.iload_n 1, 1) := by decide +kernel
theorem dX8_draught_86 : decode cX8_draught 86 = .ok (.iaload, 1) := by decide +kernel
theorem dX8_draught_87 : decode cX8_draught 87 = .ok (.iload 7, 2) := by decide +kernel
theorem dX8_draught_89 : decode cX8_draught 89 = .ok (.iadd, 1) := by decide +kernel
theorem dX8_draught_90 : decode cX8_draught 90 = .ok (.iaload, 1) := by decide +kernel
theorem dX8_draught_91 : decode cX8_draught 91 = .ok (.iload_n 3, 1) := by decide +kernel
theorem dX8_draught_92 : decode cX8_draught 92 = .ok (.if_icmp .ne 30, 3) := by decide +kernel
theorem dX8_draught_95 : decode cX8_draught 95 = .ok (.bipush 10, 2) := by decide +kernel
theorem dX8_draught_97 : decode cX8_draught 97 = .ok (.iload_n 2, 1) := by decide +kernel
theorem dX8_draught_98 : decode cX8_draught 98 = .ok (.isub, 1) := by decide +kernel
theorem dX8_draught_99 : decode cX8_draught 99 = .ok (.iload 7, 2) := by decide +kernel
theorem dX8_draught_101 : decode cX8_draught 101 = .ok (.iconst 1, 1) := by decide +kernel
theorem dX8_draught_102 : decode cX8_draught 102 = .ok (.iadd, 1) := by decide +kernel
theorem dX8_draught_103 : decode cX8_draught 103 = .ok (.invokestatic 159, 3) := by decide +kernel
theorem dX8_draught_106 : decode cX8_draught 106 = .ok (.bipush 10, 2) := by decide +kernel
theorem dX8_draught_108 : decode cX8_draught 108 = .ok (.iload 5, 2) := by decide +kernel
theorem dX8_draught_110 : decode cX8_draught 110 = .ok (.iconst 1, 1) := by decide +kernel
theorem dX8_draught_111 : decode cX8_draught 111 = .ok (.isub, 1) := by decide +kernel
theorem dX8_draught_112 : decode cX8_draught 112 = .ok (.iload 7, 2) := by decide +kernel
theorem dX8_draught_114 : decode cX8_draught 114 = .ok (.isub, 1) := by decide +kernel
theorem dX8_draught_115 : decode cX8_draught 115 = .ok (.invokestatic 159, 3) := by decide +kernel
theorem dX8_draught_118 : decode cX8_draught 118 = .ok (.imul, 1) := by decide +kernel
theorem dX8_draught_119 : decode cX8_draught 119 = .ok (.goto 4, 3) := by decide +kernel
theorem dX8_draught_122 : decode cX8_draught 122 = .ok (.iconst 0, 1) := by decide +kernel
theorem dX8_draught_123 : decode cX8_draught 123 = .ok (.iadd, 1) := by decide +kernel
theorem dX8_draught_124 : decode cX8_draught 124 = .ok (.istore 6, 2) := by decide +kernel
theorem dX8_draught_126 : decode cX8_draught 126 = .ok (.iinc 7 1, 3) := by decide +kernel
theorem dX8_draught_129 : decode cX8_draught 129 = .ok (.goto (-61), 3) := by decide +kernel
theorem dX8_draught_132 : decode cX8_draught 132 = .ok (.iload 6, 2) := by decide +kernel
theorem dX8_draught_134 : decode cX8_draught 134 = .ok (.bipush 10, 2) := by decide +kernel
theorem dX8_draught_136 : decode cX8_draught 136 = .ok (.iload 5, 2) := by decide +kernel
theorem dX8_draught_138 : decode cX8_draught 138 = .ok (.invokestatic 159, 3) := by decide +kernel
theorem dX8_draught_141 : decode cX8_draught 141 = .ok (.invokestatic 191, 3) := by decide +kernel
theorem dX8_draught_144 : decode cX8_draught 144 = .ok (.istore 7, 2) := by decide +kernel
theorem dX8_draught_146 : decode cX8_draught 146 = .ok (.iload 4, 2) := by decide +kernel
theorem dX8_draught_148 : decode cX8_draught 148 = .ok (.ifCond .eq 11, 3) := by decide +kernel
theorem dX8_draught_151 : decode cX8_draught 151 = .ok (.iload 6, 2) := by decide +kernel
theorem dX8_draught_153 : decode cX8_draught 153 = .ok (.iload 7, 2) := by decide +kernel
theorem dX8_draught_155 : decode cX8_draught 155 = .ok (.idiv, 1) := by decide +kernel
theorem dX8_draught_156 : decode cX8_draught 156 = .ok (.goto 13, 3) := by decide +kernel
theorem dX8_draught_159 : decode cX8_draught 159 = .ok (.bipush 10, 2) := by decide +kernel
theorem dX8_draught_161 : decode cX8_draught 161 = .ok (.iload 5, 2) := by decide +kernel
theorem dX8_draught_163 : decode cX8_draught 163 = .ok (.invokestatic 159, 3) := by decide +kernel
theorem dX8_draught_166 : decode cX8_draught 166 = .ok (.iload 7, 2) := by decide +kernel
theorem dX8_draught_168 : decode cX8_draught 168 = .ok (.idiv, 1) := by decide +kernel
theorem dX8_draught_169 : decode cX8_draught 169 = .ok (.ireturn, 1) := by decide +kernel
theorem dX8_seed_0 : decode cX8_seed 0 = .ok (.aload_n 0, 1) := by decide +kernel
theorem dX8_seed_1 : decode cX8_seed 1 = .ok (.getfield 225, 3) := by decide +kernel
theorem dX8_seed_4 : decode cX8_seed 4 = .ok (.lstore_n 3, 1) := by decide +kernel
theorem dX8_seed_5 : decode cX8_seed 5 = .ok (.aload_n 0, 1) := by decide +kernel
theorem dX8_seed_6 : decode cX8_seed 6 = .ok (.lload_n 1, 1) := by decide +kernel
theorem dX8_seed_7 : decode cX8_seed 7 = .ok (.putfield 225, 3) := by decide +kernel
theorem dX8_seed_10 : decode cX8_seed 10 = .ok (.lload_n 3, 1) := by decide +kernel
theorem dX8_seed_11 : decode cX8_seed 11 = .ok (.lreturn, 1) := by decide +kernel
theorem dX8_night_0 : decode cX8_night 0 = .ok (.iload_n 1, 1) := by decide +kernel
theorem dX8_night_1 : decode cX8_night 1 = .ok (.i2l, 1) := by decide +kernel
theorem dX8_night_2 : decode cX8_night 2 = .ok (.lconst 1, 1) := by decide +kernel
theorem dX8_night_3 : decode cX8_night 3 = .ok (.ldc2_w 229, 3) := by decide +kernel
theorem dX8_night_6 : decode cX8_night 6 = .ok (.invokestatic 80, 3) := by decide +kernel
theorem dX8_night_9 : decode cX8_night 9 = .ok (.ifCond .ne 6, 3) := by decide +kernel
theorem dX8_night_12 : decode cX8_night 12 = .ok (.bipush (-2), 2) := by decide +kernel
theorem dX8_night_14 : decode cX8_night 14 = .ok (.ireturn, 1) := by decide +kernel
theorem dX8_night_15 : decode cX8_night 15 = .ok (.aload_n 0, 1) := by decide +kernel
theorem dX8_night_16 : decode cX8_night 16 = .ok (.iconst 0, 1) := by decide +kernel
theorem dX8_night_17 : decode cX8_night 17 = .ok (.iconst 1, 1) := by decide +kernel
theorem dX8_night_18 : decode cX8_night 18 = .ok (.invokevirtual 166, 3) := by decide +kernel
theorem dX8_night_21 : decode cX8_night 21 = .ok (.iconst 0, 1) := by decide +kernel
theorem dX8_night_22 : decode cX8_night 22 = .ok (.istore_n 2, 1) := by decide +kernel
theorem dX8_night_23 : decode cX8_night 23 = .ok (.iload_n 2, 1) := by decide +kernel
theorem dX8_night_24 : decode cX8_night 24 = .ok (.iload_n 1, 1) := by decide +kernel
theorem dX8_night_25 : decode cX8_night 25 = .ok (.if_icmp .ge 86, 3) := by decide +kernel
theorem dX8_night_28 : decode cX8_night 28 = .ok (.aload_n 0, 1) := by decide +kernel
theorem dX8_night_29 : decode cX8_night 29 = .ok (.getfield 34, 3) := by decide +kernel
theorem dX8_night_32 : decode cX8_night 32 = .ok (.bipush 35, 2) := by decide +kernel
theorem dX8_night_34 : decode cX8_night 34 = .ok (.iaload, 1) := by decide +kernel
theorem dX8_night_35 : decode cX8_night 35 = .ok (.bipush 20, 2) := by decide +kernel
theorem dX8_night_37 : decode cX8_night 37 = .ok (.if_icmp .ge 74, 3) := by decide +kernel
theorem dX8_night_40 : decode cX8_night 40 = .ok (.aload_n 0, 1) := by decide +kernel
theorem dX8_night_41 : decode cX8_night 41 = .ok (.aload_n 0, 1) := by decide +kernel
theorem dX8_night_42 : decode cX8_night 42 = .ok (.getfield 225, 3) := by decide +kernel
theorem dX8_night_45 : decode cX8_night 45 = .ok (.ldc2_w 231, 3) := by decide +kernel
theorem dX8_night_48 : decode cX8_night 48 = .ok (.lmul, 1) := by decide +kernel
theorem dX8_night_49 : decode cX8_night 49 = .ok (.ldc2_w 233, 3) := by decide +kernel
theorem dX8_night_52 : decode cX8_night 52 = .ok (.ladd, 1) := by decide +kernel
theorem dX8_night_53 : decode cX8_night 53 = .ok (.putfield 225, 3) := by decide +kernel
theorem dX8_night_56 : decode cX8_night 56 = .ok (.aload_n 0, 1) := by decide +kernel
theorem dX8_night_57 : decode cX8_night 57 = .ok (.getfield 225, 3) := by decide +kernel
theorem dX8_night_60 : decode cX8_night 60 = .ok (.bipush 33, 2) := by decide +kernel
theorem dX8_night_62 : decode cX8_night 62 = .ok (.lushr, 1) := by decide +kernel
theorem dX8_night_63 : decode cX8_night 63 = .ok (.ldc2_w 208, 3) := by decide +kernel
theorem dX8_night_66 : decode cX8_night 66 = .ok (.lrem, 1) := by decide +kernel
theorem dX8_night_67 : decode cX8_night 67 = .ok (.l2i, 1) := by decide +kernel
theorem dX8_night_68 : decode cX8_night 68 = .ok (.istore_n 3, 1) := by decide +kernel
theorem dX8_night_69 : decode cX8_night 69 = .ok (.aload_n 0, 1) := by decide +kernel
theorem dX8_night_70 : decode cX8_night 70 = .ok (.iload_n 3, 1) := by decide +kernel
theorem dX8_night_71 : decode cX8_night 71 = .ok (.invokevirtual 131, 3) := by decide +kernel
theorem dX8_night_74 : decode cX8_night 74 = .ok (.ifCond .eq 25, 3) := by decide +kernel
theorem dX8_night_77 : decode cX8_night 77 = .ok (.aload_n 0, 1) := by decide +kernel
theorem dX8_night_78 : decode cX8_night 78 = .ok (.getfield 34, 3) := by decide +kernel
theorem dX8_night_81 : decode cX8_night 81 = .ok (.bipush 26, 2) := by decide +kernel
theorem dX8_night_83 : decode cX8_night 83 = .ok (.iload_n 3, 1) := by decide +kernel
theorem dX8_night_84 : decode cX8_night 84 = .ok (.iadd, 1) := by decide +kernel
theorem dX8_night_85 : decode cX8_night 85 = .ok (.iaload, 1) := by decide +kernel
theorem dX8_night_86 : decode cX8_night 86 = .ok (.ifCond .ne 13, 3) := by decide +kernel
theorem dX8_night_89 : decode cX8_night 89 = .ok (.aload_n 0, 1) := by decide +kernel
theorem dX8_night_90 : decode cX8_night 90 = .ok (.getfield 34, 3) := by decide +kernel
theorem dX8_night_93 : decode cX8_night 93 = .ok (.bipush 26, 2) := by decide +kernel
theorem dX8_night_95 : decode cX8_night 95 = .ok (.iload_n 3, 1) := by decide +kernel
theorem dX8_night_96 : decode cX8_night 96 = .ok (.iadd, 1) := by decide +kernel
theorem dX8_night_97 : decode cX8_night 97 = .ok (.iconst 1, 1) := by decide +kernel
theorem dX8_night_98 : decode cX8_night 98 = .ok (.iastore, 1) := by decide +kernel
theorem dX8_night_99 : decode cX8_night 99 = .ok (.aload_n 0, 1) := by decide +kernel
theorem dX8_night_100 : decode cX8_night 100 = .ok (.iconst 1, 1) := by decide +kernel
theorem dX8_night_101 : decode cX8_night 101 = .ok (.invokevirtual 156, 3) := by decide +kernel
theorem dX8_night_104 : decode cX8_night 104 = .ok (.pop, 1) := by decide +kernel
theorem dX8_night_105 : decode cX8_night 105 = .ok (.iinc 2 1, 3) := by decide +kernel
theorem dX8_night_108 : decode cX8_night 108 = .ok (.goto (-85), 3) := by decide +kernel
theorem dX8_night_111 : decode cX8_night 111 = .ok (.iconst 0, 1) := by decide +kernel
theorem dX8_night_112 : decode cX8_night 112 = .ok (.istore_n 2, 1) := by decide +kernel
theorem dX8_night_113 : decode cX8_night 113 = .ok (.iconst 0, 1) := by decide +kernel
theorem dX8_night_114 : decode cX8_night 114 = .ok (.istore_n 3, 1) := by decide +kernel
theorem dX8_night_115 : decode cX8_night 115 = .ok (.iload_n 3, 1) := by decide +kernel
theorem dX8_night_116 : decode cX8_night 116 = .ok (.aload_n 0, 1) := by decide +kernel
theorem dX8_night_117 : decode cX8_night 117 = .ok (.getfield 125, 3) := by decide +kernel
theorem dX8_night_120 : decode cX8_night 120 = .ok (.if_icmp .ge 21, 3) := by decide +kernel
theorem dX8_night_123 : decode cX8_night 123 = .ok (.iload_n 2, 1) := by decide +kernel
theorem dX8_night_124 : decode cX8_night 124 = .ok (.aload_n 0, 1) := by decide +kernel
theorem dX8_night_125 : decode cX8_night 125 = .ok (.getfield 34, 3) := by decide +kernel
theorem dX8_night_128 : decode cX8_night 128 = .ok (.bipush 30, 2) := by decide +kernel
theorem dX8_night_130 : decode cX8_night 130 = .ok (.iload_n 3, 1) := by decide +kernel
theorem dX8_night_131 : decode cX8_night 131 = .ok (.iadd, 1) := by decide +kernel
theorem dX8_night_132 : decode cX8_night 132 = .ok (.iaload, 1) := by decide +kernel
theorem dX8_night_133 : decode cX8_night 133 = .ok (.iadd, 1) := by decide +kernel
theorem dX8_night_134 : decode cX8_night 134 = .ok (.istore_n 2, 1) := by decide +kernel
theorem dX8_night_135 : decode cX8_night 135 = .ok (.iinc 3 1, 3) := by decide +kernel
theorem dX8_night_138 : decode cX8_night 138 = .ok (.goto (-23), 3) := by decide +kernel
theorem dX8_night_141 : decode cX8_night 141 = .ok (.iload_n 2, 1) := by decide +kernel
theorem dX8_night_142 : decode cX8_night 142 = .ok (.ireturn, 1) := by decide +kernel
theorem dX8_keep_0 : decode cX8_keep 0 = .ok (.iload_n 1, 1) := by decide +kernel
theorem dX8_keep_1 : decode cX8_keep 1 = .ok (.i2l, 1) := by decide +kernel
theorem dX8_keep_2 : decode cX8_keep 2 = .ok (.lconst 0, 1) := by decide +kernel
theorem dX8_keep_3 : decode cX8_keep 3 = .ok (.lconst 1, 1) := by decide +kernel
theorem dX8_keep_4 : decode cX8_keep 4 = .ok (.invokestatic 80, 3) := by decide +kernel
theorem dX8_keep_7 : decode cX8_keep 7 = .ok (.ifCond .ne 5, 3) := by decide +kernel
theorem dX8_keep_10 : decode cX8_keep 10 = .ok (.iconst (-1), 1) := by decide +kernel
theorem dX8_keep_11 : decode cX8_keep 11 = .ok (.ireturn, 1) := by decide +kernel
theorem dX8_keep_12 : decode cX8_keep 12 = .ok (.aload_n 0, 1) := by decide +kernel
theorem dX8_keep_13 : decode cX8_keep 13 = .ok (.getfield 67, 3) := by decide +kernel
theorem dX8_keep_16 : decode cX8_keep 16 = .ok (.iload_n 1, 1) := by decide +kernel
theorem dX8_keep_17 : decode cX8_keep 17 = .ok (.iconst 1, 1) := by decide +kernel
theorem dX8_keep_18 : decode cX8_keep 18 = .ok (.bastore, 1) := by decide +kernel
theorem dX8_keep_19 : decode cX8_keep 19 = .ok (.iconst 0, 1) := by decide +kernel
theorem dX8_keep_20 : decode cX8_keep 20 = .ok (.istore_n 2, 1) := by decide +kernel
theorem dX8_keep_21 : decode cX8_keep 21 = .ok (.iload_n 2, 1) := by decide +kernel
theorem dX8_keep_22 : decode cX8_keep 22 = .ok (.bipush 18, 2) := by decide +kernel
theorem dX8_keep_24 : decode cX8_keep 24 = .ok (.if_icmp .ge 26, 3) := by decide +kernel
theorem dX8_keep_27 : decode cX8_keep 27 = .ok (.aload_n 0, 1) := by decide +kernel
theorem dX8_keep_28 : decode cX8_keep 28 = .ok (.getfield 71, 3) := by decide +kernel
theorem dX8_keep_31 : decode cX8_keep 31 = .ok (.bipush 18, 2) := by decide +kernel
theorem dX8_keep_33 : decode cX8_keep 33 = .ok (.iload_n 1, 1) := by decide +kernel
theorem dX8_keep_34 : decode cX8_keep 34 = .ok (.imul, 1) := by decide +kernel
theorem dX8_keep_35 : decode cX8_keep 35 = .ok (.iload_n 2, 1) := by decide +kernel
theorem dX8_keep_36 : decode cX8_keep 36 = .ok (.iadd, 1) := by decide +kernel
theorem dX8_keep_37 : decode cX8_keep 37 = .ok (.aload_n 0, 1) := by decide +kernel
theorem dX8_keep_38 : decode cX8_keep 38 = .ok (.getfield 34, 3) := by decide +kernel
theorem dX8_keep_41 : decode cX8_keep 41 = .ok (.iload_n 2, 1) := by decide +kernel
theorem dX8_keep_42 : decode cX8_keep 42 = .ok (.iaload, 1) := by decide +kernel
theorem dX8_keep_43 : decode cX8_keep 43 = .ok (.iastore, 1) := by decide +kernel
theorem dX8_keep_44 : decode cX8_keep 44 = .ok (.iinc 2 1, 3) := by decide +kernel
theorem dX8_keep_47 : decode cX8_keep 47 = .ok (.goto (-26), 3) := by decide +kernel
theorem dX8_keep_50 : decode cX8_keep 50 = .ok (.aload_n 0, 1) := by decide +kernel
theorem dX8_keep_51 : decode cX8_keep 51 = .ok (.getfield 34, 3) := by decide +kernel
theorem dX8_keep_54 : decode cX8_keep 54 = .ok (.bipush 17, 2) := by decide +kernel
theorem dX8_keep_56 : decode cX8_keep 56 = .ok (.iaload, 1) := by decide +kernel
theorem dX8_keep_57 : decode cX8_keep 57 = .ok (.ireturn, 1) := by decide +kernel
theorem dX8_again_0 : decode cX8_again 0 = .ok (.iload_n 1, 1) := by decide +kernel
theorem dX8_again_1 : decode cX8_again 1 = .ok (.i2l, 1) := by decide +kernel
theorem dX8_again_2 : decode cX8_again 2 = .ok (.lconst 0, 1) := by decide +kernel
theorem dX8_again_3 : decode cX8_again 3 = .ok (.lconst 1, 1) := by decide +kernel
theorem dX8_again_4 : decode cX8_again 4 = .ok (.invokestatic 80, 3) := by decide +kernel
theorem dX8_again_7 : decode cX8_again 7 = .ok (.ifCond .ne 5, 3) := by decide +kernel
theorem dX8_again_10 : decode cX8_again 10 = .ok (.iconst (-1), 1) := by decide +kernel
theorem dX8_again_11 : decode cX8_again 11 = .ok (.ireturn, 1) := by decide +kernel
theorem dX8_again_12 : decode cX8_again 12 = .ok (.aload_n 0, 1) := by decide +kernel
theorem dX8_again_13 : decode cX8_again 13 = .ok (.getfield 67, 3) := by decide +kernel
theorem dX8_again_16 : decode cX8_again 16 = .ok (.iload_n 1, 1) := by decide +kernel
theorem dX8_again_17 : decode cX8_again 17 = .ok (.baload, 1) := by decide +kernel
theorem dX8_again_18 : decode cX8_again 18 = .ok (.ifCond .ne 6, 3) := by decide +kernel
theorem dX8_again_21 : decode cX8_again 21 = .ok (.bipush (-3), 2) := by decide +kernel
theorem dX8_again_23 : decode cX8_again 23 = .ok (.ireturn, 1) := by decide +kernel
theorem dX8_again_24 : decode cX8_again 24 = .ok (.iconst 0, 1) := by decide +kernel
theorem dX8_again_25 : decode cX8_again 25 = .ok (.istore_n 2, 1) := by decide +kernel
theorem dX8_again_26 : decode cX8_again 26 = .ok (.iload_n 2, 1) := by decide +kernel
theorem dX8_again_27 : decode cX8_again 27 = .ok (.bipush 18, 2) := by decide +kernel
theorem dX8_again_29 : decode cX8_again 29 = .ok (.if_icmp .ge 26, 3) := by decide +kernel
theorem dX8_again_32 : decode cX8_again 32 = .ok (.aload_n 0, 1) := by decide +kernel
theorem dX8_again_33 : decode cX8_again 33 = .ok (.getfield 34, 3) := by decide +kernel
theorem dX8_again_36 : decode cX8_again 36 = .ok (.iload_n 2, 1) := by decide +kernel
theorem dX8_again_37 : decode cX8_again 37 = .ok (.aload_n 0, 1) := by decide +kernel
theorem dX8_again_38 : decode cX8_again 38 = .ok (.getfield 71, 3) := by decide +kernel
theorem dX8_again_41 : decode cX8_again 41 = .ok (.bipush 18, 2) := by decide +kernel
theorem dX8_again_43 : decode cX8_again 43 = .ok (.iload_n 1, 1) := by decide +kernel
theorem dX8_again_44 : decode cX8_again 44 = .ok (.imul, 1) := by decide +kernel
theorem dX8_again_45 : decode cX8_again 45 = .ok (.iload_n 2, 1) := by decide +kernel
theorem dX8_again_46 : decode cX8_again 46 = .ok (.iadd, 1) := by decide +kernel
theorem dX8_again_47 : decode cX8_again 47 = .ok (.iaload, 1) := by decide +kernel
theorem dX8_again_48 : decode cX8_again 48 = .ok (.iastore, 1) := by decide +kernel
theorem dX8_again_49 : decode cX8_again 49 = .ok (.iinc 2 1, 3) := by decide +kernel
theorem dX8_again_52 : decode cX8_again 52 = .ok (.goto (-26), 3) := by decide +kernel
theorem dX8_again_55 : decode cX8_again 55 = .ok (.aload_n 0, 1) := by decide +kernel
theorem dX8_again_56 : decode cX8_again 56 = .ok (.iconst 0, 1) := by decide +kernel
theorem dX8_again_57 : decode cX8_again 57 = .ok (.putfield 128, 3) := by decide +kernel
theorem dX8_again_60 : decode cX8_again 60 = .ok (.aload_n 0, 1) := by decide +kernel
theorem dX8_again_61 : decode cX8_again 61 = .ok (.getfield 34, 3) := by decide +kernel
theorem dX8_again_64 : decode cX8_again 64 = .ok (.bipush 17, 2) := by decide +kernel
theorem dX8_again_66 : decode cX8_again 66 = .ok (.iaload, 1) := by decide +kernel
theorem dX8_again_67 : decode cX8_again 67 = .ok (.ireturn, 1) := by decide +kernel
theorem dX8_count_0 : decode cX8_count 0 = .ok (.iconst 0, 1) := by decide +kernel
theorem dX8_count_1 : decode cX8_count 1 = .ok (.istore_n 2, 1) := by decide +kernel
theorem dX8_count_2 : decode cX8_count 2 = .ok (.iconst 0, 1) := by decide +kernel
theorem dX8_count_3 : decode cX8_count 3 = .ok (.istore_n 3, 1) := by decide +kernel
theorem dX8_count_4 : decode cX8_count 4 = .ok (.iload_n 3, 1) := by decide +kernel
theorem dX8_count_5 : decode cX8_count 5 = .ok (.aload_n 0, 1) := by decide +kernel
theorem dX8_count_6 : decode cX8_count 6 = .ok (.getfield 122, 3) := by decide +kernel
theorem dX8_count_9 : decode cX8_count 9 = .ok (.if_icmp .ge 32, 3) := by decide +kernel
theorem dX8_count_12 : decode cX8_count 12 = .ok (.iload_n 2, 1) := by decide +kernel
theorem dX8_count_13 : decode cX8_count 13 = .ok (.aload_n 0, 1) := by decide +kernel
theorem dX8_count_14 : decode cX8_count 14 = .ok (.getfield 34, 3) := by decide +kernel
theorem dX8_count_17 : decode cX8_count 17 = .ok (.bipush 8, 2) := by decide +kernel
theorem dX8_count_19 : decode cX8_count 19 = .ok (.iload_n 3, 1) := by decide +kernel
theorem dX8_count_20 : decode cX8_count 20 = .ok (.iadd, 1) := by decide +kernel
theorem dX8_count_21 : decode cX8_count 21 = .ok (.iaload, 1) := by decide +kernel
theorem dX8_count_22 : decode cX8_count 22 = .ok (.iconst 1, 1) := by decide +kernel
theorem dX8_count_23 : decode cX8_count 23 = .ok (.if_icmp .ne 9, 3) := by decide +kernel
theorem dX8_count_26 : decode cX8_count 26 = .ok (.iconst 1, 1) := by decide +kernel
theorem dX8_count_27 : decode cX8_count 27 = .ok (.iload_n 3, 1) := by decide +kernel
theorem dX8_count_28 : decode cX8_count 28 = .ok (.ishl, 1) := by decide +kernel
theorem dX8_count_29 : decode cX8_count 29 = .ok (.goto 4, 3) := by decide +kernel
theorem dX8_count_32 : decode cX8_count 32 = .ok (.iconst 0, 1) := by decide +kernel
theorem dX8_count_33 : decode cX8_count 33 = .ok (.ior, 1) := by decide +kernel
theorem dX8_count_34 : decode cX8_count 34 = .ok (.istore_n 2, 1) := by decide +kernel
theorem dX8_count_35 : decode cX8_count 35 = .ok (.iinc 3 1, 3) := by decide +kernel
theorem dX8_count_38 : decode cX8_count 38 = .ok (.goto (-34), 3) := by decide +kernel
theorem dX8_count_41 : decode cX8_count 41 = .ok (.iconst 0, 1) := by decide +kernel
theorem dX8_count_42 : decode cX8_count 42 = .ok (.istore_n 3, 1) := by decide +kernel
theorem dX8_count_43 : decode cX8_count 43 = .ok (.iconst 0, 1) := by decide +kernel
theorem dX8_count_44 : decode cX8_count 44 = .ok (.istore 4, 2) := by decide +kernel
theorem dX8_count_46 : decode cX8_count 46 = .ok (.iload 4, 2) := by decide +kernel
theorem dX8_count_48 : decode cX8_count 48 = .ok (.aload_n 0, 1) := by decide +kernel
theorem dX8_count_49 : decode cX8_count 49 = .ok (.getfield 125, 3) := by decide +kernel
theorem dX8_count_52 : decode cX8_count 52 = .ok (.if_icmp .ge 30, 3) := by decide +kernel
theorem dX8_count_55 : decode cX8_count 55 = .ok (.iload_n 3, 1) := by decide +kernel
theorem dX8_count_56 : decode cX8_count 56 = .ok (.aload_n 0, 1) := by decide +kernel
theorem dX8_count_57 : decode cX8_count 57 = .ok (.iconst 0, 1) := by decide +kernel
theorem dX8_count_58 : decode cX8_count 58 = .ok (.iload 4, 2) := by decide +kernel
theorem dX8_count_60 : decode cX8_count 60 = .ok (.invokevirtual 138, 3) := by decide +kernel
theorem dX8_count_63 : decode cX8_count 63 = .ok (.ifCond .eq 10, 3) := by decide +kernel
theorem dX8_count_66 : decode cX8_count 66 = .ok (.iconst 1, 1) := by decide +kernel
theorem dX8_count_67 : decode cX8_count 67 = .ok (.iload 4, 2) := by decide +kernel
theorem dX8_count_69 : decode cX8_count 69 = .ok (.ishl, 1) := by decide +kernel
theorem dX8_count_70 : decode cX8_count 70 = .ok (.goto 4, 3) := by decide +kernel
theorem dX8_count_73 : decode cX8_count 73 = .ok (.iconst 0, 1) := by decide +kernel
theorem dX8_count_74 : decode cX8_count 74 = .ok (.ior, 1) := by decide +kernel
theorem dX8_count_75 : decode cX8_count 75 = .ok (.istore_n 3, 1) := by decide +kernel
theorem dX8_count_76 : decode cX8_count 76 = .ok (.iinc 4 1, 3) := by decide +kernel
theorem dX8_count_79 : decode cX8_count 79 = .ok (.goto (-33), 3) := by decide +kernel
theorem dX8_count_82 : decode cX8_count 82 = .ok (.iload_n 1, 1) := by decide +kernel
theorem dX8_count_83 : decode cX8_count 83 = .ok (.tableswitch 103 0 9 #[53, 58, 63, 68, 73, 81, 83, 85, 93, 98], 53) := by decide +kernel
theorem dX8_count_136 : decode cX8_count 136 = .ok (.aload_n 0, 1) := by decide +kernel
theorem dX8_count_137 : decode cX8_count 137 = .ok (.getfield 84, 3) := by decide +kernel
theorem dX8_count_140 : decode cX8_count 140 = .ok (.ireturn, 1) := by decide +kernel
theorem dX8_count_141 : decode cX8_count 141 = .ok (.aload_n 0, 1) := by decide +kernel
theorem dX8_count_142 : decode cX8_count 142 = .ok (.getfield 74, 3) := by decide +kernel
theorem dX8_count_145 : decode cX8_count 145 = .ok (.ireturn, 1) := by decide +kernel
theorem dX8_count_146 : decode cX8_count 146 = .ok (.aload_n 0, 1) := by decide +kernel
theorem dX8_count_147 : decode cX8_count 147 = .ok (.getfield 122, 3) := by decide +kernel
theorem dX8_count_150 : decode cX8_count 150 = .ok (.ireturn, 1) := by decide +kernel
theorem dX8_count_151 : decode cX8_count 151 = .ok (.aload_n 0, 1) := by decide +kernel
theorem dX8_count_152 : decode cX8_count 152 = .ok (.getfield 125, 3) := by decide +kernel
theorem dX8_count_155 : decode cX8_count 155 = .ok (.ireturn, 1) := by decide +kernel
theorem dX8_count_156 : decode cX8_count 156 = .ok (.aload_n 0, 1) := by decide +kernel
theorem dX8_count_157 : decode cX8_count 157 = .ok (.getfield 34, 3) := by decide +kernel
theorem dX8_count_160 : decode cX8_count 160 = .ok (.bipush 17, 2) := by decide +kernel
theorem dX8_count_162 : decode cX8_count 162 = .ok (.iaload, 1) := by decide +kernel
theorem dX8_count_163 : decode cX8_count 163 = .ok (.ireturn, 1) := by decide +kernel
theorem dX8_count_164 : decode cX8_count 164 = .ok (.iload_n 2, 1) := by decide +kernel
theorem dX8_count_165 : decode cX8_count 165 = .ok (.ireturn, 1) := by decide +kernel
theorem dX8_count_166 : decode cX8_count 166 = .ok (.iload_n 3, 1) := by decide +kernel
theorem dX8_count_167 : decode cX8_count 167 = .ok (.ireturn, 1) := by decide +kernel
theorem dX8_count_168 : decode cX8_count 168 = .ok (.aload_n 0, 1) := by decide +kernel
theorem dX8_count_169 : decode cX8_count 169 = .ok (.getfield 34, 3) := by decide +kernel
theorem dX8_count_172 : decode cX8_count 172 = .ok (.bipush 16, 2) := by decide +kernel
theorem dX8_count_174 : decode cX8_count 174 = .ok (.iaload, 1) := by decide +kernel
theorem dX8_count_175 : decode cX8_count 175 = .ok (.ireturn, 1) := by decide +kernel
theorem dX8_count_176 : decode cX8_count 176 = .ok (.aload_n 0, 1) := by decide +kernel
theorem dX8_count_177 : decode cX8_count 177 = .ok (.getfield 128, 3) := by decide +kernel
theorem dX8_count_180 : decode cX8_count 180 = .ok (.ireturn, 1) := by decide +kernel
theorem dX8_count_181 : decode cX8_count 181 = .ok (.aload_n 0, 1) := by decide +kernel
theorem dX8_count_182 : decode cX8_count 182 = .ok (.getfield 210, 3) := by decide +kernel
theorem dX8_count_185 : decode cX8_count 185 = .ok (.ireturn, 1) := by decide +kernel
theorem dX8_count_186 : decode cX8_count 186 = .ok (.bipush (-2), 2) := by decide +kernel
theorem dX8_count_188 : decode cX8_count 188 = .ok (.ireturn, 1) := by decide +kernel
end
section
-- ===== OWN KIT: the words of the embedding, the contracts' form, derived rows =====
abbrev ES : Type := (Nat → Nat → Int32) × (Nat → Nat → Int64)
def u2 (f : Nat → Nat → Int32) (k j : Nat) (v : Int32) : Nat → Nat → Int32 := fun a => if a = k then upd (f k) j v else f a
def u2L (f : Nat → Nat → Int64) (k j : Nat) (v : Int64) : Nat → Nat → Int64 := fun a => if a = k then vp_updL (f k) j v else f a
def wI (σ : ES) (k j : Nat) (v : Int32) : ES := (u2 σ.1 k j v, σ.2)
def wL (σ : ES) (k j : Nat) (v : Int64) : ES := (σ.1, u2L σ.2 k j v)
def wR (σ : ES) (k : Nat) (f : Nat → Int32) : ES := (fun a => if a = k then f else σ.1 a, σ.2)
def rd {α : Type} (σ : ES) (k n : Nat) (i : Int32) (f : Int32 → Option α) : Option α := if i < 0 ∨ n ≤ i.toNatClampNeg then none else f (σ.1 k i.toNatClampNeg)
def rdL {α : Type} (σ : ES) (k n : Nat) (i : Int32) (f : Int64 → Option α) : Option α := if i < 0 ∨ n ≤ i.toNatClampNeg then none else f (σ.2 k i.toNatClampNeg)
def wr {α : Type} (σ : ES) (k n : Nat) (i v : Int32) (f : ES → Option α) : Option α := if i < 0 ∨ n ≤ i.toNatClampNeg then none else f (wI σ k i.toNatClampNeg v)
def wrL {α : Type} (σ : ES) (k n : Nat) (i : Int32) (v : Int64) (f : ES → Option α) : Option α := if i < 0 ∨ n ≤ i.toNatClampNeg then none else f (wL σ k i.toNatClampNeg v)
def rt {α : Type} (t : Nat → Int32) (n : Nat) (i : Int32) (f : Int32 → Option α) : Option α := if i < 0 ∨ n ≤ i.toNatClampNeg then none else f (t i.toNatClampNeg)
def dv {α : Type} (y : Int32) (x : Option α) : Option α := if y = 0 then none else x
def dvL {α : Type} (y : Int64) (x : Option α) : Option α := if y = 0 then none else x
def bo {α : Type} (v : Int32) (x : Option α) : Option α := if v = 0 ∨ v = 1 then x else none
def cl {α β : Type} (x : Option β) (f : β → Option α) : Option α := match x with | none => none | some r => f r
def cs {α β : Type} (x : Option (β × ES)) (f : β → ES → Option α) : Option α := match x with | none => none | some q => f q.1 q.2
def lt {α β : Type} (x : β) (f : β → Option α) : Option α := f x
def FU : Nat := 100000
theorem rd_some {α : Type} {σ : ES} {k n : Nat} {i : Int32} {f : Int32 → Option α} {o : α} (h : rd σ k n i f = some o) : vp_in i n ∧ f (σ.1 k i.toNatClampNeg) = some o := by
  unfold rd at h
  by_cases c : i < 0 ∨ n ≤ i.toNatClampNeg
  · rw [if_pos c] at h; cases h
  · rw [if_neg c] at h; exact ⟨c, h⟩
theorem rdL_some {α : Type} {σ : ES} {k n : Nat} {i : Int32} {f : Int64 → Option α} {o : α} (h : rdL σ k n i f = some o) : vp_in i n ∧ f (σ.2 k i.toNatClampNeg) = some o := by
  unfold rdL at h
  by_cases c : i < 0 ∨ n ≤ i.toNatClampNeg
  · rw [if_pos c] at h; cases h
  · rw [if_neg c] at h; exact ⟨c, h⟩
theorem wr_some {α : Type} {σ : ES} {k n : Nat} {i v : Int32} {f : ES → Option α} {o : α} (h : wr σ k n i v f = some o) : vp_in i n ∧ f (wI σ k i.toNatClampNeg v) = some o := by
  unfold wr at h
  by_cases c : i < 0 ∨ n ≤ i.toNatClampNeg
  · rw [if_pos c] at h; cases h
  · rw [if_neg c] at h; exact ⟨c, h⟩
theorem wrL_some {α : Type} {σ : ES} {k n : Nat} {i : Int32} {v : Int64} {f : ES → Option α} {o : α} (h : wrL σ k n i v f = some o) : vp_in i n ∧ f (wL σ k i.toNatClampNeg v) = some o := by
  unfold wrL at h
  by_cases c : i < 0 ∨ n ≤ i.toNatClampNeg
  · rw [if_pos c] at h; cases h
  · rw [if_neg c] at h; exact ⟨c, h⟩
theorem rt_some {α : Type} {t : Nat → Int32} {n : Nat} {i : Int32} {f : Int32 → Option α} {o : α} (h : rt t n i f = some o) : vp_in i n ∧ f (t i.toNatClampNeg) = some o := by
  unfold rt at h
  by_cases c : i < 0 ∨ n ≤ i.toNatClampNeg
  · rw [if_pos c] at h; cases h
  · rw [if_neg c] at h; exact ⟨c, h⟩
theorem dv_some {α : Type} {y : Int32} {x : Option α} {o : α} (h : dv y x = some o) : (¬ y = 0) ∧ x = some o := by
  unfold dv at h
  by_cases c : y = 0
  · rw [if_pos c] at h; cases h
  · rw [if_neg c] at h; exact ⟨c, h⟩
theorem dvL_some {α : Type} {y : Int64} {x : Option α} {o : α} (h : dvL y x = some o) : (¬ y = 0) ∧ x = some o := by
  unfold dvL at h
  by_cases c : y = 0
  · rw [if_pos c] at h; cases h
  · rw [if_neg c] at h; exact ⟨c, h⟩
theorem bo_some {α : Type} {v : Int32} {x : Option α} {o : α} (h : bo v x = some o) : (v = 0 ∨ v = 1) ∧ x = some o := by
  unfold bo at h
  by_cases c : v = 0 ∨ v = 1
  · rw [if_pos c] at h; exact ⟨c, h⟩
  · rw [if_neg c] at h; cases h
theorem bo_nar {v : Int32} (h : v = 0 ∨ v = 1) : narrow .boolean (.int v) = .int v := by
  rcases h with rfl | rfl <;> rfl
theorem cl_some {α β : Type} {x : Option β} {f : β → Option α} {o : α} (h : cl x f = some o) : ∃ r, x = some r ∧ f r = some o := by
  cases x with
  | none => cases h
  | some r => exact ⟨r, rfl, h⟩
theorem cs_some {α β : Type} {x : Option (β × ES)} {f : β → ES → Option α} {o : α} (h : cs x f = some o) : ∃ r σ, x = some (r, σ) ∧ f r σ = some o := by
  cases x with
  | none => cases h
  | some q => exact ⟨q.1, q.2, rfl, h⟩
theorem lt_some {α β : Type} {x : β} {f : β → Option α} {o : α} (h : lt x f = some o) : ∃ v, v = x ∧ f v = some o := ⟨x, rfl, h⟩
theorem ifp {c : Prop} [Decidable c] {α : Type} {a b : Option α} {o : α} (hc : c) (h : (if c then a else b) = some o) : a = some o := by rw [if_pos hc] at h; exact h
theorem ifn {c : Prop} [Decidable c] {α : Type} {a b : Option α} {o : α} (hc : ¬ c) (h : (if c then a else b) = some o) : b = some o := by rw [if_neg hc] at h; exact h
theorem pr_inj {α : Type} {a b : α} {σ τ : ES} (h : some (a, σ) = some (b, τ)) : b = a ∧ τ = σ := by cases h; exact ⟨rfl, rfl⟩
theorem so_inj {α : Type} {a b : α} (h : some a = some b) : b = a := by cases h; rfl
theorem no_some {α : Type} {o : α} {P : Prop} (h : none = some o) : P := by cases h
-- the class's and the reference's common ground
def xtys (cy : Nat → ClassId) : List (ClassId × FieldType) := [(cy 0, .int), (cy 1, .long), (cy 2, .boolean)]
def tens : Nat → Int32 := fun j => ([1, 10, 100, 1000, 10000, 100000, 1000000, 10000000, 100000000] : List Int32).getD j 0
def facs : Nat → Int32 := fun j => ([1, 1, 2, 6, 24] : List Int32).getD j 0
abbrev wdN1 : Cond := .fieldLinkNest RX4 135 RX7 "FACTORIALS" "[I" RX7
abbrev wdN2 : Cond := .methodLinkNest RX5 16 yX7_figure RX7
def xT (tT tF : Nat) (A : Nat → Prop) (U : State) (H : Heap) : Prop := va_Z RX7 "TENS" "[I" (.ref tT) A U H ∧ va_T .int tT 9 (fun j => .int (tens j)) A U H ∧ va_Z RX7 "FACTORIALS" "[I" (.ref tF) A U H ∧ va_T .int tF 5 (fun j => .int (facs j)) A U H ∧ va_Nw wdN1 U ∧ va_Nw wdN2 U
theorem xT.same {tT tF : Nat} {A : Nat → Prop} {u U : State} {H : Heap} (hvm : u.vm = U.vm) (h : xT tT tF A u H) : xT tT tF A U H := by
  obtain ⟨h1, h2, h3, h4, h5, h6⟩ := h
  have a : u.vm.Alike U.vm := by rw [hvm]; exact Vm.Alike.refl _
  exact ⟨va_Z.moved a h1, va_T.moved a h2, va_Z.moved a h3, va_T.moved a h4, va_Nw.same rfl hvm h5, va_Nw.same rfl hvm h6⟩
theorem xT.at {tT tF : Nat} {A B : Nat → Prop} {s U : State} {H : Heap} (hk : ∀ a : Nat, a < s.heap.size → ¬ A a → H[a]? = s.heap[a]?) (hB : ∀ q, B q → A q) (hU : U.heap = H) (hW : s.WarmedH U.vm) (h : xT tT tF A s s.heap) : xT tT tF B U U.heap := by
  obtain ⟨h1, h2, h3, h4, h5, h6⟩ := h
  rw [hU]
  exact ⟨va_Z.moved hW.alike ((h1.kept hk).narrow hB), va_T.moved hW.alike ((h2.kept hk).narrow hB), va_Z.moved hW.alike ((h3.kept hk).narrow hB), va_T.moved hW.alike ((h4.kept hk).narrow hB), va_Nw.warmF hW h5, va_Nw.warmM hW h6⟩
def cP (D : va_G) (cy : Nat → ClassId) (tT tF : Nat) (ws : va_W) (sz : Nat) (U : State) : Prop := U.heap.size = sz ∧ va_P D vwCl ws U.heap ∧ va_K D vwCl (xtys cy) U ∧ va_D (fun _ => True) ws ∧ xT tT tF (va_A ws sz) U U.heap
def cB (D : va_G) (cy : Nat → ClassId) (A : Nat → Prop) (ws : va_W) (t : State) : Prop := va_P D vwCl ws t.heap ∧ va_K D vwCl (xtys cy) t ∧ va_D A ws
abbrev Qi (D : va_G) (cy : Nat → ClassId) (A : Nat → Prop) (r : Int32) (ws : va_W) : Array Value → State → Outcome → State → Prop := va_Qi (fun x (_ : Unit) => x = r) (fun _ t => cB D cy A ws t) A
abbrev Ql (D : va_G) (cy : Nat → ClassId) (A : Nat → Prop) (r : Int64) (ws : va_W) : Array Value → State → Outcome → State → Prop := va_Ql (fun x (_ : Unit) => x = r) (fun _ t => cB D cy A ws t) A
abbrev Qv (D : va_G) (cy : Nat → ClassId) (A : Nat → Prop) (ws : va_W) : Array Value → State → Outcome → State → Prop := va_Qv (fun (_ : Unit) => True) (fun _ t => cB D cy A ws t) A
def CMi (l : Launch) (y : MethodName) (wd : List Cond) (rm : Room) (D : va_G) (cy : Nat → ClassId) (tT tF : Nat) (av : List Value) (ws : va_W) (r : Int32) (ws' : va_W) : Prop := ∀ sz : Nat, Met l y wd rm (va_Pc av (cP D cy tT tF ws sz)) (Qi D cy (va_A ws sz) r ws') 0 0 (va_A ws sz)
def CMl (l : Launch) (y : MethodName) (wd : List Cond) (rm : Room) (D : va_G) (cy : Nat → ClassId) (tT tF : Nat) (av : List Value) (ws : va_W) (r : Int64) (ws' : va_W) : Prop := ∀ sz : Nat, Met l y wd rm (va_Pc av (cP D cy tT tF ws sz)) (Ql D cy (va_A ws sz) r ws') 0 0 (va_A ws sz)
def CMv (l : Launch) (y : MethodName) (wd : List Cond) (rm : Room) (D : va_G) (cy : Nat → ClassId) (tT tF : Nat) (av : List Value) (ws : va_W) (ws' : va_W) : Prop := ∀ sz : Nat, Met l y wd rm (va_Pc av (cP D cy tT tF ws sz)) (Qv D cy (va_A ws sz) ws') 0 0 (va_A ws sz)
theorem G_good : GoodIn wsL_law wsL_law := fun w h => ⟨h, (wsL_law_gd w h).2⟩
theorem gV {own : String} {idx : Nat} {Cn : String} {y : MethodName} {bytes : ByteArray} {maxL : Nat} {ret : Option FieldType} (h1 : Cond.methodLink own idx y ∈ wsL_law) (h2 : Cond.instanceMethod y ∈ wsL_law) (h3 : Cond.selects Cn y y ∈ wsL_law) (h4 : Cond.initialized Cn ∈ wsL_law) (h5 : Cond.code y bytes maxL ret ∈ wsL_law) : GoodIn wsL_law (wsV own idx Cn y (Cond.code y bytes maxL ret :: wsL_law)) := by
  intro w hw
  unfold wsV at hw
  rcases List.mem_append.mp hw with hw | hw
  · rcases List.mem_cons.mp hw with rfl | hw
    · exact G_good _ h1
    rcases List.mem_cons.mp hw with rfl | hw
    · exact G_good _ h2
    rcases List.mem_cons.mp hw with rfl | hw
    · exact G_good _ h3
    rcases List.mem_cons.mp hw with rfl | hw
    · exact G_good _ h4
    · cases hw
  · rcases List.mem_cons.mp hw with rfl | hw
    · exact G_good _ h5
    · exact G_good _ hw
theorem gC {c : Cond} (h5 : c ∈ wsL_law) : GoodIn wsL_law (c :: wsL_law) := by
  intro w hw
  rcases List.mem_cons.mp hw with rfl | hw
  · exact G_good _ h5
  · exact G_good _ hw
theorem gS {own : String} {idx : Nat} {y : MethodName} {bytes : ByteArray} {maxL : Nat} {ret : Option FieldType} (h1 : Cond.methodLink own idx y ∈ wsL_law) (h2 : Cond.static y ∈ wsL_law) (h4 : Cond.initialized y.cls ∈ wsL_law) (h5 : Cond.code y bytes maxL ret ∈ wsL_law) : GoodIn wsL_law (va_wsS own idx y (Cond.code y bytes maxL ret :: wsL_law)) := by
  intro w hw
  unfold va_wsS at hw
  rcases List.mem_append.mp hw with hw | hw
  · rcases List.mem_cons.mp hw with rfl | hw
    · exact G_good _ h1
    rcases List.mem_cons.mp hw with rfl | hw
    · exact G_good _ h2
    rcases List.mem_cons.mp hw with rfl | hw
    · exact G_good _ h4
    · cases hw
  · exact gC h5 w hw
/-- the fixed things of a walk: the machine and the code, the classes, the tables, which cells may change -/
def Cx (p : Program) (s : State) (m : MethodId) (args : Array Value) (meth : Method) (c : Code) (D : va_G) (cy : Nat → ClassId) (tT tF : Nat) (A : Nat → Prop) (cc : ByteArray) (nL : Nat) (own : String) : Prop := CallFix p m c cc nL s args wsL_law own ∧ va_K D vwCl (xtys cy) s ∧ xT tT tF A s s.heap ∧ (∀ q : Nat, s.heap.size ≤ q → A q) ∧ meth.locks = false
theorem cP_blind {D : va_G} {cy : Nat → ClassId} {tT tF : Nat} {av : List Value} {ws : va_W} {sz : Nat} : FrameBlind (va_Pc av (cP D cy tT tF ws sz)) := by
  intro a U g mk q
  obtain ⟨q0, q1, qP, qK, qD, qT⟩ := q
  exact ⟨q0, q1, qP, va_K.moved (u := U) (U := U.calling g mk a) (Vm.Alike.refl U.vm) qK, qD, xT.same (u := U) (U := U.calling g mk a) rfl qT⟩
section OWN
variable {p : Program} {l : Launch} {e : Env} {R : Room} {s : State} {m : MethodId} {args : Array Value} {below : List Frame} {meth : Method} {c : Code} {H : Heap} {locs : List Loc} {cells slots : Nat} {Q : State → Prop}
variable {D : va_G} {cy : Nat → ClassId} {tT tF : Nat} {A : Nat → Prop} {cc bytes : ByteArray} {nL maxL n index pc : Nat} {own Cn host : String} {y : MethodName} {ret : Option FieldType} {wd wd' : List Cond} {rm : Room} {ls : Array Slot} {As rest st0 : List Value} {b : Nat} {ws ws' : va_W} {r : Int32} {rl : Int64}
theorem own_free (hD : va_D A ws) (hS : va_S A s.heap H locs) (hA : ∀ q : Nat, s.heap.size ≤ q → A q) : ∀ q, va_A ws H.size q → A q := by
  intro q h
  rcases h with ⟨k, e, h⟩ | h
  · exact hD.2 k (q, e) h
  · exact hA q (Nat.le_trans hS.1 h)
theorem own_pre (C : Cx p s m args meth c D cy tT tF A cc nL own) (hP : va_P D vwCl ws H) (hD : va_D A ws) (hS : va_S A s.heap H locs) (av : List Value) : ∀ U : State, U.heap = H → s.WarmedH U.vm → va_Pc av (cP D cy tT tF ws H.size) av.toArray U := by
  obtain ⟨-, hK, hT, hA, -⟩ := C
  intro U hU hW
  exact ⟨rfl, by rw [hU], by rw [hU]; exact hP, va_K.moved hW.alike hK, hD.weaken (fun _ _ _ _ => trivial), xT.at hS.2.1 (own_free hD hS hA) hU hW hT⟩
theorem x_iret (C : Cx p s m args meth c D cy tT tF A cc nL own) (hr : meth.sig.returnType = some .int) (hP : va_P D vwCl ws H) (hD : va_D A ws) (hS : va_S A s.heap H locs) (hdg : decode cc pc = .ok (.ireturn, 1)) : W p l e R s m args below meth c H locs 0 0 (MQ below (Qi D cy A r ws) args s 0 0 A) (F0 m pc ls [.int r]) := by
  obtain ⟨⟨hx, hb, hml, hown, hts⟩, hK, hT, hA, hlocks⟩ := C
  exact W.iret (v := r) hx hb hr (fun t ht hW => ⟨⟨r, (), rfl, rfl, by rw [ht]; exact hP, va_K.moved hW.alike hK, hD⟩, hS.F ht⟩) hS.2.2 hdg
theorem x_zret (C : Cx p s m args meth c D cy tT tF A cc nL own) (hr : meth.sig.returnType = some .boolean) (hn : narrow .boolean (.int r) = .int r) (hP : va_P D vwCl ws H) (hD : va_D A ws) (hS : va_S A s.heap H locs) (hdg : decode cc pc = .ok (.ireturn, 1)) : W p l e R s m args below meth c H locs 0 0 (MQ below (Qi D cy A r ws) args s 0 0 A) (F0 m pc ls [.int r]) := by
  obtain ⟨⟨hx, hb, hml, hown, hts⟩, hK, hT, hA, hlocks⟩ := C
  exact W.zret (v := r) hx hb hr hn (fun t ht hW => ⟨⟨r, (), rfl, rfl, by rw [ht]; exact hP, va_K.moved hW.alike hK, hD⟩, hS.F ht⟩) hS.2.2 hdg
theorem x_lret (C : Cx p s m args meth c D cy tT tF A cc nL own) (hr : meth.sig.returnType = some .long) (hP : va_P D vwCl ws H) (hD : va_D A ws) (hS : va_S A s.heap H locs) (hdg : decode cc pc = .ok (.lreturn, 1)) : W p l e R s m args below meth c H locs 0 0 (MQ below (Ql D cy A rl ws) args s 0 0 A) (F0 m pc ls [.long rl]) := by
  obtain ⟨⟨hx, hb, hml, hown, hts⟩, hK, hT, hA, hlocks⟩ := C
  exact W.lret (v := rl) hx hb hr (fun t ht hW => ⟨⟨rl, (), rfl, rfl, by rw [ht]; exact hP, va_K.moved hW.alike hK, hD⟩, hS.F ht⟩) hS.2.2 hdg
theorem x_vret (C : Cx p s m args meth c D cy tT tF A cc nL own) (hr : meth.sig.returnType = none) (hP : va_P D vwCl ws H) (hD : va_D A ws) (hS : va_S A s.heap H locs) (hdg : decode cc pc = .ok (.return_, 1)) : W p l e R s m args below meth c H locs 0 0 (MQ below (Qv D cy A ws) args s 0 0 A) (F0 m pc ls []) := by
  obtain ⟨⟨hx, hb, hml, hown, hts⟩, hK, hT, hA, hlocks⟩ := C
  exact W.vret hx hb hr (fun t ht hW => ⟨⟨(), rfl, trivial, by rw [ht]; exact hP, va_K.moved hW.alike hK, hD⟩, hS.F ht⟩) hS.2.2 hdg
theorem x_callVi (C : Cx p s m args meth c D cy tT tF A cc nL own) (hP : va_P D vwCl ws H) (hD : va_D A ws) (hS : va_S A s.heap H locs) (hM : CMi l y wd rm D cy tT tF (.ref b :: As) ws r ws') (cw : CallW R s args own Cn index y bytes maxL ret wd rm 0 0 n) {q0 ci : Nat} {fs : List Value} {T : u_T} {N : Nat} (he : ws[q0]? = some (b, .inr (ci, fs))) (hc : vwCl[ci]? = some (Cn, T, N)) (hn : As.length = n) (hsz : ls.size = nL) (hst : st0 = As.reverse ++ .ref b :: rest) (hcat : (rest.map fun v => v.category).sum ≤ 8) (hdg : decode cc pc = .ok (.invokevirtual index, 3)) (hf : cells ≤ R.cells ∧ slots ≤ R.slots)
    (kk : ∀ (H1 : Heap) (locs1 : List Loc), va_P D vwCl ws' H1 → va_D A ws' → va_S A s.heap H1 locs1 → W p l e R s m args below meth c H1 locs1 cells slots Q (F0 m (pc + 3) ls (.int r :: rest))) : W p l e R s m args below meth c H locs cells slots Q (F0 m pc ls st0) := by
  obtain ⟨CF, hK, hT, hA, hlocks⟩ := id C
  have hF := own_free hD hS hA
  refine va_calli (va_runV CF (hM H.size) cw ⟨cP_blind, va_recv hK hP hc he, own_pre C hP hD hS _⟩ rfl hn hsz hst (lv_room hcat) hdg hf) hS (fun q _ h => hF q h) hF (fun r1 u t H1 locs1 ht hvm hpost hB hz hk hS1 => ?_)
  subst hpost
  obtain ⟨hP1, hK1, hD1⟩ := hB
  rw [ht] at hP1
  exact kk H1 locs1 hP1 (hD1.weaken (fun _ q _ hq => hF q.1 hq)) hS1
theorem x_callVl (C : Cx p s m args meth c D cy tT tF A cc nL own) (hP : va_P D vwCl ws H) (hD : va_D A ws) (hS : va_S A s.heap H locs) (hM : CMl l y wd rm D cy tT tF (.ref b :: As) ws rl ws') (cw : CallW R s args own Cn index y bytes maxL ret wd rm 0 0 n) {q0 ci : Nat} {fs : List Value} {T : u_T} {N : Nat} (he : ws[q0]? = some (b, .inr (ci, fs))) (hc : vwCl[ci]? = some (Cn, T, N)) (hn : As.length = n) (hsz : ls.size = nL) (hst : st0 = As.reverse ++ .ref b :: rest) (hcat : (rest.map fun v => v.category).sum ≤ 8) (hdg : decode cc pc = .ok (.invokevirtual index, 3)) (hf : cells ≤ R.cells ∧ slots ≤ R.slots)
    (kk : ∀ (H1 : Heap) (locs1 : List Loc), va_P D vwCl ws' H1 → va_D A ws' → va_S A s.heap H1 locs1 → W p l e R s m args below meth c H1 locs1 cells slots Q (F0 m (pc + 3) ls (.long rl :: rest))) : W p l e R s m args below meth c H locs cells slots Q (F0 m pc ls st0) := by
  obtain ⟨CF, hK, hT, hA, hlocks⟩ := id C
  have hF := own_free hD hS hA
  refine va_calll (va_runV CF (hM H.size) cw ⟨cP_blind, va_recv hK hP hc he, own_pre C hP hD hS _⟩ rfl hn hsz hst (lv_room hcat) hdg hf) hS (fun q _ h => hF q h) hF (fun r1 u t H1 locs1 ht hvm hpost hB hz hk hS1 => ?_)
  subst hpost
  obtain ⟨hP1, hK1, hD1⟩ := hB
  rw [ht] at hP1
  exact kk H1 locs1 hP1 (hD1.weaken (fun _ q _ hq => hF q.1 hq)) hS1
theorem x_callVv (C : Cx p s m args meth c D cy tT tF A cc nL own) (hP : va_P D vwCl ws H) (hD : va_D A ws) (hS : va_S A s.heap H locs) (hM : CMv l y wd rm D cy tT tF (.ref b :: As) ws ws') (cw : CallW R s args own Cn index y bytes maxL ret wd rm 0 0 n) {q0 ci : Nat} {fs : List Value} {T : u_T} {N : Nat} (he : ws[q0]? = some (b, .inr (ci, fs))) (hc : vwCl[ci]? = some (Cn, T, N)) (hn : As.length = n) (hsz : ls.size = nL) (hst : st0 = As.reverse ++ .ref b :: rest) (hcat : (rest.map fun v => v.category).sum ≤ 8) (hdg : decode cc pc = .ok (.invokevirtual index, 3)) (hf : cells ≤ R.cells ∧ slots ≤ R.slots)
    (kk : ∀ (H1 : Heap) (locs1 : List Loc), va_P D vwCl ws' H1 → va_D A ws' → va_S A s.heap H1 locs1 → W p l e R s m args below meth c H1 locs1 cells slots Q (F0 m (pc + 3) ls rest)) : W p l e R s m args below meth c H locs cells slots Q (F0 m pc ls st0) := by
  obtain ⟨CF, hK, hT, hA, hlocks⟩ := id C
  have hF := own_free hD hS hA
  refine va_callv (va_runV CF (hM H.size) cw ⟨cP_blind, va_recv hK hP hc he, own_pre C hP hD hS _⟩ rfl hn hsz hst (lv_room hcat) hdg hf) hS (fun q _ h => hF q h) hF (fun u t H1 locs1 ht hvm hpost hB hz hk hS1 => ?_)
  obtain ⟨hP1, hK1, hD1⟩ := hB
  rw [ht] at hP1
  exact kk H1 locs1 hP1 (hD1.weaken (fun _ q _ hq => hF q.1 hq)) hS1
theorem x_callSi (C : Cx p s m args meth c D cy tT tF A cc nL own) (hP : va_P D vwCl ws H) (hD : va_D A ws) (hS : va_S A s.heap H locs) (hM : CMi l y wd rm D cy tT tF As ws r ws') (cw : CallB R s args own index y bytes maxL ret wd rm 0 0 n ∧ (Cond.static y).before args s = true) (hn : As.length = n) (hsz : ls.size = nL) (hst : st0 = As.reverse ++ rest) (hcat : (rest.map fun v => v.category).sum ≤ 8) (hdg : decode cc pc = .ok (.invokestatic index, 3)) (hf : cells ≤ R.cells ∧ slots ≤ R.slots)
    (kk : ∀ (H1 : Heap) (locs1 : List Loc), va_P D vwCl ws' H1 → va_D A ws' → va_S A s.heap H1 locs1 → W p l e R s m args below meth c H1 locs1 cells slots Q (F0 m (pc + 3) ls (.int r :: rest))) : W p l e R s m args below meth c H locs cells slots Q (F0 m pc ls st0) := by
  obtain ⟨CF, hK, hT, hA, hlocks⟩ := id C
  have hF := own_free hD hS hA
  refine va_calli (va_runS CF (hM H.size) cw ⟨cP_blind, own_pre C hP hD hS _⟩ rfl hn hsz hst (lv_room hcat) hdg hf) hS (fun q _ h => hF q h) hF (fun r1 u t H1 locs1 ht hvm hpost hB hz hk hS1 => ?_)
  subst hpost
  obtain ⟨hP1, hK1, hD1⟩ := hB
  rw [ht] at hP1
  exact kk H1 locs1 hP1 (hD1.weaken (fun _ q _ hq => hF q.1 hq)) hS1
theorem x_callNi (C : Cx p s m args meth c D cy tT tF A cc nL own) (hP : va_P D vwCl ws H) (hD : va_D A ws) (hS : va_S A s.heap H locs) (hM : CMi l y wd rm D cy tT tF As ws r ws') (cw : va_CN R s args own index y host bytes maxL ret wd rm 0 0 n ∧ (Cond.static y).before args s = true ∧ True) (hn : As.length = n) (hsz : ls.size = nL) (hst : st0 = As.reverse ++ rest) (hcat : (rest.map fun v => v.category).sum ≤ 8) (hdg : decode cc pc = .ok (.invokestatic index, 3)) (hf : cells ≤ R.cells ∧ slots ≤ R.slots)
    (kk : ∀ (H1 : Heap) (locs1 : List Loc), va_P D vwCl ws' H1 → va_D A ws' → va_S A s.heap H1 locs1 → W p l e R s m args below meth c H1 locs1 cells slots Q (F0 m (pc + 3) ls (.int r :: rest))) : W p l e R s m args below meth c H locs cells slots Q (F0 m pc ls st0) := by
  obtain ⟨CF, hK, hT, hA, hlocks⟩ := id C
  have hF := own_free hD hS hA
  refine va_calli (va_runSN CF (hM H.size) cw ⟨cP_blind, own_pre C hP hD hS _⟩ rfl hn hsz hst (lv_room hcat) hdg hf) hS (fun q _ h => hF q h) hF (fun r1 u t H1 locs1 ht hvm hpost hB hz hk hS1 => ?_)
  subst hpost
  obtain ⟨hP1, hK1, hD1⟩ := hB
  rw [ht] at hP1
  exact kk H1 locs1 hP1 (hD1.weaken (fun _ q _ hq => hF q.1 hq)) hS1
theorem x_get (C : Cx p s m args meth c D cy tT tF A cc nL own) (hP : va_P D vwCl ws H) {ref Cl : String} {T : u_T} {N ci : Nat} (hin : ∀ w ∈ u_ws Cl T N, w ∈ wsL_law) (q0 : Nat) {fs : List Value} (he : ws[q0]? = some (b, .inr (ci, fs))) (hc : vwCl[ci]? = some (Cl, T, N)) (k : Nat) (hk : k < N) (hlink : Cond.fieldLink own index (T k).1 (T k).2.1 (T k).2.2.1 ∈ wsL_law) {v : Value} (hv : fs[k]? = some v) (hdg : decode cc pc = .ok (.getfield index, 3))
    (kk : W p l e R s m args below meth c H locs cells slots Q (F0 m (pc + 3) ls (v :: rest))) : W p l e R s m args below meth c H locs cells slots Q (F0 m pc ls (.ref b :: rest)) := by
  obtain ⟨⟨hx, hb, hml, hown, hts⟩, hK, hT, hA, hlocks⟩ := C
  exact va_get hx hb hts hin hown hK hP q0 he hc k hk (hts _ hlink) (fun _ h => h) hv hdg kk
theorem x_put (C : Cx p s m args meth c D cy tT tF A cc nL own) (hP : va_P D vwCl ws H) (hD : va_D A ws) (hS : va_S A s.heap H locs) {Cl : String} {T : u_T} {N ci : Nat} (hin : ∀ w ∈ u_ws Cl T N, w ∈ wsL_law) (ty0 : Nat → FieldType) (hty : ∀ k, k < N → parseFieldDescriptor (T k).2.2.1 = some (ty0 k)) (hnm : ∀ a, a < N → ∀ b, b < N → a ≠ b → (T a).2.1 ≠ (T b).2.1) (q0 : Nat) {fs : List Value} (he : ws[q0]? = some (b, .inr (ci, fs))) (hc : vwCl[ci]? = some (Cl, T, N)) (k : Nat) (hk : k < N) (hlink : Cond.fieldLink own index (T k).1 (T k).2.1 (T k).2.2.1 ∈ wsL_law) (hfin : (T k).2.2.2 = false) {v : Value} (hn : narrow (ty0 k) v = v) (hfit : fits (ty0 k) v = true) (hl : k < fs.length) (hset : ws.set q0 (b, .inr (ci, fs.set k v)) = ws') (hdg : decode cc pc = .ok (.putfield index, 3))
    (kk : ∀ (H1 : Heap) (locs1 : List Loc), va_P D vwCl ws' H1 → va_D A ws' → va_S A s.heap H1 locs1 → W p l e R s m args below meth c H1 locs1 cells slots Q (F0 m (pc + 3) ls rest)) : W p l e R s m args below meth c H locs cells slots Q (F0 m pc ls (v :: .ref b :: rest)) := by
  obtain ⟨⟨hx, hb, hml, hown, hts⟩, hK, hT, hA, hlocks⟩ := C
  subst hset
  exact va_put hx hb hts hin ty0 hty hnm hown hK hP hD hS q0 he hc k hk (hts _ hlink) (fun _ h => h) hfin (hty k hk) hn hfit hl hdg kk
theorem x_ild (C : Cx p s m args meth c D cy tT tF A cc nL own) (hP : va_P D vwCl ws H) (q0 : Nat) {n0 : Nat} {f : Nat → Int32} (ha : ws[q0]? = some (b, .inl (cy 0, n0, .inl f))) {i : Int32} (hin : vp_in i n0) (hdg : decode cc pc = .ok (.iaload, 1))
    (kk : W p l e R s m args below meth c H locs cells slots Q (F0 m (pc + 1) ls (.int (f i.toNatClampNeg) :: rest))) : W p l e R s m args below meth c H locs cells slots Q (F0 m pc ls (.int i :: .ref b :: rest)) := by
  obtain ⟨⟨hx, hb, hml, hown, hts⟩, hK, hT, hA, hlocks⟩ := C
  exact va_iald hx hb hK hP q0 0 ha rfl hin hdg kk
theorem x_zld (C : Cx p s m args meth c D cy tT tF A cc nL own) (hP : va_P D vwCl ws H) (q0 : Nat) {n0 : Nat} {f : Nat → Int32} (ha : ws[q0]? = some (b, .inl (cy 2, n0, .inl f))) {i : Int32} (hin : vp_in i n0) (hdg : decode cc pc = .ok (.baload, 1))
    (kk : W p l e R s m args below meth c H locs cells slots Q (F0 m (pc + 1) ls (.int (f i.toNatClampNeg) :: rest))) : W p l e R s m args below meth c H locs cells slots Q (F0 m pc ls (.int i :: .ref b :: rest)) := by
  obtain ⟨⟨hx, hb, hml, hown, hts⟩, hK, hT, hA, hlocks⟩ := C
  exact va_zald hx hb hK hP q0 2 ha rfl hin hdg kk
theorem x_lld (C : Cx p s m args meth c D cy tT tF A cc nL own) (hP : va_P D vwCl ws H) (q0 : Nat) {n0 : Nat} {f : Nat → Int64} (ha : ws[q0]? = some (b, .inl (cy 1, n0, .inr (.inl f)))) {i : Int32} (hin : vp_in i n0) (hdg : decode cc pc = .ok (.laload, 1))
    (kk : W p l e R s m args below meth c H locs cells slots Q (F0 m (pc + 1) ls (.long (f i.toNatClampNeg) :: rest))) : W p l e R s m args below meth c H locs cells slots Q (F0 m pc ls (.int i :: .ref b :: rest)) := by
  obtain ⟨⟨hx, hb, hml, hown, hts⟩, hK, hT, hA, hlocks⟩ := C
  exact va_lald hx hb hK hP q0 1 ha rfl hin hdg kk
theorem x_ist (C : Cx p s m args meth c D cy tT tF A cc nL own) (hP : va_P D vwCl ws H) (hD : va_D A ws) (hS : va_S A s.heap H locs) (q0 : Nat) {n0 : Nat} {f : Nat → Int32} (ha : ws[q0]? = some (b, .inl (cy 0, n0, .inl f))) {i v : Int32} (hin : vp_in i n0) (hset : ws.set q0 (b, .inl (cy 0, n0, .inl (upd f i.toNatClampNeg v))) = ws') (hdg : decode cc pc = .ok (.iastore, 1))
    (kk : ∀ (H1 : Heap) (locs1 : List Loc), va_P D vwCl ws' H1 → va_D A ws' → va_S A s.heap H1 locs1 → W p l e R s m args below meth c H1 locs1 cells slots Q (F0 m (pc + 1) ls rest)) : W p l e R s m args below meth c H locs cells slots Q (F0 m pc ls (.int v :: .int i :: .ref b :: rest)) := by
  obtain ⟨⟨hx, hb, hml, hown, hts⟩, hK, hT, hA, hlocks⟩ := C
  subst hset
  exact va_iast hx hb hK hP hD hS q0 0 ha rfl hin hdg kk
theorem x_zst (C : Cx p s m args meth c D cy tT tF A cc nL own) (hP : va_P D vwCl ws H) (hD : va_D A ws) (hS : va_S A s.heap H locs) (q0 : Nat) {n0 : Nat} {f : Nat → Int32} (ha : ws[q0]? = some (b, .inl (cy 2, n0, .inl f))) {i v : Int32} (hin : vp_in i n0) (hv : vp_nar .boolean v = v) (hset : ws.set q0 (b, .inl (cy 2, n0, .inl (upd f i.toNatClampNeg v))) = ws') (hdg : decode cc pc = .ok (.bastore, 1))
    (kk : ∀ (H1 : Heap) (locs1 : List Loc), va_P D vwCl ws' H1 → va_D A ws' → va_S A s.heap H1 locs1 → W p l e R s m args below meth c H1 locs1 cells slots Q (F0 m (pc + 1) ls rest)) : W p l e R s m args below meth c H locs cells slots Q (F0 m pc ls (.int v :: .int i :: .ref b :: rest)) := by
  obtain ⟨⟨hx, hb, hml, hown, hts⟩, hK, hT, hA, hlocks⟩ := C
  subst hset
  refine va_zast hx hb hK hP hD hS q0 2 ha rfl hin hdg ?_
  rw [hv]
  exact kk
theorem x_lst (C : Cx p s m args meth c D cy tT tF A cc nL own) (hP : va_P D vwCl ws H) (hD : va_D A ws) (hS : va_S A s.heap H locs) (q0 : Nat) {n0 : Nat} {f : Nat → Int64} (ha : ws[q0]? = some (b, .inl (cy 1, n0, .inr (.inl f)))) {i : Int32} {v : Int64} (hin : vp_in i n0) (hset : ws.set q0 (b, .inl (cy 1, n0, .inr (.inl (vp_updL f i.toNatClampNeg v)))) = ws') (hdg : decode cc pc = .ok (.lastore, 1))
    (kk : ∀ (H1 : Heap) (locs1 : List Loc), va_P D vwCl ws' H1 → va_D A ws' → va_S A s.heap H1 locs1 → W p l e R s m args below meth c H1 locs1 cells slots Q (F0 m (pc + 1) ls rest)) : W p l e R s m args below meth c H locs cells slots Q (F0 m pc ls (.long v :: .int i :: .ref b :: rest)) := by
  obtain ⟨⟨hx, hb, hml, hown, hts⟩, hK, hT, hA, hlocks⟩ := C
  subst hset
  exact va_last hx hb hK hP hD hS q0 1 ha rfl hin hdg kk
theorem x_alen (C : Cx p s m args meth c D cy tT tF A cc nL own) (hP : va_P D vwCl ws H) (q0 : Nat) {n0 : Nat} {f : Nat → Int32} (ha : ws[q0]? = some (b, .inl (cy 0, n0, .inl f))) {v : Int32} (hv : Int32.ofNat n0 = v) (hdg : decode cc pc = .ok (.arraylength, 1))
    (kk : W p l e R s m args below meth c H locs cells slots Q (F0 m (pc + 1) ls (.int v :: rest))) : W p l e R s m args below meth c H locs cells slots Q (F0 m pc ls (.ref b :: rest)) := by
  obtain ⟨⟨hx, hb, hml, hown, hts⟩, hK, hT, hA, hlocks⟩ := C
  exact va_alen hx hb hK hP q0 0 ha rfl hv hdg kk
theorem x_tens (C : Cx p s m args meth c D cy tT tF A cc nL own) (hS : va_S A s.heap H locs) (hlink : Cond.fieldLink own index RX7 "TENS" "[I" ∈ wsL_law) (hdg : decode cc pc = .ok (.getstatic index, 3))
    (kk : W p l e R s m args below meth c H locs cells slots Q (F0 m (pc + 3) ls (.ref tT :: rest))) : W p l e R s m args below meth c H locs cells slots Q (F0 m pc ls rest) := by
  obtain ⟨⟨hx, hb, hml, hown, hts⟩, hK, hT, hA, hlocks⟩ := C
  exact va_gets hx hb hT.1 hS hown (hts _ hlink) (fun _ h => h) hdg kk
theorem x_facs (C : Cx p s m args meth c D cy tT tF A cc nL own) (hS : va_S A s.heap H locs) (hlink : Cond.fieldLink own index RX7 "FACTORIALS" "[I" ∈ wsL_law) (hdg : decode cc pc = .ok (.getstatic index, 3))
    (kk : W p l e R s m args below meth c H locs cells slots Q (F0 m (pc + 3) ls (.ref tF :: rest))) : W p l e R s m args below meth c H locs cells slots Q (F0 m pc ls rest) := by
  obtain ⟨⟨hx, hb, hml, hown, hts⟩, hK, hT, hA, hlocks⟩ := C
  exact va_gets hx hb hT.2.2.1 hS hown (hts _ hlink) (fun _ h => h) hdg kk
theorem x_facsN (C : Cx p s m args meth c D cy tT tF A cc nL RX4) (hS : va_S A s.heap H locs) (hdg : decode cc pc = .ok (.getstatic 135, 3))
    (kk : W p l e R s m args below meth c H locs cells slots Q (F0 m (pc + 3) ls (.ref tF :: rest))) : W p l e R s m args below meth c H locs cells slots Q (F0 m pc ls rest) := by
  obtain ⟨⟨hx, hb, hml, hown, hts⟩, hK, hT, hA, hlocks⟩ := C
  exact va_getsN hx hb hT.2.2.1 hS hown (va_Nw.use rfl hT.2.2.2.2.1) (fun _ h => h) hdg kk
theorem x_tld (C : Cx p s m args meth c D cy tT tF A cc nL own) (hS : va_S A s.heap H locs) {i : Int32} (hin : vp_in i 9) (hdg : decode cc pc = .ok (.iaload, 1))
    (kk : W p l e R s m args below meth c H locs cells slots Q (F0 m (pc + 1) ls (.int (tens i.toNatClampNeg) :: rest))) : W p l e R s m args below meth c H locs cells slots Q (F0 m pc ls (.int i :: .ref tT :: rest)) := by
  obtain ⟨⟨hx, hb, hml, hown, hts⟩, hK, hT, hA, hlocks⟩ := C
  exact va_ti hx hb hT.2.1 hS hin rfl hdg kk
theorem x_fld (C : Cx p s m args meth c D cy tT tF A cc nL own) (hS : va_S A s.heap H locs) {i : Int32} (hin : vp_in i 5) (hdg : decode cc pc = .ok (.iaload, 1))
    (kk : W p l e R s m args below meth c H locs cells slots Q (F0 m (pc + 1) ls (.int (facs i.toNatClampNeg) :: rest))) : W p l e R s m args below meth c H locs cells slots Q (F0 m pc ls (.int i :: .ref tF :: rest)) := by
  obtain ⟨⟨hx, hb, hml, hown, hts⟩, hK, hT, hA, hlocks⟩ := C
  exact va_ti hx hb hT.2.2.2.1 hS hin rfl hdg kk
theorem x_tlen (C : Cx p s m args meth c D cy tT tF A cc nL own) (hS : va_S A s.heap H locs) (hdg : decode cc pc = .ok (.arraylength, 1))
    (kk : W p l e R s m args below meth c H locs cells slots Q (F0 m (pc + 1) ls (.int 9 :: rest))) : W p l e R s m args below meth c H locs cells slots Q (F0 m pc ls (.ref tT :: rest)) := by
  obtain ⟨⟨hx, hb, hml, hown, hts⟩, hK, hT, hA, hlocks⟩ := C
  exact va_tlen hx hb hT.2.1 hS (v := 9) rfl hdg kk
theorem x_max (C : Cx p s m args meth c D cy tT tF A cc nL own) (hsz : ls.size = nL) (hlink : Cond.methodLink own index Lib.Math.max.name ∈ wsL_law) (h1 : Cond.static Lib.Math.max.name ∈ wsL_law) (h2 : Cond.initialized "java/lang/Math" ∈ wsL_law) (h3 : Cond.code Lib.Math.max.name Lib.Math.max.code 2 (some .int) ∈ wsL_law) (hframes : 1 ≤ R.frames) (hlocals : (rest.map fun v => v.category).sum + 13 ≤ R.locals) (hf : cells ≤ R.cells ∧ slots ≤ R.slots) {x y : Int32} (hdg : decode cc pc = .ok (.invokestatic index, 3))
    (kk : W p l e R s m args below meth c H locs cells slots Q (F0 m (pc + 3) ls (.int (if x < y then y else x) :: rest))) : W p l e R s m args below meth c H locs cells slots Q (F0 m pc ls (.int y :: .int x :: rest)) := by
  obtain ⟨⟨hx, hb, hml, hown, hts⟩, hK, hT, hA, hlocks⟩ := C
  exact va_mmax hx hb (hml.trans hsz.symm) hown (hts _ hlink) (hts _ h1) (hts _ h2) (hts _ h3) hframes hlocals hf.1 hf.2 hdg kk
theorem x_min (C : Cx p s m args meth c D cy tT tF A cc nL own) (hsz : ls.size = nL) (hlink : Cond.methodLink own index Lib.Math.min.name ∈ wsL_law) (h1 : Cond.static Lib.Math.min.name ∈ wsL_law) (h2 : Cond.initialized "java/lang/Math" ∈ wsL_law) (h3 : Cond.code Lib.Math.min.name Lib.Math.min.code 2 (some .int) ∈ wsL_law) (hframes : 1 ≤ R.frames) (hlocals : (rest.map fun v => v.category).sum + 13 ≤ R.locals) (hf : cells ≤ R.cells ∧ slots ≤ R.slots) {x y : Int32} (hdg : decode cc pc = .ok (.invokestatic index, 3))
    (kk : W p l e R s m args below meth c H locs cells slots Q (F0 m (pc + 3) ls (.int (if y < x then y else x) :: rest))) : W p l e R s m args below meth c H locs cells slots Q (F0 m pc ls (.int y :: .int x :: rest)) := by
  obtain ⟨⟨hx, hb, hml, hown, hts⟩, hK, hT, hA, hlocks⟩ := C
  exact va_mmin hx hb (hml.trans hsz.symm) hown (hts _ hlink) (hts _ h1) (hts _ h2) (hts _ h3) hframes hlocals hf.1 hf.2 hdg kk
/-- the value on top gets a name -/
theorem x_ti {v x : Int32} (hv : v = x) (k : W p l e R s m args below meth c H locs cells slots Q (F0 m pc ls (.int v :: rest))) : W p l e R s m args below meth c H locs cells slots Q (F0 m pc ls (.int x :: rest)) := hv ▸ k
theorem x_tl {v x : Int64} (hv : v = x) (k : W p l e R s m args below meth c H locs cells slots Q (F0 m pc ls (.long v :: rest))) : W p l e R s m args below meth c H locs cells slots Q (F0 m pc ls (.long x :: rest)) := hv ▸ k
end OWN
/-- a contract out of a walk from the entry -/
theorem x_start {l : Launch} {y : MethodName} {cc : ByteArray} {nL : Nat} {ret : Option FieldType} {rm : Room} {D : va_G} {cy : Nat → ClassId} {tT tF : Nat} {av : List Value} {ws : va_W} {Qc : (Nat → Prop) → Array Value → State → Outcome → State → Prop} (hy : plainName y.cls = true) (hlen : (lg_sl av).length ≤ nL)
    (body : ∀ (p : Program) (e : Env) (s : State) (m : MethodId) (below : List Frame) (meth : Method) (c : Code) (A : Nat → Prop) (ls : Array Slot), Cx p s m av.toArray meth c D cy tT tF A cc nL y.cls → meth.sig.returnType = ret → va_P D vwCl ws s.heap → va_D A ws → va_S A s.heap s.heap [] → lv_has ls nL (lv_args 0 av) → W p l e rm s m av.toArray below meth c s.heap [] 0 0 (MQ below (Qc A) av.toArray s 0 0 A) (F0 m 0 ls [])) :
    ∀ sz : Nat, Met l y (Cond.code y cc nL ret :: wsL_law) rm (va_Pc av (cP D cy tT tF ws sz)) (Qc (va_A ws sz)) 0 0 (va_A ws sz) := by
  intro sz
  refine Met.ofW (cc := cc) (maxL := nL) (ret := ret) hy rfl ?_
  intro p e s m args below meth c s₁ B hml hv
  obtain ⟨rfl, hsz, hP, hK, hD0, hT⟩ := hv
  have hts := atoms_spec (ws := Cond.code y cc nL ret :: wsL_law) B.pre
  have hown : s.vm.findClass y.cls = some m.cls := findClass_of_methodNamed B.named
  subst hsz
  have hl := lv_entry av (n := nL) hlen
  rw [lg_entry_eq]
  exact body p e s m below meth c (va_A ws s.heap.size) _ ⟨⟨B.exec, B.bytes, hml, hown, fun w h => hts w (List.mem_cons_of_mem _ h)⟩, hK, hT, fun q h => Or.inr h, B.notSynchronized⟩ B.returns hP hD0.self va_S.rf hl
end
