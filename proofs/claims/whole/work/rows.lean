section
-- ===== PART A: goes FIRST, ahead of the names: the tables' words, and 'selects' of the private methods out of them =====
/-- a private method of a class that the tables say can be made, by its rows of tables_1 -/
def lw_okq (q : MethodName × Nat) : Prop := (q.1.cls ≠ "java/lang/invoke/MethodHandle" ∧ q.1.cls ≠ "java/lang/invoke/VarHandle") ∧ Cond.instantiable q.1.cls q.2 ∈ tables_1 ∧ Cond.privateMethod q.1 ∈ tables_1 ∧ Cond.instanceMethod q.1 ∈ tables_1
theorem lw_p0 : lw_okq (⟨"Percolated", "refuse", "(I)I"⟩, 8) := ⟨⟨by decide +kernel, by decide +kernel⟩, List.mem_of_getElem? (i := 12) (by decide +kernel), List.mem_of_getElem? (i := 135) (by decide +kernel), List.mem_of_getElem? (i := 136) (by decide +kernel)⟩
theorem lw_p1 : lw_okq (⟨"Percolated", "tellAll", "()I"⟩, 8) := ⟨⟨by decide +kernel, by decide +kernel⟩, List.mem_of_getElem? (i := 12) (by decide +kernel), List.mem_of_getElem? (i := 161) (by decide +kernel), List.mem_of_getElem? (i := 162) (by decide +kernel)⟩
theorem lw_p2 : lw_okq (⟨"Percolated", "think", "()V"⟩, 8) := ⟨⟨by decide +kernel, by decide +kernel⟩, List.mem_of_getElem? (i := 12) (by decide +kernel), List.mem_of_getElem? (i := 165) (by decide +kernel), List.mem_of_getElem? (i := 166) (by decide +kernel)⟩
theorem lw_p3 : lw_okq (⟨"Percolated", "tell", "(I)Z"⟩, 8) := ⟨⟨by decide +kernel, by decide +kernel⟩, List.mem_of_getElem? (i := 12) (by decide +kernel), List.mem_of_getElem? (i := 184) (by decide +kernel), List.mem_of_getElem? (i := 185) (by decide +kernel)⟩
theorem lw_p4 : lw_okq (⟨"Percolated", "firstDrip", "()I"⟩, 8) := ⟨⟨by decide +kernel, by decide +kernel⟩, List.mem_of_getElem? (i := 12) (by decide +kernel), List.mem_of_getElem? (i := 353) (by decide +kernel), List.mem_of_getElem? (i := 354) (by decide +kernel)⟩
theorem lw_p5 : lw_okq (⟨"Percolated", "driedAfter", "()I"⟩, 8) := ⟨⟨by decide +kernel, by decide +kernel⟩, List.mem_of_getElem? (i := 12) (by decide +kernel), List.mem_of_getElem? (i := 358) (by decide +kernel), List.mem_of_getElem? (i := 359) (by decide +kernel)⟩
theorem lw_p6 : lw_okq (⟨"Percolated", "settledAfter", "()I"⟩, 8) := ⟨⟨by decide +kernel, by decide +kernel⟩, List.mem_of_getElem? (i := 12) (by decide +kernel), List.mem_of_getElem? (i := 362) (by decide +kernel), List.mem_of_getElem? (i := 363) (by decide +kernel)⟩
theorem lw_p7 : lw_okq (⟨"Percolated", "cupBehind", "(I)I"⟩, 8) := ⟨⟨by decide +kernel, by decide +kernel⟩, List.mem_of_getElem? (i := 12) (by decide +kernel), List.mem_of_getElem? (i := 374) (by decide +kernel), List.mem_of_getElem? (i := 375) (by decide +kernel)⟩
theorem lw_p8 : lw_okq (⟨"Percolated", "rowTellsCup", "()Z"⟩, 8) := ⟨⟨by decide +kernel, by decide +kernel⟩, List.mem_of_getElem? (i := 12) (by decide +kernel), List.mem_of_getElem? (i := 424) (by decide +kernel), List.mem_of_getElem? (i := 425) (by decide +kernel)⟩
theorem lw_p9 : lw_okq (⟨"Percolated", "kindsTold", "(I)I"⟩, 8) := ⟨⟨by decide +kernel, by decide +kernel⟩, List.mem_of_getElem? (i := 12) (by decide +kernel), List.mem_of_getElem? (i := 444) (by decide +kernel), List.mem_of_getElem? (i := 445) (by decide +kernel)⟩
theorem lw_p10 : lw_okq (⟨"Percolated", "figuresTold", "(I)I"⟩, 8) := ⟨⟨by decide +kernel, by decide +kernel⟩, List.mem_of_getElem? (i := 12) (by decide +kernel), List.mem_of_getElem? (i := 452) (by decide +kernel), List.mem_of_getElem? (i := 453) (by decide +kernel)⟩
theorem lw_p11 : lw_okq (⟨"Percolated", "isContent", "(IIIII)Z"⟩, 8) := ⟨⟨by decide +kernel, by decide +kernel⟩, List.mem_of_getElem? (i := 12) (by decide +kernel), List.mem_of_getElem? (i := 460) (by decide +kernel), List.mem_of_getElem? (i := 461) (by decide +kernel)⟩
theorem lw_p12 : lw_okq (⟨"Percolated", "gain", "(IIIII)I"⟩, 8) := ⟨⟨by decide +kernel, by decide +kernel⟩, List.mem_of_getElem? (i := 12) (by decide +kernel), List.mem_of_getElem? (i := 464) (by decide +kernel), List.mem_of_getElem? (i := 465) (by decide +kernel)⟩
theorem lw_p13 : lw_okq (⟨"Percolated", "refuseLong", "(I)J"⟩, 8) := ⟨⟨by decide +kernel, by decide +kernel⟩, List.mem_of_getElem? (i := 12) (by decide +kernel), List.mem_of_getElem? (i := 472) (by decide +kernel), List.mem_of_getElem? (i := 473) (by decide +kernel)⟩
theorem lw_p14 : lw_okq (⟨"Percolated", "houseHoldingMost", "()I"⟩, 8) := ⟨⟨by decide +kernel, by decide +kernel⟩, List.mem_of_getElem? (i := 12) (by decide +kernel), List.mem_of_getElem? (i := 491) (by decide +kernel), List.mem_of_getElem? (i := 492) (by decide +kernel)⟩
theorem lw_p15 : lw_okq (⟨"Percolated", "housesAtCup", "()I"⟩, 8) := ⟨⟨by decide +kernel, by decide +kernel⟩, List.mem_of_getElem? (i := 12) (by decide +kernel), List.mem_of_getElem? (i := 495) (by decide +kernel), List.mem_of_getElem? (i := 496) (by decide +kernel)⟩
def lw_privs_1 : List (MethodName × Nat) := [(⟨"Percolated", "refuse", "(I)I"⟩, 8), (⟨"Percolated", "tellAll", "()I"⟩, 8), (⟨"Percolated", "think", "()V"⟩, 8), (⟨"Percolated", "tell", "(I)Z"⟩, 8), (⟨"Percolated", "firstDrip", "()I"⟩, 8), (⟨"Percolated", "driedAfter", "()I"⟩, 8), (⟨"Percolated", "settledAfter", "()I"⟩, 8), (⟨"Percolated", "cupBehind", "(I)I"⟩, 8), (⟨"Percolated", "rowTellsCup", "()Z"⟩, 8), (⟨"Percolated", "kindsTold", "(I)I"⟩, 8), (⟨"Percolated", "figuresTold", "(I)I"⟩, 8), (⟨"Percolated", "isContent", "(IIIII)Z"⟩, 8), (⟨"Percolated", "gain", "(IIIII)I"⟩, 8), (⟨"Percolated", "refuseLong", "(I)J"⟩, 8), (⟨"Percolated", "houseHoldingMost", "()I"⟩, 8), (⟨"Percolated", "housesAtCup", "()I"⟩, 8)]
theorem lw_r1 : ∀ q ∈ lw_privs_1, lw_okq q := List.forall_mem_cons.mpr ⟨lw_p0, List.forall_mem_cons.mpr ⟨lw_p1, List.forall_mem_cons.mpr ⟨lw_p2, List.forall_mem_cons.mpr ⟨lw_p3, List.forall_mem_cons.mpr ⟨lw_p4, List.forall_mem_cons.mpr ⟨lw_p5, List.forall_mem_cons.mpr ⟨lw_p6, List.forall_mem_cons.mpr ⟨lw_p7, List.forall_mem_cons.mpr ⟨lw_p8, List.forall_mem_cons.mpr ⟨lw_p9, List.forall_mem_cons.mpr ⟨lw_p10, List.forall_mem_cons.mpr ⟨lw_p11, List.forall_mem_cons.mpr ⟨lw_p12, List.forall_mem_cons.mpr ⟨lw_p13, List.forall_mem_cons.mpr ⟨lw_p14, List.forall_mem_cons.mpr ⟨lw_p15, fun _ h => absurd h List.not_mem_nil⟩⟩⟩⟩⟩⟩⟩⟩⟩⟩⟩⟩⟩⟩⟩⟩
theorem lw_p16 : lw_okq (⟨"Percolated", "longestWay", "()I"⟩, 8) := ⟨⟨by decide +kernel, by decide +kernel⟩, List.mem_of_getElem? (i := 12) (by decide +kernel), List.mem_of_getElem? (i := 507) (by decide +kernel), List.mem_of_getElem? (i := 508) (by decide +kernel)⟩
theorem lw_p17 : lw_okq (⟨"Percolated", "longestStill", "()I"⟩, 8) := ⟨⟨by decide +kernel, by decide +kernel⟩, List.mem_of_getElem? (i := 12) (by decide +kernel), List.mem_of_getElem? (i := 514) (by decide +kernel), List.mem_of_getElem? (i := 515) (by decide +kernel)⟩
theorem lw_p18 : lw_okq (⟨"Percolated", "twins", "()I"⟩, 8) := ⟨⟨by decide +kernel, by decide +kernel⟩, List.mem_of_getElem? (i := 12) (by decide +kernel), List.mem_of_getElem? (i := 522) (by decide +kernel), List.mem_of_getElem? (i := 523) (by decide +kernel)⟩
theorem lw_p19 : lw_okq (⟨"Percolated", "liveWeek", "(I)I"⟩, 8) := ⟨⟨by decide +kernel, by decide +kernel⟩, List.mem_of_getElem? (i := 12) (by decide +kernel), List.mem_of_getElem? (i := 571) (by decide +kernel), List.mem_of_getElem? (i := 572) (by decide +kernel)⟩
theorem lw_p20 : lw_okq (⟨"Percolated", "refusalsCounted", "(I)I"⟩, 8) := ⟨⟨by decide +kernel, by decide +kernel⟩, List.mem_of_getElem? (i := 12) (by decide +kernel), List.mem_of_getElem? (i := 600) (by decide +kernel), List.mem_of_getElem? (i := 601) (by decide +kernel)⟩
theorem lw_p21 : lw_okq (⟨"PercolatedModel", "refuse", "(I)I"⟩, 34) := ⟨⟨by decide +kernel, by decide +kernel⟩, List.mem_of_getElem? (i := 604) (by decide +kernel), List.mem_of_getElem? (i := 717) (by decide +kernel), List.mem_of_getElem? (i := 718) (by decide +kernel)⟩
theorem lw_p22 : lw_okq (⟨"PercolatedModel", "readStatement", "()V"⟩, 34) := ⟨⟨by decide +kernel, by decide +kernel⟩, List.mem_of_getElem? (i := 604) (by decide +kernel), List.mem_of_getElem? (i := 725) (by decide +kernel), List.mem_of_getElem? (i := 726) (by decide +kernel)⟩
theorem lw_p23 : lw_okq (⟨"PercolatedModel", "here", "()I"⟩, 34) := ⟨⟨by decide +kernel, by decide +kernel⟩, List.mem_of_getElem? (i := 604) (by decide +kernel), List.mem_of_getElem? (i := 729) (by decide +kernel), List.mem_of_getElem? (i := 730) (by decide +kernel)⟩
theorem lw_p24 : lw_okq (⟨"PercolatedModel", "readNumbers", "(II)V"⟩, 34) := ⟨⟨by decide +kernel, by decide +kernel⟩, List.mem_of_getElem? (i := 604) (by decide +kernel), List.mem_of_getElem? (i := 736) (by decide +kernel), List.mem_of_getElem? (i := 737) (by decide +kernel)⟩
theorem lw_p25 : lw_okq (⟨"PercolatedModel", "readDigits", "(I)I"⟩, 34) := ⟨⟨by decide +kernel, by decide +kernel⟩, List.mem_of_getElem? (i := 604) (by decide +kernel), List.mem_of_getElem? (i := 740) (by decide +kernel), List.mem_of_getElem? (i := 741) (by decide +kernel)⟩
theorem lw_p26 : lw_okq (⟨"PercolatedModel", "think", "()V"⟩, 34) := ⟨⟨by decide +kernel, by decide +kernel⟩, List.mem_of_getElem? (i := 604) (by decide +kernel), List.mem_of_getElem? (i := 749) (by decide +kernel), List.mem_of_getElem? (i := 750) (by decide +kernel)⟩
theorem lw_p27 : lw_okq (⟨"PercolatedModel", "carryAll", "([IZ)V"⟩, 34) := ⟨⟨by decide +kernel, by decide +kernel⟩, List.mem_of_getElem? (i := 604) (by decide +kernel), List.mem_of_getElem? (i := 753) (by decide +kernel), List.mem_of_getElem? (i := 754) (by decide +kernel)⟩
theorem lw_p28 : lw_okq (⟨"PercolatedModel", "carry", "(I)I"⟩, 34) := ⟨⟨by decide +kernel, by decide +kernel⟩, List.mem_of_getElem? (i := 604) (by decide +kernel), List.mem_of_getElem? (i := 757) (by decide +kernel), List.mem_of_getElem? (i := 758) (by decide +kernel)⟩
theorem lw_p29 : lw_okq (⟨"PercolatedModel", "comesTold", "(I)Z"⟩, 34) := ⟨⟨by decide +kernel, by decide +kernel⟩, List.mem_of_getElem? (i := 604) (by decide +kernel), List.mem_of_getElem? (i := 761) (by decide +kernel), List.mem_of_getElem? (i := 762) (by decide +kernel)⟩
theorem lw_p30 : lw_okq (⟨"PercolatedModel", "isHouse", "(I)Z"⟩, 34) := ⟨⟨by decide +kernel, by decide +kernel⟩, List.mem_of_getElem? (i := 604) (by decide +kernel), List.mem_of_getElem? (i := 765) (by decide +kernel), List.mem_of_getElem? (i := 766) (by decide +kernel)⟩
theorem lw_p31 : lw_okq (⟨"PercolatedModel", "houseComes", "(II)Z"⟩, 34) := ⟨⟨by decide +kernel, by decide +kernel⟩, List.mem_of_getElem? (i := 604) (by decide +kernel), List.mem_of_getElem? (i := 769) (by decide +kernel), List.mem_of_getElem? (i := 770) (by decide +kernel)⟩
def lw_privs_2 : List (MethodName × Nat) := [(⟨"Percolated", "longestWay", "()I"⟩, 8), (⟨"Percolated", "longestStill", "()I"⟩, 8), (⟨"Percolated", "twins", "()I"⟩, 8), (⟨"Percolated", "liveWeek", "(I)I"⟩, 8), (⟨"Percolated", "refusalsCounted", "(I)I"⟩, 8), (⟨"PercolatedModel", "refuse", "(I)I"⟩, 34), (⟨"PercolatedModel", "readStatement", "()V"⟩, 34), (⟨"PercolatedModel", "here", "()I"⟩, 34), (⟨"PercolatedModel", "readNumbers", "(II)V"⟩, 34), (⟨"PercolatedModel", "readDigits", "(I)I"⟩, 34), (⟨"PercolatedModel", "think", "()V"⟩, 34), (⟨"PercolatedModel", "carryAll", "([IZ)V"⟩, 34), (⟨"PercolatedModel", "carry", "(I)I"⟩, 34), (⟨"PercolatedModel", "comesTold", "(I)Z"⟩, 34), (⟨"PercolatedModel", "isHouse", "(I)Z"⟩, 34), (⟨"PercolatedModel", "houseComes", "(II)Z"⟩, 34)]
theorem lw_r2 : ∀ q ∈ lw_privs_2, lw_okq q := List.forall_mem_cons.mpr ⟨lw_p16, List.forall_mem_cons.mpr ⟨lw_p17, List.forall_mem_cons.mpr ⟨lw_p18, List.forall_mem_cons.mpr ⟨lw_p19, List.forall_mem_cons.mpr ⟨lw_p20, List.forall_mem_cons.mpr ⟨lw_p21, List.forall_mem_cons.mpr ⟨lw_p22, List.forall_mem_cons.mpr ⟨lw_p23, List.forall_mem_cons.mpr ⟨lw_p24, List.forall_mem_cons.mpr ⟨lw_p25, List.forall_mem_cons.mpr ⟨lw_p26, List.forall_mem_cons.mpr ⟨lw_p27, List.forall_mem_cons.mpr ⟨lw_p28, List.forall_mem_cons.mpr ⟨lw_p29, List.forall_mem_cons.mpr ⟨lw_p30, List.forall_mem_cons.mpr ⟨lw_p31, fun _ h => absurd h List.not_mem_nil⟩⟩⟩⟩⟩⟩⟩⟩⟩⟩⟩⟩⟩⟩⟩⟩
theorem lw_p32 : lw_okq (⟨"PercolatedModel", "pourIn", "(II)V"⟩, 34) := ⟨⟨by decide +kernel, by decide +kernel⟩, List.mem_of_getElem? (i := 604) (by decide +kernel), List.mem_of_getElem? (i := 773) (by decide +kernel), List.mem_of_getElem? (i := 774) (by decide +kernel)⟩
theorem lw_p33 : lw_okq (⟨"PercolatedModel", "hoursTold", "(I)Z"⟩, 34) := ⟨⟨by decide +kernel, by decide +kernel⟩, List.mem_of_getElem? (i := 604) (by decide +kernel), List.mem_of_getElem? (i := 780) (by decide +kernel), List.mem_of_getElem? (i := 781) (by decide +kernel)⟩
theorem lw_p34 : lw_okq (⟨"PercolatedModel", "goHours", "(I)V"⟩, 34) := ⟨⟨by decide +kernel, by decide +kernel⟩, List.mem_of_getElem? (i := 604) (by decide +kernel), List.mem_of_getElem? (i := 785) (by decide +kernel), List.mem_of_getElem? (i := 786) (by decide +kernel)⟩
theorem lw_p35 : lw_okq (⟨"PercolatedModel", "hourBy", "(Z)V"⟩, 34) := ⟨⟨by decide +kernel, by decide +kernel⟩, List.mem_of_getElem? (i := 604) (by decide +kernel), List.mem_of_getElem? (i := 789) (by decide +kernel), List.mem_of_getElem? (i := 790) (by decide +kernel)⟩
theorem lw_p36 : lw_okq (⟨"PercolatedModel", "letsOf", "(I)I"⟩, 34) := ⟨⟨by decide +kernel, by decide +kernel⟩, List.mem_of_getElem? (i := 604) (by decide +kernel), List.mem_of_getElem? (i := 796) (by decide +kernel), List.mem_of_getElem? (i := 797) (by decide +kernel)⟩
theorem lw_p37 : lw_okq (⟨"PercolatedModel", "addsOf", "(I)I"⟩, 34) := ⟨⟨by decide +kernel, by decide +kernel⟩, List.mem_of_getElem? (i := 604) (by decide +kernel), List.mem_of_getElem? (i := 800) (by decide +kernel), List.mem_of_getElem? (i := 801) (by decide +kernel)⟩
theorem lw_p38 : lw_okq (⟨"PercolatedModel", "again", "()V"⟩, 34) := ⟨⟨by decide +kernel, by decide +kernel⟩, List.mem_of_getElem? (i := 604) (by decide +kernel), List.mem_of_getElem? (i := 804) (by decide +kernel), List.mem_of_getElem? (i := 805) (by decide +kernel)⟩
theorem lw_p39 : lw_okq (⟨"PercolatedModel", "letNext", "(I)I"⟩, 34) := ⟨⟨by decide +kernel, by decide +kernel⟩, List.mem_of_getElem? (i := 604) (by decide +kernel), List.mem_of_getElem? (i := 825) (by decide +kernel), List.mem_of_getElem? (i := 826) (by decide +kernel)⟩
theorem lw_p40 : lw_okq (⟨"PercolatedModel", "keepTurn", "()V"⟩, 34) := ⟨⟨by decide +kernel, by decide +kernel⟩, List.mem_of_getElem? (i := 604) (by decide +kernel), List.mem_of_getElem? (i := 842) (by decide +kernel), List.mem_of_getElem? (i := 843) (by decide +kernel)⟩
theorem lw_p41 : lw_okq (⟨"PercolatedModel", "allHold", "()I"⟩, 34) := ⟨⟨by decide +kernel, by decide +kernel⟩, List.mem_of_getElem? (i := 604) (by decide +kernel), List.mem_of_getElem? (i := 873) (by decide +kernel), List.mem_of_getElem? (i := 874) (by decide +kernel)⟩
theorem lw_p42 : lw_okq (⟨"PercolatedModel", "firstDrip", "()I"⟩, 34) := ⟨⟨by decide +kernel, by decide +kernel⟩, List.mem_of_getElem? (i := 604) (by decide +kernel), List.mem_of_getElem? (i := 881) (by decide +kernel), List.mem_of_getElem? (i := 882) (by decide +kernel)⟩
theorem lw_p43 : lw_okq (⟨"PercolatedModel", "dryIn", "()I"⟩, 34) := ⟨⟨by decide +kernel, by decide +kernel⟩, List.mem_of_getElem? (i := 604) (by decide +kernel), List.mem_of_getElem? (i := 885) (by decide +kernel), List.mem_of_getElem? (i := 886) (by decide +kernel)⟩
theorem lw_p44 : lw_okq (⟨"PercolatedModel", "settledIn", "()I"⟩, 34) := ⟨⟨by decide +kernel, by decide +kernel⟩, List.mem_of_getElem? (i := 604) (by decide +kernel), List.mem_of_getElem? (i := 889) (by decide +kernel), List.mem_of_getElem? (i := 890) (by decide +kernel)⟩
theorem lw_p45 : lw_okq (⟨"PercolatedModel", "isAsHad", "()Z"⟩, 34) := ⟨⟨by decide +kernel, by decide +kernel⟩, List.mem_of_getElem? (i := 604) (by decide +kernel), List.mem_of_getElem? (i := 893) (by decide +kernel), List.mem_of_getElem? (i := 894) (by decide +kernel)⟩
theorem lw_p46 : lw_okq (⟨"PercolatedModel", "cupThen", "(I)I"⟩, 34) := ⟨⟨by decide +kernel, by decide +kernel⟩, List.mem_of_getElem? (i := 604) (by decide +kernel), List.mem_of_getElem? (i := 905) (by decide +kernel), List.mem_of_getElem? (i := 906) (by decide +kernel)⟩
theorem lw_p47 : lw_okq (⟨"PercolatedModel", "wayBits", "(I)I"⟩, 34) := ⟨⟨by decide +kernel, by decide +kernel⟩, List.mem_of_getElem? (i := 604) (by decide +kernel), List.mem_of_getElem? (i := 932) (by decide +kernel), List.mem_of_getElem? (i := 933) (by decide +kernel)⟩
def lw_privs_3 : List (MethodName × Nat) := [(⟨"PercolatedModel", "pourIn", "(II)V"⟩, 34), (⟨"PercolatedModel", "hoursTold", "(I)Z"⟩, 34), (⟨"PercolatedModel", "goHours", "(I)V"⟩, 34), (⟨"PercolatedModel", "hourBy", "(Z)V"⟩, 34), (⟨"PercolatedModel", "letsOf", "(I)I"⟩, 34), (⟨"PercolatedModel", "addsOf", "(I)I"⟩, 34), (⟨"PercolatedModel", "again", "()V"⟩, 34), (⟨"PercolatedModel", "letNext", "(I)I"⟩, 34), (⟨"PercolatedModel", "keepTurn", "()V"⟩, 34), (⟨"PercolatedModel", "allHold", "()I"⟩, 34), (⟨"PercolatedModel", "firstDrip", "()I"⟩, 34), (⟨"PercolatedModel", "dryIn", "()I"⟩, 34), (⟨"PercolatedModel", "settledIn", "()I"⟩, 34), (⟨"PercolatedModel", "isAsHad", "()Z"⟩, 34), (⟨"PercolatedModel", "cupThen", "(I)I"⟩, 34), (⟨"PercolatedModel", "wayBits", "(I)I"⟩, 34)]
theorem lw_r3 : ∀ q ∈ lw_privs_3, lw_okq q := List.forall_mem_cons.mpr ⟨lw_p32, List.forall_mem_cons.mpr ⟨lw_p33, List.forall_mem_cons.mpr ⟨lw_p34, List.forall_mem_cons.mpr ⟨lw_p35, List.forall_mem_cons.mpr ⟨lw_p36, List.forall_mem_cons.mpr ⟨lw_p37, List.forall_mem_cons.mpr ⟨lw_p38, List.forall_mem_cons.mpr ⟨lw_p39, List.forall_mem_cons.mpr ⟨lw_p40, List.forall_mem_cons.mpr ⟨lw_p41, List.forall_mem_cons.mpr ⟨lw_p42, List.forall_mem_cons.mpr ⟨lw_p43, List.forall_mem_cons.mpr ⟨lw_p44, List.forall_mem_cons.mpr ⟨lw_p45, List.forall_mem_cons.mpr ⟨lw_p46, List.forall_mem_cons.mpr ⟨lw_p47, fun _ h => absurd h List.not_mem_nil⟩⟩⟩⟩⟩⟩⟩⟩⟩⟩⟩⟩⟩⟩⟩⟩
theorem lw_p48 : lw_okq (⟨"PercolatedModel", "isRow", "()Z"⟩, 34) := ⟨⟨by decide +kernel, by decide +kernel⟩, List.mem_of_getElem? (i := 604) (by decide +kernel), List.mem_of_getElem? (i := 940) (by decide +kernel), List.mem_of_getElem? (i := 941) (by decide +kernel)⟩
theorem lw_p49 : lw_okq (⟨"PercolatedModel", "fullestOne", "()I"⟩, 34) := ⟨⟨by decide +kernel, by decide +kernel⟩, List.mem_of_getElem? (i := 604) (by decide +kernel), List.mem_of_getElem? (i := 975) (by decide +kernel), List.mem_of_getElem? (i := 976) (by decide +kernel)⟩
theorem lw_p50 : lw_okq (⟨"PercolatedModel", "pumpBits", "()I"⟩, 34) := ⟨⟨by decide +kernel, by decide +kernel⟩, List.mem_of_getElem? (i := 604) (by decide +kernel), List.mem_of_getElem? (i := 979) (by decide +kernel), List.mem_of_getElem? (i := 980) (by decide +kernel)⟩
theorem lw_p51 : lw_okq (⟨"PercolatedModel", "deepest", "()I"⟩, 34) := ⟨⟨by decide +kernel, by decide +kernel⟩, List.mem_of_getElem? (i := 604) (by decide +kernel), List.mem_of_getElem? (i := 983) (by decide +kernel), List.mem_of_getElem? (i := 984) (by decide +kernel)⟩
theorem lw_p52 : lw_okq (⟨"PercolatedModel", "longestStill", "()I"⟩, 34) := ⟨⟨by decide +kernel, by decide +kernel⟩, List.mem_of_getElem? (i := 604) (by decide +kernel), List.mem_of_getElem? (i := 987) (by decide +kernel), List.mem_of_getElem? (i := 988) (by decide +kernel)⟩
theorem lw_p53 : lw_okq (⟨"PercolatedModel", "twinTwos", "()I"⟩, 34) := ⟨⟨by decide +kernel, by decide +kernel⟩, List.mem_of_getElem? (i := 604) (by decide +kernel), List.mem_of_getElem? (i := 991) (by decide +kernel), List.mem_of_getElem? (i := 992) (by decide +kernel)⟩
theorem lw_p54 : lw_okq (⟨"PercolatedModel", "drawBelow", "(I)I"⟩, 34) := ⟨⟨by decide +kernel, by decide +kernel⟩, List.mem_of_getElem? (i := 604) (by decide +kernel), List.mem_of_getElem? (i := 1032) (by decide +kernel), List.mem_of_getElem? (i := 1033) (by decide +kernel)⟩
def lw_privs_4 : List (MethodName × Nat) := [(⟨"PercolatedModel", "isRow", "()Z"⟩, 34), (⟨"PercolatedModel", "fullestOne", "()I"⟩, 34), (⟨"PercolatedModel", "pumpBits", "()I"⟩, 34), (⟨"PercolatedModel", "deepest", "()I"⟩, 34), (⟨"PercolatedModel", "longestStill", "()I"⟩, 34), (⟨"PercolatedModel", "twinTwos", "()I"⟩, 34), (⟨"PercolatedModel", "drawBelow", "(I)I"⟩, 34)]
theorem lw_r4 : ∀ q ∈ lw_privs_4, lw_okq q := List.forall_mem_cons.mpr ⟨lw_p48, List.forall_mem_cons.mpr ⟨lw_p49, List.forall_mem_cons.mpr ⟨lw_p50, List.forall_mem_cons.mpr ⟨lw_p51, List.forall_mem_cons.mpr ⟨lw_p52, List.forall_mem_cons.mpr ⟨lw_p53, List.forall_mem_cons.mpr ⟨lw_p54, fun _ h => absurd h List.not_mem_nil⟩⟩⟩⟩⟩⟩⟩
def lw_privs : List (MethodName × Nat) := lw_privs_1 ++ (lw_privs_2 ++ (lw_privs_3 ++ (lw_privs_4)))
def lw_tbl : List Cond := k2_sels lw_privs ++ tables_1
theorem lw_privs_ok : ∀ q ∈ lw_privs, lw_okq q := by
  show ∀ q ∈ lw_privs_1 ++ (lw_privs_2 ++ (lw_privs_3 ++ (lw_privs_4))), lw_okq q
  exact List.forall_mem_append.mpr ⟨lw_r1, List.forall_mem_append.mpr ⟨lw_r2, List.forall_mem_append.mpr ⟨lw_r3, lw_r4⟩⟩⟩
/-- the tables' words that every method may keep -/
def gTbl : List Cond := lw_tbl.filter goodWord
theorem gTbl_in : ∀ w ∈ gTbl, w ∈ lw_tbl := fun w h => (List.mem_filter.mp h).1
theorem gTbl_good : ∀ w ∈ gTbl, goodWord w = true := fun w h => (List.mem_filter.mp h).2
theorem gTbl_of {w : Cond} (h : w ∈ lw_tbl) (g : goodWord w = true) : w ∈ gTbl := List.mem_filter.mpr ⟨h, g⟩
end
section
/-! ===== BEGIN words of one list among another's, by their places ===== -/
theorem goodIn_r {big : List Cond} (ws : List Cond) (ps : List Nat) (hp : ws = ps.filterMap (fun i => big[i]?)) (h : ws.all goodWord = true) : GoodIn big ws := by
  intro w hw
  have h1 := List.all_eq_true.mp h w hw
  rw [hp] at hw
  obtain ⟨i, -, hi⟩ := List.mem_filterMap.mp hw
  have hm : w ∈ big := by first | exact List.mem_of_getElem? hi | exact List.getElem?_mem hi
  exact ⟨hm, good_of_word h1⟩
theorem goodIn_app {big a b : List Cond} (ha : GoodIn big a) (hb : GoodIn big b) : GoodIn big (a ++ b) := fun w h => (List.mem_append.mp h).elim (ha w) (hb w)
theorem goodIn_ca {big a b : List Cond} {c : Cond} (ha : GoodIn big (c :: a)) (hb : GoodIn big b) : GoodIn big (c :: (a ++ b)) := fun w h => (List.mem_cons.mp h).elim (fun e => ha w (List.mem_cons.mpr (Or.inl e))) (fun h => (List.mem_append.mp h).elim (fun h => ha w (List.mem_cons.mpr (Or.inr h))) (hb w))
theorem goodIn_sub {big ws : List Cond} (hm : ∀ w ∈ ws, w ∈ big) (h : ws.all goodWord = true) : GoodIn big ws := fun w hw => ⟨hm w hw, good_of_word (List.all_eq_true.mp h w hw)⟩
/-! ===== END ===== -/

/-! ===== BEGIN printed: names, fields, word lists, decode rows ===== -/
def RX0 : String := "Percolated$Kinds"
def TX0 : u_T := fun k => match k with
  | _ => ("", "", "", false)
def tyX0 : Nat → FieldType := fun k => match k with
  | _ => .int
abbrev wsX00 : List Cond := u_ws RX0 TX0 0
theorem nmX0 : ∀ a, a < 0 → ∀ b, b < 0 → a ≠ b → (TX0 a).2.1 ≠ (TX0 b).2.1 := by decide +kernel
theorem tyX0_ok : ∀ k, k < 0 → parseFieldDescriptor (TX0 k).2.2.1 = some (tyX0 k) := by decide +kernel
abbrev cX0_letsThrough : ByteArray := prog_2_method_2_code
def yX0_letsThrough : MethodName := ⟨RX0, "letsThrough", "(III)I"⟩
abbrev cX0_wouldLet : ByteArray := prog_2_method_3_code
def yX0_wouldLet : MethodName := ⟨RX0, "wouldLet", "(III)I"⟩
abbrev cX0_adds : ByteArray := prog_2_method_4_code
def yX0_adds : MethodName := ⟨RX0, "adds", "(II)I"⟩
abbrev cX0_stands : ByteArray := prog_2_method_5_code
def yX0_stands : MethodName := ⟨RX0, "stands", "(I)I"⟩
def RX1 : String := "Percolated$Letters"
def TX1 : u_T := fun k => match k with
  | 0 => ("Percolated$Letters", "told", "[I", true)
  | _ => ("Percolated$Letters", "size", "I", false)
def tyX1 : Nat → FieldType := fun k => match k with
  | 0 => .array .int
  | _ => .int
abbrev wsX10 : List Cond := u_ws RX1 TX1 2
theorem nmX1 : ∀ a, a < 2 → ∀ b, b < 2 → a ≠ b → (TX1 a).2.1 ≠ (TX1 b).2.1 := by decide +kernel
theorem tyX1_ok : ∀ k, k < 2 → parseFieldDescriptor (TX1 k).2.2.1 = some (tyX1 k) := by decide +kernel
abbrev cX1_init : ByteArray := prog_3_method_1_code
def yX1_init : MethodName := ⟨RX1, "<init>", "()V"⟩
abbrev cX1_size : ByteArray := prog_3_method_2_code
def yX1_size : MethodName := ⟨RX1, "size", "()I"⟩
abbrev cX1_drop : ByteArray := prog_3_method_3_code
def yX1_drop : MethodName := ⟨RX1, "drop", "()V"⟩
abbrev cX1_add : ByteArray := prog_3_method_4_code
def yX1_add : MethodName := ⟨RX1, "add", "(I)Z"⟩
abbrev cX1_at : ByteArray := prog_3_method_5_code
def yX1_at : MethodName := ⟨RX1, "at", "(I)I"⟩
abbrev cX1_digitAt : ByteArray := prog_3_method_6_code
def yX1_digitAt : MethodName := ⟨RX1, "digitAt", "(I)I"⟩
abbrev cX1_beginsAt : ByteArray := prog_3_method_7_code
def yX1_beginsAt : MethodName := ⟨RX1, "beginsAt", "(I)Z"⟩
abbrev cX1_firstFault : ByteArray := prog_3_method_8_code
def yX1_firstFault : MethodName := ⟨RX1, "firstFault", "()I"⟩
abbrev cX1_isDigit : ByteArray := prog_3_method_9_code
def yX1_isDigit : MethodName := ⟨RX1, "isDigit", "(I)Z"⟩
abbrev cX1_digitsBehind : ByteArray := prog_3_method_10_code
def yX1_digitsBehind : MethodName := ⟨RX1, "digitsBehind", "(I)I"⟩
def RX2 : String := "Percolated$Numbers"
def TX2 : u_T := fun k => match k with
  | 0 => ("Percolated$Numbers", "told", "[I", true)
  | _ => ("Percolated$Numbers", "size", "I", false)
def tyX2 : Nat → FieldType := fun k => match k with
  | 0 => .array .int
  | _ => .int
abbrev wsX20 : List Cond := u_ws RX2 TX2 2
theorem nmX2 : ∀ a, a < 2 → ∀ b, b < 2 → a ≠ b → (TX2 a).2.1 ≠ (TX2 b).2.1 := by decide +kernel
theorem tyX2_ok : ∀ k, k < 2 → parseFieldDescriptor (TX2 k).2.2.1 = some (tyX2 k) := by decide +kernel
abbrev cX2_init : ByteArray := prog_4_method_1_code
def yX2_init : MethodName := ⟨RX2, "<init>", "()V"⟩
abbrev cX2_size : ByteArray := prog_4_method_2_code
def yX2_size : MethodName := ⟨RX2, "size", "()I"⟩
abbrev cX2_drop : ByteArray := prog_4_method_3_code
def yX2_drop : MethodName := ⟨RX2, "drop", "()V"⟩
abbrev cX2_add : ByteArray := prog_4_method_4_code
def yX2_add : MethodName := ⟨RX2, "add", "(I)Z"⟩
abbrev cX2_at : ByteArray := prog_4_method_5_code
def yX2_at : MethodName := ⟨RX2, "at", "(I)I"⟩
def RX3 : String := "Percolated$Parish"
def TX3 : u_T := fun k => match k with
  | 0 => ("Percolated$Parish", "kind", "[I", true)
  | 1 => ("Percolated$Parish", "figure", "[I", true)
  | 2 => ("Percolated$Parish", "held", "[I", true)
  | 3 => ("Percolated$Parish", "next", "[I", true)
  | 4 => ("Percolated$Parish", "built", "I", false)
  | 5 => ("Percolated$Parish", "stopped", "I", false)
  | 6 => ("Percolated$Parish", "wet", "I", false)
  | 7 => ("Percolated$Parish", "cup", "I", false)
  | 8 => ("Percolated$Parish", "hour", "I", false)
  | _ => ("Percolated$Parish", "dripped", "Z", false)
def tyX3 : Nat → FieldType := fun k => match k with
  | 0 => .array .int
  | 1 => .array .int
  | 2 => .array .int
  | 3 => .array .int
  | 4 => .int
  | 5 => .int
  | 6 => .int
  | 7 => .int
  | 8 => .int
  | _ => .boolean
abbrev wsX30 : List Cond := u_ws RX3 TX3 10
theorem nmX3 : ∀ a, a < 10 → ∀ b, b < 10 → a ≠ b → (TX3 a).2.1 ≠ (TX3 b).2.1 := by decide +kernel
theorem tyX3_ok : ∀ k, k < 10 → parseFieldDescriptor (TX3 k).2.2.1 = some (tyX3 k) := by decide +kernel
abbrev cX3_init : ByteArray := prog_5_method_1_code
def yX3_init : MethodName := ⟨RX3, "<init>", "()V"⟩
abbrev cX3_become : ByteArray := prog_5_method_2_code
def yX3_become : MethodName := ⟨RX3, "become", "(LPercolated$Parish;)V"⟩
abbrev cX3_there : ByteArray := prog_5_method_3_code
def yX3_there : MethodName := ⟨RX3, "there", "(I)Z"⟩
abbrev cX3_houses : ByteArray := prog_5_method_4_code
def yX3_houses : MethodName := ⟨RX3, "houses", "()I"⟩
abbrev cX3_kindOf : ByteArray := prog_5_method_5_code
def yX3_kindOf : MethodName := ⟨RX3, "kindOf", "(I)I"⟩
abbrev cX3_figureOf : ByteArray := prog_5_method_6_code
def yX3_figureOf : MethodName := ⟨RX3, "figureOf", "(I)I"⟩
abbrev cX3_holdsOf : ByteArray := prog_5_method_7_code
def yX3_holdsOf : MethodName := ⟨RX3, "holdsOf", "(I)I"⟩
abbrev cX3_nextOf : ByteArray := prog_5_method_8_code
def yX3_nextOf : MethodName := ⟨RX3, "nextOf", "(I)I"⟩
abbrev cX3_isBlocked : ByteArray := prog_5_method_9_code
def yX3_isBlocked : MethodName := ⟨RX3, "isBlocked", "(I)Z"⟩
abbrev cX3_isWet : ByteArray := prog_5_method_10_code
def yX3_isWet : MethodName := ⟨RX3, "isWet", "(I)Z"⟩
abbrev cX3_letsThrough : ByteArray := prog_5_method_11_code
def yX3_letsThrough : MethodName := ⟨RX3, "letsThrough", "(I)I"⟩
abbrev cX3_allBits : ByteArray := prog_5_method_12_code
def yX3_allBits : MethodName := ⟨RX3, "allBits", "()I"⟩
abbrev cX3_blockedBits : ByteArray := prog_5_method_13_code
def yX3_blockedBits : MethodName := ⟨RX3, "blockedBits", "()I"⟩
abbrev cX3_wetBits : ByteArray := prog_5_method_14_code
def yX3_wetBits : MethodName := ⟨RX3, "wetBits", "()I"⟩
abbrev cX3_inCup : ByteArray := prog_5_method_15_code
def yX3_inCup : MethodName := ⟨RX3, "inCup", "()I"⟩
abbrev cX3_hour : ByteArray := prog_5_method_16_code
def yX3_hour : MethodName := ⟨RX3, "hour", "()I"⟩
abbrev cX3_hasTimeFor : ByteArray := prog_5_method_17_code
def yX3_hasTimeFor : MethodName := ⟨RX3, "hasTimeFor", "(I)Z"⟩
abbrev cX3_hasDripped : ByteArray := prog_5_method_18_code
def yX3_hasDripped : MethodName := ⟨RX3, "hasDripped", "()Z"⟩
abbrev cX3_holdsInAll : ByteArray := prog_5_method_19_code
def yX3_holdsInAll : MethodName := ⟨RX3, "holdsInAll", "()I"⟩
abbrev cX3_wayBits : ByteArray := prog_5_method_20_code
def yX3_wayBits : MethodName := ⟨RX3, "wayBits", "(I)I"⟩
abbrev cX3_build : ByteArray := prog_5_method_21_code
def yX3_build : MethodName := ⟨RX3, "build", "(II)Z"⟩
abbrev cX3_remake : ByteArray := prog_5_method_22_code
def yX3_remake : MethodName := ⟨RX3, "remake", "(III)V"⟩
abbrev cX3_lead : ByteArray := prog_5_method_23_code
def yX3_lead : MethodName := ⟨RX3, "lead", "(II)Z"⟩
abbrev cX3_blockOrFree : ByteArray := prog_5_method_24_code
def yX3_blockOrFree : MethodName := ⟨RX3, "blockOrFree", "(I)Z"⟩
abbrev cX3_block : ByteArray := prog_5_method_25_code
def yX3_block : MethodName := ⟨RX3, "block", "(I)V"⟩
abbrev cX3_free : ByteArray := prog_5_method_26_code
def yX3_free : MethodName := ⟨RX3, "free", "(I)V"⟩
abbrev cX3_fill : ByteArray := prog_5_method_27_code
def yX3_fill : MethodName := ⟨RX3, "fill", "(II)Z"⟩
abbrev cX3_emptyCup : ByteArray := prog_5_method_28_code
def yX3_emptyCup : MethodName := ⟨RX3, "emptyCup", "()V"⟩
abbrev cX3_flow : ByteArray := prog_5_method_29_code
def yX3_flow : MethodName := ⟨RX3, "flow", "()Z"⟩
abbrev cX3_pass : ByteArray := prog_5_method_30_code
def yX3_pass : MethodName := ⟨RX3, "pass", "(I)V"⟩
def RX4 : String := "Percolated$Past"
def TX4 : u_T := fun k => match k with
  | 0 => ("Percolated$Past", "kept", "[LPercolated$Parish;", true)
  | 1 => ("Percolated$Past", "latest", "I", false)
  | _ => ("Percolated$Past", "size", "I", false)
def tyX4 : Nat → FieldType := fun k => match k with
  | 0 => .array (.object "Percolated$Parish")
  | 1 => .int
  | _ => .int
abbrev wsX40 : List Cond := u_ws RX4 TX4 3
theorem nmX4 : ∀ a, a < 3 → ∀ b, b < 3 → a ≠ b → (TX4 a).2.1 ≠ (TX4 b).2.1 := by decide +kernel
theorem tyX4_ok : ∀ k, k < 3 → parseFieldDescriptor (TX4 k).2.2.1 = some (tyX4 k) := by decide +kernel
abbrev cX4_init : ByteArray := prog_6_method_1_code
def yX4_init : MethodName := ⟨RX4, "<init>", "()V"⟩
abbrev cX4_size : ByteArray := prog_6_method_2_code
def yX4_size : MethodName := ⟨RX4, "size", "()I"⟩
abbrev cX4_forget : ByteArray := prog_6_method_3_code
def yX4_forget : MethodName := ⟨RX4, "forget", "()V"⟩
abbrev cX4_keep : ByteArray := prog_6_method_4_code
def yX4_keep : MethodName := ⟨RX4, "keep", "(LPercolated$Parish;)V"⟩
abbrev cX4_giveLatest : ByteArray := prog_6_method_5_code
def yX4_giveLatest : MethodName := ⟨RX4, "giveLatest", "(LPercolated$Parish;)Z"⟩
def RX5 : String := "Percolated"
def TX5 : u_T := fun k => match k with
  | 0 => ("Percolated", "now", "LPercolated$Parish;", true)
  | 1 => ("Percolated", "mind", "LPercolated$Parish;", true)
  | 2 => ("Percolated", "picture", "LPercolated$Parish;", true)
  | 3 => ("Percolated", "past", "LPercolated$Past;", true)
  | 4 => ("Percolated", "letters", "LPercolated$Letters;", true)
  | 5 => ("Percolated", "numbers", "LPercolated$Numbers;", true)
  | 6 => ("Percolated", "refusals", "[I", true)
  | _ => ("Percolated", "pictured", "Z", false)
def tyX5 : Nat → FieldType := fun k => match k with
  | 0 => .object "Percolated$Parish"
  | 1 => .object "Percolated$Parish"
  | 2 => .object "Percolated$Parish"
  | 3 => .object "Percolated$Past"
  | 4 => .object "Percolated$Letters"
  | 5 => .object "Percolated$Numbers"
  | 6 => .array .int
  | _ => .boolean
abbrev wsX50 : List Cond := u_ws RX5 TX5 8
theorem nmX5 : ∀ a, a < 8 → ∀ b, b < 8 → a ≠ b → (TX5 a).2.1 ≠ (TX5 b).2.1 := by decide +kernel
theorem tyX5_ok : ∀ k, k < 8 → parseFieldDescriptor (TX5 k).2.2.1 = some (tyX5 k) := by decide +kernel
abbrev cX5_init : ByteArray := prog_1_method_1_code
def yX5_init : MethodName := ⟨RX5, "<init>", "()V"⟩
abbrev cX5_feed : ByteArray := prog_1_method_2_code
def yX5_feed : MethodName := ⟨RX5, "feed", "(I)I"⟩
abbrev cX5_parish : ByteArray := prog_1_method_3_code
def yX5_parish : MethodName := ⟨RX5, "parish", "()I"⟩
abbrev cX5_houseOf : ByteArray := prog_1_method_4_code
def yX5_houseOf : MethodName := ⟨RX5, "houseOf", "(II)I"⟩
abbrev cX5_house : ByteArray := prog_1_method_5_code
def yX5_house : MethodName := ⟨RX5, "house", "(II)I"⟩
abbrev cX5_joins : ByteArray := prog_1_method_6_code
def yX5_joins : MethodName := ⟨RX5, "joins", "(II)I"⟩
abbrev cX5_blocks : ByteArray := prog_1_method_7_code
def yX5_blocks : MethodName := ⟨RX5, "blocks", "(I)I"⟩
abbrev cX5_pours : ByteArray := prog_1_method_8_code
def yX5_pours : MethodName := ⟨RX5, "pours", "(II)I"⟩
abbrev cX5_empties : ByteArray := prog_1_method_9_code
def yX5_empties : MethodName := ⟨RX5, "empties", "()I"⟩
abbrev cX5_hours : ByteArray := prog_1_method_10_code
def yX5_hours : MethodName := ⟨RX5, "hours", "(I)I"⟩
abbrev cX5_back : ByteArray := prog_1_method_11_code
def yX5_back : MethodName := ⟨RX5, "back", "()I"⟩
abbrev cX5_holdsIn : ByteArray := prog_1_method_12_code
def yX5_holdsIn : MethodName := ⟨RX5, "holdsIn", "(II)I"⟩
abbrev cX5_then : ByteArray := prog_1_method_13_code
def yX5_then : MethodName := ⟨RX5, "then", "(II)I"⟩
abbrev cX5_drip : ByteArray := prog_1_method_14_code
def yX5_drip : MethodName := ⟨RX5, "drip", "(I)I"⟩
abbrev cX5_reaches : ByteArray := prog_1_method_15_code
def yX5_reaches : MethodName := ⟨RX5, "reaches", "(II)I"⟩
abbrev cX5_pour : ByteArray := prog_1_method_16_code
def yX5_pour : MethodName := ⟨RX5, "pour", "(III)I"⟩
abbrev cX5_least : ByteArray := prog_1_method_17_code
def yX5_least : MethodName := ⟨RX5, "least", "(II)I"⟩
abbrev cX5_clearing : ByteArray := prog_1_method_18_code
def yX5_clearing : MethodName := ⟨RX5, "clearing", "(I)I"⟩
abbrev cX5_stop : ByteArray := prog_1_method_19_code
def yX5_stop : MethodName := ⟨RX5, "stop", "(I)I"⟩
abbrev cX5_join : ByteArray := prog_1_method_20_code
def yX5_join : MethodName := ⟨RX5, "join", "(I)I"⟩
abbrev cX5_way : ByteArray := prog_1_method_21_code
def yX5_way : MethodName := ⟨RX5, "way", "(II)I"⟩
abbrev cX5_whichBlocked : ByteArray := prog_1_method_22_code
def yX5_whichBlocked : MethodName := ⟨RX5, "whichBlocked", "()I"⟩
abbrev cX5_wasPoured : ByteArray := prog_1_method_23_code
def yX5_wasPoured : MethodName := ⟨RX5, "wasPoured", "(II)I"⟩
abbrev cX5_whatKind : ByteArray := prog_1_method_24_code
def yX5_whatKind : MethodName := ⟨RX5, "whatKind", "(II)I"⟩
abbrev cX5_two : ByteArray := prog_1_method_25_code
def yX5_two : MethodName := ⟨RX5, "two", "(III)I"⟩
abbrev cX5_blocked : ByteArray := prog_1_method_26_code
def yX5_blocked : MethodName := ⟨RX5, "blocked", "(IIII)J"⟩
abbrev cX5_shares : ByteArray := prog_1_method_27_code
def yX5_shares : MethodName := ⟨RX5, "shares", "(II)I"⟩
abbrev cX5_fullest : ByteArray := prog_1_method_28_code
def yX5_fullest : MethodName := ⟨RX5, "fullest", "(I)I"⟩
abbrev cX5_into : ByteArray := prog_1_method_29_code
def yX5_into : MethodName := ⟨RX5, "into", "(I)I"⟩
abbrev cX5_mean : ByteArray := prog_1_method_30_code
def yX5_mean : MethodName := ⟨RX5, "mean", "(I)J"⟩
abbrev cX5_strong : ByteArray := prog_1_method_31_code
def yX5_strong : MethodName := ⟨RX5, "strong", "(I)I"⟩
abbrev cX5_kinds : ByteArray := prog_1_method_32_code
def yX5_kinds : MethodName := ⟨RX5, "kinds", "(I)I"⟩
abbrev cX5_turn : ByteArray := prog_1_method_33_code
def yX5_turn : MethodName := ⟨RX5, "turn", "(II)I"⟩
abbrev cX5_row : ByteArray := prog_1_method_34_code
def yX5_row : MethodName := ⟨RX5, "row", "(I)I"⟩
abbrev cX5_judge : ByteArray := prog_1_method_35_code
def yX5_judge : MethodName := ⟨RX5, "judge", "()I"⟩
abbrev cX5_clear : ByteArray := prog_1_method_36_code
def yX5_clear : MethodName := ⟨RX5, "clear", "()I"⟩
abbrev cX5_lots : ByteArray := prog_1_method_37_code
def yX5_lots : MethodName := ⟨RX5, "lots", "(III)I"⟩
abbrev cX5_image : ByteArray := prog_1_method_38_code
def yX5_image : MethodName := ⟨RX5, "image", "()I"⟩
abbrev cX5_restore : ByteArray := prog_1_method_39_code
def yX5_restore : MethodName := ⟨RX5, "restore", "()I"⟩
abbrev cX5_count : ByteArray := prog_1_method_40_code
def yX5_count : MethodName := ⟨RX5, "count", "(I)I"⟩
abbrev cX5_refusalsCounted : ByteArray := prog_1_method_41_code
def yX5_refusalsCounted : MethodName := ⟨RX5, "refusalsCounted", "(I)I"⟩
abbrev cX5_refuse : ByteArray := prog_1_method_42_code
def yX5_refuse : MethodName := ⟨RX5, "refuse", "(I)I"⟩
abbrev cX5_refuseLong : ByteArray := prog_1_method_43_code
def yX5_refuseLong : MethodName := ⟨RX5, "refuseLong", "(I)J"⟩
abbrev cX5_outside : ByteArray := prog_1_method_44_code
def yX5_outside : MethodName := ⟨RX5, "outside", "(III)I"⟩
abbrev cX5_think : ByteArray := prog_1_method_45_code
def yX5_think : MethodName := ⟨RX5, "think", "()V"⟩
abbrev cX5_cupBehind : ByteArray := prog_1_method_46_code
def yX5_cupBehind : MethodName := ⟨RX5, "cupBehind", "(I)I"⟩
abbrev cX5_tellAll : ByteArray := prog_1_method_47_code
def yX5_tellAll : MethodName := ⟨RX5, "tellAll", "()I"⟩
abbrev cX5_tell : ByteArray := prog_1_method_48_code
def yX5_tell : MethodName := ⟨RX5, "tell", "(I)Z"⟩
abbrev cX5_firstDrip : ByteArray := prog_1_method_49_code
def yX5_firstDrip : MethodName := ⟨RX5, "firstDrip", "()I"⟩
abbrev cX5_driedAfter : ByteArray := prog_1_method_50_code
def yX5_driedAfter : MethodName := ⟨RX5, "driedAfter", "()I"⟩
abbrev cX5_settledAfter : ByteArray := prog_1_method_51_code
def yX5_settledAfter : MethodName := ⟨RX5, "settledAfter", "()I"⟩
abbrev cX5_rowTellsCup : ByteArray := prog_1_method_52_code
def yX5_rowTellsCup : MethodName := ⟨RX5, "rowTellsCup", "()Z"⟩
abbrev cX5_kindsTold : ByteArray := prog_1_method_53_code
def yX5_kindsTold : MethodName := ⟨RX5, "kindsTold", "(I)I"⟩
abbrev cX5_figuresTold : ByteArray := prog_1_method_54_code
def yX5_figuresTold : MethodName := ⟨RX5, "figuresTold", "(I)I"⟩
abbrev cX5_isContent : ByteArray := prog_1_method_55_code
def yX5_isContent : MethodName := ⟨RX5, "isContent", "(IIIII)Z"⟩
abbrev cX5_gain : ByteArray := prog_1_method_56_code
def yX5_gain : MethodName := ⟨RX5, "gain", "(IIIII)I"⟩
abbrev cX5_houseHoldingMost : ByteArray := prog_1_method_57_code
def yX5_houseHoldingMost : MethodName := ⟨RX5, "houseHoldingMost", "()I"⟩
abbrev cX5_housesAtCup : ByteArray := prog_1_method_58_code
def yX5_housesAtCup : MethodName := ⟨RX5, "housesAtCup", "()I"⟩
abbrev cX5_longestWay : ByteArray := prog_1_method_59_code
def yX5_longestWay : MethodName := ⟨RX5, "longestWay", "()I"⟩
abbrev cX5_longestStill : ByteArray := prog_1_method_60_code
def yX5_longestStill : MethodName := ⟨RX5, "longestStill", "()I"⟩
abbrev cX5_twins : ByteArray := prog_1_method_61_code
def yX5_twins : MethodName := ⟨RX5, "twins", "()I"⟩
abbrev cX5_liveWeek : ByteArray := prog_1_method_62_code
def yX5_liveWeek : MethodName := ⟨RX5, "liveWeek", "(I)I"⟩
abbrev cX5_nextSeed : ByteArray := prog_1_method_63_code
def yX5_nextSeed : MethodName := ⟨RX5, "nextSeed", "(I)I"⟩
abbrev cX5_drawn : ByteArray := prog_1_method_64_code
def yX5_drawn : MethodName := ⟨RX5, "drawn", "(II)I"⟩
abbrev cX5_partOf : ByteArray := prog_1_method_65_code
def yX5_partOf : MethodName := ⟨RX5, "partOf", "(JJI)J"⟩
abbrev cX5_commonDivisor : ByteArray := prog_1_method_66_code
def yX5_commonDivisor : MethodName := ⟨RX5, "commonDivisor", "(JJ)J"⟩
def RX6 : String := "PercolatedModel"
def TX6 : u_T := fun k => match k with
  | 0 => ("PercolatedModel", "many", "I", false)
  | 1 => ("PercolatedModel", "kinds0", "[I", true)
  | 2 => ("PercolatedModel", "figures", "[I", true)
  | 3 => ("PercolatedModel", "holds", "[I", true)
  | 4 => ("PercolatedModel", "nexts", "[I", true)
  | 5 => ("PercolatedModel", "shut", "I", false)
  | 6 => ("PercolatedModel", "wet", "I", false)
  | 7 => ("PercolatedModel", "cup", "I", false)
  | 8 => ("PercolatedModel", "today", "I", false)
  | 9 => ("PercolatedModel", "thrown", "I", false)
  | 10 => ("PercolatedModel", "refusals", "[I", true)
  | 11 => ("PercolatedModel", "isDripping", "Z", false)
  | 12 => ("PercolatedModel", "letters", "[I", true)
  | 13 => ("PercolatedModel", "letterMany", "I", false)
  | 14 => ("PercolatedModel", "at0", "I", false)
  | 15 => ("PercolatedModel", "isBad", "Z", false)
  | 16 => ("PercolatedModel", "statements", "I", false)
  | 17 => ("PercolatedModel", "placeIn", "[I", true)
  | 18 => ("PercolatedModel", "letterOf", "[I", true)
  | 19 => ("PercolatedModel", "numbers", "[I", true)
  | 20 => ("PercolatedModel", "kept", "[I", true)
  | 21 => ("PercolatedModel", "imaged", "[I", true)
  | 22 => ("PercolatedModel", "hasImage", "Z", false)
  | 23 => ("PercolatedModel", "place0", "I", false)
  | 24 => ("PercolatedModel", "isTaking", "Z", false)
  | 25 => ("PercolatedModel", "keptIn", "[I", false)
  | 26 => ("PercolatedModel", "turns0", "[I", true)
  | 27 => ("PercolatedModel", "turnOf", "[I", true)
  | 28 => ("PercolatedModel", "turned", "I", false)
  | 29 => ("PercolatedModel", "had", "[I", true)
  | 30 => ("PercolatedModel", "row", "[I", true)
  | 31 => ("PercolatedModel", "rowMany", "I", false)
  | 32 => ("PercolatedModel", "gains", "[I", true)
  | _ => ("PercolatedModel", "seed", "I", false)
def tyX6 : Nat → FieldType := fun k => match k with
  | 0 => .int
  | 1 => .array .int
  | 2 => .array .int
  | 3 => .array .int
  | 4 => .array .int
  | 5 => .int
  | 6 => .int
  | 7 => .int
  | 8 => .int
  | 9 => .int
  | 10 => .array .int
  | 11 => .boolean
  | 12 => .array .int
  | 13 => .int
  | 14 => .int
  | 15 => .boolean
  | 16 => .int
  | 17 => .array .int
  | 18 => .array .int
  | 19 => .array .int
  | 20 => .array .int
  | 21 => .array .int
  | 22 => .boolean
  | 23 => .int
  | 24 => .boolean
  | 25 => .array .int
  | 26 => .array .int
  | 27 => .array .int
  | 28 => .int
  | 29 => .array .int
  | 30 => .array .int
  | 31 => .int
  | 32 => .array .int
  | _ => .int
abbrev wsX60 : List Cond := u_ws RX6 TX6 34
theorem nmX6 : ∀ a, a < 34 → ∀ b, b < 34 → a ≠ b → (TX6 a).2.1 ≠ (TX6 b).2.1 := by decide +kernel
theorem tyX6_ok : ∀ k, k < 34 → parseFieldDescriptor (TX6 k).2.2.1 = some (tyX6 k) := by decide +kernel
abbrev cX6_init : ByteArray := prog_8_method_1_code
def yX6_init : MethodName := ⟨RX6, "<init>", "()V"⟩
abbrev cX6_in : ByteArray := prog_8_method_3_code
def yX6_in : MethodName := ⟨RX6, "in", "(JJJ)Z"⟩
abbrev cX6_refuse : ByteArray := prog_8_method_4_code
def yX6_refuse : MethodName := ⟨RX6, "refuse", "(I)I"⟩
abbrev cX6_isHouse : ByteArray := prog_8_method_5_code
def yX6_isHouse : MethodName := ⟨RX6, "isHouse", "(I)Z"⟩
abbrev cX6_wrongNumber : ByteArray := prog_8_method_6_code
def yX6_wrongNumber : MethodName := ⟨RX6, "wrongNumber", "(III)I"⟩
abbrev cX6_wrongBit : ByteArray := prog_8_method_7_code
def yX6_wrongBit : MethodName := ⟨RX6, "wrongBit", "(III)I"⟩
abbrev cX6_hasBit : ByteArray := prog_8_method_8_code
def yX6_hasBit : MethodName := ⟨RX6, "hasBit", "(II)Z"⟩
abbrev cX6_onesOf : ByteArray := prog_8_method_9_code
def yX6_onesOf : MethodName := ⟨RX6, "onesOf", "(I)I"⟩
abbrev cX6_held : ByteArray := prog_8_method_10_code
def yX6_held : MethodName := ⟨RX6, "held", "(II)I"⟩
abbrev cX6_letsOf : ByteArray := prog_8_method_11_code
def yX6_letsOf : MethodName := ⟨RX6, "letsOf", "(I)I"⟩
abbrev cX6_addsOf : ByteArray := prog_8_method_12_code
def yX6_addsOf : MethodName := ⟨RX6, "addsOf", "(I)I"⟩
abbrev cX6_pourIn : ByteArray := prog_8_method_13_code
def yX6_pourIn : MethodName := ⟨RX6, "pourIn", "(II)V"⟩
abbrev cX6_hourBy : ByteArray := prog_8_method_14_code
def yX6_hourBy : MethodName := ⟨RX6, "hourBy", "(Z)V"⟩
abbrev cX6_goHours : ByteArray := prog_8_method_15_code
def yX6_goHours : MethodName := ⟨RX6, "goHours", "(I)V"⟩
abbrev cX6_allHold : ByteArray := prog_8_method_16_code
def yX6_allHold : MethodName := ⟨RX6, "allHold", "()I"⟩
abbrev cX6_houseComes : ByteArray := prog_8_method_17_code
def yX6_houseComes : MethodName := ⟨RX6, "houseComes", "(II)Z"⟩
abbrev cX6_feed : ByteArray := prog_8_method_18_code
def yX6_feed : MethodName := ⟨RX6, "feed", "(I)I"⟩
abbrev cX6_here : ByteArray := prog_8_method_19_code
def yX6_here : MethodName := ⟨RX6, "here", "()I"⟩
abbrev cX6_readDigits : ByteArray := prog_8_method_20_code
def yX6_readDigits : MethodName := ⟨RX6, "readDigits", "(I)I"⟩
abbrev cX6_isLetter : ByteArray := prog_8_method_21_code
def yX6_isLetter : MethodName := ⟨RX6, "isLetter", "(I)Z"⟩
abbrev cX6_readNumbers : ByteArray := prog_8_method_22_code
def yX6_readNumbers : MethodName := ⟨RX6, "readNumbers", "(II)V"⟩
abbrev cX6_readStatement : ByteArray := prog_8_method_23_code
def yX6_readStatement : MethodName := ⟨RX6, "readStatement", "()V"⟩
abbrev cX6_hoursTold : ByteArray := prog_8_method_24_code
def yX6_hoursTold : MethodName := ⟨RX6, "hoursTold", "(I)Z"⟩
abbrev cX6_comesTold : ByteArray := prog_8_method_25_code
def yX6_comesTold : MethodName := ⟨RX6, "comesTold", "(I)Z"⟩
abbrev cX6_parish : ByteArray := prog_8_method_26_code
def yX6_parish : MethodName := ⟨RX6, "parish", "()I"⟩
abbrev cX6_carry : ByteArray := prog_8_method_27_code
def yX6_carry : MethodName := ⟨RX6, "carry", "(I)I"⟩
abbrev cX6_carryAll : ByteArray := prog_8_method_28_code
def yX6_carryAll : MethodName := ⟨RX6, "carryAll", "([IZ)V"⟩
abbrev cX6_think : ByteArray := prog_8_method_29_code
def yX6_think : MethodName := ⟨RX6, "think", "()V"⟩
abbrev cX6_again : ByteArray := prog_8_method_30_code
def yX6_again : MethodName := ⟨RX6, "again", "()V"⟩
abbrev cX6_image : ByteArray := prog_8_method_31_code
def yX6_image : MethodName := ⟨RX6, "image", "()I"⟩
abbrev cX6_restore : ByteArray := prog_8_method_32_code
def yX6_restore : MethodName := ⟨RX6, "restore", "()I"⟩
abbrev cX6_keepTurn : ByteArray := prog_8_method_33_code
def yX6_keepTurn : MethodName := ⟨RX6, "keepTurn", "()V"⟩
abbrev cX6_back : ByteArray := prog_8_method_34_code
def yX6_back : MethodName := ⟨RX6, "back", "()I"⟩
abbrev cX6_letNext : ByteArray := prog_8_method_35_code
def yX6_letNext : MethodName := ⟨RX6, "letNext", "(I)I"⟩
abbrev cX6_houseOf : ByteArray := prog_8_method_36_code
def yX6_houseOf : MethodName := ⟨RX6, "houseOf", "(II)I"⟩
abbrev cX6_house : ByteArray := prog_8_method_37_code
def yX6_house : MethodName := ⟨RX6, "house", "(II)I"⟩
abbrev cX6_joins : ByteArray := prog_8_method_38_code
def yX6_joins : MethodName := ⟨RX6, "joins", "(II)I"⟩
abbrev cX6_blocks : ByteArray := prog_8_method_39_code
def yX6_blocks : MethodName := ⟨RX6, "blocks", "(I)I"⟩
abbrev cX6_pours : ByteArray := prog_8_method_40_code
def yX6_pours : MethodName := ⟨RX6, "pours", "(II)I"⟩
abbrev cX6_empties : ByteArray := prog_8_method_41_code
def yX6_empties : MethodName := ⟨RX6, "empties", "()I"⟩
abbrev cX6_hours : ByteArray := prog_8_method_42_code
def yX6_hours : MethodName := ⟨RX6, "hours", "(I)I"⟩
abbrev cX6_holdsIn : ByteArray := prog_8_method_43_code
def yX6_holdsIn : MethodName := ⟨RX6, "holdsIn", "(II)I"⟩
abbrev cX6_cupThen : ByteArray := prog_8_method_44_code
def yX6_cupThen : MethodName := ⟨RX6, "cupThen", "(I)I"⟩
abbrev cX6_then : ByteArray := prog_8_method_45_code
def yX6_then : MethodName := ⟨RX6, "then", "(II)I"⟩
abbrev cX6_firstDrip : ByteArray := prog_8_method_46_code
def yX6_firstDrip : MethodName := ⟨RX6, "firstDrip", "()I"⟩
abbrev cX6_dryIn : ByteArray := prog_8_method_47_code
def yX6_dryIn : MethodName := ⟨RX6, "dryIn", "()I"⟩
abbrev cX6_isAsHad : ByteArray := prog_8_method_48_code
def yX6_isAsHad : MethodName := ⟨RX6, "isAsHad", "()Z"⟩
abbrev cX6_settledIn : ByteArray := prog_8_method_49_code
def yX6_settledIn : MethodName := ⟨RX6, "settledIn", "()I"⟩
abbrev cX6_drip : ByteArray := prog_8_method_50_code
def yX6_drip : MethodName := ⟨RX6, "drip", "(I)I"⟩
abbrev cX6_reaches : ByteArray := prog_8_method_51_code
def yX6_reaches : MethodName := ⟨RX6, "reaches", "(II)I"⟩
abbrev cX6_pour : ByteArray := prog_8_method_52_code
def yX6_pour : MethodName := ⟨RX6, "pour", "(III)I"⟩
abbrev cX6_least : ByteArray := prog_8_method_53_code
def yX6_least : MethodName := ⟨RX6, "least", "(II)I"⟩
abbrev cX6_clearing : ByteArray := prog_8_method_54_code
def yX6_clearing : MethodName := ⟨RX6, "clearing", "(I)I"⟩
abbrev cX6_stop : ByteArray := prog_8_method_55_code
def yX6_stop : MethodName := ⟨RX6, "stop", "(I)I"⟩
abbrev cX6_join : ByteArray := prog_8_method_56_code
def yX6_join : MethodName := ⟨RX6, "join", "(I)I"⟩
abbrev cX6_wayBits : ByteArray := prog_8_method_57_code
def yX6_wayBits : MethodName := ⟨RX6, "wayBits", "(I)I"⟩
abbrev cX6_way : ByteArray := prog_8_method_58_code
def yX6_way : MethodName := ⟨RX6, "way", "(II)I"⟩
abbrev cX6_isRow : ByteArray := prog_8_method_59_code
def yX6_isRow : MethodName := ⟨RX6, "isRow", "()Z"⟩
abbrev cX6_whichBlocked : ByteArray := prog_8_method_60_code
def yX6_whichBlocked : MethodName := ⟨RX6, "whichBlocked", "()I"⟩
abbrev cX6_wasPoured : ByteArray := prog_8_method_61_code
def yX6_wasPoured : MethodName := ⟨RX6, "wasPoured", "(II)I"⟩
abbrev cX6_whatKind : ByteArray := prog_8_method_62_code
def yX6_whatKind : MethodName := ⟨RX6, "whatKind", "(II)I"⟩
abbrev cX6_two : ByteArray := prog_8_method_63_code
def yX6_two : MethodName := ⟨RX6, "two", "(III)I"⟩
abbrev cX6_divisor : ByteArray := prog_8_method_64_code
def yX6_divisor : MethodName := ⟨RX6, "divisor", "(JJ)J"⟩
abbrev cX6_partOf : ByteArray := prog_8_method_65_code
def yX6_partOf : MethodName := ⟨RX6, "partOf", "(JJI)J"⟩
abbrev cX6_blocked : ByteArray := prog_8_method_66_code
def yX6_blocked : MethodName := ⟨RX6, "blocked", "(IIII)J"⟩
abbrev cX6_shares : ByteArray := prog_8_method_67_code
def yX6_shares : MethodName := ⟨RX6, "shares", "(II)I"⟩
abbrev cX6_fullestOne : ByteArray := prog_8_method_68_code
def yX6_fullestOne : MethodName := ⟨RX6, "fullestOne", "()I"⟩
abbrev cX6_pumpBits : ByteArray := prog_8_method_69_code
def yX6_pumpBits : MethodName := ⟨RX6, "pumpBits", "()I"⟩
abbrev cX6_deepest : ByteArray := prog_8_method_70_code
def yX6_deepest : MethodName := ⟨RX6, "deepest", "()I"⟩
abbrev cX6_longestStill : ByteArray := prog_8_method_71_code
def yX6_longestStill : MethodName := ⟨RX6, "longestStill", "()I"⟩
abbrev cX6_twinTwos : ByteArray := prog_8_method_72_code
def yX6_twinTwos : MethodName := ⟨RX6, "twinTwos", "()I"⟩
abbrev cX6_fullest : ByteArray := prog_8_method_73_code
def yX6_fullest : MethodName := ⟨RX6, "fullest", "(I)I"⟩
abbrev cX6_into : ByteArray := prog_8_method_74_code
def yX6_into : MethodName := ⟨RX6, "into", "(I)I"⟩
abbrev cX6_mean : ByteArray := prog_8_method_75_code
def yX6_mean : MethodName := ⟨RX6, "mean", "(I)J"⟩
abbrev cX6_strong : ByteArray := prog_8_method_76_code
def yX6_strong : MethodName := ⟨RX6, "strong", "(I)I"⟩
abbrev cX6_kinds : ByteArray := prog_8_method_77_code
def yX6_kinds : MethodName := ⟨RX6, "kinds", "(I)I"⟩
abbrev cX6_turn : ByteArray := prog_8_method_78_code
def yX6_turn : MethodName := ⟨RX6, "turn", "(II)I"⟩
abbrev cX6_row : ByteArray := prog_8_method_79_code
def yX6_row : MethodName := ⟨RX6, "row", "(I)I"⟩
abbrev cX6_judge : ByteArray := prog_8_method_80_code
def yX6_judge : MethodName := ⟨RX6, "judge", "()I"⟩
abbrev cX6_clear : ByteArray := prog_8_method_81_code
def yX6_clear : MethodName := ⟨RX6, "clear", "()I"⟩
abbrev cX6_drawBelow : ByteArray := prog_8_method_82_code
def yX6_drawBelow : MethodName := ⟨RX6, "drawBelow", "(I)I"⟩
abbrev cX6_lots : ByteArray := prog_8_method_83_code
def yX6_lots : MethodName := ⟨RX6, "lots", "(III)I"⟩
abbrev cX6_count : ByteArray := prog_8_method_84_code
def yX6_count : MethodName := ⟨RX6, "count", "(I)I"⟩
def RJ6 : String := "java/lang/Integer"
def TJ6 : u_T := fun k => match k with
  | _ => ("", "", "", false)
def tyJ6 : Nat → FieldType := fun k => match k with
  | _ => .int
abbrev wsJ60 : List Cond := u_ws RJ6 TJ6 0
theorem nmJ6 : ∀ a, a < 0 → ∀ b, b < 0 → a ≠ b → (TJ6 a).2.1 ≠ (TJ6 b).2.1 := by decide +kernel
theorem tyJ6_ok : ∀ k, k < 0 → parseFieldDescriptor (TJ6 k).2.2.1 = some (tyJ6 k) := by decide +kernel
abbrev cJ6_bitCount_0f7a4 : ByteArray := prog_9_method_49_code
def yJ6_bitCount_0f7a4 : MethodName := ⟨RJ6, "bitCount", "(I)I"⟩
def RJ9 : String := "java/lang/Math"
def TJ9 : u_T := fun k => match k with
  | _ => ("", "", "", false)
def tyJ9 : Nat → FieldType := fun k => match k with
  | _ => .int
abbrev wsJ90 : List Cond := u_ws RJ9 TJ9 0
theorem nmJ9 : ∀ a, a < 0 → ∀ b, b < 0 → a ≠ b → (TJ9 a).2.1 ≠ (TJ9 b).2.1 := by decide +kernel
theorem tyJ9_ok : ∀ k, k < 0 → parseFieldDescriptor (TJ9 k).2.2.1 = some (tyJ9 k) := by decide +kernel
abbrev cJ9_max_7cf53 : ByteArray := prog_10_method_65_code
def yJ9_max_7cf53 : MethodName := ⟨RJ9, "max", "(II)I"⟩
abbrev cJ9_min_7cf53 : ByteArray := prog_10_method_69_code
def yJ9_min_7cf53 : MethodName := ⟨RJ9, "min", "(II)I"⟩
def RJ10 : String := "java/lang/System"
def TJ10 : u_T := fun k => match k with
  | _ => ("", "", "", false)
def tyJ10 : Nat → FieldType := fun k => match k with
  | _ => .int
abbrev wsJ100 : List Cond := u_ws RJ10 TJ10 0
theorem nmJ10 : ∀ a, a < 0 → ∀ b, b < 0 → a ≠ b → (TJ10 a).2.1 ≠ (TJ10 b).2.1 := by decide +kernel
theorem tyJ10_ok : ∀ k, k < 0 → parseFieldDescriptor (TJ10 k).2.2.1 = some (tyJ10 k) := by decide +kernel
def RL : String := "PercolatedLaw"
abbrev cL_law : ByteArray := code
def yL_law : MethodName := ⟨RL, "law", "([I)Z"⟩
abbrev vwCl : List vw_C := [(RX1, TX1, 2), (RX2, TX2, 2), (RX3, TX3, 10), (RX4, TX4, 3), (RX5, TX5, 8), (RX6, TX6, 34)]
end
section
theorem dX0_letsThrough_0 : decode cX0_letsThrough 0 = .ok (.iload_n 2, 1) := by decide +kernel
theorem dX0_letsThrough_1 : decode cX0_letsThrough 1 = .ok (.iload_n 0, 1) := by decide +kernel
theorem dX0_letsThrough_2 : decode cX0_letsThrough 2 = .ok (.invokestatic 7, 3) := by decide +kernel
theorem dX0_letsThrough_5 : decode cX0_letsThrough 5 = .ok (.if_icmp .le 12, 3) := by decide +kernel
theorem dX0_letsThrough_8 : decode cX0_letsThrough 8 = .ok (.iload_n 2, 1) := by decide +kernel
theorem dX0_letsThrough_9 : decode cX0_letsThrough 9 = .ok (.iload_n 0, 1) := by decide +kernel
theorem dX0_letsThrough_10 : decode cX0_letsThrough 10 = .ok (.invokestatic 7, 3) := by decide +kernel
theorem dX0_letsThrough_13 : decode cX0_letsThrough 13 = .ok (.isub, 1) := by decide +kernel
theorem dX0_letsThrough_14 : decode cX0_letsThrough 14 = .ok (.goto 4, 3) := by decide +kernel
theorem dX0_letsThrough_17 : decode cX0_letsThrough 17 = .ok (.iconst 0, 1) := by decide +kernel
theorem dX0_letsThrough_18 : decode cX0_letsThrough 18 = .ok (.istore_n 3, 1) := by decide +kernel
theorem dX0_letsThrough_19 : decode cX0_letsThrough 19 = .ok (.iload_n 0, 1) := by decide +kernel
theorem dX0_letsThrough_20 : decode cX0_letsThrough 20 = .ok (.iload_n 1, 1) := by decide +kernel
theorem dX0_letsThrough_21 : decode cX0_letsThrough 21 = .ok (.iload_n 2, 1) := by decide +kernel
theorem dX0_letsThrough_22 : decode cX0_letsThrough 22 = .ok (.invokestatic 13, 3) := by decide +kernel
theorem dX0_letsThrough_25 : decode cX0_letsThrough 25 = .ok (.istore 4, 2) := by decide +kernel
theorem dX0_letsThrough_27 : decode cX0_letsThrough 27 = .ok (.iload 4, 2) := by decide +kernel
theorem dX0_letsThrough_29 : decode cX0_letsThrough 29 = .ok (.iload_n 3, 1) := by decide +kernel
theorem dX0_letsThrough_30 : decode cX0_letsThrough 30 = .ok (.if_icmp .ge 8, 3) := by decide +kernel
theorem dX0_letsThrough_33 : decode cX0_letsThrough 33 = .ok (.iload 4, 2) := by decide +kernel
theorem dX0_letsThrough_35 : decode cX0_letsThrough 35 = .ok (.goto 4, 3) := by decide +kernel
theorem dX0_letsThrough_38 : decode cX0_letsThrough 38 = .ok (.iload_n 3, 1) := by decide +kernel
theorem dX0_letsThrough_39 : decode cX0_letsThrough 39 = .ok (.ireturn, 1) := by decide +kernel
theorem dX0_wouldLet_0 : decode cX0_wouldLet 0 = .ok (.iload_n 0, 1) := by decide +kernel
theorem dX0_wouldLet_1 : decode cX0_wouldLet 1 = .ok (.tableswitch 71 1 5 #[35, 37, 41, 52, 65], 35) := by decide +kernel
theorem dX0_wouldLet_36 : decode cX0_wouldLet 36 = .ok (.iload_n 2, 1) := by decide +kernel
theorem dX0_wouldLet_37 : decode cX0_wouldLet 37 = .ok (.ireturn, 1) := by decide +kernel
theorem dX0_wouldLet_38 : decode cX0_wouldLet 38 = .ok (.iload_n 2, 1) := by decide +kernel
theorem dX0_wouldLet_39 : decode cX0_wouldLet 39 = .ok (.iconst 2, 1) := by decide +kernel
theorem dX0_wouldLet_40 : decode cX0_wouldLet 40 = .ok (.idiv, 1) := by decide +kernel
theorem dX0_wouldLet_41 : decode cX0_wouldLet 41 = .ok (.ireturn, 1) := by decide +kernel
theorem dX0_wouldLet_42 : decode cX0_wouldLet 42 = .ok (.iload_n 1, 1) := by decide +kernel
theorem dX0_wouldLet_43 : decode cX0_wouldLet 43 = .ok (.iload_n 2, 1) := by decide +kernel
theorem dX0_wouldLet_44 : decode cX0_wouldLet 44 = .ok (.if_icmp .ge 7, 3) := by decide +kernel
theorem dX0_wouldLet_47 : decode cX0_wouldLet 47 = .ok (.iload_n 1, 1) := by decide +kernel
theorem dX0_wouldLet_48 : decode cX0_wouldLet 48 = .ok (.goto 4, 3) := by decide +kernel
theorem dX0_wouldLet_51 : decode cX0_wouldLet 51 = .ok (.iload_n 2, 1) := by decide +kernel
theorem dX0_wouldLet_52 : decode cX0_wouldLet 52 = .ok (.ireturn, 1) := by decide +kernel
theorem dX0_wouldLet_53 : decode cX0_wouldLet 53 = .ok (.iload_n 1, 1) := by decide +kernel
theorem dX0_wouldLet_54 : decode cX0_wouldLet 54 = .ok (.iload_n 2, 1) := by decide +kernel
theorem dX0_wouldLet_55 : decode cX0_wouldLet 55 = .ok (.if_icmp .ge 9, 3) := by decide +kernel
theorem dX0_wouldLet_58 : decode cX0_wouldLet 58 = .ok (.iload_n 2, 1) := by decide +kernel
theorem dX0_wouldLet_59 : decode cX0_wouldLet 59 = .ok (.iload_n 1, 1) := by decide +kernel
theorem dX0_wouldLet_60 : decode cX0_wouldLet 60 = .ok (.isub, 1) := by decide +kernel
theorem dX0_wouldLet_61 : decode cX0_wouldLet 61 = .ok (.goto 4, 3) := by decide +kernel
theorem dX0_wouldLet_64 : decode cX0_wouldLet 64 = .ok (.iconst 0, 1) := by decide +kernel
theorem dX0_wouldLet_65 : decode cX0_wouldLet 65 = .ok (.ireturn, 1) := by decide +kernel
theorem dX0_wouldLet_66 : decode cX0_wouldLet 66 = .ok (.iload_n 2, 1) := by decide +kernel
theorem dX0_wouldLet_67 : decode cX0_wouldLet 67 = .ok (.iconst 2, 1) := by decide +kernel
theorem dX0_wouldLet_68 : decode cX0_wouldLet 68 = .ok (.idiv, 1) := by decide +kernel
theorem dX0_wouldLet_69 : decode cX0_wouldLet 69 = .ok (.iconst 2, 1) := by decide +kernel
theorem dX0_wouldLet_70 : decode cX0_wouldLet 70 = .ok (.idiv, 1) := by decide +kernel
theorem dX0_wouldLet_71 : decode cX0_wouldLet 71 = .ok (.ireturn, 1) := by decide +kernel
theorem dX0_wouldLet_72 : decode cX0_wouldLet 72 = .ok (.iload_n 2, 1) := by decide +kernel
theorem dX0_wouldLet_73 : decode cX0_wouldLet 73 = .ok (.iconst 1, 1) := by decide +kernel
theorem dX0_wouldLet_74 : decode cX0_wouldLet 74 = .ok (.iadd, 1) := by decide +kernel
theorem dX0_wouldLet_75 : decode cX0_wouldLet 75 = .ok (.iconst 2, 1) := by decide +kernel
theorem dX0_wouldLet_76 : decode cX0_wouldLet 76 = .ok (.idiv, 1) := by decide +kernel
theorem dX0_wouldLet_77 : decode cX0_wouldLet 77 = .ok (.ireturn, 1) := by decide +kernel
theorem dX0_adds_0 : decode cX0_adds 0 = .ok (.iload_n 0, 1) := by decide +kernel
theorem dX0_adds_1 : decode cX0_adds 1 = .ok (.tableswitch 49 1 5 #[35, 37, 39, 41, 45], 35) := by decide +kernel
theorem dX0_adds_36 : decode cX0_adds 36 = .ok (.iload_n 1, 1) := by decide +kernel
theorem dX0_adds_37 : decode cX0_adds 37 = .ok (.ireturn, 1) := by decide +kernel
theorem dX0_adds_38 : decode cX0_adds 38 = .ok (.iconst 3, 1) := by decide +kernel
theorem dX0_adds_39 : decode cX0_adds 39 = .ok (.ireturn, 1) := by decide +kernel
theorem dX0_adds_40 : decode cX0_adds 40 = .ok (.iconst 0, 1) := by decide +kernel
theorem dX0_adds_41 : decode cX0_adds 41 = .ok (.ireturn, 1) := by decide +kernel
theorem dX0_adds_42 : decode cX0_adds 42 = .ok (.iload_n 1, 1) := by decide +kernel
theorem dX0_adds_43 : decode cX0_adds 43 = .ok (.iconst 2, 1) := by decide +kernel
theorem dX0_adds_44 : decode cX0_adds 44 = .ok (.idiv, 1) := by decide +kernel
theorem dX0_adds_45 : decode cX0_adds 45 = .ok (.ireturn, 1) := by decide +kernel
theorem dX0_adds_46 : decode cX0_adds 46 = .ok (.iconst 3, 1) := by decide +kernel
theorem dX0_adds_47 : decode cX0_adds 47 = .ok (.iload_n 1, 1) := by decide +kernel
theorem dX0_adds_48 : decode cX0_adds 48 = .ok (.iadd, 1) := by decide +kernel
theorem dX0_adds_49 : decode cX0_adds 49 = .ok (.ireturn, 1) := by decide +kernel
theorem dX0_adds_50 : decode cX0_adds 50 = .ok (.iconst 1, 1) := by decide +kernel
theorem dX0_adds_51 : decode cX0_adds 51 = .ok (.ireturn, 1) := by decide +kernel
theorem dX0_stands_0 : decode cX0_stands 0 = .ok (.iload_n 0, 1) := by decide +kernel
theorem dX0_stands_1 : decode cX0_stands 1 = .ok (.lookupswitch 31 #[(2, 27), (5, 29)], 27) := by decide +kernel
theorem dX0_stands_28 : decode cX0_stands 28 = .ok (.iconst 1, 1) := by decide +kernel
theorem dX0_stands_29 : decode cX0_stands 29 = .ok (.ireturn, 1) := by decide +kernel
theorem dX0_stands_30 : decode cX0_stands 30 = .ok (.iconst 3, 1) := by decide +kernel
theorem dX0_stands_31 : decode cX0_stands 31 = .ok (.ireturn, 1) := by decide +kernel
theorem dX0_stands_32 : decode cX0_stands 32 = .ok (.iconst 0, 1) := by decide +kernel
theorem dX0_stands_33 : decode cX0_stands 33 = .ok (.ireturn, 1) := by decide +kernel
theorem dX1_init_0 : decode cX1_init 0 = .ok (.aload_n 0, 1) := by decide +kernel
theorem dX1_init_1 : decode cX1_init 1 = .ok (.invokespecial 3, 3) := by decide +kernel
theorem dX1_init_4 : decode cX1_init 4 = .ok (.aload_n 0, 1) := by decide +kernel
theorem dX1_init_5 : decode cX1_init 5 = .ok (.bipush 96, 2) := by decide +kernel
theorem dX1_init_7 : decode cX1_init 7 = .ok (.newarray .int, 2) := by decide +kernel
theorem dX1_init_9 : decode cX1_init 9 = .ok (.putfield 9, 3) := by decide +kernel
theorem dX1_init_12 : decode cX1_init 12 = .ok (.return_, 1) := by decide +kernel
theorem dX1_size_0 : decode cX1_size 0 = .ok (.aload_n 0, 1) := by decide +kernel
theorem dX1_size_1 : decode cX1_size 1 = .ok (.getfield 15, 3) := by decide +kernel
theorem dX1_size_4 : decode cX1_size 4 = .ok (.ireturn, 1) := by decide +kernel
theorem dX1_drop_0 : decode cX1_drop 0 = .ok (.aload_n 0, 1) := by decide +kernel
theorem dX1_drop_1 : decode cX1_drop 1 = .ok (.iconst 0, 1) := by decide +kernel
theorem dX1_drop_2 : decode cX1_drop 2 = .ok (.putfield 15, 3) := by decide +kernel
theorem dX1_drop_5 : decode cX1_drop 5 = .ok (.return_, 1) := by decide +kernel
theorem dX1_add_0 : decode cX1_add 0 = .ok (.aload_n 0, 1) := by decide +kernel
theorem dX1_add_1 : decode cX1_add 1 = .ok (.getfield 15, 3) := by decide +kernel
theorem dX1_add_4 : decode cX1_add 4 = .ok (.bipush 96, 2) := by decide +kernel
theorem dX1_add_6 : decode cX1_add 6 = .ok (.if_icmp .lt 5, 3) := by decide +kernel
theorem dX1_add_9 : decode cX1_add 9 = .ok (.iconst 0, 1) := by decide +kernel
theorem dX1_add_10 : decode cX1_add 10 = .ok (.ireturn, 1) := by decide +kernel
theorem dX1_add_11 : decode cX1_add 11 = .ok (.aload_n 0, 1) := by decide +kernel
theorem dX1_add_12 : decode cX1_add 12 = .ok (.getfield 9, 3) := by decide +kernel
theorem dX1_add_15 : decode cX1_add 15 = .ok (.aload_n 0, 1) := by decide +kernel
theorem dX1_add_16 : decode cX1_add 16 = .ok (.getfield 15, 3) := by decide +kernel
theorem dX1_add_19 : decode cX1_add 19 = .ok (.iload_n 1, 1) := by decide +kernel
theorem dX1_add_20 : decode cX1_add 20 = .ok (.iastore, 1) := by decide +kernel
theorem dX1_add_21 : decode cX1_add 21 = .ok (.aload_n 0, 1) := by decide +kernel
theorem dX1_add_22 : decode cX1_add 22 = .ok (.dup, 1) := by decide +kernel
theorem dX1_add_23 : decode cX1_add 23 = .ok (.getfield 15, 3) := by decide +kernel
theorem dX1_add_26 : decode cX1_add 26 = .ok (.iconst 1, 1) := by decide +kernel
theorem dX1_add_27 : decode cX1_add 27 = .ok (.iadd, 1) := by decide +kernel
theorem dX1_add_28 : decode cX1_add 28 = .ok (.putfield 15, 3) := by decide +kernel
theorem dX1_add_31 : decode cX1_add 31 = .ok (.iconst 1, 1) := by decide +kernel
theorem dX1_add_32 : decode cX1_add 32 = .ok (.ireturn, 1) := by decide +kernel
theorem dX1_at_0 : decode cX1_at 0 = .ok (.iload_n 1, 1) := by decide +kernel
theorem dX1_at_1 : decode cX1_at 1 = .ok (.ifCond .lt 20, 3) := by decide +kernel
theorem dX1_at_4 : decode cX1_at 4 = .ok (.iload_n 1, 1) := by decide +kernel
theorem dX1_at_5 : decode cX1_at 5 = .ok (.aload_n 0, 1) := by decide +kernel
theorem dX1_at_6 : decode cX1_at 6 = .ok (.getfield 15, 3) := by decide +kernel
theorem dX1_at_9 : decode cX1_at 9 = .ok (.if_icmp .ge 12, 3) := by decide +kernel
theorem dX1_at_12 : decode cX1_at 12 = .ok (.aload_n 0, 1) := by decide +kernel
theorem dX1_at_13 : decode cX1_at 13 = .ok (.getfield 9, 3) := by decide +kernel
theorem dX1_at_16 : decode cX1_at 16 = .ok (.iload_n 1, 1) := by decide +kernel
theorem dX1_at_17 : decode cX1_at 17 = .ok (.iaload, 1) := by decide +kernel
theorem dX1_at_18 : decode cX1_at 18 = .ok (.goto 4, 3) := by decide +kernel
theorem dX1_at_21 : decode cX1_at 21 = .ok (.iconst (-1), 1) := by decide +kernel
theorem dX1_at_22 : decode cX1_at 22 = .ok (.ireturn, 1) := by decide +kernel
theorem dX1_digitAt_0 : decode cX1_digitAt 0 = .ok (.aload_n 0, 1) := by decide +kernel
theorem dX1_digitAt_1 : decode cX1_digitAt 1 = .ok (.iload_n 1, 1) := by decide +kernel
theorem dX1_digitAt_2 : decode cX1_digitAt 2 = .ok (.invokevirtual 19, 3) := by decide +kernel
theorem dX1_digitAt_5 : decode cX1_digitAt 5 = .ok (.istore_n 2, 1) := by decide +kernel
theorem dX1_digitAt_6 : decode cX1_digitAt 6 = .ok (.iload_n 2, 1) := by decide +kernel
theorem dX1_digitAt_7 : decode cX1_digitAt 7 = .ok (.invokestatic 23, 3) := by decide +kernel
theorem dX1_digitAt_10 : decode cX1_digitAt 10 = .ok (.ifCond .eq 10, 3) := by decide +kernel
theorem dX1_digitAt_13 : decode cX1_digitAt 13 = .ok (.iload_n 2, 1) := by decide +kernel
theorem dX1_digitAt_14 : decode cX1_digitAt 14 = .ok (.bipush 48, 2) := by decide +kernel
theorem dX1_digitAt_16 : decode cX1_digitAt 16 = .ok (.isub, 1) := by decide +kernel
theorem dX1_digitAt_17 : decode cX1_digitAt 17 = .ok (.goto 4, 3) := by decide +kernel
theorem dX1_digitAt_20 : decode cX1_digitAt 20 = .ok (.iconst (-1), 1) := by decide +kernel
theorem dX1_digitAt_21 : decode cX1_digitAt 21 = .ok (.ireturn, 1) := by decide +kernel
theorem dX1_beginsAt_0 : decode cX1_beginsAt 0 = .ok (.iload_n 1, 1) := by decide +kernel
theorem dX1_beginsAt_1 : decode cX1_beginsAt 1 = .ok (.ifCond .eq 15, 3) := by decide +kernel
theorem dX1_beginsAt_4 : decode cX1_beginsAt 4 = .ok (.aload_n 0, 1) := by decide +kernel
theorem dX1_beginsAt_5 : decode cX1_beginsAt 5 = .ok (.iload_n 1, 1) := by decide +kernel
theorem dX1_beginsAt_6 : decode cX1_beginsAt 6 = .ok (.iconst 1, 1) := by decide +kernel
theorem dX1_beginsAt_7 : decode cX1_beginsAt 7 = .ok (.isub, 1) := by decide +kernel
theorem dX1_beginsAt_8 : decode cX1_beginsAt 8 = .ok (.invokevirtual 19, 3) := by decide +kernel
theorem dX1_beginsAt_11 : decode cX1_beginsAt 11 = .ok (.bipush 59, 2) := by decide +kernel
theorem dX1_beginsAt_13 : decode cX1_beginsAt 13 = .ok (.if_icmp .ne 7, 3) := by decide +kernel
theorem dX1_beginsAt_16 : decode cX1_beginsAt 16 = .ok (.iconst 1, 1) := by decide +kernel
theorem dX1_beginsAt_17 : decode cX1_beginsAt 17 = .ok (.goto 4, 3) := by decide +kernel
theorem dX1_beginsAt_20 : decode cX1_beginsAt 20 = .ok (.iconst 0, 1) := by decide +kernel
theorem dX1_beginsAt_21 : decode cX1_beginsAt 21 = .ok (.ireturn, 1) := by decide +kernel
theorem dX1_firstFault_0 : decode cX1_firstFault 0 = .ok (.iconst (-1), 1) := by decide +kernel
theorem dX1_firstFault_1 : decode cX1_firstFault 1 = .ok (.istore_n 1, 1) := by decide +kernel
theorem dX1_firstFault_2 : decode cX1_firstFault 2 = .ok (.iconst 0, 1) := by decide +kernel
theorem dX1_firstFault_3 : decode cX1_firstFault 3 = .ok (.istore_n 2, 1) := by decide +kernel
theorem dX1_firstFault_4 : decode cX1_firstFault 4 = .ok (.iload_n 2, 1) := by decide +kernel
theorem dX1_firstFault_5 : decode cX1_firstFault 5 = .ok (.aload_n 0, 1) := by decide +kernel
theorem dX1_firstFault_6 : decode cX1_firstFault 6 = .ok (.getfield 15, 3) := by decide +kernel
theorem dX1_firstFault_9 : decode cX1_firstFault 9 = .ok (.if_icmp .ge 61, 3) := by decide +kernel
theorem dX1_firstFault_12 : decode cX1_firstFault 12 = .ok (.aload_n 0, 1) := by decide +kernel
theorem dX1_firstFault_13 : decode cX1_firstFault 13 = .ok (.getfield 9, 3) := by decide +kernel
theorem dX1_firstFault_16 : decode cX1_firstFault 16 = .ok (.iload_n 2, 1) := by decide +kernel
theorem dX1_firstFault_17 : decode cX1_firstFault 17 = .ok (.iaload, 1) := by decide +kernel
theorem dX1_firstFault_18 : decode cX1_firstFault 18 = .ok (.istore_n 3, 1) := by decide +kernel
theorem dX1_firstFault_19 : decode cX1_firstFault 19 = .ok (.iload_n 1, 1) := by decide +kernel
theorem dX1_firstFault_20 : decode cX1_firstFault 20 = .ok (.iconst (-1), 1) := by decide +kernel
theorem dX1_firstFault_21 : decode cX1_firstFault 21 = .ok (.if_icmp .ne 14, 3) := by decide +kernel
theorem dX1_firstFault_24 : decode cX1_firstFault 24 = .ok (.iload_n 3, 1) := by decide +kernel
theorem dX1_firstFault_25 : decode cX1_firstFault 25 = .ok (.invokestatic 27, 3) := by decide +kernel
theorem dX1_firstFault_28 : decode cX1_firstFault 28 = .ok (.istore_n 1, 1) := by decide +kernel
theorem dX1_firstFault_29 : decode cX1_firstFault 29 = .ok (.iload_n 1, 1) := by decide +kernel
theorem dX1_firstFault_30 : decode cX1_firstFault 30 = .ok (.ifCond .ge 34, 3) := by decide +kernel
theorem dX1_firstFault_33 : decode cX1_firstFault 33 = .ok (.iload_n 2, 1) := by decide +kernel
theorem dX1_firstFault_34 : decode cX1_firstFault 34 = .ok (.ireturn, 1) := by decide +kernel
theorem dX1_firstFault_35 : decode cX1_firstFault 35 = .ok (.iload_n 1, 1) := by decide +kernel
theorem dX1_firstFault_36 : decode cX1_firstFault 36 = .ok (.ifCond .le 18, 3) := by decide +kernel
theorem dX1_firstFault_39 : decode cX1_firstFault 39 = .ok (.iload_n 3, 1) := by decide +kernel
theorem dX1_firstFault_40 : decode cX1_firstFault 40 = .ok (.invokestatic 23, 3) := by decide +kernel
theorem dX1_firstFault_43 : decode cX1_firstFault 43 = .ok (.ifCond .ne 5, 3) := by decide +kernel
theorem dX1_firstFault_46 : decode cX1_firstFault 46 = .ok (.iload_n 2, 1) := by decide +kernel
theorem dX1_firstFault_47 : decode cX1_firstFault 47 = .ok (.ireturn, 1) := by decide +kernel
theorem dX1_firstFault_48 : decode cX1_firstFault 48 = .ok (.iinc 1 (-1), 3) := by decide +kernel
theorem dX1_firstFault_51 : decode cX1_firstFault 51 = .ok (.goto 13, 3) := by decide +kernel
theorem dX1_firstFault_54 : decode cX1_firstFault 54 = .ok (.iload_n 3, 1) := by decide +kernel
theorem dX1_firstFault_55 : decode cX1_firstFault 55 = .ok (.bipush 59, 2) := by decide +kernel
theorem dX1_firstFault_57 : decode cX1_firstFault 57 = .ok (.if_icmp .eq 5, 3) := by decide +kernel
theorem dX1_firstFault_60 : decode cX1_firstFault 60 = .ok (.iload_n 2, 1) := by decide +kernel
theorem dX1_firstFault_61 : decode cX1_firstFault 61 = .ok (.ireturn, 1) := by decide +kernel
theorem dX1_firstFault_62 : decode cX1_firstFault 62 = .ok (.iconst (-1), 1) := by decide +kernel
theorem dX1_firstFault_63 : decode cX1_firstFault 63 = .ok (.istore_n 1, 1) := by decide +kernel
theorem dX1_firstFault_64 : decode cX1_firstFault 64 = .ok (.iinc 2 1, 3) := by decide +kernel
theorem dX1_firstFault_67 : decode cX1_firstFault 67 = .ok (.goto (-63), 3) := by decide +kernel
theorem dX1_firstFault_70 : decode cX1_firstFault 70 = .ok (.aload_n 0, 1) := by decide +kernel
theorem dX1_firstFault_71 : decode cX1_firstFault 71 = .ok (.getfield 15, 3) := by decide +kernel
theorem dX1_firstFault_74 : decode cX1_firstFault 74 = .ok (.ifCond .le 12, 3) := by decide +kernel
theorem dX1_firstFault_77 : decode cX1_firstFault 77 = .ok (.iload_n 1, 1) := by decide +kernel
theorem dX1_firstFault_78 : decode cX1_firstFault 78 = .ok (.iconst (-1), 1) := by decide +kernel
theorem dX1_firstFault_79 : decode cX1_firstFault 79 = .ok (.if_icmp .ne 7, 3) := by decide +kernel
theorem dX1_firstFault_82 : decode cX1_firstFault 82 = .ok (.iconst (-1), 1) := by decide +kernel
theorem dX1_firstFault_83 : decode cX1_firstFault 83 = .ok (.goto 7, 3) := by decide +kernel
theorem dX1_firstFault_86 : decode cX1_firstFault 86 = .ok (.aload_n 0, 1) := by decide +kernel
theorem dX1_firstFault_87 : decode cX1_firstFault 87 = .ok (.getfield 15, 3) := by decide +kernel
theorem dX1_firstFault_90 : decode cX1_firstFault 90 = .ok (.ireturn, 1) := by decide +kernel
theorem dX1_isDigit_0 : decode cX1_isDigit 0 = .ok (.iload_n 0, 1) := by decide +kernel
theorem dX1_isDigit_1 : decode cX1_isDigit 1 = .ok (.bipush 48, 2) := by decide +kernel
theorem dX1_isDigit_3 : decode cX1_isDigit 3 = .ok (.if_icmp .lt 13, 3) := by decide +kernel
theorem dX1_isDigit_6 : decode cX1_isDigit 6 = .ok (.iload_n 0, 1) := by decide +kernel
theorem dX1_isDigit_7 : decode cX1_isDigit 7 = .ok (.bipush 57, 2) := by decide +kernel
theorem dX1_isDigit_9 : decode cX1_isDigit 9 = .ok (.if_icmp .gt 7, 3) := by decide +kernel
theorem dX1_isDigit_12 : decode cX1_isDigit 12 = .ok (.iconst 1, 1) := by decide +kernel
theorem dX1_isDigit_13 : decode cX1_isDigit 13 = .ok (.goto 4, 3) := by decide +kernel
theorem dX1_isDigit_16 : decode cX1_isDigit 16 = .ok (.iconst 0, 1) := by decide +kernel
theorem dX1_isDigit_17 : decode cX1_isDigit 17 = .ok (.ireturn, 1) := by decide +kernel
theorem dX1_digitsBehind_0 : decode cX1_digitsBehind 0 = .ok (.iload_n 0, 1) := by decide +kernel
theorem dX1_digitsBehind_1 : decode cX1_digitsBehind 1 = .ok (.lookupswitch 67 #[(98, 61), (99, 59), (100, 63), (110, 63), (118, 65), (120, 63)], 59) := by decide +kernel
theorem dX1_digitsBehind_60 : decode cX1_digitsBehind 60 = .ok (.iconst 0, 1) := by decide +kernel
theorem dX1_digitsBehind_61 : decode cX1_digitsBehind 61 = .ok (.ireturn, 1) := by decide +kernel
theorem dX1_digitsBehind_62 : decode cX1_digitsBehind 62 = .ok (.iconst 1, 1) := by decide +kernel
theorem dX1_digitsBehind_63 : decode cX1_digitsBehind 63 = .ok (.ireturn, 1) := by decide +kernel
theorem dX1_digitsBehind_64 : decode cX1_digitsBehind 64 = .ok (.iconst 2, 1) := by decide +kernel
theorem dX1_digitsBehind_65 : decode cX1_digitsBehind 65 = .ok (.ireturn, 1) := by decide +kernel
theorem dX1_digitsBehind_66 : decode cX1_digitsBehind 66 = .ok (.iconst 3, 1) := by decide +kernel
theorem dX1_digitsBehind_67 : decode cX1_digitsBehind 67 = .ok (.ireturn, 1) := by decide +kernel
theorem dX1_digitsBehind_68 : decode cX1_digitsBehind 68 = .ok (.iconst (-1), 1) := by decide +kernel
theorem dX1_digitsBehind_69 : decode cX1_digitsBehind 69 = .ok (.ireturn, 1) := by decide +kernel
theorem dX2_init_0 : decode cX2_init 0 = .ok (.aload_n 0, 1) := by decide +kernel
theorem dX2_init_1 : decode cX2_init 1 = .ok (.invokespecial 3, 3) := by decide +kernel
theorem dX2_init_4 : decode cX2_init 4 = .ok (.aload_n 0, 1) := by decide +kernel
theorem dX2_init_5 : decode cX2_init 5 = .ok (.bipush 12, 2) := by decide +kernel
theorem dX2_init_7 : decode cX2_init 7 = .ok (.newarray .int, 2) := by decide +kernel
theorem dX2_init_9 : decode cX2_init 9 = .ok (.putfield 9, 3) := by decide +kernel
theorem dX2_init_12 : decode cX2_init 12 = .ok (.return_, 1) := by decide +kernel
theorem dX2_size_0 : decode cX2_size 0 = .ok (.aload_n 0, 1) := by decide +kernel
theorem dX2_size_1 : decode cX2_size 1 = .ok (.getfield 15, 3) := by decide +kernel
theorem dX2_size_4 : decode cX2_size 4 = .ok (.ireturn, 1) := by decide +kernel
theorem dX2_drop_0 : decode cX2_drop 0 = .ok (.aload_n 0, 1) := by decide +kernel
theorem dX2_drop_1 : decode cX2_drop 1 = .ok (.iconst 0, 1) := by decide +kernel
theorem dX2_drop_2 : decode cX2_drop 2 = .ok (.putfield 15, 3) := by decide +kernel
theorem dX2_drop_5 : decode cX2_drop 5 = .ok (.return_, 1) := by decide +kernel
theorem dX2_add_0 : decode cX2_add 0 = .ok (.aload_n 0, 1) := by decide +kernel
theorem dX2_add_1 : decode cX2_add 1 = .ok (.getfield 15, 3) := by decide +kernel
theorem dX2_add_4 : decode cX2_add 4 = .ok (.bipush 12, 2) := by decide +kernel
theorem dX2_add_6 : decode cX2_add 6 = .ok (.if_icmp .lt 5, 3) := by decide +kernel
theorem dX2_add_9 : decode cX2_add 9 = .ok (.iconst 0, 1) := by decide +kernel
theorem dX2_add_10 : decode cX2_add 10 = .ok (.ireturn, 1) := by decide +kernel
theorem dX2_add_11 : decode cX2_add 11 = .ok (.aload_n 0, 1) := by decide +kernel
theorem dX2_add_12 : decode cX2_add 12 = .ok (.getfield 9, 3) := by decide +kernel
theorem dX2_add_15 : decode cX2_add 15 = .ok (.aload_n 0, 1) := by decide +kernel
theorem dX2_add_16 : decode cX2_add 16 = .ok (.getfield 15, 3) := by decide +kernel
theorem dX2_add_19 : decode cX2_add 19 = .ok (.iload_n 1, 1) := by decide +kernel
theorem dX2_add_20 : decode cX2_add 20 = .ok (.iastore, 1) := by decide +kernel
theorem dX2_add_21 : decode cX2_add 21 = .ok (.aload_n 0, 1) := by decide +kernel
theorem dX2_add_22 : decode cX2_add 22 = .ok (.dup, 1) := by decide +kernel
theorem dX2_add_23 : decode cX2_add 23 = .ok (.getfield 15, 3) := by decide +kernel
theorem dX2_add_26 : decode cX2_add 26 = .ok (.iconst 1, 1) := by decide +kernel
theorem dX2_add_27 : decode cX2_add 27 = .ok (.iadd, 1) := by decide +kernel
theorem dX2_add_28 : decode cX2_add 28 = .ok (.putfield 15, 3) := by decide +kernel
theorem dX2_add_31 : decode cX2_add 31 = .ok (.iconst 1, 1) := by decide +kernel
theorem dX2_add_32 : decode cX2_add 32 = .ok (.ireturn, 1) := by decide +kernel
theorem dX2_at_0 : decode cX2_at 0 = .ok (.iload_n 1, 1) := by decide +kernel
theorem dX2_at_1 : decode cX2_at 1 = .ok (.ifCond .lt 20, 3) := by decide +kernel
theorem dX2_at_4 : decode cX2_at 4 = .ok (.iload_n 1, 1) := by decide +kernel
theorem dX2_at_5 : decode cX2_at 5 = .ok (.aload_n 0, 1) := by decide +kernel
theorem dX2_at_6 : decode cX2_at 6 = .ok (.getfield 15, 3) := by decide +kernel
theorem dX2_at_9 : decode cX2_at 9 = .ok (.if_icmp .ge 12, 3) := by decide +kernel
theorem dX2_at_12 : decode cX2_at 12 = .ok (.aload_n 0, 1) := by decide +kernel
theorem dX2_at_13 : decode cX2_at 13 = .ok (.getfield 9, 3) := by decide +kernel
theorem dX2_at_16 : decode cX2_at 16 = .ok (.iload_n 1, 1) := by decide +kernel
theorem dX2_at_17 : decode cX2_at 17 = .ok (.iaload, 1) := by decide +kernel
theorem dX2_at_18 : decode cX2_at 18 = .ok (.goto 4, 3) := by decide +kernel
theorem dX2_at_21 : decode cX2_at 21 = .ok (.iconst (-1), 1) := by decide +kernel
theorem dX2_at_22 : decode cX2_at 22 = .ok (.ireturn, 1) := by decide +kernel
theorem dX3_init_0 : decode cX3_init 0 = .ok (.aload_n 0, 1) := by decide +kernel
theorem dX3_init_1 : decode cX3_init 1 = .ok (.invokespecial 3, 3) := by decide +kernel
theorem dX3_init_4 : decode cX3_init 4 = .ok (.aload_n 0, 1) := by decide +kernel
theorem dX3_init_5 : decode cX3_init 5 = .ok (.bipush 9, 2) := by decide +kernel
theorem dX3_init_7 : decode cX3_init 7 = .ok (.newarray .int, 2) := by decide +kernel
theorem dX3_init_9 : decode cX3_init 9 = .ok (.putfield 9, 3) := by decide +kernel
theorem dX3_init_12 : decode cX3_init 12 = .ok (.aload_n 0, 1) := by decide +kernel
theorem dX3_init_13 : decode cX3_init 13 = .ok (.bipush 9, 2) := by decide +kernel
theorem dX3_init_15 : decode cX3_init 15 = .ok (.newarray .int, 2) := by decide +kernel
theorem dX3_init_17 : decode cX3_init 17 = .ok (.putfield 15, 3) := by decide +kernel
theorem dX3_init_20 : decode cX3_init 20 = .ok (.aload_n 0, 1) := by decide +kernel
theorem dX3_init_21 : decode cX3_init 21 = .ok (.bipush 9, 2) := by decide +kernel
theorem dX3_init_23 : decode cX3_init 23 = .ok (.newarray .int, 2) := by decide +kernel
theorem dX3_init_25 : decode cX3_init 25 = .ok (.putfield 18, 3) := by decide +kernel
theorem dX3_init_28 : decode cX3_init 28 = .ok (.aload_n 0, 1) := by decide +kernel
theorem dX3_init_29 : decode cX3_init 29 = .ok (.bipush 9, 2) := by decide +kernel
theorem dX3_init_31 : decode cX3_init 31 = .ok (.newarray .int, 2) := by decide +kernel
theorem dX3_init_33 : decode cX3_init 33 = .ok (.putfield 21, 3) := by decide +kernel
theorem dX3_init_36 : decode cX3_init 36 = .ok (.return_, 1) := by decide +kernel
theorem dX3_become_0 : decode cX3_become 0 = .ok (.aload_n 1, 1) := by decide +kernel
theorem dX3_become_1 : decode cX3_become 1 = .ok (.ifnonnull 4, 3) := by decide +kernel
theorem dX3_become_4 : decode cX3_become 4 = .ok (.return_, 1) := by decide +kernel
theorem dX3_become_5 : decode cX3_become 5 = .ok (.aload_n 1, 1) := by decide +kernel
theorem dX3_become_6 : decode cX3_become 6 = .ok (.getfield 9, 3) := by decide +kernel
theorem dX3_become_9 : decode cX3_become 9 = .ok (.iconst 0, 1) := by decide +kernel
theorem dX3_become_10 : decode cX3_become 10 = .ok (.aload_n 0, 1) := by decide +kernel
theorem dX3_become_11 : decode cX3_become 11 = .ok (.getfield 9, 3) := by decide +kernel
theorem dX3_become_14 : decode cX3_become 14 = .ok (.iconst 0, 1) := by decide +kernel
theorem dX3_become_15 : decode cX3_become 15 = .ok (.bipush 9, 2) := by decide +kernel
theorem dX3_become_17 : decode cX3_become 17 = .ok (.invokestatic 24, 3) := by decide +kernel
theorem dX3_become_20 : decode cX3_become 20 = .ok (.aload_n 1, 1) := by decide +kernel
theorem dX3_become_21 : decode cX3_become 21 = .ok (.getfield 15, 3) := by decide +kernel
theorem dX3_become_24 : decode cX3_become 24 = .ok (.iconst 0, 1) := by decide +kernel
theorem dX3_become_25 : decode cX3_become 25 = .ok (.aload_n 0, 1) := by decide +kernel
theorem dX3_become_26 : decode cX3_become 26 = .ok (.getfield 15, 3) := by decide +kernel
theorem dX3_become_29 : decode cX3_become 29 = .ok (.iconst 0, 1) := by decide +kernel
theorem dX3_become_30 : decode cX3_become 30 = .ok (.bipush 9, 2) := by decide +kernel
theorem dX3_become_32 : decode cX3_become 32 = .ok (.invokestatic 24, 3) := by decide +kernel
theorem dX3_become_35 : decode cX3_become 35 = .ok (.aload_n 1, 1) := by decide +kernel
theorem dX3_become_36 : decode cX3_become 36 = .ok (.getfield 18, 3) := by decide +kernel
theorem dX3_become_39 : decode cX3_become 39 = .ok (.iconst 0, 1) := by decide +kernel
theorem dX3_become_40 : decode cX3_become 40 = .ok (.aload_n 0, 1) := by decide +kernel
theorem dX3_become_41 : decode cX3_become 41 = .ok (.getfield 18, 3) := by decide +kernel
theorem dX3_become_44 : decode cX3_become 44 = .ok (.iconst 0, 1) := by decide +kernel
theorem dX3_become_45 : decode cX3_become 45 = .ok (.bipush 9, 2) := by decide +kernel
theorem dX3_become_47 : decode cX3_become 47 = .ok (.invokestatic 24, 3) := by decide +kernel
theorem dX3_become_50 : decode cX3_become 50 = .ok (.aload_n 1, 1) := by decide +kernel
theorem dX3_become_51 : decode cX3_become 51 = .ok (.getfield 21, 3) := by decide +kernel
theorem dX3_become_54 : decode cX3_become 54 = .ok (.iconst 0, 1) := by decide +kernel
theorem dX3_become_55 : decode cX3_become 55 = .ok (.aload_n 0, 1) := by decide +kernel
theorem dX3_become_56 : decode cX3_become 56 = .ok (.getfield 21, 3) := by decide +kernel
theorem dX3_become_59 : decode cX3_become 59 = .ok (.iconst 0, 1) := by decide +kernel
theorem dX3_become_60 : decode cX3_become 60 = .ok (.bipush 9, 2) := by decide +kernel
theorem dX3_become_62 : decode cX3_become 62 = .ok (.invokestatic 24, 3) := by decide +kernel
theorem dX3_become_65 : decode cX3_become 65 = .ok (.aload_n 0, 1) := by decide +kernel
theorem dX3_become_66 : decode cX3_become 66 = .ok (.aload_n 1, 1) := by decide +kernel
theorem dX3_become_67 : decode cX3_become 67 = .ok (.getfield 30, 3) := by decide +kernel
theorem dX3_become_70 : decode cX3_become 70 = .ok (.putfield 30, 3) := by decide +kernel
theorem dX3_become_73 : decode cX3_become 73 = .ok (.aload_n 0, 1) := by decide +kernel
theorem dX3_become_74 : decode cX3_become 74 = .ok (.aload_n 1, 1) := by decide +kernel
theorem dX3_become_75 : decode cX3_become 75 = .ok (.getfield 34, 3) := by decide +kernel
theorem dX3_become_78 : decode cX3_become 78 = .ok (.putfield 34, 3) := by decide +kernel
theorem dX3_become_81 : decode cX3_become 81 = .ok (.aload_n 0, 1) := by decide +kernel
theorem dX3_become_82 : decode cX3_become 82 = .ok (.aload_n 1, 1) := by decide +kernel
theorem dX3_become_83 : decode cX3_become 83 = .ok (.getfield 37, 3) := by decide +kernel
theorem dX3_become_86 : decode cX3_become 86 = .ok (.putfield 37, 3) := by decide +kernel
theorem dX3_become_89 : decode cX3_become 89 = .ok (.aload_n 0, 1) := by decide +kernel
theorem dX3_become_90 : decode cX3_become 90 = .ok (.aload_n 1, 1) := by decide +kernel
theorem dX3_become_91 : decode cX3_become 91 = .ok (.getfield 40, 3) := by decide +kernel
theorem dX3_become_94 : decode cX3_become 94 = .ok (.putfield 40, 3) := by decide +kernel
theorem dX3_become_97 : decode cX3_become 97 = .ok (.aload_n 0, 1) := by decide +kernel
theorem dX3_become_98 : decode cX3_become 98 = .ok (.aload_n 1, 1) := by decide +kernel
theorem dX3_become_99 : decode cX3_become 99 = .ok (.getfield 43, 3) := by decide +kernel
theorem dX3_become_102 : decode cX3_become 102 = .ok (.putfield 43, 3) := by decide +kernel
theorem dX3_become_105 : decode cX3_become 105 = .ok (.return_, 1) := by decide +kernel
theorem dX3_there_0 : decode cX3_there 0 = .ok (.iload_n 1, 1) := by decide +kernel
theorem dX3_there_1 : decode cX3_there 1 = .ok (.ifCond .lt 15, 3) := by decide +kernel
theorem dX3_there_4 : decode cX3_there 4 = .ok (.iload_n 1, 1) := by decide +kernel
theorem dX3_there_5 : decode cX3_there 5 = .ok (.aload_n 0, 1) := by decide +kernel
theorem dX3_there_6 : decode cX3_there 6 = .ok (.getfield 30, 3) := by decide +kernel
theorem dX3_there_9 : decode cX3_there 9 = .ok (.if_icmp .ge 7, 3) := by decide +kernel
theorem dX3_there_12 : decode cX3_there 12 = .ok (.iconst 1, 1) := by decide +kernel
theorem dX3_there_13 : decode cX3_there 13 = .ok (.goto 4, 3) := by decide +kernel
theorem dX3_there_16 : decode cX3_there 16 = .ok (.iconst 0, 1) := by decide +kernel
theorem dX3_there_17 : decode cX3_there 17 = .ok (.ireturn, 1) := by decide +kernel
theorem dX3_houses_0 : decode cX3_houses 0 = .ok (.aload_n 0, 1) := by decide +kernel
theorem dX3_houses_1 : decode cX3_houses 1 = .ok (.getfield 30, 3) := by decide +kernel
theorem dX3_houses_4 : decode cX3_houses 4 = .ok (.ireturn, 1) := by decide +kernel
theorem dX3_kindOf_0 : decode cX3_kindOf 0 = .ok (.aload_n 0, 1) := by decide +kernel
theorem dX3_kindOf_1 : decode cX3_kindOf 1 = .ok (.iload_n 1, 1) := by decide +kernel
theorem dX3_kindOf_2 : decode cX3_kindOf 2 = .ok (.invokevirtual 46, 3) := by decide +kernel
theorem dX3_kindOf_5 : decode cX3_kindOf 5 = .ok (.ifCond .eq 12, 3) := by decide +kernel
theorem dX3_kindOf_8 : decode cX3_kindOf 8 = .ok (.aload_n 0, 1) := by decide +kernel
theorem dX3_kindOf_9 : decode cX3_kindOf 9 = .ok (.getfield 9, 3) := by decide +kernel
theorem dX3_kindOf_12 : decode cX3_kindOf 12 = .ok (.iload_n 1, 1) := by decide +kernel
theorem dX3_kindOf_13 : decode cX3_kindOf 13 = .ok (.iaload, 1) := by decide +kernel
theorem dX3_kindOf_14 : decode cX3_kindOf 14 = .ok (.goto 4, 3) := by decide +kernel
theorem dX3_kindOf_17 : decode cX3_kindOf 17 = .ok (.iconst 0, 1) := by decide +kernel
theorem dX3_kindOf_18 : decode cX3_kindOf 18 = .ok (.ireturn, 1) := by decide +kernel
theorem dX3_figureOf_0 : decode cX3_figureOf 0 = .ok (.aload_n 0, 1) := by decide +kernel
theorem dX3_figureOf_1 : decode cX3_figureOf 1 = .ok (.iload_n 1, 1) := by decide +kernel
theorem dX3_figureOf_2 : decode cX3_figureOf 2 = .ok (.invokevirtual 46, 3) := by decide +kernel
theorem dX3_figureOf_5 : decode cX3_figureOf 5 = .ok (.ifCond .eq 12, 3) := by decide +kernel
theorem dX3_figureOf_8 : decode cX3_figureOf 8 = .ok (.aload_n 0, 1) := by decide +kernel
theorem dX3_figureOf_9 : decode cX3_figureOf 9 = .ok (.getfield 15, 3) := by decide +kernel
theorem dX3_figureOf_12 : decode cX3_figureOf 12 = .ok (.iload_n 1, 1) := by decide +kernel
theorem dX3_figureOf_13 : decode cX3_figureOf 13 = .ok (.iaload, 1) := by decide +kernel
theorem dX3_figureOf_14 : decode cX3_figureOf 14 = .ok (.goto 4, 3) := by decide +kernel
theorem dX3_figureOf_17 : decode cX3_figureOf 17 = .ok (.iconst 0, 1) := by decide +kernel
theorem dX3_figureOf_18 : decode cX3_figureOf 18 = .ok (.ireturn, 1) := by decide +kernel
theorem dX3_holdsOf_0 : decode cX3_holdsOf 0 = .ok (.aload_n 0, 1) := by decide +kernel
theorem dX3_holdsOf_1 : decode cX3_holdsOf 1 = .ok (.iload_n 1, 1) := by decide +kernel
theorem dX3_holdsOf_2 : decode cX3_holdsOf 2 = .ok (.invokevirtual 46, 3) := by decide +kernel
theorem dX3_holdsOf_5 : decode cX3_holdsOf 5 = .ok (.ifCond .eq 12, 3) := by decide +kernel
theorem dX3_holdsOf_8 : decode cX3_holdsOf 8 = .ok (.aload_n 0, 1) := by decide +kernel
theorem dX3_holdsOf_9 : decode cX3_holdsOf 9 = .ok (.getfield 18, 3) := by decide +kernel
theorem dX3_holdsOf_12 : decode cX3_holdsOf 12 = .ok (.iload_n 1, 1) := by decide +kernel
theorem dX3_holdsOf_13 : decode cX3_holdsOf 13 = .ok (.iaload, 1) := by decide +kernel
theorem dX3_holdsOf_14 : decode cX3_holdsOf 14 = .ok (.goto 4, 3) := by decide +kernel
theorem dX3_holdsOf_17 : decode cX3_holdsOf 17 = .ok (.iconst 0, 1) := by decide +kernel
theorem dX3_holdsOf_18 : decode cX3_holdsOf 18 = .ok (.ireturn, 1) := by decide +kernel
theorem dX3_nextOf_0 : decode cX3_nextOf 0 = .ok (.aload_n 0, 1) := by decide +kernel
theorem dX3_nextOf_1 : decode cX3_nextOf 1 = .ok (.iload_n 1, 1) := by decide +kernel
theorem dX3_nextOf_2 : decode cX3_nextOf 2 = .ok (.invokevirtual 46, 3) := by decide +kernel
theorem dX3_nextOf_5 : decode cX3_nextOf 5 = .ok (.ifCond .eq 12, 3) := by decide +kernel
theorem dX3_nextOf_8 : decode cX3_nextOf 8 = .ok (.aload_n 0, 1) := by decide +kernel
theorem dX3_nextOf_9 : decode cX3_nextOf 9 = .ok (.getfield 21, 3) := by decide +kernel
theorem dX3_nextOf_12 : decode cX3_nextOf 12 = .ok (.iload_n 1, 1) := by decide +kernel
theorem dX3_nextOf_13 : decode cX3_nextOf 13 = .ok (.iaload, 1) := by decide +kernel
theorem dX3_nextOf_14 : decode cX3_nextOf 14 = .ok (.goto 4, 3) := by decide +kernel
theorem dX3_nextOf_17 : decode cX3_nextOf 17 = .ok (.iconst 0, 1) := by decide +kernel
theorem dX3_nextOf_18 : decode cX3_nextOf 18 = .ok (.ireturn, 1) := by decide +kernel
theorem dX3_isBlocked_0 : decode cX3_isBlocked 0 = .ok (.aload_n 0, 1) := by decide +kernel
theorem dX3_isBlocked_1 : decode cX3_isBlocked 1 = .ok (.iload_n 1, 1) := by decide +kernel
theorem dX3_isBlocked_2 : decode cX3_isBlocked 2 = .ok (.invokevirtual 46, 3) := by decide +kernel
theorem dX3_isBlocked_5 : decode cX3_isBlocked 5 = .ok (.ifCond .eq 19, 3) := by decide +kernel
theorem dX3_isBlocked_8 : decode cX3_isBlocked 8 = .ok (.aload_n 0, 1) := by decide +kernel
theorem dX3_isBlocked_9 : decode cX3_isBlocked 9 = .ok (.getfield 34, 3) := by decide +kernel
theorem dX3_isBlocked_12 : decode cX3_isBlocked 12 = .ok (.iload_n 1, 1) := by decide +kernel
theorem dX3_isBlocked_13 : decode cX3_isBlocked 13 = .ok (.ishr, 1) := by decide +kernel
theorem dX3_isBlocked_14 : decode cX3_isBlocked 14 = .ok (.iconst 1, 1) := by decide +kernel
theorem dX3_isBlocked_15 : decode cX3_isBlocked 15 = .ok (.iand, 1) := by decide +kernel
theorem dX3_isBlocked_16 : decode cX3_isBlocked 16 = .ok (.iconst 1, 1) := by decide +kernel
theorem dX3_isBlocked_17 : decode cX3_isBlocked 17 = .ok (.if_icmp .ne 7, 3) := by decide +kernel
theorem dX3_isBlocked_20 : decode cX3_isBlocked 20 = .ok (.iconst 1, 1) := by decide +kernel
theorem dX3_isBlocked_21 : decode cX3_isBlocked 21 = .ok (.goto 4, 3) := by decide +kernel
theorem dX3_isBlocked_24 : decode cX3_isBlocked 24 = .ok (.iconst 0, 1) := by decide +kernel
theorem dX3_isBlocked_25 : decode cX3_isBlocked 25 = .ok (.ireturn, 1) := by decide +kernel
theorem dX3_isWet_0 : decode cX3_isWet 0 = .ok (.aload_n 0, 1) := by decide +kernel
theorem dX3_isWet_1 : decode cX3_isWet 1 = .ok (.iload_n 1, 1) := by decide +kernel
theorem dX3_isWet_2 : decode cX3_isWet 2 = .ok (.invokevirtual 46, 3) := by decide +kernel
theorem dX3_isWet_5 : decode cX3_isWet 5 = .ok (.ifCond .eq 19, 3) := by decide +kernel
theorem dX3_isWet_8 : decode cX3_isWet 8 = .ok (.aload_n 0, 1) := by decide +kernel
theorem dX3_isWet_9 : decode cX3_isWet 9 = .ok (.getfield 37, 3) := by decide +kernel
theorem dX3_isWet_12 : decode cX3_isWet 12 = .ok (.iload_n 1, 1) := by decide +kernel
theorem dX3_isWet_13 : decode cX3_isWet 13 = .ok (.ishr, 1) := by decide +kernel
theorem dX3_isWet_14 : decode cX3_isWet 14 = .ok (.iconst 1, 1) := by decide +kernel
theorem dX3_isWet_15 : decode cX3_isWet 15 = .ok (.iand, 1) := by decide +kernel
theorem dX3_isWet_16 : decode cX3_isWet 16 = .ok (.iconst 1, 1) := by decide +kernel
theorem dX3_isWet_17 : decode cX3_isWet 17 = .ok (.if_icmp .ne 7, 3) := by decide +kernel
theorem dX3_isWet_20 : decode cX3_isWet 20 = .ok (.iconst 1, 1) := by decide +kernel
theorem dX3_isWet_21 : decode cX3_isWet 21 = .ok (.goto 4, 3) := by decide +kernel
theorem dX3_isWet_24 : decode cX3_isWet 24 = .ok (.iconst 0, 1) := by decide +kernel
theorem dX3_isWet_25 : decode cX3_isWet 25 = .ok (.ireturn, 1) := by decide +kernel
theorem dX3_letsThrough_0 : decode cX3_letsThrough 0 = .ok (.aload_n 0, 1) := by decide +kernel
theorem dX3_letsThrough_1 : decode cX3_letsThrough 1 = .ok (.iload_n 1, 1) := by decide +kernel
theorem dX3_letsThrough_2 : decode cX3_letsThrough 2 = .ok (.invokevirtual 46, 3) := by decide +kernel
theorem dX3_letsThrough_5 : decode cX3_letsThrough 5 = .ok (.ifCond .eq 27, 3) := by decide +kernel
theorem dX3_letsThrough_8 : decode cX3_letsThrough 8 = .ok (.aload_n 0, 1) := by decide +kernel
theorem dX3_letsThrough_9 : decode cX3_letsThrough 9 = .ok (.getfield 9, 3) := by decide +kernel
theorem dX3_letsThrough_12 : decode cX3_letsThrough 12 = .ok (.iload_n 1, 1) := by decide +kernel
theorem dX3_letsThrough_13 : decode cX3_letsThrough 13 = .ok (.iaload, 1) := by decide +kernel
theorem dX3_letsThrough_14 : decode cX3_letsThrough 14 = .ok (.aload_n 0, 1) := by decide +kernel
theorem dX3_letsThrough_15 : decode cX3_letsThrough 15 = .ok (.getfield 15, 3) := by decide +kernel
theorem dX3_letsThrough_18 : decode cX3_letsThrough 18 = .ok (.iload_n 1, 1) := by decide +kernel
theorem dX3_letsThrough_19 : decode cX3_letsThrough 19 = .ok (.iaload, 1) := by decide +kernel
theorem dX3_letsThrough_20 : decode cX3_letsThrough 20 = .ok (.aload_n 0, 1) := by decide +kernel
theorem dX3_letsThrough_21 : decode cX3_letsThrough 21 = .ok (.getfield 18, 3) := by decide +kernel
theorem dX3_letsThrough_24 : decode cX3_letsThrough 24 = .ok (.iload_n 1, 1) := by decide +kernel
theorem dX3_letsThrough_25 : decode cX3_letsThrough 25 = .ok (.iaload, 1) := by decide +kernel
theorem dX3_letsThrough_26 : decode cX3_letsThrough 26 = .ok (.invokestatic 50, 3) := by decide +kernel
theorem dX3_letsThrough_29 : decode cX3_letsThrough 29 = .ok (.goto 4, 3) := by decide +kernel
theorem dX3_letsThrough_32 : decode cX3_letsThrough 32 = .ok (.iconst 0, 1) := by decide +kernel
theorem dX3_letsThrough_33 : decode cX3_letsThrough 33 = .ok (.ireturn, 1) := by decide +kernel
theorem dX3_allBits_0 : decode cX3_allBits 0 = .ok (.iconst 1, 1) := by decide +kernel
theorem dX3_allBits_1 : decode cX3_allBits 1 = .ok (.aload_n 0, 1) := by decide +kernel
theorem dX3_allBits_2 : decode cX3_allBits 2 = .ok (.getfield 30, 3) := by decide +kernel
theorem dX3_allBits_5 : decode cX3_allBits 5 = .ok (.ishl, 1) := by decide +kernel
theorem dX3_allBits_6 : decode cX3_allBits 6 = .ok (.iconst 1, 1) := by decide +kernel
theorem dX3_allBits_7 : decode cX3_allBits 7 = .ok (.isub, 1) := by decide +kernel
theorem dX3_allBits_8 : decode cX3_allBits 8 = .ok (.ireturn, 1) := by decide +kernel
theorem dX3_blockedBits_0 : decode cX3_blockedBits 0 = .ok (.aload_n 0, 1) := by decide +kernel
theorem dX3_blockedBits_1 : decode cX3_blockedBits 1 = .ok (.getfield 34, 3) := by decide +kernel
theorem dX3_blockedBits_4 : decode cX3_blockedBits 4 = .ok (.ireturn, 1) := by decide +kernel
theorem dX3_wetBits_0 : decode cX3_wetBits 0 = .ok (.aload_n 0, 1) := by decide +kernel
theorem dX3_wetBits_1 : decode cX3_wetBits 1 = .ok (.getfield 37, 3) := by decide +kernel
theorem dX3_wetBits_4 : decode cX3_wetBits 4 = .ok (.ireturn, 1) := by decide +kernel
theorem dX3_inCup_0 : decode cX3_inCup 0 = .ok (.aload_n 0, 1) := by decide +kernel
theorem dX3_inCup_1 : decode cX3_inCup 1 = .ok (.getfield 40, 3) := by decide +kernel
theorem dX3_inCup_4 : decode cX3_inCup 4 = .ok (.ireturn, 1) := by decide +kernel
theorem dX3_hour_0 : decode cX3_hour 0 = .ok (.aload_n 0, 1) := by decide +kernel
theorem dX3_hour_1 : decode cX3_hour 1 = .ok (.getfield 43, 3) := by decide +kernel
theorem dX3_hour_4 : decode cX3_hour 4 = .ok (.ireturn, 1) := by decide +kernel
theorem dX3_hasTimeFor_0 : decode cX3_hasTimeFor 0 = .ok (.iload_n 1, 1) := by decide +kernel
theorem dX3_hasTimeFor_1 : decode cX3_hasTimeFor 1 = .ok (.iconst 1, 1) := by decide +kernel
theorem dX3_hasTimeFor_2 : decode cX3_hasTimeFor 2 = .ok (.if_icmp .lt 25, 3) := by decide +kernel
theorem dX3_hasTimeFor_5 : decode cX3_hasTimeFor 5 = .ok (.iload_n 1, 1) := by decide +kernel
theorem dX3_hasTimeFor_6 : decode cX3_hasTimeFor 6 = .ok (.bipush 60, 2) := by decide +kernel
theorem dX3_hasTimeFor_8 : decode cX3_hasTimeFor 8 = .ok (.if_icmp .gt 19, 3) := by decide +kernel
theorem dX3_hasTimeFor_11 : decode cX3_hasTimeFor 11 = .ok (.iload_n 1, 1) := by decide +kernel
theorem dX3_hasTimeFor_12 : decode cX3_hasTimeFor 12 = .ok (.sipush 999, 3) := by decide +kernel
theorem dX3_hasTimeFor_15 : decode cX3_hasTimeFor 15 = .ok (.aload_n 0, 1) := by decide +kernel
theorem dX3_hasTimeFor_16 : decode cX3_hasTimeFor 16 = .ok (.getfield 43, 3) := by decide +kernel
theorem dX3_hasTimeFor_19 : decode cX3_hasTimeFor 19 = .ok (.isub, 1) := by decide +kernel
theorem dX3_hasTimeFor_20 : decode cX3_hasTimeFor 20 = .ok (.if_icmp .gt 7, 3) := by decide +kernel
theorem dX3_hasTimeFor_23 : decode cX3_hasTimeFor 23 = .ok (.iconst 1, 1) := by decide +kernel
theorem dX3_hasTimeFor_24 : decode cX3_hasTimeFor 24 = .ok (.goto 4, 3) := by decide +kernel
theorem dX3_hasTimeFor_27 : decode cX3_hasTimeFor 27 = .ok (.iconst 0, 1) := by decide +kernel
theorem dX3_hasTimeFor_28 : decode cX3_hasTimeFor 28 = .ok (.ireturn, 1) := by decide +kernel
theorem dX3_hasDripped_0 : decode cX3_hasDripped 0 = .ok (.aload_n 0, 1) := by decide +kernel
theorem dX3_hasDripped_1 : decode cX3_hasDripped 1 = .ok (.getfield 56, 3) := by decide +kernel
theorem dX3_hasDripped_4 : decode cX3_hasDripped 4 = .ok (.ireturn, 1) := by decide +kernel
theorem dX3_holdsInAll_0 : decode cX3_holdsInAll 0 = .ok (.iconst 0, 1) := by decide +kernel
theorem dX3_holdsInAll_1 : decode cX3_holdsInAll 1 = .ok (.istore_n 1, 1) := by decide +kernel
theorem dX3_holdsInAll_2 : decode cX3_holdsInAll 2 = .ok (.iconst 0, 1) := by decide +kernel
theorem dX3_holdsInAll_3 : decode cX3_holdsInAll 3 = .ok (.istore_n 2, 1) := by decide +kernel
theorem dX3_holdsInAll_4 : decode cX3_holdsInAll 4 = .ok (.iload_n 2, 1) := by decide +kernel
theorem dX3_holdsInAll_5 : decode cX3_holdsInAll 5 = .ok (.aload_n 0, 1) := by decide +kernel
theorem dX3_holdsInAll_6 : decode cX3_holdsInAll 6 = .ok (.getfield 30, 3) := by decide +kernel
theorem dX3_holdsInAll_9 : decode cX3_holdsInAll 9 = .ok (.if_icmp .ge 18, 3) := by decide +kernel
theorem dX3_holdsInAll_12 : decode cX3_holdsInAll 12 = .ok (.iload_n 1, 1) := by decide +kernel
theorem dX3_holdsInAll_13 : decode cX3_holdsInAll 13 = .ok (.aload_n 0, 1) := by decide +kernel
theorem dX3_holdsInAll_14 : decode cX3_holdsInAll 14 = .ok (.getfield 18, 3) := by decide +kernel
theorem dX3_holdsInAll_17 : decode cX3_holdsInAll 17 = .ok (.iload_n 2, 1) := by decide +kernel
theorem dX3_holdsInAll_18 : decode cX3_holdsInAll 18 = .ok (.iaload, 1) := by decide +kernel
theorem dX3_holdsInAll_19 : decode cX3_holdsInAll 19 = .ok (.iadd, 1) := by decide +kernel
theorem dX3_holdsInAll_20 : decode cX3_holdsInAll 20 = .ok (.istore_n 1, 1) := by decide +kernel
theorem dX3_holdsInAll_21 : decode cX3_holdsInAll 21 = .ok (.iinc 2 1, 3) := by decide +kernel
theorem dX3_holdsInAll_24 : decode cX3_holdsInAll 24 = .ok (.goto (-20), 3) := by decide +kernel
theorem dX3_holdsInAll_27 : decode cX3_holdsInAll 27 = .ok (.iload_n 1, 1) := by decide +kernel
theorem dX3_holdsInAll_28 : decode cX3_holdsInAll 28 = .ok (.ireturn, 1) := by decide +kernel
theorem dX3_wayBits_0 : decode cX3_wayBits 0 = .ok (.iconst 0, 1) := by decide +kernel
theorem dX3_wayBits_1 : decode cX3_wayBits 1 = .ok (.istore_n 2, 1) := by decide +kernel
theorem dX3_wayBits_2 : decode cX3_wayBits 2 = .ok (.iload_n 1, 1) := by decide +kernel
theorem dX3_wayBits_3 : decode cX3_wayBits 3 = .ok (.istore_n 3, 1) := by decide +kernel
theorem dX3_wayBits_4 : decode cX3_wayBits 4 = .ok (.iconst 0, 1) := by decide +kernel
theorem dX3_wayBits_5 : decode cX3_wayBits 5 = .ok (.istore 4, 2) := by decide +kernel
theorem dX3_wayBits_7 : decode cX3_wayBits 7 = .ok (.iload 4, 2) := by decide +kernel
theorem dX3_wayBits_9 : decode cX3_wayBits 9 = .ok (.bipush 9, 2) := by decide +kernel
theorem dX3_wayBits_11 : decode cX3_wayBits 11 = .ok (.if_icmp .ge 30, 3) := by decide +kernel
theorem dX3_wayBits_14 : decode cX3_wayBits 14 = .ok (.aload_n 0, 1) := by decide +kernel
theorem dX3_wayBits_15 : decode cX3_wayBits 15 = .ok (.iload_n 3, 1) := by decide +kernel
theorem dX3_wayBits_16 : decode cX3_wayBits 16 = .ok (.invokevirtual 46, 3) := by decide +kernel
theorem dX3_wayBits_19 : decode cX3_wayBits 19 = .ok (.ifCond .eq 22, 3) := by decide +kernel
theorem dX3_wayBits_22 : decode cX3_wayBits 22 = .ok (.iload_n 2, 1) := by decide +kernel
theorem dX3_wayBits_23 : decode cX3_wayBits 23 = .ok (.iconst 1, 1) := by decide +kernel
theorem dX3_wayBits_24 : decode cX3_wayBits 24 = .ok (.iload_n 3, 1) := by decide +kernel
theorem dX3_wayBits_25 : decode cX3_wayBits 25 = .ok (.ishl, 1) := by decide +kernel
theorem dX3_wayBits_26 : decode cX3_wayBits 26 = .ok (.ior, 1) := by decide +kernel
theorem dX3_wayBits_27 : decode cX3_wayBits 27 = .ok (.istore_n 2, 1) := by decide +kernel
theorem dX3_wayBits_28 : decode cX3_wayBits 28 = .ok (.aload_n 0, 1) := by decide +kernel
theorem dX3_wayBits_29 : decode cX3_wayBits 29 = .ok (.getfield 21, 3) := by decide +kernel
theorem dX3_wayBits_32 : decode cX3_wayBits 32 = .ok (.iload_n 3, 1) := by decide +kernel
theorem dX3_wayBits_33 : decode cX3_wayBits 33 = .ok (.iaload, 1) := by decide +kernel
theorem dX3_wayBits_34 : decode cX3_wayBits 34 = .ok (.istore_n 3, 1) := by decide +kernel
theorem dX3_wayBits_35 : decode cX3_wayBits 35 = .ok (.iinc 4 1, 3) := by decide +kernel
theorem dX3_wayBits_38 : decode cX3_wayBits 38 = .ok (.goto (-31), 3) := by decide +kernel
theorem dX3_wayBits_41 : decode cX3_wayBits 41 = .ok (.iload_n 2, 1) := by decide +kernel
theorem dX3_wayBits_42 : decode cX3_wayBits 42 = .ok (.ireturn, 1) := by decide +kernel
theorem dX3_build_0 : decode cX3_build 0 = .ok (.aload_n 0, 1) := by decide +kernel
theorem dX3_build_1 : decode cX3_build 1 = .ok (.getfield 30, 3) := by decide +kernel
theorem dX3_build_4 : decode cX3_build 4 = .ok (.bipush 9, 2) := by decide +kernel
theorem dX3_build_6 : decode cX3_build 6 = .ok (.if_icmp .ge 12, 3) := by decide +kernel
theorem dX3_build_9 : decode cX3_build 9 = .ok (.iload_n 1, 1) := by decide +kernel
theorem dX3_build_10 : decode cX3_build 10 = .ok (.ifCond .lt 8, 3) := by decide +kernel
theorem dX3_build_13 : decode cX3_build 13 = .ok (.iload_n 1, 1) := by decide +kernel
theorem dX3_build_14 : decode cX3_build 14 = .ok (.iconst 5, 1) := by decide +kernel
theorem dX3_build_15 : decode cX3_build 15 = .ok (.if_icmp .le 5, 3) := by decide +kernel
theorem dX3_build_18 : decode cX3_build 18 = .ok (.iconst 0, 1) := by decide +kernel
theorem dX3_build_19 : decode cX3_build 19 = .ok (.ireturn, 1) := by decide +kernel
theorem dX3_build_20 : decode cX3_build 20 = .ok (.aload_n 0, 1) := by decide +kernel
theorem dX3_build_21 : decode cX3_build 21 = .ok (.getfield 9, 3) := by decide +kernel
theorem dX3_build_24 : decode cX3_build 24 = .ok (.aload_n 0, 1) := by decide +kernel
theorem dX3_build_25 : decode cX3_build 25 = .ok (.getfield 30, 3) := by decide +kernel
theorem dX3_build_28 : decode cX3_build 28 = .ok (.iload_n 1, 1) := by decide +kernel
theorem dX3_build_29 : decode cX3_build 29 = .ok (.iastore, 1) := by decide +kernel
theorem dX3_build_30 : decode cX3_build 30 = .ok (.aload_n 0, 1) := by decide +kernel
theorem dX3_build_31 : decode cX3_build 31 = .ok (.getfield 15, 3) := by decide +kernel
theorem dX3_build_34 : decode cX3_build 34 = .ok (.aload_n 0, 1) := by decide +kernel
theorem dX3_build_35 : decode cX3_build 35 = .ok (.getfield 30, 3) := by decide +kernel
theorem dX3_build_38 : decode cX3_build 38 = .ok (.iload_n 2, 1) := by decide +kernel
theorem dX3_build_39 : decode cX3_build 39 = .ok (.iastore, 1) := by decide +kernel
theorem dX3_build_40 : decode cX3_build 40 = .ok (.aload_n 0, 1) := by decide +kernel
theorem dX3_build_41 : decode cX3_build 41 = .ok (.getfield 18, 3) := by decide +kernel
theorem dX3_build_44 : decode cX3_build 44 = .ok (.aload_n 0, 1) := by decide +kernel
theorem dX3_build_45 : decode cX3_build 45 = .ok (.getfield 30, 3) := by decide +kernel
theorem dX3_build_48 : decode cX3_build 48 = .ok (.iconst 0, 1) := by decide +kernel
theorem dX3_build_49 : decode cX3_build 49 = .ok (.iastore, 1) := by decide +kernel
theorem dX3_build_50 : decode cX3_build 50 = .ok (.aload_n 0, 1) := by decide +kernel
theorem dX3_build_51 : decode cX3_build 51 = .ok (.getfield 21, 3) := by decide +kernel
theorem dX3_build_54 : decode cX3_build 54 = .ok (.aload_n 0, 1) := by decide +kernel
theorem dX3_build_55 : decode cX3_build 55 = .ok (.getfield 30, 3) := by decide +kernel
theorem dX3_build_58 : decode cX3_build 58 = .ok (.bipush 9, 2) := by decide +kernel
theorem dX3_build_60 : decode cX3_build 60 = .ok (.iastore, 1) := by decide +kernel
theorem dX3_build_61 : decode cX3_build 61 = .ok (.aload_n 0, 1) := by decide +kernel
theorem dX3_build_62 : decode cX3_build 62 = .ok (.dup, 1) := by decide +kernel
theorem dX3_build_63 : decode cX3_build 63 = .ok (.getfield 30, 3) := by decide +kernel
theorem dX3_build_66 : decode cX3_build 66 = .ok (.iconst 1, 1) := by decide +kernel
theorem dX3_build_67 : decode cX3_build 67 = .ok (.iadd, 1) := by decide +kernel
theorem dX3_build_68 : decode cX3_build 68 = .ok (.putfield 30, 3) := by decide +kernel
theorem dX3_build_71 : decode cX3_build 71 = .ok (.iconst 1, 1) := by decide +kernel
theorem dX3_build_72 : decode cX3_build 72 = .ok (.ireturn, 1) := by decide +kernel
theorem dX3_remake_0 : decode cX3_remake 0 = .ok (.aload_n 0, 1) := by decide +kernel
theorem dX3_remake_1 : decode cX3_remake 1 = .ok (.iload_n 1, 1) := by decide +kernel
theorem dX3_remake_2 : decode cX3_remake 2 = .ok (.invokevirtual 46, 3) := by decide +kernel
theorem dX3_remake_5 : decode cX3_remake 5 = .ok (.ifCond .eq 17, 3) := by decide +kernel
theorem dX3_remake_8 : decode cX3_remake 8 = .ok (.aload_n 0, 1) := by decide +kernel
theorem dX3_remake_9 : decode cX3_remake 9 = .ok (.getfield 9, 3) := by decide +kernel
theorem dX3_remake_12 : decode cX3_remake 12 = .ok (.iload_n 1, 1) := by decide +kernel
theorem dX3_remake_13 : decode cX3_remake 13 = .ok (.iload_n 2, 1) := by decide +kernel
theorem dX3_remake_14 : decode cX3_remake 14 = .ok (.iastore, 1) := by decide +kernel
theorem dX3_remake_15 : decode cX3_remake 15 = .ok (.aload_n 0, 1) := by decide +kernel
theorem dX3_remake_16 : decode cX3_remake 16 = .ok (.getfield 15, 3) := by decide +kernel
theorem dX3_remake_19 : decode cX3_remake 19 = .ok (.iload_n 1, 1) := by decide +kernel
theorem dX3_remake_20 : decode cX3_remake 20 = .ok (.iload_n 3, 1) := by decide +kernel
theorem dX3_remake_21 : decode cX3_remake 21 = .ok (.iastore, 1) := by decide +kernel
theorem dX3_remake_22 : decode cX3_remake 22 = .ok (.return_, 1) := by decide +kernel
theorem dX3_lead_0 : decode cX3_lead 0 = .ok (.aload_n 0, 1) := by decide +kernel
theorem dX3_lead_1 : decode cX3_lead 1 = .ok (.iload_n 1, 1) := by decide +kernel
theorem dX3_lead_2 : decode cX3_lead 2 = .ok (.invokevirtual 46, 3) := by decide +kernel
theorem dX3_lead_5 : decode cX3_lead 5 = .ok (.ifCond .eq 14, 3) := by decide +kernel
theorem dX3_lead_8 : decode cX3_lead 8 = .ok (.iload_n 2, 1) := by decide +kernel
theorem dX3_lead_9 : decode cX3_lead 9 = .ok (.iload_n 1, 1) := by decide +kernel
theorem dX3_lead_10 : decode cX3_lead 10 = .ok (.if_icmp .le 9, 3) := by decide +kernel
theorem dX3_lead_13 : decode cX3_lead 13 = .ok (.iload_n 2, 1) := by decide +kernel
theorem dX3_lead_14 : decode cX3_lead 14 = .ok (.bipush 9, 2) := by decide +kernel
theorem dX3_lead_16 : decode cX3_lead 16 = .ok (.if_icmp .le 5, 3) := by decide +kernel
theorem dX3_lead_19 : decode cX3_lead 19 = .ok (.iconst 0, 1) := by decide +kernel
theorem dX3_lead_20 : decode cX3_lead 20 = .ok (.ireturn, 1) := by decide +kernel
theorem dX3_lead_21 : decode cX3_lead 21 = .ok (.aload_n 0, 1) := by decide +kernel
theorem dX3_lead_22 : decode cX3_lead 22 = .ok (.getfield 21, 3) := by decide +kernel
theorem dX3_lead_25 : decode cX3_lead 25 = .ok (.iload_n 1, 1) := by decide +kernel
theorem dX3_lead_26 : decode cX3_lead 26 = .ok (.iload_n 2, 1) := by decide +kernel
theorem dX3_lead_27 : decode cX3_lead 27 = .ok (.iastore, 1) := by decide +kernel
theorem dX3_lead_28 : decode cX3_lead 28 = .ok (.iconst 1, 1) := by decide +kernel
theorem dX3_lead_29 : decode cX3_lead 29 = .ok (.ireturn, 1) := by decide +kernel
theorem dX3_blockOrFree_0 : decode cX3_blockOrFree 0 = .ok (.aload_n 0, 1) := by decide +kernel
theorem dX3_blockOrFree_1 : decode cX3_blockOrFree 1 = .ok (.iload_n 1, 1) := by decide +kernel
theorem dX3_blockOrFree_2 : decode cX3_blockOrFree 2 = .ok (.invokevirtual 46, 3) := by decide +kernel
theorem dX3_blockOrFree_5 : decode cX3_blockOrFree 5 = .ok (.ifCond .ne 5, 3) := by decide +kernel
theorem dX3_blockOrFree_8 : decode cX3_blockOrFree 8 = .ok (.iconst 0, 1) := by decide +kernel
theorem dX3_blockOrFree_9 : decode cX3_blockOrFree 9 = .ok (.ireturn, 1) := by decide +kernel
theorem dX3_blockOrFree_10 : decode cX3_blockOrFree 10 = .ok (.aload_n 0, 1) := by decide +kernel
theorem dX3_blockOrFree_11 : decode cX3_blockOrFree 11 = .ok (.dup, 1) := by decide +kernel
theorem dX3_blockOrFree_12 : decode cX3_blockOrFree 12 = .ok (.getfield 34, 3) := by decide +kernel
theorem dX3_blockOrFree_15 : decode cX3_blockOrFree 15 = .ok (.iconst 1, 1) := by decide +kernel
theorem dX3_blockOrFree_16 : decode cX3_blockOrFree 16 = .ok (.iload_n 1, 1) := by decide +kernel
theorem dX3_blockOrFree_17 : decode cX3_blockOrFree 17 = .ok (.ishl, 1) := by decide +kernel
theorem dX3_blockOrFree_18 : decode cX3_blockOrFree 18 = .ok (.ixor, 1) := by decide +kernel
theorem dX3_blockOrFree_19 : decode cX3_blockOrFree 19 = .ok (.putfield 34, 3) := by decide +kernel
theorem dX3_blockOrFree_22 : decode cX3_blockOrFree 22 = .ok (.iconst 1, 1) := by decide +kernel
theorem dX3_blockOrFree_23 : decode cX3_blockOrFree 23 = .ok (.ireturn, 1) := by decide +kernel
theorem dX3_block_0 : decode cX3_block 0 = .ok (.aload_n 0, 1) := by decide +kernel
theorem dX3_block_1 : decode cX3_block 1 = .ok (.iload_n 1, 1) := by decide +kernel
theorem dX3_block_2 : decode cX3_block 2 = .ok (.invokevirtual 46, 3) := by decide +kernel
theorem dX3_block_5 : decode cX3_block 5 = .ok (.ifCond .eq 15, 3) := by decide +kernel
theorem dX3_block_8 : decode cX3_block 8 = .ok (.aload_n 0, 1) := by decide +kernel
theorem dX3_block_9 : decode cX3_block 9 = .ok (.dup, 1) := by decide +kernel
theorem dX3_block_10 : decode cX3_block 10 = .ok (.getfield 34, 3) := by decide +kernel
theorem dX3_block_13 : decode cX3_block 13 = .ok (.iconst 1, 1) := by decide +kernel
theorem dX3_block_14 : decode cX3_block 14 = .ok (.iload_n 1, 1) := by decide +kernel
theorem dX3_block_15 : decode cX3_block 15 = .ok (.ishl, 1) := by decide +kernel
theorem dX3_block_16 : decode cX3_block 16 = .ok (.ior, 1) := by decide +kernel
theorem dX3_block_17 : decode cX3_block 17 = .ok (.putfield 34, 3) := by decide +kernel
theorem dX3_block_20 : decode cX3_block 20 = .ok (.return_, 1) := by decide +kernel
theorem dX3_free_0 : decode cX3_free 0 = .ok (.aload_n 0, 1) := by decide +kernel
theorem dX3_free_1 : decode cX3_free 1 = .ok (.dup, 1) := by decide +kernel
theorem dX3_free_2 : decode cX3_free 2 = .ok (.getfield 34, 3) := by decide +kernel
theorem dX3_free_5 : decode cX3_free 5 = .ok (.iload_n 1, 1) := by decide +kernel
theorem dX3_free_6 : decode cX3_free 6 = .ok (.iconst (-1), 1) := by decide +kernel
theorem dX3_free_7 : decode cX3_free 7 = .ok (.ixor, 1) := by decide +kernel
theorem dX3_free_8 : decode cX3_free 8 = .ok (.iand, 1) := by decide +kernel
theorem dX3_free_9 : decode cX3_free 9 = .ok (.putfield 34, 3) := by decide +kernel
theorem dX3_free_12 : decode cX3_free 12 = .ok (.return_, 1) := by decide +kernel
theorem dX3_fill_0 : decode cX3_fill 0 = .ok (.aload_n 0, 1) := by decide +kernel
theorem dX3_fill_1 : decode cX3_fill 1 = .ok (.iload_n 1, 1) := by decide +kernel
theorem dX3_fill_2 : decode cX3_fill 2 = .ok (.invokevirtual 46, 3) := by decide +kernel
theorem dX3_fill_5 : decode cX3_fill 5 = .ok (.ifCond .ne 5, 3) := by decide +kernel
theorem dX3_fill_8 : decode cX3_fill 8 = .ok (.iconst 0, 1) := by decide +kernel
theorem dX3_fill_9 : decode cX3_fill 9 = .ok (.ireturn, 1) := by decide +kernel
theorem dX3_fill_10 : decode cX3_fill 10 = .ok (.aload_n 0, 1) := by decide +kernel
theorem dX3_fill_11 : decode cX3_fill 11 = .ok (.getfield 18, 3) := by decide +kernel
theorem dX3_fill_14 : decode cX3_fill 14 = .ok (.iload_n 1, 1) := by decide +kernel
theorem dX3_fill_15 : decode cX3_fill 15 = .ok (.bipush 99, 2) := by decide +kernel
theorem dX3_fill_17 : decode cX3_fill 17 = .ok (.aload_n 0, 1) := by decide +kernel
theorem dX3_fill_18 : decode cX3_fill 18 = .ok (.getfield 18, 3) := by decide +kernel
theorem dX3_fill_21 : decode cX3_fill 21 = .ok (.iload_n 1, 1) := by decide +kernel
theorem dX3_fill_22 : decode cX3_fill 22 = .ok (.iaload, 1) := by decide +kernel
theorem dX3_fill_23 : decode cX3_fill 23 = .ok (.iload_n 2, 1) := by decide +kernel
theorem dX3_fill_24 : decode cX3_fill 24 = .ok (.iadd, 1) := by decide +kernel
theorem dX3_fill_25 : decode cX3_fill 25 = .ok (.invokestatic 60, 3) := by decide +kernel
theorem dX3_fill_28 : decode cX3_fill 28 = .ok (.iastore, 1) := by decide +kernel
theorem dX3_fill_29 : decode cX3_fill 29 = .ok (.iload_n 2, 1) := by decide +kernel
theorem dX3_fill_30 : decode cX3_fill 30 = .ok (.ifCond .le 15, 3) := by decide +kernel
theorem dX3_fill_33 : decode cX3_fill 33 = .ok (.aload_n 0, 1) := by decide +kernel
theorem dX3_fill_34 : decode cX3_fill 34 = .ok (.dup, 1) := by decide +kernel
theorem dX3_fill_35 : decode cX3_fill 35 = .ok (.getfield 37, 3) := by decide +kernel
theorem dX3_fill_38 : decode cX3_fill 38 = .ok (.iconst 1, 1) := by decide +kernel
theorem dX3_fill_39 : decode cX3_fill 39 = .ok (.iload_n 1, 1) := by decide +kernel
theorem dX3_fill_40 : decode cX3_fill 40 = .ok (.ishl, 1) := by decide +kernel
theorem dX3_fill_41 : decode cX3_fill 41 = .ok (.ior, 1) := by decide +kernel
theorem dX3_fill_42 : decode cX3_fill 42 = .ok (.putfield 37, 3) := by decide +kernel
theorem dX3_fill_45 : decode cX3_fill 45 = .ok (.iconst 1, 1) := by decide +kernel
theorem dX3_fill_46 : decode cX3_fill 46 = .ok (.ireturn, 1) := by decide +kernel
theorem dX3_emptyCup_0 : decode cX3_emptyCup 0 = .ok (.aload_n 0, 1) := by decide +kernel
theorem dX3_emptyCup_1 : decode cX3_emptyCup 1 = .ok (.iconst 0, 1) := by decide +kernel
theorem dX3_emptyCup_2 : decode cX3_emptyCup 2 = .ok (.putfield 40, 3) := by decide +kernel
theorem dX3_emptyCup_5 : decode cX3_emptyCup 5 = .ok (.return_, 1) := by decide +kernel
theorem dX3_flow_0 : decode cX3_flow 0 = .ok (.iconst 0, 1) := by decide +kernel
theorem dX3_flow_1 : decode cX3_flow 1 = .ok (.istore_n 1, 1) := by decide +kernel
theorem dX3_flow_2 : decode cX3_flow 2 = .ok (.aload_n 0, 1) := by decide +kernel
theorem dX3_flow_3 : decode cX3_flow 3 = .ok (.iconst 0, 1) := by decide +kernel
theorem dX3_flow_4 : decode cX3_flow 4 = .ok (.putfield 56, 3) := by decide +kernel
theorem dX3_flow_7 : decode cX3_flow 7 = .ok (.iconst 0, 1) := by decide +kernel
theorem dX3_flow_8 : decode cX3_flow 8 = .ok (.istore_n 2, 1) := by decide +kernel
theorem dX3_flow_9 : decode cX3_flow 9 = .ok (.iload_n 2, 1) := by decide +kernel
theorem dX3_flow_10 : decode cX3_flow 10 = .ok (.aload_n 0, 1) := by decide +kernel
theorem dX3_flow_11 : decode cX3_flow 11 = .ok (.getfield 30, 3) := by decide +kernel
theorem dX3_flow_14 : decode cX3_flow 14 = .ok (.if_icmp .ge 115, 3) := by decide +kernel
theorem dX3_flow_17 : decode cX3_flow 17 = .ok (.aload_n 0, 1) := by decide +kernel
theorem dX3_flow_18 : decode cX3_flow 18 = .ok (.iload_n 2, 1) := by decide +kernel
theorem dX3_flow_19 : decode cX3_flow 19 = .ok (.invokevirtual 66, 3) := by decide +kernel
theorem dX3_flow_22 : decode cX3_flow 22 = .ok (.ifCond .eq 7, 3) := by decide +kernel
theorem dX3_flow_25 : decode cX3_flow 25 = .ok (.iconst 0, 1) := by decide +kernel
theorem dX3_flow_26 : decode cX3_flow 26 = .ok (.goto 24, 3) := by decide +kernel
theorem dX3_flow_29 : decode cX3_flow 29 = .ok (.aload_n 0, 1) := by decide +kernel
theorem dX3_flow_30 : decode cX3_flow 30 = .ok (.getfield 9, 3) := by decide +kernel
theorem dX3_flow_33 : decode cX3_flow 33 = .ok (.iload_n 2, 1) := by decide +kernel
theorem dX3_flow_34 : decode cX3_flow 34 = .ok (.iaload, 1) := by decide +kernel
theorem dX3_flow_35 : decode cX3_flow 35 = .ok (.aload_n 0, 1) := by decide +kernel
theorem dX3_flow_36 : decode cX3_flow 36 = .ok (.getfield 15, 3) := by decide +kernel
theorem dX3_flow_39 : decode cX3_flow 39 = .ok (.iload_n 2, 1) := by decide +kernel
theorem dX3_flow_40 : decode cX3_flow 40 = .ok (.iaload, 1) := by decide +kernel
theorem dX3_flow_41 : decode cX3_flow 41 = .ok (.aload_n 0, 1) := by decide +kernel
theorem dX3_flow_42 : decode cX3_flow 42 = .ok (.getfield 18, 3) := by decide +kernel
theorem dX3_flow_45 : decode cX3_flow 45 = .ok (.iload_n 2, 1) := by decide +kernel
theorem dX3_flow_46 : decode cX3_flow 46 = .ok (.iaload, 1) := by decide +kernel
theorem dX3_flow_47 : decode cX3_flow 47 = .ok (.invokestatic 50, 3) := by decide +kernel
theorem dX3_flow_50 : decode cX3_flow 50 = .ok (.istore_n 3, 1) := by decide +kernel
theorem dX3_flow_51 : decode cX3_flow 51 = .ok (.iload_n 3, 1) := by decide +kernel
theorem dX3_flow_52 : decode cX3_flow 52 = .ok (.ifCond .le 71, 3) := by decide +kernel
theorem dX3_flow_55 : decode cX3_flow 55 = .ok (.aload_n 0, 1) := by decide +kernel
theorem dX3_flow_56 : decode cX3_flow 56 = .ok (.getfield 18, 3) := by decide +kernel
theorem dX3_flow_59 : decode cX3_flow 59 = .ok (.iload_n 2, 1) := by decide +kernel
theorem dX3_flow_60 : decode cX3_flow 60 = .ok (.dup2, 1) := by decide +kernel
theorem dX3_flow_61 : decode cX3_flow 61 = .ok (.iaload, 1) := by decide +kernel
theorem dX3_flow_62 : decode cX3_flow 62 = .ok (.iload_n 3, 1) := by decide +kernel
theorem dX3_flow_63 : decode cX3_flow 63 = .ok (.isub, 1) := by decide +kernel
theorem dX3_flow_64 : decode cX3_flow 64 = .ok (.iastore, 1) := by decide +kernel
theorem dX3_flow_65 : decode cX3_flow 65 = .ok (.iconst 1, 1) := by decide +kernel
theorem dX3_flow_66 : decode cX3_flow 66 = .ok (.istore_n 1, 1) := by decide +kernel
theorem dX3_flow_67 : decode cX3_flow 67 = .ok (.iload_n 3, 1) := by decide +kernel
theorem dX3_flow_68 : decode cX3_flow 68 = .ok (.aload_n 0, 1) := by decide +kernel
theorem dX3_flow_69 : decode cX3_flow 69 = .ok (.getfield 9, 3) := by decide +kernel
theorem dX3_flow_72 : decode cX3_flow 72 = .ok (.iload_n 2, 1) := by decide +kernel
theorem dX3_flow_73 : decode cX3_flow 73 = .ok (.iaload, 1) := by decide +kernel
theorem dX3_flow_74 : decode cX3_flow 74 = .ok (.aload_n 0, 1) := by decide +kernel
theorem dX3_flow_75 : decode cX3_flow 75 = .ok (.getfield 15, 3) := by decide +kernel
theorem dX3_flow_78 : decode cX3_flow 78 = .ok (.iload_n 2, 1) := by decide +kernel
theorem dX3_flow_79 : decode cX3_flow 79 = .ok (.iaload, 1) := by decide +kernel
theorem dX3_flow_80 : decode cX3_flow 80 = .ok (.invokestatic 69, 3) := by decide +kernel
theorem dX3_flow_83 : decode cX3_flow 83 = .ok (.iadd, 1) := by decide +kernel
theorem dX3_flow_84 : decode cX3_flow 84 = .ok (.istore 4, 2) := by decide +kernel
theorem dX3_flow_86 : decode cX3_flow 86 = .ok (.aload_n 0, 1) := by decide +kernel
theorem dX3_flow_87 : decode cX3_flow 87 = .ok (.aload_n 0, 1) := by decide +kernel
theorem dX3_flow_88 : decode cX3_flow 88 = .ok (.getfield 21, 3) := by decide +kernel
theorem dX3_flow_91 : decode cX3_flow 91 = .ok (.iload_n 2, 1) := by decide +kernel
theorem dX3_flow_92 : decode cX3_flow 92 = .ok (.iaload, 1) := by decide +kernel
theorem dX3_flow_93 : decode cX3_flow 93 = .ok (.iload 4, 2) := by decide +kernel
theorem dX3_flow_95 : decode cX3_flow 95 = .ok (.invokevirtual 72, 3) := by decide +kernel
theorem dX3_flow_98 : decode cX3_flow 98 = .ok (.ifCond .ne 25, 3) := by decide +kernel
theorem dX3_flow_101 : decode cX3_flow 101 = .ok (.aload_n 0, 1) := by decide +kernel
theorem dX3_flow_102 : decode cX3_flow 102 = .ok (.sipush 9999, 3) := by decide +kernel
theorem dX3_flow_105 : decode cX3_flow 105 = .ok (.aload_n 0, 1) := by decide +kernel
theorem dX3_flow_106 : decode cX3_flow 106 = .ok (.getfield 40, 3) := by decide +kernel
theorem dX3_flow_109 : decode cX3_flow 109 = .ok (.iload 4, 2) := by decide +kernel
theorem dX3_flow_111 : decode cX3_flow 111 = .ok (.iadd, 1) := by decide +kernel
theorem dX3_flow_112 : decode cX3_flow 112 = .ok (.invokestatic 60, 3) := by decide +kernel
theorem dX3_flow_115 : decode cX3_flow 115 = .ok (.putfield 40, 3) := by decide +kernel
theorem dX3_flow_118 : decode cX3_flow 118 = .ok (.aload_n 0, 1) := by decide +kernel
theorem dX3_flow_119 : decode cX3_flow 119 = .ok (.iconst 1, 1) := by decide +kernel
theorem dX3_flow_120 : decode cX3_flow 120 = .ok (.putfield 56, 3) := by decide +kernel
theorem dX3_flow_123 : decode cX3_flow 123 = .ok (.iinc 2 1, 3) := by decide +kernel
theorem dX3_flow_126 : decode cX3_flow 126 = .ok (.goto (-117), 3) := by decide +kernel
theorem dX3_flow_129 : decode cX3_flow 129 = .ok (.iload_n 1, 1) := by decide +kernel
theorem dX3_flow_130 : decode cX3_flow 130 = .ok (.ireturn, 1) := by decide +kernel
theorem dX3_pass_0 : decode cX3_pass 0 = .ok (.iconst 0, 1) := by decide +kernel
theorem dX3_pass_1 : decode cX3_pass 1 = .ok (.istore_n 2, 1) := by decide +kernel
theorem dX3_pass_2 : decode cX3_pass 2 = .ok (.iload_n 2, 1) := by decide +kernel
theorem dX3_pass_3 : decode cX3_pass 3 = .ok (.iload_n 1, 1) := by decide +kernel
theorem dX3_pass_4 : decode cX3_pass 4 = .ok (.if_icmp .ge 19, 3) := by decide +kernel
theorem dX3_pass_7 : decode cX3_pass 7 = .ok (.aload_n 0, 1) := by decide +kernel
theorem dX3_pass_8 : decode cX3_pass 8 = .ok (.invokevirtual 76, 3) := by decide +kernel
theorem dX3_pass_11 : decode cX3_pass 11 = .ok (.ifCond .ne 6, 3) := by decide +kernel
theorem dX3_pass_14 : decode cX3_pass 14 = .ok (.goto 9, 3) := by decide +kernel
theorem dX3_pass_17 : decode cX3_pass 17 = .ok (.iinc 2 1, 3) := by decide +kernel
theorem dX3_pass_20 : decode cX3_pass 20 = .ok (.goto (-18), 3) := by decide +kernel
theorem dX3_pass_23 : decode cX3_pass 23 = .ok (.aload_n 0, 1) := by decide +kernel
theorem dX3_pass_24 : decode cX3_pass 24 = .ok (.dup, 1) := by decide +kernel
theorem dX3_pass_25 : decode cX3_pass 25 = .ok (.getfield 43, 3) := by decide +kernel
theorem dX3_pass_28 : decode cX3_pass 28 = .ok (.iload_n 1, 1) := by decide +kernel
theorem dX3_pass_29 : decode cX3_pass 29 = .ok (.iadd, 1) := by decide +kernel
theorem dX3_pass_30 : decode cX3_pass 30 = .ok (.putfield 43, 3) := by decide +kernel
theorem dX3_pass_33 : decode cX3_pass 33 = .ok (.return_, 1) := by decide +kernel
theorem dX4_init_0 : decode cX4_init 0 = .ok (.aload_n 0, 1) := by decide +kernel
theorem dX4_init_1 : decode cX4_init 1 = .ok (.invokespecial 3, 3) := by decide +kernel
theorem dX4_init_4 : decode cX4_init 4 = .ok (.aload_n 0, 1) := by decide +kernel
theorem dX4_init_5 : decode cX4_init 5 = .ok (.bipush 8, 2) := by decide +kernel
theorem dX4_init_7 : decode cX4_init 7 = .ok (.anewarray 9, 3) := by decide +kernel
theorem dX4_init_10 : decode cX4_init 10 = .ok (.putfield 11, 3) := by decide +kernel
theorem dX4_init_13 : decode cX4_init 13 = .ok (.iconst 0, 1) := by decide +kernel
theorem dX4_init_14 : decode cX4_init 14 = .ok (.istore_n 1, 1) := by decide +kernel
theorem dX4_init_15 : decode cX4_init 15 = .ok (.iload_n 1, 1) := by decide +kernel
theorem dX4_init_16 : decode cX4_init 16 = .ok (.aload_n 0, 1) := by decide +kernel
theorem dX4_init_17 : decode cX4_init 17 = .ok (.getfield 11, 3) := by decide +kernel
theorem dX4_init_20 : decode cX4_init 20 = .ok (.arraylength, 1) := by decide +kernel
theorem dX4_init_21 : decode cX4_init 21 = .ok (.if_icmp .ge 22, 3) := by decide +kernel
theorem dX4_init_24 : decode cX4_init 24 = .ok (.aload_n 0, 1) := by decide +kernel
theorem dX4_init_25 : decode cX4_init 25 = .ok (.getfield 11, 3) := by decide +kernel
theorem dX4_init_28 : decode cX4_init 28 = .ok (.iload_n 1, 1) := by decide +kernel
theorem dX4_init_29 : decode cX4_init 29 = .ok (.new 9, 3) := by decide +kernel
theorem dX4_init_32 : decode cX4_init 32 = .ok (.dup, 1) := by decide +kernel
theorem dX4_init_33 : decode cX4_init 33 = .ok (.invokespecial 17, 3) := by decide +kernel
theorem dX4_init_36 : decode cX4_init 36 = .ok (.aastore, 1) := by decide +kernel
theorem dX4_init_37 : decode cX4_init 37 = .ok (.iinc 1 1, 3) := by decide +kernel
theorem dX4_init_40 : decode cX4_init 40 = .ok (.goto (-25), 3) := by decide +kernel
theorem dX4_init_43 : decode cX4_init 43 = .ok (.return_, 1) := by decide +kernel
theorem dX4_size_0 : decode cX4_size 0 = .ok (.aload_n 0, 1) := by decide +kernel
theorem dX4_size_1 : decode cX4_size 1 = .ok (.getfield 18, 3) := by decide +kernel
theorem dX4_size_4 : decode cX4_size 4 = .ok (.ireturn, 1) := by decide +kernel
theorem dX4_forget_0 : decode cX4_forget 0 = .ok (.aload_n 0, 1) := by decide +kernel
theorem dX4_forget_1 : decode cX4_forget 1 = .ok (.iconst 0, 1) := by decide +kernel
theorem dX4_forget_2 : decode cX4_forget 2 = .ok (.putfield 18, 3) := by decide +kernel
theorem dX4_forget_5 : decode cX4_forget 5 = .ok (.return_, 1) := by decide +kernel
theorem dX4_keep_0 : decode cX4_keep 0 = .ok (.aload_n 0, 1) := by decide +kernel
theorem dX4_keep_1 : decode cX4_keep 1 = .ok (.aload_n 0, 1) := by decide +kernel
theorem dX4_keep_2 : decode cX4_keep 2 = .ok (.getfield 22, 3) := by decide +kernel
theorem dX4_keep_5 : decode cX4_keep 5 = .ok (.iconst 1, 1) := by decide +kernel
theorem dX4_keep_6 : decode cX4_keep 6 = .ok (.iadd, 1) := by decide +kernel
theorem dX4_keep_7 : decode cX4_keep 7 = .ok (.bipush 8, 2) := by decide +kernel
theorem dX4_keep_9 : decode cX4_keep 9 = .ok (.irem, 1) := by decide +kernel
theorem dX4_keep_10 : decode cX4_keep 10 = .ok (.putfield 22, 3) := by decide +kernel
theorem dX4_keep_13 : decode cX4_keep 13 = .ok (.aload_n 0, 1) := by decide +kernel
theorem dX4_keep_14 : decode cX4_keep 14 = .ok (.bipush 8, 2) := by decide +kernel
theorem dX4_keep_16 : decode cX4_keep 16 = .ok (.aload_n 0, 1) := by decide +kernel
theorem dX4_keep_17 : decode cX4_keep 17 = .ok (.getfield 18, 3) := by decide +kernel
theorem dX4_keep_20 : decode cX4_keep 20 = .ok (.iconst 1, 1) := by decide +kernel
theorem dX4_keep_21 : decode cX4_keep 21 = .ok (.iadd, 1) := by decide +kernel
theorem dX4_keep_22 : decode cX4_keep 22 = .ok (.invokestatic 25, 3) := by decide +kernel
theorem dX4_keep_25 : decode cX4_keep 25 = .ok (.putfield 18, 3) := by decide +kernel
theorem dX4_keep_28 : decode cX4_keep 28 = .ok (.aload_n 0, 1) := by decide +kernel
theorem dX4_keep_29 : decode cX4_keep 29 = .ok (.getfield 11, 3) := by decide +kernel
theorem dX4_keep_32 : decode cX4_keep 32 = .ok (.aload_n 0, 1) := by decide +kernel
theorem dX4_keep_33 : decode cX4_keep 33 = .ok (.getfield 22, 3) := by decide +kernel
theorem dX4_keep_36 : decode cX4_keep 36 = .ok (.aaload, 1) := by decide +kernel
theorem dX4_keep_37 : decode cX4_keep 37 = .ok (.astore_n 2, 1) := by decide +kernel
theorem dX4_keep_38 : decode cX4_keep 38 = .ok (.aload_n 2, 1) := by decide +kernel
theorem dX4_keep_39 : decode cX4_keep 39 = .ok (.ifnull 8, 3) := by decide +kernel
theorem dX4_keep_42 : decode cX4_keep 42 = .ok (.aload_n 2, 1) := by decide +kernel
theorem dX4_keep_43 : decode cX4_keep 43 = .ok (.aload_n 1, 1) := by decide +kernel
theorem dX4_keep_44 : decode cX4_keep 44 = .ok (.invokevirtual 31, 3) := by decide +kernel
theorem dX4_keep_47 : decode cX4_keep 47 = .ok (.return_, 1) := by decide +kernel
theorem dX4_giveLatest_0 : decode cX4_giveLatest 0 = .ok (.aload_n 0, 1) := by decide +kernel
theorem dX4_giveLatest_1 : decode cX4_giveLatest 1 = .ok (.getfield 18, 3) := by decide +kernel
theorem dX4_giveLatest_4 : decode cX4_giveLatest 4 = .ok (.ifCond .eq 7, 3) := by decide +kernel
theorem dX4_giveLatest_7 : decode cX4_giveLatest 7 = .ok (.aload_n 1, 1) := by decide +kernel
theorem dX4_giveLatest_8 : decode cX4_giveLatest 8 = .ok (.ifnonnull 5, 3) := by decide +kernel
theorem dX4_giveLatest_11 : decode cX4_giveLatest 11 = .ok (.iconst 0, 1) := by decide +kernel
theorem dX4_giveLatest_12 : decode cX4_giveLatest 12 = .ok (.ireturn, 1) := by decide +kernel
theorem dX4_giveLatest_13 : decode cX4_giveLatest 13 = .ok (.aload_n 1, 1) := by decide +kernel
theorem dX4_giveLatest_14 : decode cX4_giveLatest 14 = .ok (.aload_n 0, 1) := by decide +kernel
theorem dX4_giveLatest_15 : decode cX4_giveLatest 15 = .ok (.getfield 11, 3) := by decide +kernel
theorem dX4_giveLatest_18 : decode cX4_giveLatest 18 = .ok (.aload_n 0, 1) := by decide +kernel
theorem dX4_giveLatest_19 : decode cX4_giveLatest 19 = .ok (.getfield 22, 3) := by decide +kernel
theorem dX4_giveLatest_22 : decode cX4_giveLatest 22 = .ok (.aaload, 1) := by decide +kernel
theorem dX4_giveLatest_23 : decode cX4_giveLatest 23 = .ok (.invokevirtual 31, 3) := by decide +kernel
theorem dX4_giveLatest_26 : decode cX4_giveLatest 26 = .ok (.aload_n 0, 1) := by decide +kernel
theorem dX4_giveLatest_27 : decode cX4_giveLatest 27 = .ok (.aload_n 0, 1) := by decide +kernel
theorem dX4_giveLatest_28 : decode cX4_giveLatest 28 = .ok (.getfield 22, 3) := by decide +kernel
theorem dX4_giveLatest_31 : decode cX4_giveLatest 31 = .ok (.bipush 8, 2) := by decide +kernel
theorem dX4_giveLatest_33 : decode cX4_giveLatest 33 = .ok (.iadd, 1) := by decide +kernel
theorem dX4_giveLatest_34 : decode cX4_giveLatest 34 = .ok (.iconst 1, 1) := by decide +kernel
theorem dX4_giveLatest_35 : decode cX4_giveLatest 35 = .ok (.isub, 1) := by decide +kernel
theorem dX4_giveLatest_36 : decode cX4_giveLatest 36 = .ok (.bipush 8, 2) := by decide +kernel
theorem dX4_giveLatest_38 : decode cX4_giveLatest 38 = .ok (.irem, 1) := by decide +kernel
theorem dX4_giveLatest_39 : decode cX4_giveLatest 39 = .ok (.putfield 22, 3) := by decide +kernel
theorem dX4_giveLatest_42 : decode cX4_giveLatest 42 = .ok (.aload_n 0, 1) := by decide +kernel
theorem dX4_giveLatest_43 : decode cX4_giveLatest 43 = .ok (.dup, 1) := by decide +kernel
theorem dX4_giveLatest_44 : decode cX4_giveLatest 44 = .ok (.getfield 18, 3) := by decide +kernel
theorem dX4_giveLatest_47 : decode cX4_giveLatest 47 = .ok (.iconst 1, 1) := by decide +kernel
theorem dX4_giveLatest_48 : decode cX4_giveLatest 48 = .ok (.isub, 1) := by decide +kernel
theorem dX4_giveLatest_49 : decode cX4_giveLatest 49 = .ok (.putfield 18, 3) := by decide +kernel
theorem dX4_giveLatest_52 : decode cX4_giveLatest 52 = .ok (.iconst 1, 1) := by decide +kernel
theorem dX4_giveLatest_53 : decode cX4_giveLatest 53 = .ok (.ireturn, 1) := by decide +kernel
theorem dJ6_bitCount_0f7a4_0 : decode cJ6_bitCount_0f7a4 0 = .ok (.iload_n 0, 1) := by decide +kernel
theorem dJ6_bitCount_0f7a4_1 : decode cJ6_bitCount_0f7a4 1 = .ok (.iload_n 0, 1) := by decide +kernel
theorem dJ6_bitCount_0f7a4_2 : decode cJ6_bitCount_0f7a4 2 = .ok (.iconst 1, 1) := by decide +kernel
theorem dJ6_bitCount_0f7a4_3 : decode cJ6_bitCount_0f7a4 3 = .ok (.iushr, 1) := by decide +kernel
theorem dJ6_bitCount_0f7a4_4 : decode cJ6_bitCount_0f7a4 4 = .ok (.ldc_w 265, 3) := by decide +kernel
theorem dJ6_bitCount_0f7a4_7 : decode cJ6_bitCount_0f7a4 7 = .ok (.iand, 1) := by decide +kernel
theorem dJ6_bitCount_0f7a4_8 : decode cJ6_bitCount_0f7a4 8 = .ok (.isub, 1) := by decide +kernel
theorem dJ6_bitCount_0f7a4_9 : decode cJ6_bitCount_0f7a4 9 = .ok (.istore_n 0, 1) := by decide +kernel
theorem dJ6_bitCount_0f7a4_10 : decode cJ6_bitCount_0f7a4 10 = .ok (.iload_n 0, 1) := by decide +kernel
theorem dJ6_bitCount_0f7a4_11 : decode cJ6_bitCount_0f7a4 11 = .ok (.ldc_w 266, 3) := by decide +kernel
theorem dJ6_bitCount_0f7a4_14 : decode cJ6_bitCount_0f7a4 14 = .ok (.iand, 1) := by decide +kernel
theorem dJ6_bitCount_0f7a4_15 : decode cJ6_bitCount_0f7a4 15 = .ok (.iload_n 0, 1) := by decide +kernel
theorem dJ6_bitCount_0f7a4_16 : decode cJ6_bitCount_0f7a4 16 = .ok (.iconst 2, 1) := by decide +kernel
theorem dJ6_bitCount_0f7a4_17 : decode cJ6_bitCount_0f7a4 17 = .ok (.iushr, 1) := by decide +kernel
theorem dJ6_bitCount_0f7a4_18 : decode cJ6_bitCount_0f7a4 18 = .ok (.ldc_w 266, 3) := by decide +kernel
theorem dJ6_bitCount_0f7a4_21 : decode cJ6_bitCount_0f7a4 21 = .ok (.iand, 1) := by decide +kernel
theorem dJ6_bitCount_0f7a4_22 : decode cJ6_bitCount_0f7a4 22 = .ok (.iadd, 1) := by decide +kernel
theorem dJ6_bitCount_0f7a4_23 : decode cJ6_bitCount_0f7a4 23 = .ok (.istore_n 0, 1) := by decide +kernel
theorem dJ6_bitCount_0f7a4_24 : decode cJ6_bitCount_0f7a4 24 = .ok (.iload_n 0, 1) := by decide +kernel
theorem dJ6_bitCount_0f7a4_25 : decode cJ6_bitCount_0f7a4 25 = .ok (.iload_n 0, 1) := by decide +kernel
theorem dJ6_bitCount_0f7a4_26 : decode cJ6_bitCount_0f7a4 26 = .ok (.iconst 4, 1) := by decide +kernel
theorem dJ6_bitCount_0f7a4_27 : decode cJ6_bitCount_0f7a4 27 = .ok (.iushr, 1) := by decide +kernel
theorem dJ6_bitCount_0f7a4_28 : decode cJ6_bitCount_0f7a4 28 = .ok (.iadd, 1) := by decide +kernel
theorem dJ6_bitCount_0f7a4_29 : decode cJ6_bitCount_0f7a4 29 = .ok (.ldc_w 267, 3) := by decide +kernel
theorem dJ6_bitCount_0f7a4_32 : decode cJ6_bitCount_0f7a4 32 = .ok (.iand, 1) := by decide +kernel
theorem dJ6_bitCount_0f7a4_33 : decode cJ6_bitCount_0f7a4 33 = .ok (.istore_n 0, 1) := by decide +kernel
theorem dJ6_bitCount_0f7a4_34 : decode cJ6_bitCount_0f7a4 34 = .ok (.iload_n 0, 1) := by decide +kernel
theorem dJ6_bitCount_0f7a4_35 : decode cJ6_bitCount_0f7a4 35 = .ok (.iload_n 0, 1) := by decide +kernel
theorem dJ6_bitCount_0f7a4_36 : decode cJ6_bitCount_0f7a4 36 = .ok (.bipush 8, 2) := by decide +kernel
theorem dJ6_bitCount_0f7a4_38 : decode cJ6_bitCount_0f7a4 38 = .ok (.iushr, 1) := by decide +kernel
theorem dJ6_bitCount_0f7a4_39 : decode cJ6_bitCount_0f7a4 39 = .ok (.iadd, 1) := by decide +kernel
theorem dJ6_bitCount_0f7a4_40 : decode cJ6_bitCount_0f7a4 40 = .ok (.istore_n 0, 1) := by decide +kernel
theorem dJ6_bitCount_0f7a4_41 : decode cJ6_bitCount_0f7a4 41 = .ok (.iload_n 0, 1) := by decide +kernel
theorem dJ6_bitCount_0f7a4_42 : decode cJ6_bitCount_0f7a4 42 = .ok (.iload_n 0, 1) := by decide +kernel
theorem dJ6_bitCount_0f7a4_43 : decode cJ6_bitCount_0f7a4 43 = .ok (.bipush 16, 2) := by decide +kernel
theorem dJ6_bitCount_0f7a4_45 : decode cJ6_bitCount_0f7a4 45 = .ok (.iushr, 1) := by decide +kernel
theorem dJ6_bitCount_0f7a4_46 : decode cJ6_bitCount_0f7a4 46 = .ok (.iadd, 1) := by decide +kernel
theorem dJ6_bitCount_0f7a4_47 : decode cJ6_bitCount_0f7a4 47 = .ok (.istore_n 0, 1) := by decide +kernel
theorem dJ6_bitCount_0f7a4_48 : decode cJ6_bitCount_0f7a4 48 = .ok (.iload_n 0, 1) := by decide +kernel
theorem dJ6_bitCount_0f7a4_49 : decode cJ6_bitCount_0f7a4 49 = .ok (.bipush 63, 2) := by decide +kernel
theorem dJ6_bitCount_0f7a4_51 : decode cJ6_bitCount_0f7a4 51 = .ok (.iand, 1) := by decide +kernel
theorem dJ6_bitCount_0f7a4_52 : decode cJ6_bitCount_0f7a4 52 = .ok (.ireturn, 1) := by decide +kernel
theorem dJ9_max_7cf53_0 : decode cJ9_max_7cf53 0 = .ok (.iload_n 0, 1) := by decide +kernel
theorem dJ9_max_7cf53_1 : decode cJ9_max_7cf53 1 = .ok (.iload_n 1, 1) := by decide +kernel
theorem dJ9_max_7cf53_2 : decode cJ9_max_7cf53 2 = .ok (.if_icmp .lt 7, 3) := by decide +kernel
theorem dJ9_max_7cf53_5 : decode cJ9_max_7cf53 5 = .ok (.iload_n 0, 1) := by decide +kernel
theorem dJ9_max_7cf53_6 : decode cJ9_max_7cf53 6 = .ok (.goto 4, 3) := by decide +kernel
theorem dJ9_max_7cf53_9 : decode cJ9_max_7cf53 9 = .ok (.iload_n 1, 1) := by decide +kernel
theorem dJ9_max_7cf53_10 : decode cJ9_max_7cf53 10 = .ok (.ireturn, 1) := by decide +kernel
theorem dJ9_min_7cf53_0 : decode cJ9_min_7cf53 0 = .ok (.iload_n 0, 1) := by decide +kernel
theorem dJ9_min_7cf53_1 : decode cJ9_min_7cf53 1 = .ok (.iload_n 1, 1) := by decide +kernel
theorem dJ9_min_7cf53_2 : decode cJ9_min_7cf53 2 = .ok (.if_icmp .gt 7, 3) := by decide +kernel
theorem dJ9_min_7cf53_5 : decode cJ9_min_7cf53 5 = .ok (.iload_n 0, 1) := by decide +kernel
theorem dJ9_min_7cf53_6 : decode cJ9_min_7cf53 6 = .ok (.goto 4, 3) := by decide +kernel
theorem dJ9_min_7cf53_9 : decode cJ9_min_7cf53 9 = .ok (.iload_n 1, 1) := by decide +kernel
theorem dJ9_min_7cf53_10 : decode cJ9_min_7cf53 10 = .ok (.ireturn, 1) := by decide +kernel
end
section
theorem dX5_init_0 : decode cX5_init 0 = .ok (.aload_n 0, 1) := by decide +kernel
theorem dX5_init_1 : decode cX5_init 1 = .ok (.invokespecial 1, 3) := by decide +kernel
theorem dX5_init_4 : decode cX5_init 4 = .ok (.aload_n 0, 1) := by decide +kernel
theorem dX5_init_5 : decode cX5_init 5 = .ok (.new 7, 3) := by decide +kernel
theorem dX5_init_8 : decode cX5_init 8 = .ok (.dup, 1) := by decide +kernel
theorem dX5_init_9 : decode cX5_init 9 = .ok (.invokespecial 9, 3) := by decide +kernel
theorem dX5_init_12 : decode cX5_init 12 = .ok (.putfield 10, 3) := by decide +kernel
theorem dX5_init_15 : decode cX5_init 15 = .ok (.aload_n 0, 1) := by decide +kernel
theorem dX5_init_16 : decode cX5_init 16 = .ok (.new 7, 3) := by decide +kernel
theorem dX5_init_19 : decode cX5_init 19 = .ok (.dup, 1) := by decide +kernel
theorem dX5_init_20 : decode cX5_init 20 = .ok (.invokespecial 9, 3) := by decide +kernel
theorem dX5_init_23 : decode cX5_init 23 = .ok (.putfield 16, 3) := by decide +kernel
theorem dX5_init_26 : decode cX5_init 26 = .ok (.aload_n 0, 1) := by decide +kernel
theorem dX5_init_27 : decode cX5_init 27 = .ok (.new 7, 3) := by decide +kernel
theorem dX5_init_30 : decode cX5_init 30 = .ok (.dup, 1) := by decide +kernel
theorem dX5_init_31 : decode cX5_init 31 = .ok (.invokespecial 9, 3) := by decide +kernel
theorem dX5_init_34 : decode cX5_init 34 = .ok (.putfield 19, 3) := by decide +kernel
theorem dX5_init_37 : decode cX5_init 37 = .ok (.aload_n 0, 1) := by decide +kernel
theorem dX5_init_38 : decode cX5_init 38 = .ok (.new 22, 3) := by decide +kernel
theorem dX5_init_41 : decode cX5_init 41 = .ok (.dup, 1) := by decide +kernel
theorem dX5_init_42 : decode cX5_init 42 = .ok (.invokespecial 24, 3) := by decide +kernel
theorem dX5_init_45 : decode cX5_init 45 = .ok (.putfield 25, 3) := by decide +kernel
theorem dX5_init_48 : decode cX5_init 48 = .ok (.aload_n 0, 1) := by decide +kernel
theorem dX5_init_49 : decode cX5_init 49 = .ok (.new 29, 3) := by decide +kernel
theorem dX5_init_52 : decode cX5_init 52 = .ok (.dup, 1) := by decide +kernel
theorem dX5_init_53 : decode cX5_init 53 = .ok (.invokespecial 31, 3) := by decide +kernel
theorem dX5_init_56 : decode cX5_init 56 = .ok (.putfield 32, 3) := by decide +kernel
theorem dX5_init_59 : decode cX5_init 59 = .ok (.aload_n 0, 1) := by decide +kernel
theorem dX5_init_60 : decode cX5_init 60 = .ok (.new 36, 3) := by decide +kernel
theorem dX5_init_63 : decode cX5_init 63 = .ok (.dup, 1) := by decide +kernel
theorem dX5_init_64 : decode cX5_init 64 = .ok (.invokespecial 38, 3) := by decide +kernel
theorem dX5_init_67 : decode cX5_init 67 = .ok (.putfield 39, 3) := by decide +kernel
theorem dX5_init_70 : decode cX5_init 70 = .ok (.aload_n 0, 1) := by decide +kernel
theorem dX5_init_71 : decode cX5_init 71 = .ok (.bipush 7, 2) := by decide +kernel
theorem dX5_init_73 : decode cX5_init 73 = .ok (.newarray .int, 2) := by decide +kernel
theorem dX5_init_75 : decode cX5_init 75 = .ok (.putfield 43, 3) := by decide +kernel
theorem dX5_init_78 : decode cX5_init 78 = .ok (.return_, 1) := by decide +kernel
theorem dX5_feed_0 : decode cX5_feed 0 = .ok (.iload_n 1, 1) := by decide +kernel
theorem dX5_feed_1 : decode cX5_feed 1 = .ok (.iconst 0, 1) := by decide +kernel
theorem dX5_feed_2 : decode cX5_feed 2 = .ok (.sipush 255, 3) := by decide +kernel
theorem dX5_feed_5 : decode cX5_feed 5 = .ok (.invokestatic 47, 3) := by decide +kernel
theorem dX5_feed_8 : decode cX5_feed 8 = .ok (.istore_n 2, 1) := by decide +kernel
theorem dX5_feed_9 : decode cX5_feed 9 = .ok (.iload_n 2, 1) := by decide +kernel
theorem dX5_feed_10 : decode cX5_feed 10 = .ok (.ifCond .eq 9, 3) := by decide +kernel
theorem dX5_feed_13 : decode cX5_feed 13 = .ok (.aload_n 0, 1) := by decide +kernel
theorem dX5_feed_14 : decode cX5_feed 14 = .ok (.iload_n 2, 1) := by decide +kernel
theorem dX5_feed_15 : decode cX5_feed 15 = .ok (.invokevirtual 51, 3) := by decide +kernel
theorem dX5_feed_18 : decode cX5_feed 18 = .ok (.ireturn, 1) := by decide +kernel
theorem dX5_feed_19 : decode cX5_feed 19 = .ok (.aload_n 0, 1) := by decide +kernel
theorem dX5_feed_20 : decode cX5_feed 20 = .ok (.getfield 32, 3) := by decide +kernel
theorem dX5_feed_23 : decode cX5_feed 23 = .ok (.iload_n 1, 1) := by decide +kernel
theorem dX5_feed_24 : decode cX5_feed 24 = .ok (.invokevirtual 55, 3) := by decide +kernel
theorem dX5_feed_27 : decode cX5_feed 27 = .ok (.ifCond .ne 10, 3) := by decide +kernel
theorem dX5_feed_30 : decode cX5_feed 30 = .ok (.aload_n 0, 1) := by decide +kernel
theorem dX5_feed_31 : decode cX5_feed 31 = .ok (.bipush (-6), 2) := by decide +kernel
theorem dX5_feed_33 : decode cX5_feed 33 = .ok (.invokevirtual 51, 3) := by decide +kernel
theorem dX5_feed_36 : decode cX5_feed 36 = .ok (.ireturn, 1) := by decide +kernel
theorem dX5_feed_37 : decode cX5_feed 37 = .ok (.aload_n 0, 1) := by decide +kernel
theorem dX5_feed_38 : decode cX5_feed 38 = .ok (.getfield 32, 3) := by decide +kernel
theorem dX5_feed_41 : decode cX5_feed 41 = .ok (.invokevirtual 59, 3) := by decide +kernel
theorem dX5_feed_44 : decode cX5_feed 44 = .ok (.ireturn, 1) := by decide +kernel
theorem dX5_parish_0 : decode cX5_parish 0 = .ok (.aload_n 0, 1) := by decide +kernel
theorem dX5_parish_1 : decode cX5_parish 1 = .ok (.getfield 32, 3) := by decide +kernel
theorem dX5_parish_4 : decode cX5_parish 4 = .ok (.invokevirtual 63, 3) := by decide +kernel
theorem dX5_parish_7 : decode cX5_parish 7 = .ok (.istore_n 1, 1) := by decide +kernel
theorem dX5_parish_8 : decode cX5_parish 8 = .ok (.iload_n 1, 1) := by decide +kernel
theorem dX5_parish_9 : decode cX5_parish 9 = .ok (.ifCond .ge 10, 3) := by decide +kernel
theorem dX5_parish_12 : decode cX5_parish 12 = .ok (.aload_n 0, 1) := by decide +kernel
theorem dX5_parish_13 : decode cX5_parish 13 = .ok (.invokevirtual 66, 3) := by decide +kernel
theorem dX5_parish_16 : decode cX5_parish 16 = .ok (.goto 8, 3) := by decide +kernel
theorem dX5_parish_19 : decode cX5_parish 19 = .ok (.sipush (-1000), 3) := by decide +kernel
theorem dX5_parish_22 : decode cX5_parish 22 = .ok (.iload_n 1, 1) := by decide +kernel
theorem dX5_parish_23 : decode cX5_parish 23 = .ok (.isub, 1) := by decide +kernel
theorem dX5_parish_24 : decode cX5_parish 24 = .ok (.istore_n 2, 1) := by decide +kernel
theorem dX5_parish_25 : decode cX5_parish 25 = .ok (.aload_n 0, 1) := by decide +kernel
theorem dX5_parish_26 : decode cX5_parish 26 = .ok (.getfield 32, 3) := by decide +kernel
theorem dX5_parish_29 : decode cX5_parish 29 = .ok (.invokevirtual 69, 3) := by decide +kernel
theorem dX5_parish_32 : decode cX5_parish 32 = .ok (.iload_n 2, 1) := by decide +kernel
theorem dX5_parish_33 : decode cX5_parish 33 = .ok (.ireturn, 1) := by decide +kernel
theorem dX5_houseOf_0 : decode cX5_houseOf 0 = .ok (.aload_n 0, 1) := by decide +kernel
theorem dX5_houseOf_1 : decode cX5_houseOf 1 = .ok (.getfield 10, 3) := by decide +kernel
theorem dX5_houseOf_4 : decode cX5_houseOf 4 = .ok (.iload_n 1, 1) := by decide +kernel
theorem dX5_houseOf_5 : decode cX5_houseOf 5 = .ok (.invokevirtual 72, 3) := by decide +kernel
theorem dX5_houseOf_8 : decode cX5_houseOf 8 = .ok (.ifCond .ne 9, 3) := by decide +kernel
theorem dX5_houseOf_11 : decode cX5_houseOf 11 = .ok (.aload_n 0, 1) := by decide +kernel
theorem dX5_houseOf_12 : decode cX5_houseOf 12 = .ok (.iconst (-1), 1) := by decide +kernel
theorem dX5_houseOf_13 : decode cX5_houseOf 13 = .ok (.invokevirtual 51, 3) := by decide +kernel
theorem dX5_houseOf_16 : decode cX5_houseOf 16 = .ok (.ireturn, 1) := by decide +kernel
theorem dX5_houseOf_17 : decode cX5_houseOf 17 = .ok (.iload_n 2, 1) := by decide +kernel
theorem dX5_houseOf_18 : decode cX5_houseOf 18 = .ok (.tableswitch 136 0 6 #[42, 51, 60, 69, 78, 95, 112], 42) := by decide +kernel
theorem dX5_houseOf_60 : decode cX5_houseOf 60 = .ok (.aload_n 0, 1) := by decide +kernel
theorem dX5_houseOf_61 : decode cX5_houseOf 61 = .ok (.getfield 10, 3) := by decide +kernel
theorem dX5_houseOf_64 : decode cX5_houseOf 64 = .ok (.iload_n 1, 1) := by decide +kernel
theorem dX5_houseOf_65 : decode cX5_houseOf 65 = .ok (.invokevirtual 75, 3) := by decide +kernel
theorem dX5_houseOf_68 : decode cX5_houseOf 68 = .ok (.ireturn, 1) := by decide +kernel
theorem dX5_houseOf_69 : decode cX5_houseOf 69 = .ok (.aload_n 0, 1) := by decide +kernel
theorem dX5_houseOf_70 : decode cX5_houseOf 70 = .ok (.getfield 10, 3) := by decide +kernel
theorem dX5_houseOf_73 : decode cX5_houseOf 73 = .ok (.iload_n 1, 1) := by decide +kernel
theorem dX5_houseOf_74 : decode cX5_houseOf 74 = .ok (.invokevirtual 78, 3) := by decide +kernel
theorem dX5_houseOf_77 : decode cX5_houseOf 77 = .ok (.ireturn, 1) := by decide +kernel
theorem dX5_houseOf_78 : decode cX5_houseOf 78 = .ok (.aload_n 0, 1) := by decide +kernel
theorem dX5_houseOf_79 : decode cX5_houseOf 79 = .ok (.getfield 10, 3) := by decide +kernel
theorem dX5_houseOf_82 : decode cX5_houseOf 82 = .ok (.iload_n 1, 1) := by decide +kernel
theorem dX5_houseOf_83 : decode cX5_houseOf 83 = .ok (.invokevirtual 81, 3) := by decide +kernel
theorem dX5_houseOf_86 : decode cX5_houseOf 86 = .ok (.ireturn, 1) := by decide +kernel
theorem dX5_houseOf_87 : decode cX5_houseOf 87 = .ok (.aload_n 0, 1) := by decide +kernel
theorem dX5_houseOf_88 : decode cX5_houseOf 88 = .ok (.getfield 10, 3) := by decide +kernel
theorem dX5_houseOf_91 : decode cX5_houseOf 91 = .ok (.iload_n 1, 1) := by decide +kernel
theorem dX5_houseOf_92 : decode cX5_houseOf 92 = .ok (.invokevirtual 84, 3) := by decide +kernel
theorem dX5_houseOf_95 : decode cX5_houseOf 95 = .ok (.ireturn, 1) := by decide +kernel
theorem dX5_houseOf_96 : decode cX5_houseOf 96 = .ok (.aload_n 0, 1) := by decide +kernel
theorem dX5_houseOf_97 : decode cX5_houseOf 97 = .ok (.getfield 10, 3) := by decide +kernel
theorem dX5_houseOf_100 : decode cX5_houseOf 100 = .ok (.iload_n 1, 1) := by decide +kernel
theorem dX5_houseOf_101 : decode cX5_houseOf 101 = .ok (.invokevirtual 87, 3) := by decide +kernel
theorem dX5_houseOf_104 : decode cX5_houseOf 104 = .ok (.ifCond .eq 7, 3) := by decide +kernel
theorem dX5_houseOf_107 : decode cX5_houseOf 107 = .ok (.iconst 1, 1) := by decide +kernel
theorem dX5_houseOf_108 : decode cX5_houseOf 108 = .ok (.goto 4, 3) := by decide +kernel
theorem dX5_houseOf_111 : decode cX5_houseOf 111 = .ok (.iconst 0, 1) := by decide +kernel
theorem dX5_houseOf_112 : decode cX5_houseOf 112 = .ok (.ireturn, 1) := by decide +kernel
theorem dX5_houseOf_113 : decode cX5_houseOf 113 = .ok (.aload_n 0, 1) := by decide +kernel
theorem dX5_houseOf_114 : decode cX5_houseOf 114 = .ok (.getfield 10, 3) := by decide +kernel
theorem dX5_houseOf_117 : decode cX5_houseOf 117 = .ok (.iload_n 1, 1) := by decide +kernel
theorem dX5_houseOf_118 : decode cX5_houseOf 118 = .ok (.invokevirtual 90, 3) := by decide +kernel
theorem dX5_houseOf_121 : decode cX5_houseOf 121 = .ok (.ifCond .eq 7, 3) := by decide +kernel
theorem dX5_houseOf_124 : decode cX5_houseOf 124 = .ok (.iconst 1, 1) := by decide +kernel
theorem dX5_houseOf_125 : decode cX5_houseOf 125 = .ok (.goto 4, 3) := by decide +kernel
theorem dX5_houseOf_128 : decode cX5_houseOf 128 = .ok (.iconst 0, 1) := by decide +kernel
theorem dX5_houseOf_129 : decode cX5_houseOf 129 = .ok (.ireturn, 1) := by decide +kernel
theorem dX5_houseOf_130 : decode cX5_houseOf 130 = .ok (.aload_n 0, 1) := by decide +kernel
theorem dX5_houseOf_131 : decode cX5_houseOf 131 = .ok (.getfield 10, 3) := by decide +kernel
theorem dX5_houseOf_134 : decode cX5_houseOf 134 = .ok (.iload_n 1, 1) := by decide +kernel
theorem dX5_houseOf_135 : decode cX5_houseOf 135 = .ok (.invokevirtual 87, 3) := by decide +kernel
theorem dX5_houseOf_138 : decode cX5_houseOf 138 = .ok (.ifCond .eq 7, 3) := by decide +kernel
theorem dX5_houseOf_141 : decode cX5_houseOf 141 = .ok (.iconst 0, 1) := by decide +kernel
theorem dX5_houseOf_142 : decode cX5_houseOf 142 = .ok (.goto 11, 3) := by decide +kernel
theorem dX5_houseOf_145 : decode cX5_houseOf 145 = .ok (.aload_n 0, 1) := by decide +kernel
theorem dX5_houseOf_146 : decode cX5_houseOf 146 = .ok (.getfield 10, 3) := by decide +kernel
theorem dX5_houseOf_149 : decode cX5_houseOf 149 = .ok (.iload_n 1, 1) := by decide +kernel
theorem dX5_houseOf_150 : decode cX5_houseOf 150 = .ok (.invokevirtual 93, 3) := by decide +kernel
theorem dX5_houseOf_153 : decode cX5_houseOf 153 = .ok (.ireturn, 1) := by decide +kernel
theorem dX5_houseOf_154 : decode cX5_houseOf 154 = .ok (.aload_n 0, 1) := by decide +kernel
theorem dX5_houseOf_155 : decode cX5_houseOf 155 = .ok (.bipush (-2), 2) := by decide +kernel
theorem dX5_houseOf_157 : decode cX5_houseOf 157 = .ok (.invokevirtual 51, 3) := by decide +kernel
theorem dX5_houseOf_160 : decode cX5_houseOf 160 = .ok (.ireturn, 1) := by decide +kernel
theorem dX5_house_0 : decode cX5_house 0 = .ok (.iload_n 1, 1) := by decide +kernel
theorem dX5_house_1 : decode cX5_house 1 = .ok (.ifCond .lt 8, 3) := by decide +kernel
theorem dX5_house_4 : decode cX5_house 4 = .ok (.iload_n 1, 1) := by decide +kernel
theorem dX5_house_5 : decode cX5_house 5 = .ok (.iconst 5, 1) := by decide +kernel
theorem dX5_house_6 : decode cX5_house 6 = .ok (.if_icmp .le 10, 3) := by decide +kernel
theorem dX5_house_9 : decode cX5_house 9 = .ok (.aload_n 0, 1) := by decide +kernel
theorem dX5_house_10 : decode cX5_house 10 = .ok (.bipush (-2), 2) := by decide +kernel
theorem dX5_house_12 : decode cX5_house 12 = .ok (.invokevirtual 51, 3) := by decide +kernel
theorem dX5_house_15 : decode cX5_house 15 = .ok (.ireturn, 1) := by decide +kernel
theorem dX5_house_16 : decode cX5_house 16 = .ok (.iload_n 2, 1) := by decide +kernel
theorem dX5_house_17 : decode cX5_house 17 = .ok (.iconst 0, 1) := by decide +kernel
theorem dX5_house_18 : decode cX5_house 18 = .ok (.bipush 9, 2) := by decide +kernel
theorem dX5_house_20 : decode cX5_house 20 = .ok (.invokestatic 47, 3) := by decide +kernel
theorem dX5_house_23 : decode cX5_house 23 = .ok (.istore_n 3, 1) := by decide +kernel
theorem dX5_house_24 : decode cX5_house 24 = .ok (.iload_n 3, 1) := by decide +kernel
theorem dX5_house_25 : decode cX5_house 25 = .ok (.ifCond .eq 9, 3) := by decide +kernel
theorem dX5_house_28 : decode cX5_house 28 = .ok (.aload_n 0, 1) := by decide +kernel
theorem dX5_house_29 : decode cX5_house 29 = .ok (.iload_n 3, 1) := by decide +kernel
theorem dX5_house_30 : decode cX5_house 30 = .ok (.invokevirtual 51, 3) := by decide +kernel
theorem dX5_house_33 : decode cX5_house 33 = .ok (.ireturn, 1) := by decide +kernel
theorem dX5_house_34 : decode cX5_house 34 = .ok (.aload_n 0, 1) := by decide +kernel
theorem dX5_house_35 : decode cX5_house 35 = .ok (.getfield 10, 3) := by decide +kernel
theorem dX5_house_38 : decode cX5_house 38 = .ok (.iload_n 1, 1) := by decide +kernel
theorem dX5_house_39 : decode cX5_house 39 = .ok (.iload_n 2, 1) := by decide +kernel
theorem dX5_house_40 : decode cX5_house 40 = .ok (.invokevirtual 96, 3) := by decide +kernel
theorem dX5_house_43 : decode cX5_house 43 = .ok (.ifCond .ne 10, 3) := by decide +kernel
theorem dX5_house_46 : decode cX5_house 46 = .ok (.aload_n 0, 1) := by decide +kernel
theorem dX5_house_47 : decode cX5_house 47 = .ok (.bipush (-6), 2) := by decide +kernel
theorem dX5_house_49 : decode cX5_house 49 = .ok (.invokevirtual 51, 3) := by decide +kernel
theorem dX5_house_52 : decode cX5_house 52 = .ok (.ireturn, 1) := by decide +kernel
theorem dX5_house_53 : decode cX5_house 53 = .ok (.aload_n 0, 1) := by decide +kernel
theorem dX5_house_54 : decode cX5_house 54 = .ok (.getfield 25, 3) := by decide +kernel
theorem dX5_house_57 : decode cX5_house 57 = .ok (.invokevirtual 100, 3) := by decide +kernel
theorem dX5_house_60 : decode cX5_house 60 = .ok (.aload_n 0, 1) := by decide +kernel
theorem dX5_house_61 : decode cX5_house 61 = .ok (.getfield 10, 3) := by decide +kernel
theorem dX5_house_64 : decode cX5_house 64 = .ok (.invokevirtual 103, 3) := by decide +kernel
theorem dX5_house_67 : decode cX5_house 67 = .ok (.iconst 1, 1) := by decide +kernel
theorem dX5_house_68 : decode cX5_house 68 = .ok (.isub, 1) := by decide +kernel
theorem dX5_house_69 : decode cX5_house 69 = .ok (.ireturn, 1) := by decide +kernel
theorem dX5_joins_0 : decode cX5_joins 0 = .ok (.aload_n 0, 1) := by decide +kernel
theorem dX5_joins_1 : decode cX5_joins 1 = .ok (.getfield 10, 3) := by decide +kernel
theorem dX5_joins_4 : decode cX5_joins 4 = .ok (.iload_n 1, 1) := by decide +kernel
theorem dX5_joins_5 : decode cX5_joins 5 = .ok (.invokevirtual 72, 3) := by decide +kernel
theorem dX5_joins_8 : decode cX5_joins 8 = .ok (.ifCond .eq 13, 3) := by decide +kernel
theorem dX5_joins_11 : decode cX5_joins 11 = .ok (.iload_n 2, 1) := by decide +kernel
theorem dX5_joins_12 : decode cX5_joins 12 = .ok (.ifCond .lt 9, 3) := by decide +kernel
theorem dX5_joins_15 : decode cX5_joins 15 = .ok (.iload_n 2, 1) := by decide +kernel
theorem dX5_joins_16 : decode cX5_joins 16 = .ok (.bipush 9, 2) := by decide +kernel
theorem dX5_joins_18 : decode cX5_joins 18 = .ok (.if_icmp .le 9, 3) := by decide +kernel
theorem dX5_joins_21 : decode cX5_joins 21 = .ok (.aload_n 0, 1) := by decide +kernel
theorem dX5_joins_22 : decode cX5_joins 22 = .ok (.iconst (-1), 1) := by decide +kernel
theorem dX5_joins_23 : decode cX5_joins 23 = .ok (.invokevirtual 51, 3) := by decide +kernel
theorem dX5_joins_26 : decode cX5_joins 26 = .ok (.ireturn, 1) := by decide +kernel
theorem dX5_joins_27 : decode cX5_joins 27 = .ok (.iload_n 2, 1) := by decide +kernel
theorem dX5_joins_28 : decode cX5_joins 28 = .ok (.iload_n 1, 1) := by decide +kernel
theorem dX5_joins_29 : decode cX5_joins 29 = .ok (.if_icmp .gt 10, 3) := by decide +kernel
theorem dX5_joins_32 : decode cX5_joins 32 = .ok (.aload_n 0, 1) := by decide +kernel
theorem dX5_joins_33 : decode cX5_joins 33 = .ok (.bipush (-3), 2) := by decide +kernel
theorem dX5_joins_35 : decode cX5_joins 35 = .ok (.invokevirtual 51, 3) := by decide +kernel
theorem dX5_joins_38 : decode cX5_joins 38 = .ok (.ireturn, 1) := by decide +kernel
theorem dX5_joins_39 : decode cX5_joins 39 = .ok (.aload_n 0, 1) := by decide +kernel
theorem dX5_joins_40 : decode cX5_joins 40 = .ok (.getfield 25, 3) := by decide +kernel
theorem dX5_joins_43 : decode cX5_joins 43 = .ok (.aload_n 0, 1) := by decide +kernel
theorem dX5_joins_44 : decode cX5_joins 44 = .ok (.getfield 10, 3) := by decide +kernel
theorem dX5_joins_47 : decode cX5_joins 47 = .ok (.invokevirtual 106, 3) := by decide +kernel
theorem dX5_joins_50 : decode cX5_joins 50 = .ok (.aload_n 0, 1) := by decide +kernel
theorem dX5_joins_51 : decode cX5_joins 51 = .ok (.getfield 10, 3) := by decide +kernel
theorem dX5_joins_54 : decode cX5_joins 54 = .ok (.iload_n 1, 1) := by decide +kernel
theorem dX5_joins_55 : decode cX5_joins 55 = .ok (.invokevirtual 84, 3) := by decide +kernel
theorem dX5_joins_58 : decode cX5_joins 58 = .ok (.istore_n 3, 1) := by decide +kernel
theorem dX5_joins_59 : decode cX5_joins 59 = .ok (.aload_n 0, 1) := by decide +kernel
theorem dX5_joins_60 : decode cX5_joins 60 = .ok (.getfield 10, 3) := by decide +kernel
theorem dX5_joins_63 : decode cX5_joins 63 = .ok (.iload_n 1, 1) := by decide +kernel
theorem dX5_joins_64 : decode cX5_joins 64 = .ok (.iload_n 2, 1) := by decide +kernel
theorem dX5_joins_65 : decode cX5_joins 65 = .ok (.invokevirtual 110, 3) := by decide +kernel
theorem dX5_joins_68 : decode cX5_joins 68 = .ok (.pop, 1) := by decide +kernel
theorem dX5_joins_69 : decode cX5_joins 69 = .ok (.iload_n 3, 1) := by decide +kernel
theorem dX5_joins_70 : decode cX5_joins 70 = .ok (.ireturn, 1) := by decide +kernel
theorem dX5_blocks_0 : decode cX5_blocks 0 = .ok (.aload_n 0, 1) := by decide +kernel
theorem dX5_blocks_1 : decode cX5_blocks 1 = .ok (.getfield 10, 3) := by decide +kernel
theorem dX5_blocks_4 : decode cX5_blocks 4 = .ok (.iload_n 1, 1) := by decide +kernel
theorem dX5_blocks_5 : decode cX5_blocks 5 = .ok (.invokevirtual 72, 3) := by decide +kernel
theorem dX5_blocks_8 : decode cX5_blocks 8 = .ok (.ifCond .ne 9, 3) := by decide +kernel
theorem dX5_blocks_11 : decode cX5_blocks 11 = .ok (.aload_n 0, 1) := by decide +kernel
theorem dX5_blocks_12 : decode cX5_blocks 12 = .ok (.iconst (-1), 1) := by decide +kernel
theorem dX5_blocks_13 : decode cX5_blocks 13 = .ok (.invokevirtual 51, 3) := by decide +kernel
theorem dX5_blocks_16 : decode cX5_blocks 16 = .ok (.ireturn, 1) := by decide +kernel
theorem dX5_blocks_17 : decode cX5_blocks 17 = .ok (.aload_n 0, 1) := by decide +kernel
theorem dX5_blocks_18 : decode cX5_blocks 18 = .ok (.getfield 25, 3) := by decide +kernel
theorem dX5_blocks_21 : decode cX5_blocks 21 = .ok (.aload_n 0, 1) := by decide +kernel
theorem dX5_blocks_22 : decode cX5_blocks 22 = .ok (.getfield 10, 3) := by decide +kernel
theorem dX5_blocks_25 : decode cX5_blocks 25 = .ok (.invokevirtual 106, 3) := by decide +kernel
theorem dX5_blocks_28 : decode cX5_blocks 28 = .ok (.aload_n 0, 1) := by decide +kernel
theorem dX5_blocks_29 : decode cX5_blocks 29 = .ok (.getfield 10, 3) := by decide +kernel
theorem dX5_blocks_32 : decode cX5_blocks 32 = .ok (.iload_n 1, 1) := by decide +kernel
theorem dX5_blocks_33 : decode cX5_blocks 33 = .ok (.invokevirtual 113, 3) := by decide +kernel
theorem dX5_blocks_36 : decode cX5_blocks 36 = .ok (.pop, 1) := by decide +kernel
theorem dX5_blocks_37 : decode cX5_blocks 37 = .ok (.aload_n 0, 1) := by decide +kernel
theorem dX5_blocks_38 : decode cX5_blocks 38 = .ok (.getfield 10, 3) := by decide +kernel
theorem dX5_blocks_41 : decode cX5_blocks 41 = .ok (.iload_n 1, 1) := by decide +kernel
theorem dX5_blocks_42 : decode cX5_blocks 42 = .ok (.invokevirtual 87, 3) := by decide +kernel
theorem dX5_blocks_45 : decode cX5_blocks 45 = .ok (.ifCond .eq 7, 3) := by decide +kernel
theorem dX5_blocks_48 : decode cX5_blocks 48 = .ok (.iconst 1, 1) := by decide +kernel
theorem dX5_blocks_49 : decode cX5_blocks 49 = .ok (.goto 4, 3) := by decide +kernel
theorem dX5_blocks_52 : decode cX5_blocks 52 = .ok (.iconst 0, 1) := by decide +kernel
theorem dX5_blocks_53 : decode cX5_blocks 53 = .ok (.ireturn, 1) := by decide +kernel
theorem dX5_pours_0 : decode cX5_pours 0 = .ok (.aload_n 0, 1) := by decide +kernel
theorem dX5_pours_1 : decode cX5_pours 1 = .ok (.getfield 10, 3) := by decide +kernel
theorem dX5_pours_4 : decode cX5_pours 4 = .ok (.iload_n 1, 1) := by decide +kernel
theorem dX5_pours_5 : decode cX5_pours 5 = .ok (.invokevirtual 72, 3) := by decide +kernel
theorem dX5_pours_8 : decode cX5_pours 8 = .ok (.ifCond .ne 9, 3) := by decide +kernel
theorem dX5_pours_11 : decode cX5_pours 11 = .ok (.aload_n 0, 1) := by decide +kernel
theorem dX5_pours_12 : decode cX5_pours 12 = .ok (.iconst (-1), 1) := by decide +kernel
theorem dX5_pours_13 : decode cX5_pours 13 = .ok (.invokevirtual 51, 3) := by decide +kernel
theorem dX5_pours_16 : decode cX5_pours 16 = .ok (.ireturn, 1) := by decide +kernel
theorem dX5_pours_17 : decode cX5_pours 17 = .ok (.iload_n 2, 1) := by decide +kernel
theorem dX5_pours_18 : decode cX5_pours 18 = .ok (.iconst 0, 1) := by decide +kernel
theorem dX5_pours_19 : decode cX5_pours 19 = .ok (.bipush 99, 2) := by decide +kernel
theorem dX5_pours_21 : decode cX5_pours 21 = .ok (.invokestatic 47, 3) := by decide +kernel
theorem dX5_pours_24 : decode cX5_pours 24 = .ok (.istore_n 3, 1) := by decide +kernel
theorem dX5_pours_25 : decode cX5_pours 25 = .ok (.iload_n 3, 1) := by decide +kernel
theorem dX5_pours_26 : decode cX5_pours 26 = .ok (.ifCond .eq 9, 3) := by decide +kernel
theorem dX5_pours_29 : decode cX5_pours 29 = .ok (.aload_n 0, 1) := by decide +kernel
theorem dX5_pours_30 : decode cX5_pours 30 = .ok (.iload_n 3, 1) := by decide +kernel
theorem dX5_pours_31 : decode cX5_pours 31 = .ok (.invokevirtual 51, 3) := by decide +kernel
theorem dX5_pours_34 : decode cX5_pours 34 = .ok (.ireturn, 1) := by decide +kernel
theorem dX5_pours_35 : decode cX5_pours 35 = .ok (.aload_n 0, 1) := by decide +kernel
theorem dX5_pours_36 : decode cX5_pours 36 = .ok (.getfield 25, 3) := by decide +kernel
theorem dX5_pours_39 : decode cX5_pours 39 = .ok (.aload_n 0, 1) := by decide +kernel
theorem dX5_pours_40 : decode cX5_pours 40 = .ok (.getfield 10, 3) := by decide +kernel
theorem dX5_pours_43 : decode cX5_pours 43 = .ok (.invokevirtual 106, 3) := by decide +kernel
theorem dX5_pours_46 : decode cX5_pours 46 = .ok (.aload_n 0, 1) := by decide +kernel
theorem dX5_pours_47 : decode cX5_pours 47 = .ok (.getfield 10, 3) := by decide +kernel
theorem dX5_pours_50 : decode cX5_pours 50 = .ok (.iload_n 1, 1) := by decide +kernel
theorem dX5_pours_51 : decode cX5_pours 51 = .ok (.iload_n 2, 1) := by decide +kernel
theorem dX5_pours_52 : decode cX5_pours 52 = .ok (.invokevirtual 116, 3) := by decide +kernel
theorem dX5_pours_55 : decode cX5_pours 55 = .ok (.pop, 1) := by decide +kernel
theorem dX5_pours_56 : decode cX5_pours 56 = .ok (.aload_n 0, 1) := by decide +kernel
theorem dX5_pours_57 : decode cX5_pours 57 = .ok (.getfield 10, 3) := by decide +kernel
theorem dX5_pours_60 : decode cX5_pours 60 = .ok (.iload_n 1, 1) := by decide +kernel
theorem dX5_pours_61 : decode cX5_pours 61 = .ok (.invokevirtual 81, 3) := by decide +kernel
theorem dX5_pours_64 : decode cX5_pours 64 = .ok (.ireturn, 1) := by decide +kernel
theorem dX5_empties_0 : decode cX5_empties 0 = .ok (.aload_n 0, 1) := by decide +kernel
theorem dX5_empties_1 : decode cX5_empties 1 = .ok (.getfield 10, 3) := by decide +kernel
theorem dX5_empties_4 : decode cX5_empties 4 = .ok (.invokevirtual 119, 3) := by decide +kernel
theorem dX5_empties_7 : decode cX5_empties 7 = .ok (.istore_n 1, 1) := by decide +kernel
theorem dX5_empties_8 : decode cX5_empties 8 = .ok (.aload_n 0, 1) := by decide +kernel
theorem dX5_empties_9 : decode cX5_empties 9 = .ok (.getfield 10, 3) := by decide +kernel
theorem dX5_empties_12 : decode cX5_empties 12 = .ok (.invokevirtual 122, 3) := by decide +kernel
theorem dX5_empties_15 : decode cX5_empties 15 = .ok (.aload_n 0, 1) := by decide +kernel
theorem dX5_empties_16 : decode cX5_empties 16 = .ok (.getfield 25, 3) := by decide +kernel
theorem dX5_empties_19 : decode cX5_empties 19 = .ok (.invokevirtual 100, 3) := by decide +kernel
theorem dX5_empties_22 : decode cX5_empties 22 = .ok (.iload_n 1, 1) := by decide +kernel
theorem dX5_empties_23 : decode cX5_empties 23 = .ok (.ireturn, 1) := by decide +kernel
theorem dX5_hours_0 : decode cX5_hours 0 = .ok (.iload_n 1, 1) := by decide +kernel
theorem dX5_hours_1 : decode cX5_hours 1 = .ok (.iconst 1, 1) := by decide +kernel
theorem dX5_hours_2 : decode cX5_hours 2 = .ok (.bipush 60, 2) := by decide +kernel
theorem dX5_hours_4 : decode cX5_hours 4 = .ok (.invokestatic 47, 3) := by decide +kernel
theorem dX5_hours_7 : decode cX5_hours 7 = .ok (.istore_n 2, 1) := by decide +kernel
theorem dX5_hours_8 : decode cX5_hours 8 = .ok (.iload_n 2, 1) := by decide +kernel
theorem dX5_hours_9 : decode cX5_hours 9 = .ok (.ifCond .eq 9, 3) := by decide +kernel
theorem dX5_hours_12 : decode cX5_hours 12 = .ok (.aload_n 0, 1) := by decide +kernel
theorem dX5_hours_13 : decode cX5_hours 13 = .ok (.iload_n 2, 1) := by decide +kernel
theorem dX5_hours_14 : decode cX5_hours 14 = .ok (.invokevirtual 51, 3) := by decide +kernel
theorem dX5_hours_17 : decode cX5_hours 17 = .ok (.ireturn, 1) := by decide +kernel
theorem dX5_hours_18 : decode cX5_hours 18 = .ok (.aload_n 0, 1) := by decide +kernel
theorem dX5_hours_19 : decode cX5_hours 19 = .ok (.getfield 10, 3) := by decide +kernel
theorem dX5_hours_22 : decode cX5_hours 22 = .ok (.iload_n 1, 1) := by decide +kernel
theorem dX5_hours_23 : decode cX5_hours 23 = .ok (.invokevirtual 125, 3) := by decide +kernel
theorem dX5_hours_26 : decode cX5_hours 26 = .ok (.ifCond .ne 10, 3) := by decide +kernel
theorem dX5_hours_29 : decode cX5_hours 29 = .ok (.aload_n 0, 1) := by decide +kernel
theorem dX5_hours_30 : decode cX5_hours 30 = .ok (.bipush (-6), 2) := by decide +kernel
theorem dX5_hours_32 : decode cX5_hours 32 = .ok (.invokevirtual 51, 3) := by decide +kernel
theorem dX5_hours_35 : decode cX5_hours 35 = .ok (.ireturn, 1) := by decide +kernel
theorem dX5_hours_36 : decode cX5_hours 36 = .ok (.aload_n 0, 1) := by decide +kernel
theorem dX5_hours_37 : decode cX5_hours 37 = .ok (.getfield 25, 3) := by decide +kernel
theorem dX5_hours_40 : decode cX5_hours 40 = .ok (.aload_n 0, 1) := by decide +kernel
theorem dX5_hours_41 : decode cX5_hours 41 = .ok (.getfield 10, 3) := by decide +kernel
theorem dX5_hours_44 : decode cX5_hours 44 = .ok (.invokevirtual 106, 3) := by decide +kernel
theorem dX5_hours_47 : decode cX5_hours 47 = .ok (.aload_n 0, 1) := by decide +kernel
theorem dX5_hours_48 : decode cX5_hours 48 = .ok (.getfield 10, 3) := by decide +kernel
theorem dX5_hours_51 : decode cX5_hours 51 = .ok (.iload_n 1, 1) := by decide +kernel
theorem dX5_hours_52 : decode cX5_hours 52 = .ok (.invokevirtual 128, 3) := by decide +kernel
theorem dX5_hours_55 : decode cX5_hours 55 = .ok (.aload_n 0, 1) := by decide +kernel
theorem dX5_hours_56 : decode cX5_hours 56 = .ok (.getfield 10, 3) := by decide +kernel
theorem dX5_hours_59 : decode cX5_hours 59 = .ok (.invokevirtual 119, 3) := by decide +kernel
theorem dX5_hours_62 : decode cX5_hours 62 = .ok (.ireturn, 1) := by decide +kernel
theorem dX5_back_0 : decode cX5_back 0 = .ok (.aload_n 0, 1) := by decide +kernel
theorem dX5_back_1 : decode cX5_back 1 = .ok (.getfield 25, 3) := by decide +kernel
theorem dX5_back_4 : decode cX5_back 4 = .ok (.aload_n 0, 1) := by decide +kernel
theorem dX5_back_5 : decode cX5_back 5 = .ok (.getfield 10, 3) := by decide +kernel
theorem dX5_back_8 : decode cX5_back 8 = .ok (.invokevirtual 132, 3) := by decide +kernel
theorem dX5_back_11 : decode cX5_back 11 = .ok (.ifCond .ne 10, 3) := by decide +kernel
theorem dX5_back_14 : decode cX5_back 14 = .ok (.aload_n 0, 1) := by decide +kernel
theorem dX5_back_15 : decode cX5_back 15 = .ok (.bipush (-3), 2) := by decide +kernel
theorem dX5_back_17 : decode cX5_back 17 = .ok (.invokevirtual 51, 3) := by decide +kernel
theorem dX5_back_20 : decode cX5_back 20 = .ok (.ireturn, 1) := by decide +kernel
theorem dX5_back_21 : decode cX5_back 21 = .ok (.aload_n 0, 1) := by decide +kernel
theorem dX5_back_22 : decode cX5_back 22 = .ok (.getfield 25, 3) := by decide +kernel
theorem dX5_back_25 : decode cX5_back 25 = .ok (.invokevirtual 136, 3) := by decide +kernel
theorem dX5_back_28 : decode cX5_back 28 = .ok (.ireturn, 1) := by decide +kernel
theorem dX5_holdsIn_0 : decode cX5_holdsIn 0 = .ok (.aload_n 0, 1) := by decide +kernel
theorem dX5_holdsIn_1 : decode cX5_holdsIn 1 = .ok (.getfield 10, 3) := by decide +kernel
theorem dX5_holdsIn_4 : decode cX5_holdsIn 4 = .ok (.iload_n 1, 1) := by decide +kernel
theorem dX5_holdsIn_5 : decode cX5_holdsIn 5 = .ok (.invokevirtual 72, 3) := by decide +kernel
theorem dX5_holdsIn_8 : decode cX5_holdsIn 8 = .ok (.ifCond .ne 9, 3) := by decide +kernel
theorem dX5_holdsIn_11 : decode cX5_holdsIn 11 = .ok (.aload_n 0, 1) := by decide +kernel
theorem dX5_holdsIn_12 : decode cX5_holdsIn 12 = .ok (.iconst (-1), 1) := by decide +kernel
theorem dX5_holdsIn_13 : decode cX5_holdsIn 13 = .ok (.invokevirtual 51, 3) := by decide +kernel
theorem dX5_holdsIn_16 : decode cX5_holdsIn 16 = .ok (.ireturn, 1) := by decide +kernel
theorem dX5_holdsIn_17 : decode cX5_holdsIn 17 = .ok (.iload_n 2, 1) := by decide +kernel
theorem dX5_holdsIn_18 : decode cX5_holdsIn 18 = .ok (.iconst 0, 1) := by decide +kernel
theorem dX5_holdsIn_19 : decode cX5_holdsIn 19 = .ok (.bipush 60, 2) := by decide +kernel
theorem dX5_holdsIn_21 : decode cX5_holdsIn 21 = .ok (.invokestatic 47, 3) := by decide +kernel
theorem dX5_holdsIn_24 : decode cX5_holdsIn 24 = .ok (.istore_n 3, 1) := by decide +kernel
theorem dX5_holdsIn_25 : decode cX5_holdsIn 25 = .ok (.iload_n 3, 1) := by decide +kernel
theorem dX5_holdsIn_26 : decode cX5_holdsIn 26 = .ok (.ifCond .eq 9, 3) := by decide +kernel
theorem dX5_holdsIn_29 : decode cX5_holdsIn 29 = .ok (.aload_n 0, 1) := by decide +kernel
theorem dX5_holdsIn_30 : decode cX5_holdsIn 30 = .ok (.iload_n 3, 1) := by decide +kernel
theorem dX5_holdsIn_31 : decode cX5_holdsIn 31 = .ok (.invokevirtual 51, 3) := by decide +kernel
theorem dX5_holdsIn_34 : decode cX5_holdsIn 34 = .ok (.ireturn, 1) := by decide +kernel
theorem dX5_holdsIn_35 : decode cX5_holdsIn 35 = .ok (.aload_n 0, 1) := by decide +kernel
theorem dX5_holdsIn_36 : decode cX5_holdsIn 36 = .ok (.invokevirtual 137, 3) := by decide +kernel
theorem dX5_holdsIn_39 : decode cX5_holdsIn 39 = .ok (.aload_n 0, 1) := by decide +kernel
theorem dX5_holdsIn_40 : decode cX5_holdsIn 40 = .ok (.getfield 16, 3) := by decide +kernel
theorem dX5_holdsIn_43 : decode cX5_holdsIn 43 = .ok (.iload_n 2, 1) := by decide +kernel
theorem dX5_holdsIn_44 : decode cX5_holdsIn 44 = .ok (.invokevirtual 128, 3) := by decide +kernel
theorem dX5_holdsIn_47 : decode cX5_holdsIn 47 = .ok (.aload_n 0, 1) := by decide +kernel
theorem dX5_holdsIn_48 : decode cX5_holdsIn 48 = .ok (.getfield 16, 3) := by decide +kernel
theorem dX5_holdsIn_51 : decode cX5_holdsIn 51 = .ok (.iload_n 1, 1) := by decide +kernel
theorem dX5_holdsIn_52 : decode cX5_holdsIn 52 = .ok (.invokevirtual 81, 3) := by decide +kernel
theorem dX5_holdsIn_55 : decode cX5_holdsIn 55 = .ok (.ireturn, 1) := by decide +kernel
theorem dX5_then_0 : decode cX5_then 0 = .ok (.iload_n 1, 1) := by decide +kernel
theorem dX5_then_1 : decode cX5_then 1 = .ok (.iconst 0, 1) := by decide +kernel
theorem dX5_then_2 : decode cX5_then 2 = .ok (.bipush 60, 2) := by decide +kernel
theorem dX5_then_4 : decode cX5_then 4 = .ok (.invokestatic 47, 3) := by decide +kernel
theorem dX5_then_7 : decode cX5_then 7 = .ok (.istore_n 3, 1) := by decide +kernel
theorem dX5_then_8 : decode cX5_then 8 = .ok (.iload_n 3, 1) := by decide +kernel
theorem dX5_then_9 : decode cX5_then 9 = .ok (.ifCond .eq 9, 3) := by decide +kernel
theorem dX5_then_12 : decode cX5_then 12 = .ok (.aload_n 0, 1) := by decide +kernel
theorem dX5_then_13 : decode cX5_then 13 = .ok (.iload_n 3, 1) := by decide +kernel
theorem dX5_then_14 : decode cX5_then 14 = .ok (.invokevirtual 51, 3) := by decide +kernel
theorem dX5_then_17 : decode cX5_then 17 = .ok (.ireturn, 1) := by decide +kernel
theorem dX5_then_18 : decode cX5_then 18 = .ok (.iload_n 2, 1) := by decide +kernel
theorem dX5_then_19 : decode cX5_then 19 = .ok (.ifCond .eq 15, 3) := by decide +kernel
theorem dX5_then_22 : decode cX5_then 22 = .ok (.iload_n 2, 1) := by decide +kernel
theorem dX5_then_23 : decode cX5_then 23 = .ok (.iconst 1, 1) := by decide +kernel
theorem dX5_then_24 : decode cX5_then 24 = .ok (.if_icmp .eq 10, 3) := by decide +kernel
theorem dX5_then_27 : decode cX5_then 27 = .ok (.aload_n 0, 1) := by decide +kernel
theorem dX5_then_28 : decode cX5_then 28 = .ok (.bipush (-2), 2) := by decide +kernel
theorem dX5_then_30 : decode cX5_then 30 = .ok (.invokevirtual 51, 3) := by decide +kernel
theorem dX5_then_33 : decode cX5_then 33 = .ok (.ireturn, 1) := by decide +kernel
theorem dX5_then_34 : decode cX5_then 34 = .ok (.aload_n 0, 1) := by decide +kernel
theorem dX5_then_35 : decode cX5_then 35 = .ok (.invokevirtual 137, 3) := by decide +kernel
theorem dX5_then_38 : decode cX5_then 38 = .ok (.aload_n 0, 1) := by decide +kernel
theorem dX5_then_39 : decode cX5_then 39 = .ok (.getfield 16, 3) := by decide +kernel
theorem dX5_then_42 : decode cX5_then 42 = .ok (.iload_n 1, 1) := by decide +kernel
theorem dX5_then_43 : decode cX5_then 43 = .ok (.invokevirtual 128, 3) := by decide +kernel
theorem dX5_then_46 : decode cX5_then 46 = .ok (.iload_n 2, 1) := by decide +kernel
theorem dX5_then_47 : decode cX5_then 47 = .ok (.ifCond .ne 13, 3) := by decide +kernel
theorem dX5_then_50 : decode cX5_then 50 = .ok (.aload_n 0, 1) := by decide +kernel
theorem dX5_then_51 : decode cX5_then 51 = .ok (.getfield 16, 3) := by decide +kernel
theorem dX5_then_54 : decode cX5_then 54 = .ok (.invokevirtual 119, 3) := by decide +kernel
theorem dX5_then_57 : decode cX5_then 57 = .ok (.goto 10, 3) := by decide +kernel
theorem dX5_then_60 : decode cX5_then 60 = .ok (.aload_n 0, 1) := by decide +kernel
theorem dX5_then_61 : decode cX5_then 61 = .ok (.getfield 16, 3) := by decide +kernel
theorem dX5_then_64 : decode cX5_then 64 = .ok (.invokevirtual 140, 3) := by decide +kernel
theorem dX5_then_67 : decode cX5_then 67 = .ok (.ireturn, 1) := by decide +kernel
theorem dX5_drip_0 : decode cX5_drip 0 = .ok (.iload_n 1, 1) := by decide +kernel
theorem dX5_drip_1 : decode cX5_drip 1 = .ok (.tableswitch 42 0 2 #[27, 32, 37], 27) := by decide +kernel
theorem dX5_drip_28 : decode cX5_drip 28 = .ok (.aload_n 0, 1) := by decide +kernel
theorem dX5_drip_29 : decode cX5_drip 29 = .ok (.invokevirtual 143, 3) := by decide +kernel
theorem dX5_drip_32 : decode cX5_drip 32 = .ok (.ireturn, 1) := by decide +kernel
theorem dX5_drip_33 : decode cX5_drip 33 = .ok (.aload_n 0, 1) := by decide +kernel
theorem dX5_drip_34 : decode cX5_drip 34 = .ok (.invokevirtual 146, 3) := by decide +kernel
theorem dX5_drip_37 : decode cX5_drip 37 = .ok (.ireturn, 1) := by decide +kernel
theorem dX5_drip_38 : decode cX5_drip 38 = .ok (.aload_n 0, 1) := by decide +kernel
theorem dX5_drip_39 : decode cX5_drip 39 = .ok (.invokevirtual 149, 3) := by decide +kernel
theorem dX5_drip_42 : decode cX5_drip 42 = .ok (.ireturn, 1) := by decide +kernel
theorem dX5_drip_43 : decode cX5_drip 43 = .ok (.aload_n 0, 1) := by decide +kernel
theorem dX5_drip_44 : decode cX5_drip 44 = .ok (.bipush (-2), 2) := by decide +kernel
theorem dX5_drip_46 : decode cX5_drip 46 = .ok (.invokevirtual 51, 3) := by decide +kernel
theorem dX5_drip_49 : decode cX5_drip 49 = .ok (.ireturn, 1) := by decide +kernel
theorem dX5_reaches_0 : decode cX5_reaches 0 = .ok (.aload_n 0, 1) := by decide +kernel
theorem dX5_reaches_1 : decode cX5_reaches 1 = .ok (.getfield 10, 3) := by decide +kernel
theorem dX5_reaches_4 : decode cX5_reaches 4 = .ok (.iload_n 1, 1) := by decide +kernel
theorem dX5_reaches_5 : decode cX5_reaches 5 = .ok (.invokevirtual 72, 3) := by decide +kernel
theorem dX5_reaches_8 : decode cX5_reaches 8 = .ok (.ifCond .ne 9, 3) := by decide +kernel
theorem dX5_reaches_11 : decode cX5_reaches 11 = .ok (.aload_n 0, 1) := by decide +kernel
theorem dX5_reaches_12 : decode cX5_reaches 12 = .ok (.iconst (-1), 1) := by decide +kernel
theorem dX5_reaches_13 : decode cX5_reaches 13 = .ok (.invokevirtual 51, 3) := by decide +kernel
theorem dX5_reaches_16 : decode cX5_reaches 16 = .ok (.ireturn, 1) := by decide +kernel
theorem dX5_reaches_17 : decode cX5_reaches 17 = .ok (.iload_n 2, 1) := by decide +kernel
theorem dX5_reaches_18 : decode cX5_reaches 18 = .ok (.iconst 1, 1) := by decide +kernel
theorem dX5_reaches_19 : decode cX5_reaches 19 = .ok (.bipush 99, 2) := by decide +kernel
theorem dX5_reaches_21 : decode cX5_reaches 21 = .ok (.invokestatic 47, 3) := by decide +kernel
theorem dX5_reaches_24 : decode cX5_reaches 24 = .ok (.istore_n 3, 1) := by decide +kernel
theorem dX5_reaches_25 : decode cX5_reaches 25 = .ok (.iload_n 3, 1) := by decide +kernel
theorem dX5_reaches_26 : decode cX5_reaches 26 = .ok (.ifCond .eq 9, 3) := by decide +kernel
theorem dX5_reaches_29 : decode cX5_reaches 29 = .ok (.aload_n 0, 1) := by decide +kernel
theorem dX5_reaches_30 : decode cX5_reaches 30 = .ok (.iload_n 3, 1) := by decide +kernel
theorem dX5_reaches_31 : decode cX5_reaches 31 = .ok (.invokevirtual 51, 3) := by decide +kernel
theorem dX5_reaches_34 : decode cX5_reaches 34 = .ok (.ireturn, 1) := by decide +kernel
theorem dX5_reaches_35 : decode cX5_reaches 35 = .ok (.aload_n 0, 1) := by decide +kernel
theorem dX5_reaches_36 : decode cX5_reaches 36 = .ok (.invokevirtual 137, 3) := by decide +kernel
theorem dX5_reaches_39 : decode cX5_reaches 39 = .ok (.iconst 0, 1) := by decide +kernel
theorem dX5_reaches_40 : decode cX5_reaches 40 = .ok (.istore 4, 2) := by decide +kernel
theorem dX5_reaches_42 : decode cX5_reaches 42 = .ok (.iload 4, 2) := by decide +kernel
theorem dX5_reaches_44 : decode cX5_reaches 44 = .ok (.bipush 60, 2) := by decide +kernel
theorem dX5_reaches_46 : decode cX5_reaches 46 = .ok (.if_icmp .gt 32, 3) := by decide +kernel
theorem dX5_reaches_49 : decode cX5_reaches 49 = .ok (.aload_n 0, 1) := by decide +kernel
theorem dX5_reaches_50 : decode cX5_reaches 50 = .ok (.getfield 16, 3) := by decide +kernel
theorem dX5_reaches_53 : decode cX5_reaches 53 = .ok (.iload_n 1, 1) := by decide +kernel
theorem dX5_reaches_54 : decode cX5_reaches 54 = .ok (.invokevirtual 81, 3) := by decide +kernel
theorem dX5_reaches_57 : decode cX5_reaches 57 = .ok (.iload_n 2, 1) := by decide +kernel
theorem dX5_reaches_58 : decode cX5_reaches 58 = .ok (.if_icmp .lt 6, 3) := by decide +kernel
theorem dX5_reaches_61 : decode cX5_reaches 61 = .ok (.iload 4, 2) := by decide +kernel
theorem dX5_reaches_63 : decode cX5_reaches 63 = .ok (.ireturn, 1) := by decide +kernel
theorem dX5_reaches_64 : decode cX5_reaches 64 = .ok (.aload_n 0, 1) := by decide +kernel
theorem dX5_reaches_65 : decode cX5_reaches 65 = .ok (.getfield 16, 3) := by decide +kernel
theorem dX5_reaches_68 : decode cX5_reaches 68 = .ok (.invokevirtual 152, 3) := by decide +kernel
theorem dX5_reaches_71 : decode cX5_reaches 71 = .ok (.pop, 1) := by decide +kernel
theorem dX5_reaches_72 : decode cX5_reaches 72 = .ok (.iinc 4 1, 3) := by decide +kernel
theorem dX5_reaches_75 : decode cX5_reaches 75 = .ok (.goto (-33), 3) := by decide +kernel
theorem dX5_reaches_78 : decode cX5_reaches 78 = .ok (.bipush (-9), 2) := by decide +kernel
theorem dX5_reaches_80 : decode cX5_reaches 80 = .ok (.ireturn, 1) := by decide +kernel
theorem dX5_pour_0 : decode cX5_pour 0 = .ok (.iload_n 1, 1) := by decide +kernel
theorem dX5_pour_1 : decode cX5_pour 1 = .ok (.iconst 1, 1) := by decide +kernel
theorem dX5_pour_2 : decode cX5_pour 2 = .ok (.if_icmp .lt 7, 3) := by decide +kernel
theorem dX5_pour_5 : decode cX5_pour 5 = .ok (.iload_n 2, 1) := by decide +kernel
theorem dX5_pour_6 : decode cX5_pour 6 = .ok (.ifCond .ge 10, 3) := by decide +kernel
theorem dX5_pour_9 : decode cX5_pour 9 = .ok (.aload_n 0, 1) := by decide +kernel
theorem dX5_pour_10 : decode cX5_pour 10 = .ok (.bipush (-4), 2) := by decide +kernel
theorem dX5_pour_12 : decode cX5_pour 12 = .ok (.invokevirtual 51, 3) := by decide +kernel
theorem dX5_pour_15 : decode cX5_pour 15 = .ok (.ireturn, 1) := by decide +kernel
theorem dX5_pour_16 : decode cX5_pour 16 = .ok (.iload_n 1, 1) := by decide +kernel
theorem dX5_pour_17 : decode cX5_pour 17 = .ok (.bipush 99, 2) := by decide +kernel
theorem dX5_pour_19 : decode cX5_pour 19 = .ok (.if_icmp .gt 9, 3) := by decide +kernel
theorem dX5_pour_22 : decode cX5_pour 22 = .ok (.iload_n 2, 1) := by decide +kernel
theorem dX5_pour_23 : decode cX5_pour 23 = .ok (.bipush 60, 2) := by decide +kernel
theorem dX5_pour_25 : decode cX5_pour 25 = .ok (.if_icmp .le 10, 3) := by decide +kernel
theorem dX5_pour_28 : decode cX5_pour 28 = .ok (.aload_n 0, 1) := by decide +kernel
theorem dX5_pour_29 : decode cX5_pour 29 = .ok (.bipush (-6), 2) := by decide +kernel
theorem dX5_pour_31 : decode cX5_pour 31 = .ok (.invokevirtual 51, 3) := by decide +kernel
theorem dX5_pour_34 : decode cX5_pour 34 = .ok (.ireturn, 1) := by decide +kernel
theorem dX5_pour_35 : decode cX5_pour 35 = .ok (.iload_n 3, 1) := by decide +kernel
theorem dX5_pour_36 : decode cX5_pour 36 = .ok (.ifCond .eq 15, 3) := by decide +kernel
theorem dX5_pour_39 : decode cX5_pour 39 = .ok (.iload_n 3, 1) := by decide +kernel
theorem dX5_pour_40 : decode cX5_pour 40 = .ok (.iconst 1, 1) := by decide +kernel
theorem dX5_pour_41 : decode cX5_pour 41 = .ok (.if_icmp .eq 10, 3) := by decide +kernel
theorem dX5_pour_44 : decode cX5_pour 44 = .ok (.aload_n 0, 1) := by decide +kernel
theorem dX5_pour_45 : decode cX5_pour 45 = .ok (.bipush (-2), 2) := by decide +kernel
theorem dX5_pour_47 : decode cX5_pour 47 = .ok (.invokevirtual 51, 3) := by decide +kernel
theorem dX5_pour_50 : decode cX5_pour 50 = .ok (.ireturn, 1) := by decide +kernel
theorem dX5_pour_51 : decode cX5_pour 51 = .ok (.bipush (-9), 2) := by decide +kernel
theorem dX5_pour_53 : decode cX5_pour 53 = .ok (.istore 4, 2) := by decide +kernel
theorem dX5_pour_55 : decode cX5_pour 55 = .ok (.bipush (-9), 2) := by decide +kernel
theorem dX5_pour_57 : decode cX5_pour 57 = .ok (.istore 5, 2) := by decide +kernel
theorem dX5_pour_59 : decode cX5_pour 59 = .ok (.iconst 0, 1) := by decide +kernel
theorem dX5_pour_60 : decode cX5_pour 60 = .ok (.istore 6, 2) := by decide +kernel
theorem dX5_pour_62 : decode cX5_pour 62 = .ok (.iload 6, 2) := by decide +kernel
theorem dX5_pour_64 : decode cX5_pour 64 = .ok (.aload_n 0, 1) := by decide +kernel
theorem dX5_pour_65 : decode cX5_pour 65 = .ok (.getfield 10, 3) := by decide +kernel
theorem dX5_pour_68 : decode cX5_pour 68 = .ok (.invokevirtual 103, 3) := by decide +kernel
theorem dX5_pour_71 : decode cX5_pour 71 = .ok (.if_icmp .ge 46, 3) := by decide +kernel
theorem dX5_pour_74 : decode cX5_pour 74 = .ok (.aload_n 0, 1) := by decide +kernel
theorem dX5_pour_75 : decode cX5_pour 75 = .ok (.invokevirtual 137, 3) := by decide +kernel
theorem dX5_pour_78 : decode cX5_pour 78 = .ok (.aload_n 0, 1) := by decide +kernel
theorem dX5_pour_79 : decode cX5_pour 79 = .ok (.getfield 16, 3) := by decide +kernel
theorem dX5_pour_82 : decode cX5_pour 82 = .ok (.iload 6, 2) := by decide +kernel
theorem dX5_pour_84 : decode cX5_pour 84 = .ok (.iload_n 1, 1) := by decide +kernel
theorem dX5_pour_85 : decode cX5_pour 85 = .ok (.invokevirtual 116, 3) := by decide +kernel
theorem dX5_pour_88 : decode cX5_pour 88 = .ok (.pop, 1) := by decide +kernel
theorem dX5_pour_89 : decode cX5_pour 89 = .ok (.aload_n 0, 1) := by decide +kernel
theorem dX5_pour_90 : decode cX5_pour 90 = .ok (.iload_n 2, 1) := by decide +kernel
theorem dX5_pour_91 : decode cX5_pour 91 = .ok (.invokevirtual 156, 3) := by decide +kernel
theorem dX5_pour_94 : decode cX5_pour 94 = .ok (.istore 7, 2) := by decide +kernel
theorem dX5_pour_96 : decode cX5_pour 96 = .ok (.iload 7, 2) := by decide +kernel
theorem dX5_pour_98 : decode cX5_pour 98 = .ok (.iload 4, 2) := by decide +kernel
theorem dX5_pour_100 : decode cX5_pour 100 = .ok (.if_icmp .le 11, 3) := by decide +kernel
theorem dX5_pour_103 : decode cX5_pour 103 = .ok (.iload 7, 2) := by decide +kernel
theorem dX5_pour_105 : decode cX5_pour 105 = .ok (.istore 4, 2) := by decide +kernel
theorem dX5_pour_107 : decode cX5_pour 107 = .ok (.iload 6, 2) := by decide +kernel
theorem dX5_pour_109 : decode cX5_pour 109 = .ok (.istore 5, 2) := by decide +kernel
theorem dX5_pour_111 : decode cX5_pour 111 = .ok (.iinc 6 1, 3) := by decide +kernel
theorem dX5_pour_114 : decode cX5_pour 114 = .ok (.goto (-52), 3) := by decide +kernel
theorem dX5_pour_117 : decode cX5_pour 117 = .ok (.iload_n 3, 1) := by decide +kernel
theorem dX5_pour_118 : decode cX5_pour 118 = .ok (.ifCond .ne 8, 3) := by decide +kernel
theorem dX5_pour_121 : decode cX5_pour 121 = .ok (.iload 5, 2) := by decide +kernel
theorem dX5_pour_123 : decode cX5_pour 123 = .ok (.goto 5, 3) := by decide +kernel
theorem dX5_pour_126 : decode cX5_pour 126 = .ok (.iload 4, 2) := by decide +kernel
theorem dX5_pour_128 : decode cX5_pour 128 = .ok (.ireturn, 1) := by decide +kernel
theorem dX5_least_0 : decode cX5_least 0 = .ok (.iload_n 1, 1) := by decide +kernel
theorem dX5_least_1 : decode cX5_least 1 = .ok (.ifCond .lt 7, 3) := by decide +kernel
theorem dX5_least_4 : decode cX5_least 4 = .ok (.iload_n 2, 1) := by decide +kernel
theorem dX5_least_5 : decode cX5_least 5 = .ok (.ifCond .ge 10, 3) := by decide +kernel
theorem dX5_least_8 : decode cX5_least 8 = .ok (.aload_n 0, 1) := by decide +kernel
theorem dX5_least_9 : decode cX5_least 9 = .ok (.bipush (-4), 2) := by decide +kernel
theorem dX5_least_11 : decode cX5_least 11 = .ok (.invokevirtual 51, 3) := by decide +kernel
theorem dX5_least_14 : decode cX5_least 14 = .ok (.ireturn, 1) := by decide +kernel
theorem dX5_least_15 : decode cX5_least 15 = .ok (.iload_n 1, 1) := by decide +kernel
theorem dX5_least_16 : decode cX5_least 16 = .ok (.sipush 999, 3) := by decide +kernel
theorem dX5_least_19 : decode cX5_least 19 = .ok (.if_icmp .gt 9, 3) := by decide +kernel
theorem dX5_least_22 : decode cX5_least 22 = .ok (.iload_n 2, 1) := by decide +kernel
theorem dX5_least_23 : decode cX5_least 23 = .ok (.bipush 60, 2) := by decide +kernel
theorem dX5_least_25 : decode cX5_least 25 = .ok (.if_icmp .le 10, 3) := by decide +kernel
theorem dX5_least_28 : decode cX5_least 28 = .ok (.aload_n 0, 1) := by decide +kernel
theorem dX5_least_29 : decode cX5_least 29 = .ok (.bipush (-6), 2) := by decide +kernel
theorem dX5_least_31 : decode cX5_least 31 = .ok (.invokevirtual 51, 3) := by decide +kernel
theorem dX5_least_34 : decode cX5_least 34 = .ok (.ireturn, 1) := by decide +kernel
theorem dX5_least_35 : decode cX5_least 35 = .ok (.aload_n 0, 1) := by decide +kernel
theorem dX5_least_36 : decode cX5_least 36 = .ok (.getfield 10, 3) := by decide +kernel
theorem dX5_least_39 : decode cX5_least 39 = .ok (.invokevirtual 103, 3) := by decide +kernel
theorem dX5_least_42 : decode cX5_least 42 = .ok (.ifCond .ne 6, 3) := by decide +kernel
theorem dX5_least_45 : decode cX5_least 45 = .ok (.bipush (-9), 2) := by decide +kernel
theorem dX5_least_47 : decode cX5_least 47 = .ok (.ireturn, 1) := by decide +kernel
theorem dX5_least_48 : decode cX5_least 48 = .ok (.iconst 0, 1) := by decide +kernel
theorem dX5_least_49 : decode cX5_least 49 = .ok (.istore_n 3, 1) := by decide +kernel
theorem dX5_least_50 : decode cX5_least 50 = .ok (.iload_n 3, 1) := by decide +kernel
theorem dX5_least_51 : decode cX5_least 51 = .ok (.bipush 99, 2) := by decide +kernel
theorem dX5_least_53 : decode cX5_least 53 = .ok (.if_icmp .gt 34, 3) := by decide +kernel
theorem dX5_least_56 : decode cX5_least 56 = .ok (.aload_n 0, 1) := by decide +kernel
theorem dX5_least_57 : decode cX5_least 57 = .ok (.invokevirtual 137, 3) := by decide +kernel
theorem dX5_least_60 : decode cX5_least 60 = .ok (.aload_n 0, 1) := by decide +kernel
theorem dX5_least_61 : decode cX5_least 61 = .ok (.getfield 16, 3) := by decide +kernel
theorem dX5_least_64 : decode cX5_least 64 = .ok (.iconst 0, 1) := by decide +kernel
theorem dX5_least_65 : decode cX5_least 65 = .ok (.iload_n 3, 1) := by decide +kernel
theorem dX5_least_66 : decode cX5_least 66 = .ok (.invokevirtual 116, 3) := by decide +kernel
theorem dX5_least_69 : decode cX5_least 69 = .ok (.pop, 1) := by decide +kernel
theorem dX5_least_70 : decode cX5_least 70 = .ok (.aload_n 0, 1) := by decide +kernel
theorem dX5_least_71 : decode cX5_least 71 = .ok (.iload_n 2, 1) := by decide +kernel
theorem dX5_least_72 : decode cX5_least 72 = .ok (.invokevirtual 156, 3) := by decide +kernel
theorem dX5_least_75 : decode cX5_least 75 = .ok (.iload_n 1, 1) := by decide +kernel
theorem dX5_least_76 : decode cX5_least 76 = .ok (.if_icmp .lt 5, 3) := by decide +kernel
theorem dX5_least_79 : decode cX5_least 79 = .ok (.iload_n 3, 1) := by decide +kernel
theorem dX5_least_80 : decode cX5_least 80 = .ok (.ireturn, 1) := by decide +kernel
theorem dX5_least_81 : decode cX5_least 81 = .ok (.iinc 3 1, 3) := by decide +kernel
theorem dX5_least_84 : decode cX5_least 84 = .ok (.goto (-34), 3) := by decide +kernel
theorem dX5_least_87 : decode cX5_least 87 = .ok (.bipush (-9), 2) := by decide +kernel
theorem dX5_least_89 : decode cX5_least 89 = .ok (.ireturn, 1) := by decide +kernel
theorem dX5_clearing_0 : decode cX5_clearing 0 = .ok (.iload_n 1, 1) := by decide +kernel
theorem dX5_clearing_1 : decode cX5_clearing 1 = .ok (.iconst 0, 1) := by decide +kernel
theorem dX5_clearing_2 : decode cX5_clearing 2 = .ok (.bipush 60, 2) := by decide +kernel
theorem dX5_clearing_4 : decode cX5_clearing 4 = .ok (.invokestatic 47, 3) := by decide +kernel
theorem dX5_clearing_7 : decode cX5_clearing 7 = .ok (.istore_n 2, 1) := by decide +kernel
theorem dX5_clearing_8 : decode cX5_clearing 8 = .ok (.iload_n 2, 1) := by decide +kernel
theorem dX5_clearing_9 : decode cX5_clearing 9 = .ok (.ifCond .eq 9, 3) := by decide +kernel
theorem dX5_clearing_12 : decode cX5_clearing 12 = .ok (.aload_n 0, 1) := by decide +kernel
theorem dX5_clearing_13 : decode cX5_clearing 13 = .ok (.iload_n 2, 1) := by decide +kernel
theorem dX5_clearing_14 : decode cX5_clearing 14 = .ok (.invokevirtual 51, 3) := by decide +kernel
theorem dX5_clearing_17 : decode cX5_clearing 17 = .ok (.ireturn, 1) := by decide +kernel
theorem dX5_clearing_18 : decode cX5_clearing 18 = .ok (.aload_n 0, 1) := by decide +kernel
theorem dX5_clearing_19 : decode cX5_clearing 19 = .ok (.getfield 10, 3) := by decide +kernel
theorem dX5_clearing_22 : decode cX5_clearing 22 = .ok (.invokevirtual 159, 3) := by decide +kernel
theorem dX5_clearing_25 : decode cX5_clearing 25 = .ok (.istore_n 3, 1) := by decide +kernel
theorem dX5_clearing_26 : decode cX5_clearing 26 = .ok (.bipush (-9), 2) := by decide +kernel
theorem dX5_clearing_28 : decode cX5_clearing 28 = .ok (.istore 4, 2) := by decide +kernel
theorem dX5_clearing_30 : decode cX5_clearing 30 = .ok (.iconst 0, 1) := by decide +kernel
theorem dX5_clearing_31 : decode cX5_clearing 31 = .ok (.istore 5, 2) := by decide +kernel
theorem dX5_clearing_33 : decode cX5_clearing 33 = .ok (.iconst 0, 1) := by decide +kernel
theorem dX5_clearing_34 : decode cX5_clearing 34 = .ok (.istore 6, 2) := by decide +kernel
theorem dX5_clearing_36 : decode cX5_clearing 36 = .ok (.iload 6, 2) := by decide +kernel
theorem dX5_clearing_38 : decode cX5_clearing 38 = .ok (.iload_n 3, 1) := by decide +kernel
theorem dX5_clearing_39 : decode cX5_clearing 39 = .ok (.if_icmp .gt 88, 3) := by decide +kernel
theorem dX5_clearing_42 : decode cX5_clearing 42 = .ok (.iload 6, 2) := by decide +kernel
theorem dX5_clearing_44 : decode cX5_clearing 44 = .ok (.iload_n 3, 1) := by decide +kernel
theorem dX5_clearing_45 : decode cX5_clearing 45 = .ok (.iand, 1) := by decide +kernel
theorem dX5_clearing_46 : decode cX5_clearing 46 = .ok (.iload 6, 2) := by decide +kernel
theorem dX5_clearing_48 : decode cX5_clearing 48 = .ok (.if_icmp .eq 6, 3) := by decide +kernel
theorem dX5_clearing_51 : decode cX5_clearing 51 = .ok (.goto 70, 3) := by decide +kernel
theorem dX5_clearing_54 : decode cX5_clearing 54 = .ok (.aload_n 0, 1) := by decide +kernel
theorem dX5_clearing_55 : decode cX5_clearing 55 = .ok (.invokevirtual 137, 3) := by decide +kernel
theorem dX5_clearing_58 : decode cX5_clearing 58 = .ok (.aload_n 0, 1) := by decide +kernel
theorem dX5_clearing_59 : decode cX5_clearing 59 = .ok (.getfield 16, 3) := by decide +kernel
theorem dX5_clearing_62 : decode cX5_clearing 62 = .ok (.iload 6, 2) := by decide +kernel
theorem dX5_clearing_64 : decode cX5_clearing 64 = .ok (.invokevirtual 162, 3) := by decide +kernel
theorem dX5_clearing_67 : decode cX5_clearing 67 = .ok (.aload_n 0, 1) := by decide +kernel
theorem dX5_clearing_68 : decode cX5_clearing 68 = .ok (.iload_n 1, 1) := by decide +kernel
theorem dX5_clearing_69 : decode cX5_clearing 69 = .ok (.invokevirtual 156, 3) := by decide +kernel
theorem dX5_clearing_72 : decode cX5_clearing 72 = .ok (.istore 7, 2) := by decide +kernel
theorem dX5_clearing_74 : decode cX5_clearing 74 = .ok (.iload 6, 2) := by decide +kernel
theorem dX5_clearing_76 : decode cX5_clearing 76 = .ok (.invokestatic 165, 3) := by decide +kernel
theorem dX5_clearing_79 : decode cX5_clearing 79 = .ok (.iload 5, 2) := by decide +kernel
theorem dX5_clearing_81 : decode cX5_clearing 81 = .ok (.invokestatic 165, 3) := by decide +kernel
theorem dX5_clearing_84 : decode cX5_clearing 84 = .ok (.if_icmp .ge 7, 3) := by decide +kernel
theorem dX5_clearing_87 : decode cX5_clearing 87 = .ok (.iconst 1, 1) := by decide +kernel
theorem dX5_clearing_88 : decode cX5_clearing 88 = .ok (.goto 4, 3) := by decide +kernel
theorem dX5_clearing_91 : decode cX5_clearing 91 = .ok (.iconst 0, 1) := by decide +kernel
theorem dX5_clearing_92 : decode cX5_clearing 92 = .ok (.istore 8, 2) := by decide +kernel
theorem dX5_clearing_94 : decode cX5_clearing 94 = .ok (.iload 7, 2) := by decide +kernel
theorem dX5_clearing_96 : decode cX5_clearing 96 = .ok (.iload 4, 2) := by decide +kernel
theorem dX5_clearing_98 : decode cX5_clearing 98 = .ok (.if_icmp .gt 15, 3) := by decide +kernel
theorem dX5_clearing_101 : decode cX5_clearing 101 = .ok (.iload 7, 2) := by decide +kernel
theorem dX5_clearing_103 : decode cX5_clearing 103 = .ok (.iload 4, 2) := by decide +kernel
theorem dX5_clearing_105 : decode cX5_clearing 105 = .ok (.if_icmp .ne 16, 3) := by decide +kernel
theorem dX5_clearing_108 : decode cX5_clearing 108 = .ok (.iload 8, 2) := by decide +kernel
theorem dX5_clearing_110 : decode cX5_clearing 110 = .ok (.ifCond .eq 11, 3) := by decide +kernel
theorem dX5_clearing_113 : decode cX5_clearing 113 = .ok (.iload 7, 2) := by decide +kernel
theorem dX5_clearing_115 : decode cX5_clearing 115 = .ok (.istore 4, 2) := by decide +kernel
theorem dX5_clearing_117 : decode cX5_clearing 117 = .ok (.iload 6, 2) := by decide +kernel
theorem dX5_clearing_119 : decode cX5_clearing 119 = .ok (.istore 5, 2) := by decide +kernel
theorem dX5_clearing_121 : decode cX5_clearing 121 = .ok (.iinc 6 1, 3) := by decide +kernel
theorem dX5_clearing_124 : decode cX5_clearing 124 = .ok (.goto (-88), 3) := by decide +kernel
theorem dX5_clearing_127 : decode cX5_clearing 127 = .ok (.iload 5, 2) := by decide +kernel
theorem dX5_clearing_129 : decode cX5_clearing 129 = .ok (.ireturn, 1) := by decide +kernel
theorem dX5_stop_0 : decode cX5_stop 0 = .ok (.iload_n 1, 1) := by decide +kernel
theorem dX5_stop_1 : decode cX5_stop 1 = .ok (.iconst 0, 1) := by decide +kernel
theorem dX5_stop_2 : decode cX5_stop 2 = .ok (.bipush 60, 2) := by decide +kernel
theorem dX5_stop_4 : decode cX5_stop 4 = .ok (.invokestatic 47, 3) := by decide +kernel
theorem dX5_stop_7 : decode cX5_stop 7 = .ok (.istore_n 2, 1) := by decide +kernel
theorem dX5_stop_8 : decode cX5_stop 8 = .ok (.iload_n 2, 1) := by decide +kernel
theorem dX5_stop_9 : decode cX5_stop 9 = .ok (.ifCond .eq 9, 3) := by decide +kernel
theorem dX5_stop_12 : decode cX5_stop 12 = .ok (.aload_n 0, 1) := by decide +kernel
theorem dX5_stop_13 : decode cX5_stop 13 = .ok (.iload_n 2, 1) := by decide +kernel
theorem dX5_stop_14 : decode cX5_stop 14 = .ok (.invokevirtual 51, 3) := by decide +kernel
theorem dX5_stop_17 : decode cX5_stop 17 = .ok (.ireturn, 1) := by decide +kernel
theorem dX5_stop_18 : decode cX5_stop 18 = .ok (.aload_n 0, 1) := by decide +kernel
theorem dX5_stop_19 : decode cX5_stop 19 = .ok (.invokevirtual 137, 3) := by decide +kernel
theorem dX5_stop_22 : decode cX5_stop 22 = .ok (.aload_n 0, 1) := by decide +kernel
theorem dX5_stop_23 : decode cX5_stop 23 = .ok (.iload_n 1, 1) := by decide +kernel
theorem dX5_stop_24 : decode cX5_stop 24 = .ok (.invokevirtual 156, 3) := by decide +kernel
theorem dX5_stop_27 : decode cX5_stop 27 = .ok (.istore_n 3, 1) := by decide +kernel
theorem dX5_stop_28 : decode cX5_stop 28 = .ok (.bipush (-9), 2) := by decide +kernel
theorem dX5_stop_30 : decode cX5_stop 30 = .ok (.istore 4, 2) := by decide +kernel
theorem dX5_stop_32 : decode cX5_stop 32 = .ok (.iconst 0, 1) := by decide +kernel
theorem dX5_stop_33 : decode cX5_stop 33 = .ok (.istore 5, 2) := by decide +kernel
theorem dX5_stop_35 : decode cX5_stop 35 = .ok (.iload 5, 2) := by decide +kernel
theorem dX5_stop_37 : decode cX5_stop 37 = .ok (.aload_n 0, 1) := by decide +kernel
theorem dX5_stop_38 : decode cX5_stop 38 = .ok (.getfield 10, 3) := by decide +kernel
theorem dX5_stop_41 : decode cX5_stop 41 = .ok (.invokevirtual 103, 3) := by decide +kernel
theorem dX5_stop_44 : decode cX5_stop 44 = .ok (.if_icmp .ge 57, 3) := by decide +kernel
theorem dX5_stop_47 : decode cX5_stop 47 = .ok (.aload_n 0, 1) := by decide +kernel
theorem dX5_stop_48 : decode cX5_stop 48 = .ok (.getfield 10, 3) := by decide +kernel
theorem dX5_stop_51 : decode cX5_stop 51 = .ok (.iload 5, 2) := by decide +kernel
theorem dX5_stop_53 : decode cX5_stop 53 = .ok (.invokevirtual 87, 3) := by decide +kernel
theorem dX5_stop_56 : decode cX5_stop 56 = .ok (.ifCond .eq 6, 3) := by decide +kernel
theorem dX5_stop_59 : decode cX5_stop 59 = .ok (.goto 36, 3) := by decide +kernel
theorem dX5_stop_62 : decode cX5_stop 62 = .ok (.aload_n 0, 1) := by decide +kernel
theorem dX5_stop_63 : decode cX5_stop 63 = .ok (.invokevirtual 137, 3) := by decide +kernel
theorem dX5_stop_66 : decode cX5_stop 66 = .ok (.aload_n 0, 1) := by decide +kernel
theorem dX5_stop_67 : decode cX5_stop 67 = .ok (.getfield 16, 3) := by decide +kernel
theorem dX5_stop_70 : decode cX5_stop 70 = .ok (.iload 5, 2) := by decide +kernel
theorem dX5_stop_72 : decode cX5_stop 72 = .ok (.invokevirtual 170, 3) := by decide +kernel
theorem dX5_stop_75 : decode cX5_stop 75 = .ok (.aload_n 0, 1) := by decide +kernel
theorem dX5_stop_76 : decode cX5_stop 76 = .ok (.iload_n 1, 1) := by decide +kernel
theorem dX5_stop_77 : decode cX5_stop 77 = .ok (.invokevirtual 156, 3) := by decide +kernel
theorem dX5_stop_80 : decode cX5_stop 80 = .ok (.istore 6, 2) := by decide +kernel
theorem dX5_stop_82 : decode cX5_stop 82 = .ok (.iload 6, 2) := by decide +kernel
theorem dX5_stop_84 : decode cX5_stop 84 = .ok (.iload_n 3, 1) := by decide +kernel
theorem dX5_stop_85 : decode cX5_stop 85 = .ok (.if_icmp .ge 10, 3) := by decide +kernel
theorem dX5_stop_88 : decode cX5_stop 88 = .ok (.iload 6, 2) := by decide +kernel
theorem dX5_stop_90 : decode cX5_stop 90 = .ok (.istore_n 3, 1) := by decide +kernel
theorem dX5_stop_91 : decode cX5_stop 91 = .ok (.iload 5, 2) := by decide +kernel
theorem dX5_stop_93 : decode cX5_stop 93 = .ok (.istore 4, 2) := by decide +kernel
theorem dX5_stop_95 : decode cX5_stop 95 = .ok (.iinc 5 1, 3) := by decide +kernel
theorem dX5_stop_98 : decode cX5_stop 98 = .ok (.goto (-63), 3) := by decide +kernel
theorem dX5_stop_101 : decode cX5_stop 101 = .ok (.iload 4, 2) := by decide +kernel
theorem dX5_stop_103 : decode cX5_stop 103 = .ok (.ireturn, 1) := by decide +kernel
theorem dX5_join_0 : decode cX5_join 0 = .ok (.iload_n 1, 1) := by decide +kernel
theorem dX5_join_1 : decode cX5_join 1 = .ok (.iconst 0, 1) := by decide +kernel
theorem dX5_join_2 : decode cX5_join 2 = .ok (.bipush 60, 2) := by decide +kernel
theorem dX5_join_4 : decode cX5_join 4 = .ok (.invokestatic 47, 3) := by decide +kernel
theorem dX5_join_7 : decode cX5_join 7 = .ok (.istore_n 2, 1) := by decide +kernel
theorem dX5_join_8 : decode cX5_join 8 = .ok (.iload_n 2, 1) := by decide +kernel
theorem dX5_join_9 : decode cX5_join 9 = .ok (.ifCond .eq 9, 3) := by decide +kernel
theorem dX5_join_12 : decode cX5_join 12 = .ok (.aload_n 0, 1) := by decide +kernel
theorem dX5_join_13 : decode cX5_join 13 = .ok (.iload_n 2, 1) := by decide +kernel
theorem dX5_join_14 : decode cX5_join 14 = .ok (.invokevirtual 51, 3) := by decide +kernel
theorem dX5_join_17 : decode cX5_join 17 = .ok (.ireturn, 1) := by decide +kernel
theorem dX5_join_18 : decode cX5_join 18 = .ok (.aload_n 0, 1) := by decide +kernel
theorem dX5_join_19 : decode cX5_join 19 = .ok (.invokevirtual 137, 3) := by decide +kernel
theorem dX5_join_22 : decode cX5_join 22 = .ok (.aload_n 0, 1) := by decide +kernel
theorem dX5_join_23 : decode cX5_join 23 = .ok (.iload_n 1, 1) := by decide +kernel
theorem dX5_join_24 : decode cX5_join 24 = .ok (.invokevirtual 156, 3) := by decide +kernel
theorem dX5_join_27 : decode cX5_join 27 = .ok (.istore_n 3, 1) := by decide +kernel
theorem dX5_join_28 : decode cX5_join 28 = .ok (.bipush (-9), 2) := by decide +kernel
theorem dX5_join_30 : decode cX5_join 30 = .ok (.istore 4, 2) := by decide +kernel
theorem dX5_join_32 : decode cX5_join 32 = .ok (.iconst 0, 1) := by decide +kernel
theorem dX5_join_33 : decode cX5_join 33 = .ok (.istore 5, 2) := by decide +kernel
theorem dX5_join_35 : decode cX5_join 35 = .ok (.iload 5, 2) := by decide +kernel
theorem dX5_join_37 : decode cX5_join 37 = .ok (.aload_n 0, 1) := by decide +kernel
theorem dX5_join_38 : decode cX5_join 38 = .ok (.getfield 10, 3) := by decide +kernel
theorem dX5_join_41 : decode cX5_join 41 = .ok (.invokevirtual 103, 3) := by decide +kernel
theorem dX5_join_44 : decode cX5_join 44 = .ok (.if_icmp .ge 106, 3) := by decide +kernel
theorem dX5_join_47 : decode cX5_join 47 = .ok (.iload 5, 2) := by decide +kernel
theorem dX5_join_49 : decode cX5_join 49 = .ok (.iconst 1, 1) := by decide +kernel
theorem dX5_join_50 : decode cX5_join 50 = .ok (.iadd, 1) := by decide +kernel
theorem dX5_join_51 : decode cX5_join 51 = .ok (.istore 6, 2) := by decide +kernel
theorem dX5_join_53 : decode cX5_join 53 = .ok (.iload 6, 2) := by decide +kernel
theorem dX5_join_55 : decode cX5_join 55 = .ok (.bipush 9, 2) := by decide +kernel
theorem dX5_join_57 : decode cX5_join 57 = .ok (.if_icmp .gt 87, 3) := by decide +kernel
theorem dX5_join_60 : decode cX5_join 60 = .ok (.iload 6, 2) := by decide +kernel
theorem dX5_join_62 : decode cX5_join 62 = .ok (.aload_n 0, 1) := by decide +kernel
theorem dX5_join_63 : decode cX5_join 63 = .ok (.getfield 10, 3) := by decide +kernel
theorem dX5_join_66 : decode cX5_join 66 = .ok (.iload 5, 2) := by decide +kernel
theorem dX5_join_68 : decode cX5_join 68 = .ok (.invokevirtual 84, 3) := by decide +kernel
theorem dX5_join_71 : decode cX5_join 71 = .ok (.if_icmp .eq 67, 3) := by decide +kernel
theorem dX5_join_74 : decode cX5_join 74 = .ok (.iload 6, 2) := by decide +kernel
theorem dX5_join_76 : decode cX5_join 76 = .ok (.bipush 9, 2) := by decide +kernel
theorem dX5_join_78 : decode cX5_join 78 = .ok (.if_icmp .eq 18, 3) := by decide +kernel
theorem dX5_join_81 : decode cX5_join 81 = .ok (.aload_n 0, 1) := by decide +kernel
theorem dX5_join_82 : decode cX5_join 82 = .ok (.getfield 10, 3) := by decide +kernel
theorem dX5_join_85 : decode cX5_join 85 = .ok (.iload 6, 2) := by decide +kernel
theorem dX5_join_87 : decode cX5_join 87 = .ok (.invokevirtual 72, 3) := by decide +kernel
theorem dX5_join_90 : decode cX5_join 90 = .ok (.ifCond .ne 6, 3) := by decide +kernel
theorem dX5_join_93 : decode cX5_join 93 = .ok (.goto 45, 3) := by decide +kernel
theorem dX5_join_96 : decode cX5_join 96 = .ok (.aload_n 0, 1) := by decide +kernel
theorem dX5_join_97 : decode cX5_join 97 = .ok (.invokevirtual 137, 3) := by decide +kernel
theorem dX5_join_100 : decode cX5_join 100 = .ok (.aload_n 0, 1) := by decide +kernel
theorem dX5_join_101 : decode cX5_join 101 = .ok (.getfield 16, 3) := by decide +kernel
theorem dX5_join_104 : decode cX5_join 104 = .ok (.iload 5, 2) := by decide +kernel
theorem dX5_join_106 : decode cX5_join 106 = .ok (.iload 6, 2) := by decide +kernel
theorem dX5_join_108 : decode cX5_join 108 = .ok (.invokevirtual 110, 3) := by decide +kernel
theorem dX5_join_111 : decode cX5_join 111 = .ok (.pop, 1) := by decide +kernel
theorem dX5_join_112 : decode cX5_join 112 = .ok (.aload_n 0, 1) := by decide +kernel
theorem dX5_join_113 : decode cX5_join 113 = .ok (.iload_n 1, 1) := by decide +kernel
theorem dX5_join_114 : decode cX5_join 114 = .ok (.invokevirtual 156, 3) := by decide +kernel
theorem dX5_join_117 : decode cX5_join 117 = .ok (.istore 7, 2) := by decide +kernel
theorem dX5_join_119 : decode cX5_join 119 = .ok (.iload 7, 2) := by decide +kernel
theorem dX5_join_121 : decode cX5_join 121 = .ok (.iload_n 3, 1) := by decide +kernel
theorem dX5_join_122 : decode cX5_join 122 = .ok (.if_icmp .le 16, 3) := by decide +kernel
theorem dX5_join_125 : decode cX5_join 125 = .ok (.iload 7, 2) := by decide +kernel
theorem dX5_join_127 : decode cX5_join 127 = .ok (.istore_n 3, 1) := by decide +kernel
theorem dX5_join_128 : decode cX5_join 128 = .ok (.bipush 10, 2) := by decide +kernel
theorem dX5_join_130 : decode cX5_join 130 = .ok (.iload 5, 2) := by decide +kernel
theorem dX5_join_132 : decode cX5_join 132 = .ok (.imul, 1) := by decide +kernel
theorem dX5_join_133 : decode cX5_join 133 = .ok (.iload 6, 2) := by decide +kernel
theorem dX5_join_135 : decode cX5_join 135 = .ok (.iadd, 1) := by decide +kernel
theorem dX5_join_136 : decode cX5_join 136 = .ok (.istore 4, 2) := by decide +kernel
theorem dX5_join_138 : decode cX5_join 138 = .ok (.iinc 6 1, 3) := by decide +kernel
theorem dX5_join_141 : decode cX5_join 141 = .ok (.goto (-88), 3) := by decide +kernel
theorem dX5_join_144 : decode cX5_join 144 = .ok (.iinc 5 1, 3) := by decide +kernel
theorem dX5_join_147 : decode cX5_join 147 = .ok (.goto (-112), 3) := by decide +kernel
theorem dX5_join_150 : decode cX5_join 150 = .ok (.iload 4, 2) := by decide +kernel
theorem dX5_join_152 : decode cX5_join 152 = .ok (.ireturn, 1) := by decide +kernel
theorem dX5_way_0 : decode cX5_way 0 = .ok (.aload_n 0, 1) := by decide +kernel
theorem dX5_way_1 : decode cX5_way 1 = .ok (.getfield 10, 3) := by decide +kernel
theorem dX5_way_4 : decode cX5_way 4 = .ok (.iload_n 1, 1) := by decide +kernel
theorem dX5_way_5 : decode cX5_way 5 = .ok (.invokevirtual 72, 3) := by decide +kernel
theorem dX5_way_8 : decode cX5_way 8 = .ok (.ifCond .ne 9, 3) := by decide +kernel
theorem dX5_way_11 : decode cX5_way 11 = .ok (.aload_n 0, 1) := by decide +kernel
theorem dX5_way_12 : decode cX5_way 12 = .ok (.iconst (-1), 1) := by decide +kernel
theorem dX5_way_13 : decode cX5_way 13 = .ok (.invokevirtual 51, 3) := by decide +kernel
theorem dX5_way_16 : decode cX5_way 16 = .ok (.ireturn, 1) := by decide +kernel
theorem dX5_way_17 : decode cX5_way 17 = .ok (.aload_n 0, 1) := by decide +kernel
theorem dX5_way_18 : decode cX5_way 18 = .ok (.getfield 10, 3) := by decide +kernel
theorem dX5_way_21 : decode cX5_way 21 = .ok (.iload_n 1, 1) := by decide +kernel
theorem dX5_way_22 : decode cX5_way 22 = .ok (.invokevirtual 173, 3) := by decide +kernel
theorem dX5_way_25 : decode cX5_way 25 = .ok (.istore_n 3, 1) := by decide +kernel
theorem dX5_way_26 : decode cX5_way 26 = .ok (.iload_n 2, 1) := by decide +kernel
theorem dX5_way_27 : decode cX5_way 27 = .ok (.tableswitch 45 0 2 #[25, 30, 43], 25) := by decide +kernel
theorem dX5_way_52 : decode cX5_way 52 = .ok (.iload_n 3, 1) := by decide +kernel
theorem dX5_way_53 : decode cX5_way 53 = .ok (.invokestatic 165, 3) := by decide +kernel
theorem dX5_way_56 : decode cX5_way 56 = .ok (.ireturn, 1) := by decide +kernel
theorem dX5_way_57 : decode cX5_way 57 = .ok (.iload_n 3, 1) := by decide +kernel
theorem dX5_way_58 : decode cX5_way 58 = .ok (.aload_n 0, 1) := by decide +kernel
theorem dX5_way_59 : decode cX5_way 59 = .ok (.getfield 10, 3) := by decide +kernel
theorem dX5_way_62 : decode cX5_way 62 = .ok (.invokevirtual 159, 3) := by decide +kernel
theorem dX5_way_65 : decode cX5_way 65 = .ok (.iand, 1) := by decide +kernel
theorem dX5_way_66 : decode cX5_way 66 = .ok (.invokestatic 165, 3) := by decide +kernel
theorem dX5_way_69 : decode cX5_way 69 = .ok (.ireturn, 1) := by decide +kernel
theorem dX5_way_70 : decode cX5_way 70 = .ok (.iload_n 3, 1) := by decide +kernel
theorem dX5_way_71 : decode cX5_way 71 = .ok (.ireturn, 1) := by decide +kernel
theorem dX5_way_72 : decode cX5_way 72 = .ok (.aload_n 0, 1) := by decide +kernel
theorem dX5_way_73 : decode cX5_way 73 = .ok (.bipush (-2), 2) := by decide +kernel
theorem dX5_way_75 : decode cX5_way 75 = .ok (.invokevirtual 51, 3) := by decide +kernel
theorem dX5_way_78 : decode cX5_way 78 = .ok (.ireturn, 1) := by decide +kernel
theorem dX5_whichBlocked_0 : decode cX5_whichBlocked 0 = .ok (.iconst 0, 1) := by decide +kernel
theorem dX5_whichBlocked_1 : decode cX5_whichBlocked 1 = .ok (.istore_n 1, 1) := by decide +kernel
theorem dX5_whichBlocked_2 : decode cX5_whichBlocked 2 = .ok (.iconst 0, 1) := by decide +kernel
theorem dX5_whichBlocked_3 : decode cX5_whichBlocked 3 = .ok (.istore_n 2, 1) := by decide +kernel
theorem dX5_whichBlocked_4 : decode cX5_whichBlocked 4 = .ok (.iload_n 2, 1) := by decide +kernel
theorem dX5_whichBlocked_5 : decode cX5_whichBlocked 5 = .ok (.aload_n 0, 1) := by decide +kernel
theorem dX5_whichBlocked_6 : decode cX5_whichBlocked 6 = .ok (.getfield 10, 3) := by decide +kernel
theorem dX5_whichBlocked_9 : decode cX5_whichBlocked 9 = .ok (.invokevirtual 103, 3) := by decide +kernel
theorem dX5_whichBlocked_12 : decode cX5_whichBlocked 12 = .ok (.if_icmp .ge 48, 3) := by decide +kernel
theorem dX5_whichBlocked_15 : decode cX5_whichBlocked 15 = .ok (.aload_n 0, 1) := by decide +kernel
theorem dX5_whichBlocked_16 : decode cX5_whichBlocked 16 = .ok (.getfield 10, 3) := by decide +kernel
theorem dX5_whichBlocked_19 : decode cX5_whichBlocked 19 = .ok (.iload_n 2, 1) := by decide +kernel
theorem dX5_whichBlocked_20 : decode cX5_whichBlocked 20 = .ok (.invokevirtual 87, 3) := by decide +kernel
theorem dX5_whichBlocked_23 : decode cX5_whichBlocked 23 = .ok (.ifCond .eq 6, 3) := by decide +kernel
theorem dX5_whichBlocked_26 : decode cX5_whichBlocked 26 = .ok (.goto 28, 3) := by decide +kernel
theorem dX5_whichBlocked_29 : decode cX5_whichBlocked 29 = .ok (.aload_n 0, 1) := by decide +kernel
theorem dX5_whichBlocked_30 : decode cX5_whichBlocked 30 = .ok (.invokevirtual 137, 3) := by decide +kernel
theorem dX5_whichBlocked_33 : decode cX5_whichBlocked 33 = .ok (.aload_n 0, 1) := by decide +kernel
theorem dX5_whichBlocked_34 : decode cX5_whichBlocked 34 = .ok (.getfield 16, 3) := by decide +kernel
theorem dX5_whichBlocked_37 : decode cX5_whichBlocked 37 = .ok (.iload_n 2, 1) := by decide +kernel
theorem dX5_whichBlocked_38 : decode cX5_whichBlocked 38 = .ok (.invokevirtual 170, 3) := by decide +kernel
theorem dX5_whichBlocked_41 : decode cX5_whichBlocked 41 = .ok (.aload_n 0, 1) := by decide +kernel
theorem dX5_whichBlocked_42 : decode cX5_whichBlocked 42 = .ok (.invokevirtual 176, 3) := by decide +kernel
theorem dX5_whichBlocked_45 : decode cX5_whichBlocked 45 = .ok (.ifCond .eq 9, 3) := by decide +kernel
theorem dX5_whichBlocked_48 : decode cX5_whichBlocked 48 = .ok (.iload_n 1, 1) := by decide +kernel
theorem dX5_whichBlocked_49 : decode cX5_whichBlocked 49 = .ok (.iconst 1, 1) := by decide +kernel
theorem dX5_whichBlocked_50 : decode cX5_whichBlocked 50 = .ok (.iload_n 2, 1) := by decide +kernel
theorem dX5_whichBlocked_51 : decode cX5_whichBlocked 51 = .ok (.ishl, 1) := by decide +kernel
theorem dX5_whichBlocked_52 : decode cX5_whichBlocked 52 = .ok (.ior, 1) := by decide +kernel
theorem dX5_whichBlocked_53 : decode cX5_whichBlocked 53 = .ok (.istore_n 1, 1) := by decide +kernel
theorem dX5_whichBlocked_54 : decode cX5_whichBlocked 54 = .ok (.iinc 2 1, 3) := by decide +kernel
theorem dX5_whichBlocked_57 : decode cX5_whichBlocked 57 = .ok (.goto (-53), 3) := by decide +kernel
theorem dX5_whichBlocked_60 : decode cX5_whichBlocked 60 = .ok (.iload_n 1, 1) := by decide +kernel
theorem dX5_whichBlocked_61 : decode cX5_whichBlocked 61 = .ok (.ireturn, 1) := by decide +kernel
theorem dX5_wasPoured_0 : decode cX5_wasPoured 0 = .ok (.aload_n 0, 1) := by decide +kernel
theorem dX5_wasPoured_1 : decode cX5_wasPoured 1 = .ok (.getfield 10, 3) := by decide +kernel
theorem dX5_wasPoured_4 : decode cX5_wasPoured 4 = .ok (.iload_n 1, 1) := by decide +kernel
theorem dX5_wasPoured_5 : decode cX5_wasPoured 5 = .ok (.invokevirtual 72, 3) := by decide +kernel
theorem dX5_wasPoured_8 : decode cX5_wasPoured 8 = .ok (.ifCond .ne 9, 3) := by decide +kernel
theorem dX5_wasPoured_11 : decode cX5_wasPoured 11 = .ok (.aload_n 0, 1) := by decide +kernel
theorem dX5_wasPoured_12 : decode cX5_wasPoured 12 = .ok (.iconst (-1), 1) := by decide +kernel
theorem dX5_wasPoured_13 : decode cX5_wasPoured 13 = .ok (.invokevirtual 51, 3) := by decide +kernel
theorem dX5_wasPoured_16 : decode cX5_wasPoured 16 = .ok (.ireturn, 1) := by decide +kernel
theorem dX5_wasPoured_17 : decode cX5_wasPoured 17 = .ok (.iload_n 2, 1) := by decide +kernel
theorem dX5_wasPoured_18 : decode cX5_wasPoured 18 = .ok (.ifCond .lt 8, 3) := by decide +kernel
theorem dX5_wasPoured_21 : decode cX5_wasPoured 21 = .ok (.iload_n 2, 1) := by decide +kernel
theorem dX5_wasPoured_22 : decode cX5_wasPoured 22 = .ok (.iconst 2, 1) := by decide +kernel
theorem dX5_wasPoured_23 : decode cX5_wasPoured 23 = .ok (.if_icmp .le 10, 3) := by decide +kernel
theorem dX5_wasPoured_26 : decode cX5_wasPoured 26 = .ok (.aload_n 0, 1) := by decide +kernel
theorem dX5_wasPoured_27 : decode cX5_wasPoured 27 = .ok (.bipush (-2), 2) := by decide +kernel
theorem dX5_wasPoured_29 : decode cX5_wasPoured 29 = .ok (.invokevirtual 51, 3) := by decide +kernel
theorem dX5_wasPoured_32 : decode cX5_wasPoured 32 = .ok (.ireturn, 1) := by decide +kernel
theorem dX5_wasPoured_33 : decode cX5_wasPoured 33 = .ok (.iconst 0, 1) := by decide +kernel
theorem dX5_wasPoured_34 : decode cX5_wasPoured 34 = .ok (.istore_n 3, 1) := by decide +kernel
theorem dX5_wasPoured_35 : decode cX5_wasPoured 35 = .ok (.bipush (-9), 2) := by decide +kernel
theorem dX5_wasPoured_37 : decode cX5_wasPoured 37 = .ok (.istore 4, 2) := by decide +kernel
theorem dX5_wasPoured_39 : decode cX5_wasPoured 39 = .ok (.bipush (-9), 2) := by decide +kernel
theorem dX5_wasPoured_41 : decode cX5_wasPoured 41 = .ok (.istore 5, 2) := by decide +kernel
theorem dX5_wasPoured_43 : decode cX5_wasPoured 43 = .ok (.iconst 0, 1) := by decide +kernel
theorem dX5_wasPoured_44 : decode cX5_wasPoured 44 = .ok (.istore 6, 2) := by decide +kernel
theorem dX5_wasPoured_46 : decode cX5_wasPoured 46 = .ok (.iload 6, 2) := by decide +kernel
theorem dX5_wasPoured_48 : decode cX5_wasPoured 48 = .ok (.bipush 99, 2) := by decide +kernel
theorem dX5_wasPoured_50 : decode cX5_wasPoured 50 = .ok (.if_icmp .gt 54, 3) := by decide +kernel
theorem dX5_wasPoured_53 : decode cX5_wasPoured 53 = .ok (.aload_n 0, 1) := by decide +kernel
theorem dX5_wasPoured_54 : decode cX5_wasPoured 54 = .ok (.invokevirtual 137, 3) := by decide +kernel
theorem dX5_wasPoured_57 : decode cX5_wasPoured 57 = .ok (.aload_n 0, 1) := by decide +kernel
theorem dX5_wasPoured_58 : decode cX5_wasPoured 58 = .ok (.getfield 16, 3) := by decide +kernel
theorem dX5_wasPoured_61 : decode cX5_wasPoured 61 = .ok (.iload_n 1, 1) := by decide +kernel
theorem dX5_wasPoured_62 : decode cX5_wasPoured 62 = .ok (.iload 6, 2) := by decide +kernel
theorem dX5_wasPoured_64 : decode cX5_wasPoured 64 = .ok (.invokevirtual 116, 3) := by decide +kernel
theorem dX5_wasPoured_67 : decode cX5_wasPoured 67 = .ok (.pop, 1) := by decide +kernel
theorem dX5_wasPoured_68 : decode cX5_wasPoured 68 = .ok (.aload_n 0, 1) := by decide +kernel
theorem dX5_wasPoured_69 : decode cX5_wasPoured 69 = .ok (.invokevirtual 176, 3) := by decide +kernel
theorem dX5_wasPoured_72 : decode cX5_wasPoured 72 = .ok (.ifCond .eq 26, 3) := by decide +kernel
theorem dX5_wasPoured_75 : decode cX5_wasPoured 75 = .ok (.iinc 3 1, 3) := by decide +kernel
theorem dX5_wasPoured_78 : decode cX5_wasPoured 78 = .ok (.iload 4, 2) := by decide +kernel
theorem dX5_wasPoured_80 : decode cX5_wasPoured 80 = .ok (.bipush (-9), 2) := by decide +kernel
theorem dX5_wasPoured_82 : decode cX5_wasPoured 82 = .ok (.if_icmp .ne 8, 3) := by decide +kernel
theorem dX5_wasPoured_85 : decode cX5_wasPoured 85 = .ok (.iload 6, 2) := by decide +kernel
theorem dX5_wasPoured_87 : decode cX5_wasPoured 87 = .ok (.goto 5, 3) := by decide +kernel
theorem dX5_wasPoured_90 : decode cX5_wasPoured 90 = .ok (.iload 4, 2) := by decide +kernel
theorem dX5_wasPoured_92 : decode cX5_wasPoured 92 = .ok (.istore 4, 2) := by decide +kernel
theorem dX5_wasPoured_94 : decode cX5_wasPoured 94 = .ok (.iload 6, 2) := by decide +kernel
theorem dX5_wasPoured_96 : decode cX5_wasPoured 96 = .ok (.istore 5, 2) := by decide +kernel
theorem dX5_wasPoured_98 : decode cX5_wasPoured 98 = .ok (.iinc 6 1, 3) := by decide +kernel
theorem dX5_wasPoured_101 : decode cX5_wasPoured 101 = .ok (.goto (-55), 3) := by decide +kernel
theorem dX5_wasPoured_104 : decode cX5_wasPoured 104 = .ok (.iload_n 2, 1) := by decide +kernel
theorem dX5_wasPoured_105 : decode cX5_wasPoured 105 = .ok (.ifCond .ne 5, 3) := by decide +kernel
theorem dX5_wasPoured_108 : decode cX5_wasPoured 108 = .ok (.iload_n 3, 1) := by decide +kernel
theorem dX5_wasPoured_109 : decode cX5_wasPoured 109 = .ok (.ireturn, 1) := by decide +kernel
theorem dX5_wasPoured_110 : decode cX5_wasPoured 110 = .ok (.iload_n 2, 1) := by decide +kernel
theorem dX5_wasPoured_111 : decode cX5_wasPoured 111 = .ok (.iconst 1, 1) := by decide +kernel
theorem dX5_wasPoured_112 : decode cX5_wasPoured 112 = .ok (.if_icmp .ne 8, 3) := by decide +kernel
theorem dX5_wasPoured_115 : decode cX5_wasPoured 115 = .ok (.iload 4, 2) := by decide +kernel
theorem dX5_wasPoured_117 : decode cX5_wasPoured 117 = .ok (.goto 5, 3) := by decide +kernel
theorem dX5_wasPoured_120 : decode cX5_wasPoured 120 = .ok (.iload 5, 2) := by decide +kernel
theorem dX5_wasPoured_122 : decode cX5_wasPoured 122 = .ok (.ireturn, 1) := by decide +kernel
theorem dX5_whatKind_0 : decode cX5_whatKind 0 = .ok (.aload_n 0, 1) := by decide +kernel
theorem dX5_whatKind_1 : decode cX5_whatKind 1 = .ok (.getfield 10, 3) := by decide +kernel
theorem dX5_whatKind_4 : decode cX5_whatKind 4 = .ok (.iload_n 1, 1) := by decide +kernel
theorem dX5_whatKind_5 : decode cX5_whatKind 5 = .ok (.invokevirtual 72, 3) := by decide +kernel
theorem dX5_whatKind_8 : decode cX5_whatKind 8 = .ok (.ifCond .ne 9, 3) := by decide +kernel
theorem dX5_whatKind_11 : decode cX5_whatKind 11 = .ok (.aload_n 0, 1) := by decide +kernel
theorem dX5_whatKind_12 : decode cX5_whatKind 12 = .ok (.iconst (-1), 1) := by decide +kernel
theorem dX5_whatKind_13 : decode cX5_whatKind 13 = .ok (.invokevirtual 51, 3) := by decide +kernel
theorem dX5_whatKind_16 : decode cX5_whatKind 16 = .ok (.ireturn, 1) := by decide +kernel
theorem dX5_whatKind_17 : decode cX5_whatKind 17 = .ok (.iload_n 2, 1) := by decide +kernel
theorem dX5_whatKind_18 : decode cX5_whatKind 18 = .ok (.lookupswitch 38 #[(0, 26), (1, 32)], 26) := by decide +kernel
theorem dX5_whatKind_44 : decode cX5_whatKind 44 = .ok (.aload_n 0, 1) := by decide +kernel
theorem dX5_whatKind_45 : decode cX5_whatKind 45 = .ok (.iload_n 1, 1) := by decide +kernel
theorem dX5_whatKind_46 : decode cX5_whatKind 46 = .ok (.invokevirtual 179, 3) := by decide +kernel
theorem dX5_whatKind_49 : decode cX5_whatKind 49 = .ok (.ireturn, 1) := by decide +kernel
theorem dX5_whatKind_50 : decode cX5_whatKind 50 = .ok (.aload_n 0, 1) := by decide +kernel
theorem dX5_whatKind_51 : decode cX5_whatKind 51 = .ok (.iload_n 1, 1) := by decide +kernel
theorem dX5_whatKind_52 : decode cX5_whatKind 52 = .ok (.invokevirtual 182, 3) := by decide +kernel
theorem dX5_whatKind_55 : decode cX5_whatKind 55 = .ok (.ireturn, 1) := by decide +kernel
theorem dX5_whatKind_56 : decode cX5_whatKind 56 = .ok (.aload_n 0, 1) := by decide +kernel
theorem dX5_whatKind_57 : decode cX5_whatKind 57 = .ok (.bipush (-2), 2) := by decide +kernel
theorem dX5_whatKind_59 : decode cX5_whatKind 59 = .ok (.invokevirtual 51, 3) := by decide +kernel
theorem dX5_whatKind_62 : decode cX5_whatKind 62 = .ok (.ireturn, 1) := by decide +kernel
theorem dX5_two_0 : decode cX5_two 0 = .ok (.aload_n 0, 1) := by decide +kernel
theorem dX5_two_1 : decode cX5_two 1 = .ok (.getfield 10, 3) := by decide +kernel
theorem dX5_two_4 : decode cX5_two 4 = .ok (.iload_n 1, 1) := by decide +kernel
theorem dX5_two_5 : decode cX5_two 5 = .ok (.invokevirtual 72, 3) := by decide +kernel
theorem dX5_two_8 : decode cX5_two 8 = .ok (.ifCond .eq 19, 3) := by decide +kernel
theorem dX5_two_11 : decode cX5_two 11 = .ok (.aload_n 0, 1) := by decide +kernel
theorem dX5_two_12 : decode cX5_two 12 = .ok (.getfield 10, 3) := by decide +kernel
theorem dX5_two_15 : decode cX5_two 15 = .ok (.iload_n 2, 1) := by decide +kernel
theorem dX5_two_16 : decode cX5_two 16 = .ok (.invokevirtual 72, 3) := by decide +kernel
theorem dX5_two_19 : decode cX5_two 19 = .ok (.ifCond .eq 8, 3) := by decide +kernel
theorem dX5_two_22 : decode cX5_two 22 = .ok (.iload_n 1, 1) := by decide +kernel
theorem dX5_two_23 : decode cX5_two 23 = .ok (.iload_n 2, 1) := by decide +kernel
theorem dX5_two_24 : decode cX5_two 24 = .ok (.if_icmp .ne 9, 3) := by decide +kernel
theorem dX5_two_27 : decode cX5_two 27 = .ok (.aload_n 0, 1) := by decide +kernel
theorem dX5_two_28 : decode cX5_two 28 = .ok (.iconst (-1), 1) := by decide +kernel
theorem dX5_two_29 : decode cX5_two 29 = .ok (.invokevirtual 51, 3) := by decide +kernel
theorem dX5_two_32 : decode cX5_two 32 = .ok (.ireturn, 1) := by decide +kernel
theorem dX5_two_33 : decode cX5_two 33 = .ok (.iload_n 3, 1) := by decide +kernel
theorem dX5_two_34 : decode cX5_two 34 = .ok (.iconst 0, 1) := by decide +kernel
theorem dX5_two_35 : decode cX5_two 35 = .ok (.bipush 30, 2) := by decide +kernel
theorem dX5_two_37 : decode cX5_two 37 = .ok (.invokestatic 47, 3) := by decide +kernel
theorem dX5_two_40 : decode cX5_two 40 = .ok (.istore 4, 2) := by decide +kernel
theorem dX5_two_42 : decode cX5_two 42 = .ok (.iload 4, 2) := by decide +kernel
theorem dX5_two_44 : decode cX5_two 44 = .ok (.ifCond .eq 10, 3) := by decide +kernel
theorem dX5_two_47 : decode cX5_two 47 = .ok (.aload_n 0, 1) := by decide +kernel
theorem dX5_two_48 : decode cX5_two 48 = .ok (.iload 4, 2) := by decide +kernel
theorem dX5_two_50 : decode cX5_two 50 = .ok (.invokevirtual 51, 3) := by decide +kernel
theorem dX5_two_53 : decode cX5_two 53 = .ok (.ireturn, 1) := by decide +kernel
theorem dX5_two_54 : decode cX5_two 54 = .ok (.iconst 0, 1) := by decide +kernel
theorem dX5_two_55 : decode cX5_two 55 = .ok (.istore 5, 2) := by decide +kernel
theorem dX5_two_57 : decode cX5_two 57 = .ok (.iload 5, 2) := by decide +kernel
theorem dX5_two_59 : decode cX5_two 59 = .ok (.iconst 1, 1) := by decide +kernel
theorem dX5_two_60 : decode cX5_two 60 = .ok (.if_icmp .gt 61, 3) := by decide +kernel
theorem dX5_two_63 : decode cX5_two 63 = .ok (.iconst 0, 1) := by decide +kernel
theorem dX5_two_64 : decode cX5_two 64 = .ok (.istore 6, 2) := by decide +kernel
theorem dX5_two_66 : decode cX5_two 66 = .ok (.iload 6, 2) := by decide +kernel
theorem dX5_two_68 : decode cX5_two 68 = .ok (.iconst 1, 1) := by decide +kernel
theorem dX5_two_69 : decode cX5_two 69 = .ok (.if_icmp .gt 46, 3) := by decide +kernel
theorem dX5_two_72 : decode cX5_two 72 = .ok (.aload_n 0, 1) := by decide +kernel
theorem dX5_two_73 : decode cX5_two 73 = .ok (.iload_n 1, 1) := by decide +kernel
theorem dX5_two_74 : decode cX5_two 74 = .ok (.iload 5, 2) := by decide +kernel
theorem dX5_two_76 : decode cX5_two 76 = .ok (.iload_n 2, 1) := by decide +kernel
theorem dX5_two_77 : decode cX5_two 77 = .ok (.iload 6, 2) := by decide +kernel
theorem dX5_two_79 : decode cX5_two 79 = .ok (.iload_n 3, 1) := by decide +kernel
theorem dX5_two_80 : decode cX5_two 80 = .ok (.invokevirtual 185, 3) := by decide +kernel
theorem dX5_two_83 : decode cX5_two 83 = .ok (.ifCond .eq 26, 3) := by decide +kernel
theorem dX5_two_86 : decode cX5_two 86 = .ok (.aload_n 0, 1) := by decide +kernel
theorem dX5_two_87 : decode cX5_two 87 = .ok (.iload_n 2, 1) := by decide +kernel
theorem dX5_two_88 : decode cX5_two 88 = .ok (.iload 6, 2) := by decide +kernel
theorem dX5_two_90 : decode cX5_two 90 = .ok (.iload_n 1, 1) := by decide +kernel
theorem dX5_two_91 : decode cX5_two 91 = .ok (.iload 5, 2) := by decide +kernel
theorem dX5_two_93 : decode cX5_two 93 = .ok (.iload_n 3, 1) := by decide +kernel
theorem dX5_two_94 : decode cX5_two 94 = .ok (.invokevirtual 185, 3) := by decide +kernel
theorem dX5_two_97 : decode cX5_two 97 = .ok (.ifCond .eq 12, 3) := by decide +kernel
theorem dX5_two_100 : decode cX5_two 100 = .ok (.bipush 10, 2) := by decide +kernel
theorem dX5_two_102 : decode cX5_two 102 = .ok (.iload 5, 2) := by decide +kernel
theorem dX5_two_104 : decode cX5_two 104 = .ok (.imul, 1) := by decide +kernel
theorem dX5_two_105 : decode cX5_two 105 = .ok (.iload 6, 2) := by decide +kernel
theorem dX5_two_107 : decode cX5_two 107 = .ok (.iadd, 1) := by decide +kernel
theorem dX5_two_108 : decode cX5_two 108 = .ok (.ireturn, 1) := by decide +kernel
theorem dX5_two_109 : decode cX5_two 109 = .ok (.iinc 6 1, 3) := by decide +kernel
theorem dX5_two_112 : decode cX5_two 112 = .ok (.goto (-46), 3) := by decide +kernel
theorem dX5_two_115 : decode cX5_two 115 = .ok (.iinc 5 1, 3) := by decide +kernel
theorem dX5_two_118 : decode cX5_two 118 = .ok (.goto (-61), 3) := by decide +kernel
theorem dX5_two_121 : decode cX5_two 121 = .ok (.bipush (-9), 2) := by decide +kernel
theorem dX5_two_123 : decode cX5_two 123 = .ok (.ireturn, 1) := by decide +kernel
theorem dX5_blocked_0 : decode cX5_blocked 0 = .ok (.iload_n 1, 1) := by decide +kernel
theorem dX5_blocked_1 : decode cX5_blocked 1 = .ok (.ifCond .lt 12, 3) := by decide +kernel
theorem dX5_blocked_4 : decode cX5_blocked 4 = .ok (.iload_n 2, 1) := by decide +kernel
theorem dX5_blocked_5 : decode cX5_blocked 5 = .ok (.iconst 2, 1) := by decide +kernel
theorem dX5_blocked_6 : decode cX5_blocked 6 = .ok (.if_icmp .lt 7, 3) := by decide +kernel
theorem dX5_blocked_9 : decode cX5_blocked 9 = .ok (.iload_n 3, 1) := by decide +kernel
theorem dX5_blocked_10 : decode cX5_blocked 10 = .ok (.ifCond .ge 10, 3) := by decide +kernel
theorem dX5_blocked_13 : decode cX5_blocked 13 = .ok (.aload_n 0, 1) := by decide +kernel
theorem dX5_blocked_14 : decode cX5_blocked 14 = .ok (.bipush (-4), 2) := by decide +kernel
theorem dX5_blocked_16 : decode cX5_blocked 16 = .ok (.invokevirtual 189, 3) := by decide +kernel
theorem dX5_blocked_19 : decode cX5_blocked 19 = .ok (.lreturn, 1) := by decide +kernel
theorem dX5_blocked_20 : decode cX5_blocked 20 = .ok (.iload_n 1, 1) := by decide +kernel
theorem dX5_blocked_21 : decode cX5_blocked 21 = .ok (.bipush 7, 2) := by decide +kernel
theorem dX5_blocked_23 : decode cX5_blocked 23 = .ok (.if_icmp .gt 16, 3) := by decide +kernel
theorem dX5_blocked_26 : decode cX5_blocked 26 = .ok (.iload_n 2, 1) := by decide +kernel
theorem dX5_blocked_27 : decode cX5_blocked 27 = .ok (.bipush 20, 2) := by decide +kernel
theorem dX5_blocked_29 : decode cX5_blocked 29 = .ok (.if_icmp .gt 10, 3) := by decide +kernel
theorem dX5_blocked_32 : decode cX5_blocked 32 = .ok (.iload_n 3, 1) := by decide +kernel
theorem dX5_blocked_33 : decode cX5_blocked 33 = .ok (.sipush 999, 3) := by decide +kernel
theorem dX5_blocked_36 : decode cX5_blocked 36 = .ok (.if_icmp .le 10, 3) := by decide +kernel
theorem dX5_blocked_39 : decode cX5_blocked 39 = .ok (.aload_n 0, 1) := by decide +kernel
theorem dX5_blocked_40 : decode cX5_blocked 40 = .ok (.bipush (-6), 2) := by decide +kernel
theorem dX5_blocked_42 : decode cX5_blocked 42 = .ok (.invokevirtual 189, 3) := by decide +kernel
theorem dX5_blocked_45 : decode cX5_blocked 45 = .ok (.lreturn, 1) := by decide +kernel
theorem dX5_blocked_46 : decode cX5_blocked 46 = .ok (.iload 4, 2) := by decide +kernel
theorem dX5_blocked_48 : decode cX5_blocked 48 = .ok (.ifCond .eq 16, 3) := by decide +kernel
theorem dX5_blocked_51 : decode cX5_blocked 51 = .ok (.iload 4, 2) := by decide +kernel
theorem dX5_blocked_53 : decode cX5_blocked 53 = .ok (.iconst 1, 1) := by decide +kernel
theorem dX5_blocked_54 : decode cX5_blocked 54 = .ok (.if_icmp .eq 10, 3) := by decide +kernel
theorem dX5_blocked_57 : decode cX5_blocked 57 = .ok (.aload_n 0, 1) := by decide +kernel
theorem dX5_blocked_58 : decode cX5_blocked 58 = .ok (.bipush (-2), 2) := by decide +kernel
theorem dX5_blocked_60 : decode cX5_blocked 60 = .ok (.invokevirtual 189, 3) := by decide +kernel
theorem dX5_blocked_63 : decode cX5_blocked 63 = .ok (.lreturn, 1) := by decide +kernel
theorem dX5_blocked_64 : decode cX5_blocked 64 = .ok (.lconst 0, 1) := by decide +kernel
theorem dX5_blocked_65 : decode cX5_blocked 65 = .ok (.lstore 5, 2) := by decide +kernel
theorem dX5_blocked_67 : decode cX5_blocked 67 = .ok (.lconst 1, 1) := by decide +kernel
theorem dX5_blocked_68 : decode cX5_blocked 68 = .ok (.lstore 7, 2) := by decide +kernel
theorem dX5_blocked_70 : decode cX5_blocked 70 = .ok (.lconst 1, 1) := by decide +kernel
theorem dX5_blocked_71 : decode cX5_blocked 71 = .ok (.lstore 9, 2) := by decide +kernel
theorem dX5_blocked_73 : decode cX5_blocked 73 = .ok (.lconst 1, 1) := by decide +kernel
theorem dX5_blocked_74 : decode cX5_blocked 74 = .ok (.lstore 11, 2) := by decide +kernel
theorem dX5_blocked_76 : decode cX5_blocked 76 = .ok (.aload_n 0, 1) := by decide +kernel
theorem dX5_blocked_77 : decode cX5_blocked 77 = .ok (.invokevirtual 137, 3) := by decide +kernel
theorem dX5_blocked_80 : decode cX5_blocked 80 = .ok (.iconst 0, 1) := by decide +kernel
theorem dX5_blocked_81 : decode cX5_blocked 81 = .ok (.istore 13, 2) := by decide +kernel
theorem dX5_blocked_83 : decode cX5_blocked 83 = .ok (.iload 13, 2) := by decide +kernel
theorem dX5_blocked_85 : decode cX5_blocked 85 = .ok (.iload_n 1, 1) := by decide +kernel
theorem dX5_blocked_86 : decode cX5_blocked 86 = .ok (.if_icmp .gt 80, 3) := by decide +kernel
theorem dX5_blocked_89 : decode cX5_blocked 89 = .ok (.aload_n 0, 1) := by decide +kernel
theorem dX5_blocked_90 : decode cX5_blocked 90 = .ok (.getfield 16, 3) := by decide +kernel
theorem dX5_blocked_93 : decode cX5_blocked 93 = .ok (.invokevirtual 119, 3) := by decide +kernel
theorem dX5_blocked_96 : decode cX5_blocked 96 = .ok (.iload_n 3, 1) := by decide +kernel
theorem dX5_blocked_97 : decode cX5_blocked 97 = .ok (.if_icmp .lt 13, 3) := by decide +kernel
theorem dX5_blocked_100 : decode cX5_blocked 100 = .ok (.lload 5, 2) := by decide +kernel
theorem dX5_blocked_102 : decode cX5_blocked 102 = .ok (.lload 9, 2) := by decide +kernel
theorem dX5_blocked_104 : decode cX5_blocked 104 = .ok (.lload 11, 2) := by decide +kernel
theorem dX5_blocked_106 : decode cX5_blocked 106 = .ok (.lmul, 1) := by decide +kernel
theorem dX5_blocked_107 : decode cX5_blocked 107 = .ok (.ladd, 1) := by decide +kernel
theorem dX5_blocked_108 : decode cX5_blocked 108 = .ok (.lstore 5, 2) := by decide +kernel
theorem dX5_blocked_110 : decode cX5_blocked 110 = .ok (.lload 9, 2) := by decide +kernel
theorem dX5_blocked_112 : decode cX5_blocked 112 = .ok (.iload_n 1, 1) := by decide +kernel
theorem dX5_blocked_113 : decode cX5_blocked 113 = .ok (.iload 13, 2) := by decide +kernel
theorem dX5_blocked_115 : decode cX5_blocked 115 = .ok (.isub, 1) := by decide +kernel
theorem dX5_blocked_116 : decode cX5_blocked 116 = .ok (.i2l, 1) := by decide +kernel
theorem dX5_blocked_117 : decode cX5_blocked 117 = .ok (.lmul, 1) := by decide +kernel
theorem dX5_blocked_118 : decode cX5_blocked 118 = .ok (.iload 13, 2) := by decide +kernel
theorem dX5_blocked_120 : decode cX5_blocked 120 = .ok (.iconst 1, 1) := by decide +kernel
theorem dX5_blocked_121 : decode cX5_blocked 121 = .ok (.iadd, 1) := by decide +kernel
theorem dX5_blocked_122 : decode cX5_blocked 122 = .ok (.i2l, 1) := by decide +kernel
theorem dX5_blocked_123 : decode cX5_blocked 123 = .ok (.ldiv, 1) := by decide +kernel
theorem dX5_blocked_124 : decode cX5_blocked 124 = .ok (.lstore 9, 2) := by decide +kernel
theorem dX5_blocked_126 : decode cX5_blocked 126 = .ok (.lload 11, 2) := by decide +kernel
theorem dX5_blocked_128 : decode cX5_blocked 128 = .ok (.iload_n 2, 1) := by decide +kernel
theorem dX5_blocked_129 : decode cX5_blocked 129 = .ok (.iconst 1, 1) := by decide +kernel
theorem dX5_blocked_130 : decode cX5_blocked 130 = .ok (.isub, 1) := by decide +kernel
theorem dX5_blocked_131 : decode cX5_blocked 131 = .ok (.i2l, 1) := by decide +kernel
theorem dX5_blocked_132 : decode cX5_blocked 132 = .ok (.lmul, 1) := by decide +kernel
theorem dX5_blocked_133 : decode cX5_blocked 133 = .ok (.lstore 11, 2) := by decide +kernel
theorem dX5_blocked_135 : decode cX5_blocked 135 = .ok (.lload 7, 2) := by decide +kernel
theorem dX5_blocked_137 : decode cX5_blocked 137 = .ok (.iload 13, 2) := by decide +kernel
theorem dX5_blocked_139 : decode cX5_blocked 139 = .ok (.iload_n 1, 1) := by decide +kernel
theorem dX5_blocked_140 : decode cX5_blocked 140 = .ok (.if_icmp .ge 8, 3) := by decide +kernel
theorem dX5_blocked_143 : decode cX5_blocked 143 = .ok (.iload_n 2, 1) := by decide +kernel
theorem dX5_blocked_144 : decode cX5_blocked 144 = .ok (.i2l, 1) := by decide +kernel
theorem dX5_blocked_145 : decode cX5_blocked 145 = .ok (.goto 4, 3) := by decide +kernel
theorem dX5_blocked_148 : decode cX5_blocked 148 = .ok (.lconst 1, 1) := by decide +kernel
theorem dX5_blocked_149 : decode cX5_blocked 149 = .ok (.lmul, 1) := by decide +kernel
theorem dX5_blocked_150 : decode cX5_blocked 150 = .ok (.lstore 7, 2) := by decide +kernel
theorem dX5_blocked_152 : decode cX5_blocked 152 = .ok (.aload_n 0, 1) := by decide +kernel
theorem dX5_blocked_153 : decode cX5_blocked 153 = .ok (.getfield 16, 3) := by decide +kernel
theorem dX5_blocked_156 : decode cX5_blocked 156 = .ok (.invokevirtual 152, 3) := by decide +kernel
theorem dX5_blocked_159 : decode cX5_blocked 159 = .ok (.pop, 1) := by decide +kernel
theorem dX5_blocked_160 : decode cX5_blocked 160 = .ok (.iinc 13 1, 3) := by decide +kernel
theorem dX5_blocked_163 : decode cX5_blocked 163 = .ok (.goto (-80), 3) := by decide +kernel
theorem dX5_blocked_166 : decode cX5_blocked 166 = .ok (.lload 5, 2) := by decide +kernel
theorem dX5_blocked_168 : decode cX5_blocked 168 = .ok (.lload 7, 2) := by decide +kernel
theorem dX5_blocked_170 : decode cX5_blocked 170 = .ok (.iload 4, 2) := by decide +kernel
theorem dX5_blocked_172 : decode cX5_blocked 172 = .ok (.invokestatic 193, 3) := by decide +kernel
theorem dX5_blocked_175 : decode cX5_blocked 175 = .ok (.lreturn, 1) := by decide +kernel
theorem dX5_shares_0 : decode cX5_shares 0 = .ok (.iload_n 1, 1) := by decide +kernel
theorem dX5_shares_1 : decode cX5_shares 1 = .ok (.iconst 1, 1) := by decide +kernel
theorem dX5_shares_2 : decode cX5_shares 2 = .ok (.bipush 9, 2) := by decide +kernel
theorem dX5_shares_4 : decode cX5_shares 4 = .ok (.invokestatic 47, 3) := by decide +kernel
theorem dX5_shares_7 : decode cX5_shares 7 = .ok (.istore_n 3, 1) := by decide +kernel
theorem dX5_shares_8 : decode cX5_shares 8 = .ok (.iload_n 3, 1) := by decide +kernel
theorem dX5_shares_9 : decode cX5_shares 9 = .ok (.ifCond .eq 9, 3) := by decide +kernel
theorem dX5_shares_12 : decode cX5_shares 12 = .ok (.aload_n 0, 1) := by decide +kernel
theorem dX5_shares_13 : decode cX5_shares 13 = .ok (.iload_n 3, 1) := by decide +kernel
theorem dX5_shares_14 : decode cX5_shares 14 = .ok (.invokevirtual 51, 3) := by decide +kernel
theorem dX5_shares_17 : decode cX5_shares 17 = .ok (.ireturn, 1) := by decide +kernel
theorem dX5_shares_18 : decode cX5_shares 18 = .ok (.iload_n 2, 1) := by decide +kernel
theorem dX5_shares_19 : decode cX5_shares 19 = .ok (.ifCond .eq 15, 3) := by decide +kernel
theorem dX5_shares_22 : decode cX5_shares 22 = .ok (.iload_n 2, 1) := by decide +kernel
theorem dX5_shares_23 : decode cX5_shares 23 = .ok (.iconst 1, 1) := by decide +kernel
theorem dX5_shares_24 : decode cX5_shares 24 = .ok (.if_icmp .eq 10, 3) := by decide +kernel
theorem dX5_shares_27 : decode cX5_shares 27 = .ok (.aload_n 0, 1) := by decide +kernel
theorem dX5_shares_28 : decode cX5_shares 28 = .ok (.bipush (-2), 2) := by decide +kernel
theorem dX5_shares_30 : decode cX5_shares 30 = .ok (.invokevirtual 51, 3) := by decide +kernel
theorem dX5_shares_33 : decode cX5_shares 33 = .ok (.ireturn, 1) := by decide +kernel
theorem dX5_shares_34 : decode cX5_shares 34 = .ok (.iload_n 2, 1) := by decide +kernel
theorem dX5_shares_35 : decode cX5_shares 35 = .ok (.ifCond .ne 15, 3) := by decide +kernel
theorem dX5_shares_38 : decode cX5_shares 38 = .ok (.aload_n 0, 1) := by decide +kernel
theorem dX5_shares_39 : decode cX5_shares 39 = .ok (.getfield 10, 3) := by decide +kernel
theorem dX5_shares_42 : decode cX5_shares 42 = .ok (.invokevirtual 119, 3) := by decide +kernel
theorem dX5_shares_45 : decode cX5_shares 45 = .ok (.iload_n 1, 1) := by decide +kernel
theorem dX5_shares_46 : decode cX5_shares 46 = .ok (.idiv, 1) := by decide +kernel
theorem dX5_shares_47 : decode cX5_shares 47 = .ok (.goto 12, 3) := by decide +kernel
theorem dX5_shares_50 : decode cX5_shares 50 = .ok (.aload_n 0, 1) := by decide +kernel
theorem dX5_shares_51 : decode cX5_shares 51 = .ok (.getfield 10, 3) := by decide +kernel
theorem dX5_shares_54 : decode cX5_shares 54 = .ok (.invokevirtual 119, 3) := by decide +kernel
theorem dX5_shares_57 : decode cX5_shares 57 = .ok (.iload_n 1, 1) := by decide +kernel
theorem dX5_shares_58 : decode cX5_shares 58 = .ok (.irem, 1) := by decide +kernel
theorem dX5_shares_59 : decode cX5_shares 59 = .ok (.ireturn, 1) := by decide +kernel
theorem dX5_fullest_0 : decode cX5_fullest 0 = .ok (.iload_n 1, 1) := by decide +kernel
theorem dX5_fullest_1 : decode cX5_fullest 1 = .ok (.tableswitch 82 0 5 #[39, 44, 49, 67, 72, 77], 39) := by decide +kernel
theorem dX5_fullest_40 : decode cX5_fullest 40 = .ok (.aload_n 0, 1) := by decide +kernel
theorem dX5_fullest_41 : decode cX5_fullest 41 = .ok (.invokevirtual 197, 3) := by decide +kernel
theorem dX5_fullest_44 : decode cX5_fullest 44 = .ok (.ireturn, 1) := by decide +kernel
theorem dX5_fullest_45 : decode cX5_fullest 45 = .ok (.aload_n 0, 1) := by decide +kernel
theorem dX5_fullest_46 : decode cX5_fullest 46 = .ok (.invokevirtual 200, 3) := by decide +kernel
theorem dX5_fullest_49 : decode cX5_fullest 49 = .ok (.ireturn, 1) := by decide +kernel
theorem dX5_fullest_50 : decode cX5_fullest 50 = .ok (.aload_n 0, 1) := by decide +kernel
theorem dX5_fullest_51 : decode cX5_fullest 51 = .ok (.getfield 10, 3) := by decide +kernel
theorem dX5_fullest_54 : decode cX5_fullest 54 = .ok (.invokevirtual 203, 3) := by decide +kernel
theorem dX5_fullest_57 : decode cX5_fullest 57 = .ok (.aload_n 0, 1) := by decide +kernel
theorem dX5_fullest_58 : decode cX5_fullest 58 = .ok (.getfield 10, 3) := by decide +kernel
theorem dX5_fullest_61 : decode cX5_fullest 61 = .ok (.invokevirtual 206, 3) := by decide +kernel
theorem dX5_fullest_64 : decode cX5_fullest 64 = .ok (.iconst (-1), 1) := by decide +kernel
theorem dX5_fullest_65 : decode cX5_fullest 65 = .ok (.ixor, 1) := by decide +kernel
theorem dX5_fullest_66 : decode cX5_fullest 66 = .ok (.iand, 1) := by decide +kernel
theorem dX5_fullest_67 : decode cX5_fullest 67 = .ok (.ireturn, 1) := by decide +kernel
theorem dX5_fullest_68 : decode cX5_fullest 68 = .ok (.aload_n 0, 1) := by decide +kernel
theorem dX5_fullest_69 : decode cX5_fullest 69 = .ok (.invokevirtual 209, 3) := by decide +kernel
theorem dX5_fullest_72 : decode cX5_fullest 72 = .ok (.ireturn, 1) := by decide +kernel
theorem dX5_fullest_73 : decode cX5_fullest 73 = .ok (.aload_n 0, 1) := by decide +kernel
theorem dX5_fullest_74 : decode cX5_fullest 74 = .ok (.invokevirtual 212, 3) := by decide +kernel
theorem dX5_fullest_77 : decode cX5_fullest 77 = .ok (.ireturn, 1) := by decide +kernel
theorem dX5_fullest_78 : decode cX5_fullest 78 = .ok (.aload_n 0, 1) := by decide +kernel
theorem dX5_fullest_79 : decode cX5_fullest 79 = .ok (.invokevirtual 215, 3) := by decide +kernel
theorem dX5_fullest_82 : decode cX5_fullest 82 = .ok (.ireturn, 1) := by decide +kernel
theorem dX5_fullest_83 : decode cX5_fullest 83 = .ok (.aload_n 0, 1) := by decide +kernel
theorem dX5_fullest_84 : decode cX5_fullest 84 = .ok (.bipush (-2), 2) := by decide +kernel
theorem dX5_fullest_86 : decode cX5_fullest 86 = .ok (.invokevirtual 51, 3) := by decide +kernel
theorem dX5_fullest_89 : decode cX5_fullest 89 = .ok (.ireturn, 1) := by decide +kernel
theorem dX5_into_0 : decode cX5_into 0 = .ok (.aload_n 0, 1) := by decide +kernel
theorem dX5_into_1 : decode cX5_into 1 = .ok (.getfield 10, 3) := by decide +kernel
theorem dX5_into_4 : decode cX5_into 4 = .ok (.iload_n 1, 1) := by decide +kernel
theorem dX5_into_5 : decode cX5_into 5 = .ok (.invokevirtual 72, 3) := by decide +kernel
theorem dX5_into_8 : decode cX5_into 8 = .ok (.ifCond .ne 9, 3) := by decide +kernel
theorem dX5_into_11 : decode cX5_into 11 = .ok (.aload_n 0, 1) := by decide +kernel
theorem dX5_into_12 : decode cX5_into 12 = .ok (.iconst (-1), 1) := by decide +kernel
theorem dX5_into_13 : decode cX5_into 13 = .ok (.invokevirtual 51, 3) := by decide +kernel
theorem dX5_into_16 : decode cX5_into 16 = .ok (.ireturn, 1) := by decide +kernel
theorem dX5_into_17 : decode cX5_into 17 = .ok (.iconst 0, 1) := by decide +kernel
theorem dX5_into_18 : decode cX5_into 18 = .ok (.istore_n 2, 1) := by decide +kernel
theorem dX5_into_19 : decode cX5_into 19 = .ok (.iconst 0, 1) := by decide +kernel
theorem dX5_into_20 : decode cX5_into 20 = .ok (.istore_n 3, 1) := by decide +kernel
theorem dX5_into_21 : decode cX5_into 21 = .ok (.iload_n 3, 1) := by decide +kernel
theorem dX5_into_22 : decode cX5_into 22 = .ok (.aload_n 0, 1) := by decide +kernel
theorem dX5_into_23 : decode cX5_into 23 = .ok (.getfield 10, 3) := by decide +kernel
theorem dX5_into_26 : decode cX5_into 26 = .ok (.invokevirtual 103, 3) := by decide +kernel
theorem dX5_into_29 : decode cX5_into 29 = .ok (.if_icmp .ge 24, 3) := by decide +kernel
theorem dX5_into_32 : decode cX5_into 32 = .ok (.aload_n 0, 1) := by decide +kernel
theorem dX5_into_33 : decode cX5_into 33 = .ok (.getfield 10, 3) := by decide +kernel
theorem dX5_into_36 : decode cX5_into 36 = .ok (.iload_n 3, 1) := by decide +kernel
theorem dX5_into_37 : decode cX5_into 37 = .ok (.invokevirtual 84, 3) := by decide +kernel
theorem dX5_into_40 : decode cX5_into 40 = .ok (.iload_n 1, 1) := by decide +kernel
theorem dX5_into_41 : decode cX5_into 41 = .ok (.if_icmp .ne 6, 3) := by decide +kernel
theorem dX5_into_44 : decode cX5_into 44 = .ok (.iinc 2 1, 3) := by decide +kernel
theorem dX5_into_47 : decode cX5_into 47 = .ok (.iinc 3 1, 3) := by decide +kernel
theorem dX5_into_50 : decode cX5_into 50 = .ok (.goto (-29), 3) := by decide +kernel
theorem dX5_into_53 : decode cX5_into 53 = .ok (.iload_n 2, 1) := by decide +kernel
theorem dX5_into_54 : decode cX5_into 54 = .ok (.ireturn, 1) := by decide +kernel
theorem dX5_mean_0 : decode cX5_mean 0 = .ok (.iload_n 1, 1) := by decide +kernel
theorem dX5_mean_1 : decode cX5_mean 1 = .ok (.ifCond .eq 15, 3) := by decide +kernel
theorem dX5_mean_4 : decode cX5_mean 4 = .ok (.iload_n 1, 1) := by decide +kernel
theorem dX5_mean_5 : decode cX5_mean 5 = .ok (.iconst 1, 1) := by decide +kernel
theorem dX5_mean_6 : decode cX5_mean 6 = .ok (.if_icmp .eq 10, 3) := by decide +kernel
theorem dX5_mean_9 : decode cX5_mean 9 = .ok (.aload_n 0, 1) := by decide +kernel
theorem dX5_mean_10 : decode cX5_mean 10 = .ok (.bipush (-2), 2) := by decide +kernel
theorem dX5_mean_12 : decode cX5_mean 12 = .ok (.invokevirtual 189, 3) := by decide +kernel
theorem dX5_mean_15 : decode cX5_mean 15 = .ok (.lreturn, 1) := by decide +kernel
theorem dX5_mean_16 : decode cX5_mean 16 = .ok (.aload_n 0, 1) := by decide +kernel
theorem dX5_mean_17 : decode cX5_mean 17 = .ok (.getfield 10, 3) := by decide +kernel
theorem dX5_mean_20 : decode cX5_mean 20 = .ok (.invokevirtual 140, 3) := by decide +kernel
theorem dX5_mean_23 : decode cX5_mean 23 = .ok (.i2l, 1) := by decide +kernel
theorem dX5_mean_24 : decode cX5_mean 24 = .ok (.aload_n 0, 1) := by decide +kernel
theorem dX5_mean_25 : decode cX5_mean 25 = .ok (.getfield 10, 3) := by decide +kernel
theorem dX5_mean_28 : decode cX5_mean 28 = .ok (.invokevirtual 103, 3) := by decide +kernel
theorem dX5_mean_31 : decode cX5_mean 31 = .ok (.i2l, 1) := by decide +kernel
theorem dX5_mean_32 : decode cX5_mean 32 = .ok (.iload_n 1, 1) := by decide +kernel
theorem dX5_mean_33 : decode cX5_mean 33 = .ok (.invokestatic 193, 3) := by decide +kernel
theorem dX5_mean_36 : decode cX5_mean 36 = .ok (.lreturn, 1) := by decide +kernel
theorem dX5_strong_0 : decode cX5_strong 0 = .ok (.iload_n 1, 1) := by decide +kernel
theorem dX5_strong_1 : decode cX5_strong 1 = .ok (.iconst 0, 1) := by decide +kernel
theorem dX5_strong_2 : decode cX5_strong 2 = .ok (.bipush 60, 2) := by decide +kernel
theorem dX5_strong_4 : decode cX5_strong 4 = .ok (.invokestatic 47, 3) := by decide +kernel
theorem dX5_strong_7 : decode cX5_strong 7 = .ok (.istore_n 2, 1) := by decide +kernel
theorem dX5_strong_8 : decode cX5_strong 8 = .ok (.iload_n 2, 1) := by decide +kernel
theorem dX5_strong_9 : decode cX5_strong 9 = .ok (.ifCond .eq 12, 3) := by decide +kernel
theorem dX5_strong_12 : decode cX5_strong 12 = .ok (.ldc 218, 2) := by decide +kernel
theorem dX5_strong_14 : decode cX5_strong 14 = .ok (.aload_n 0, 1) := by decide +kernel
theorem dX5_strong_15 : decode cX5_strong 15 = .ok (.iload_n 2, 1) := by decide +kernel
theorem dX5_strong_16 : decode cX5_strong 16 = .ok (.invokevirtual 51, 3) := by decide +kernel
theorem dX5_strong_19 : decode cX5_strong 19 = .ok (.isub, 1) := by decide +kernel
theorem dX5_strong_20 : decode cX5_strong 20 = .ok (.ireturn, 1) := by decide +kernel
theorem dX5_strong_21 : decode cX5_strong 21 = .ok (.aload_n 0, 1) := by decide +kernel
theorem dX5_strong_22 : decode cX5_strong 22 = .ok (.invokevirtual 137, 3) := by decide +kernel
theorem dX5_strong_25 : decode cX5_strong 25 = .ok (.aload_n 0, 1) := by decide +kernel
theorem dX5_strong_26 : decode cX5_strong 26 = .ok (.iload_n 1, 1) := by decide +kernel
theorem dX5_strong_27 : decode cX5_strong 27 = .ok (.invokevirtual 156, 3) := by decide +kernel
theorem dX5_strong_30 : decode cX5_strong 30 = .ok (.istore_n 3, 1) := by decide +kernel
theorem dX5_strong_31 : decode cX5_strong 31 = .ok (.aload_n 0, 1) := by decide +kernel
theorem dX5_strong_32 : decode cX5_strong 32 = .ok (.invokevirtual 137, 3) := by decide +kernel
theorem dX5_strong_35 : decode cX5_strong 35 = .ok (.aload_n 0, 1) := by decide +kernel
theorem dX5_strong_36 : decode cX5_strong 36 = .ok (.getfield 16, 3) := by decide +kernel
theorem dX5_strong_39 : decode cX5_strong 39 = .ok (.aload_n 0, 1) := by decide +kernel
theorem dX5_strong_40 : decode cX5_strong 40 = .ok (.getfield 10, 3) := by decide +kernel
theorem dX5_strong_43 : decode cX5_strong 43 = .ok (.invokevirtual 159, 3) := by decide +kernel
theorem dX5_strong_46 : decode cX5_strong 46 = .ok (.invokevirtual 162, 3) := by decide +kernel
theorem dX5_strong_49 : decode cX5_strong 49 = .ok (.aload_n 0, 1) := by decide +kernel
theorem dX5_strong_50 : decode cX5_strong 50 = .ok (.iload_n 1, 1) := by decide +kernel
theorem dX5_strong_51 : decode cX5_strong 51 = .ok (.invokevirtual 156, 3) := by decide +kernel
theorem dX5_strong_54 : decode cX5_strong 54 = .ok (.iload_n 3, 1) := by decide +kernel
theorem dX5_strong_55 : decode cX5_strong 55 = .ok (.isub, 1) := by decide +kernel
theorem dX5_strong_56 : decode cX5_strong 56 = .ok (.ireturn, 1) := by decide +kernel
theorem dX5_kinds_0 : decode cX5_kinds 0 = .ok (.iload_n 1, 1) := by decide +kernel
theorem dX5_kinds_1 : decode cX5_kinds 1 = .ok (.ifCond .lt 8, 3) := by decide +kernel
theorem dX5_kinds_4 : decode cX5_kinds 4 = .ok (.iload_n 1, 1) := by decide +kernel
theorem dX5_kinds_5 : decode cX5_kinds 5 = .ok (.iconst 5, 1) := by decide +kernel
theorem dX5_kinds_6 : decode cX5_kinds 6 = .ok (.if_icmp .le 10, 3) := by decide +kernel
theorem dX5_kinds_9 : decode cX5_kinds 9 = .ok (.aload_n 0, 1) := by decide +kernel
theorem dX5_kinds_10 : decode cX5_kinds 10 = .ok (.bipush (-2), 2) := by decide +kernel
theorem dX5_kinds_12 : decode cX5_kinds 12 = .ok (.invokevirtual 51, 3) := by decide +kernel
theorem dX5_kinds_15 : decode cX5_kinds 15 = .ok (.ireturn, 1) := by decide +kernel
theorem dX5_kinds_16 : decode cX5_kinds 16 = .ok (.iconst 0, 1) := by decide +kernel
theorem dX5_kinds_17 : decode cX5_kinds 17 = .ok (.istore_n 2, 1) := by decide +kernel
theorem dX5_kinds_18 : decode cX5_kinds 18 = .ok (.iconst 0, 1) := by decide +kernel
theorem dX5_kinds_19 : decode cX5_kinds 19 = .ok (.istore_n 3, 1) := by decide +kernel
theorem dX5_kinds_20 : decode cX5_kinds 20 = .ok (.iload_n 3, 1) := by decide +kernel
theorem dX5_kinds_21 : decode cX5_kinds 21 = .ok (.aload_n 0, 1) := by decide +kernel
theorem dX5_kinds_22 : decode cX5_kinds 22 = .ok (.getfield 10, 3) := by decide +kernel
theorem dX5_kinds_25 : decode cX5_kinds 25 = .ok (.invokevirtual 103, 3) := by decide +kernel
theorem dX5_kinds_28 : decode cX5_kinds 28 = .ok (.if_icmp .ge 24, 3) := by decide +kernel
theorem dX5_kinds_31 : decode cX5_kinds 31 = .ok (.aload_n 0, 1) := by decide +kernel
theorem dX5_kinds_32 : decode cX5_kinds 32 = .ok (.getfield 10, 3) := by decide +kernel
theorem dX5_kinds_35 : decode cX5_kinds 35 = .ok (.iload_n 3, 1) := by decide +kernel
theorem dX5_kinds_36 : decode cX5_kinds 36 = .ok (.invokevirtual 75, 3) := by decide +kernel
theorem dX5_kinds_39 : decode cX5_kinds 39 = .ok (.iload_n 1, 1) := by decide +kernel
theorem dX5_kinds_40 : decode cX5_kinds 40 = .ok (.if_icmp .ne 6, 3) := by decide +kernel
theorem dX5_kinds_43 : decode cX5_kinds 43 = .ok (.iinc 2 1, 3) := by decide +kernel
theorem dX5_kinds_46 : decode cX5_kinds 46 = .ok (.iinc 3 1, 3) := by decide +kernel
theorem dX5_kinds_49 : decode cX5_kinds 49 = .ok (.goto (-29), 3) := by decide +kernel
theorem dX5_kinds_52 : decode cX5_kinds 52 = .ok (.iload_n 2, 1) := by decide +kernel
theorem dX5_kinds_53 : decode cX5_kinds 53 = .ok (.ireturn, 1) := by decide +kernel
theorem dX5_turn_0 : decode cX5_turn 0 = .ok (.aload_n 0, 1) := by decide +kernel
theorem dX5_turn_1 : decode cX5_turn 1 = .ok (.getfield 10, 3) := by decide +kernel
theorem dX5_turn_4 : decode cX5_turn 4 = .ok (.iload_n 1, 1) := by decide +kernel
theorem dX5_turn_5 : decode cX5_turn 5 = .ok (.invokevirtual 72, 3) := by decide +kernel
theorem dX5_turn_8 : decode cX5_turn 8 = .ok (.ifCond .ne 9, 3) := by decide +kernel
theorem dX5_turn_11 : decode cX5_turn 11 = .ok (.aload_n 0, 1) := by decide +kernel
theorem dX5_turn_12 : decode cX5_turn 12 = .ok (.iconst (-1), 1) := by decide +kernel
theorem dX5_turn_13 : decode cX5_turn 13 = .ok (.invokevirtual 51, 3) := by decide +kernel
theorem dX5_turn_16 : decode cX5_turn 16 = .ok (.ireturn, 1) := by decide +kernel
theorem dX5_turn_17 : decode cX5_turn 17 = .ok (.iload_n 2, 1) := by decide +kernel
theorem dX5_turn_18 : decode cX5_turn 18 = .ok (.iconst 0, 1) := by decide +kernel
theorem dX5_turn_19 : decode cX5_turn 19 = .ok (.bipush 60, 2) := by decide +kernel
theorem dX5_turn_21 : decode cX5_turn 21 = .ok (.invokestatic 47, 3) := by decide +kernel
theorem dX5_turn_24 : decode cX5_turn 24 = .ok (.istore_n 3, 1) := by decide +kernel
theorem dX5_turn_25 : decode cX5_turn 25 = .ok (.iload_n 3, 1) := by decide +kernel
theorem dX5_turn_26 : decode cX5_turn 26 = .ok (.ifCond .eq 9, 3) := by decide +kernel
theorem dX5_turn_29 : decode cX5_turn 29 = .ok (.aload_n 0, 1) := by decide +kernel
theorem dX5_turn_30 : decode cX5_turn 30 = .ok (.iload_n 3, 1) := by decide +kernel
theorem dX5_turn_31 : decode cX5_turn 31 = .ok (.invokevirtual 51, 3) := by decide +kernel
theorem dX5_turn_34 : decode cX5_turn 34 = .ok (.ireturn, 1) := by decide +kernel
theorem dX5_turn_35 : decode cX5_turn 35 = .ok (.bipush (-9), 2) := by decide +kernel
theorem dX5_turn_37 : decode cX5_turn 37 = .ok (.istore 4, 2) := by decide +kernel
theorem dX5_turn_39 : decode cX5_turn 39 = .ok (.bipush (-9), 2) := by decide +kernel
theorem dX5_turn_41 : decode cX5_turn 41 = .ok (.istore 5, 2) := by decide +kernel
theorem dX5_turn_43 : decode cX5_turn 43 = .ok (.iconst 0, 1) := by decide +kernel
theorem dX5_turn_44 : decode cX5_turn 44 = .ok (.istore 6, 2) := by decide +kernel
theorem dX5_turn_46 : decode cX5_turn 46 = .ok (.iload 6, 2) := by decide +kernel
theorem dX5_turn_48 : decode cX5_turn 48 = .ok (.iconst 5, 1) := by decide +kernel
theorem dX5_turn_49 : decode cX5_turn 49 = .ok (.if_icmp .gt 53, 3) := by decide +kernel
theorem dX5_turn_52 : decode cX5_turn 52 = .ok (.aload_n 0, 1) := by decide +kernel
theorem dX5_turn_53 : decode cX5_turn 53 = .ok (.invokevirtual 137, 3) := by decide +kernel
theorem dX5_turn_56 : decode cX5_turn 56 = .ok (.aload_n 0, 1) := by decide +kernel
theorem dX5_turn_57 : decode cX5_turn 57 = .ok (.getfield 16, 3) := by decide +kernel
theorem dX5_turn_60 : decode cX5_turn 60 = .ok (.iload_n 1, 1) := by decide +kernel
theorem dX5_turn_61 : decode cX5_turn 61 = .ok (.iload 6, 2) := by decide +kernel
theorem dX5_turn_63 : decode cX5_turn 63 = .ok (.aload_n 0, 1) := by decide +kernel
theorem dX5_turn_64 : decode cX5_turn 64 = .ok (.getfield 10, 3) := by decide +kernel
theorem dX5_turn_67 : decode cX5_turn 67 = .ok (.iload_n 1, 1) := by decide +kernel
theorem dX5_turn_68 : decode cX5_turn 68 = .ok (.invokevirtual 78, 3) := by decide +kernel
theorem dX5_turn_71 : decode cX5_turn 71 = .ok (.invokevirtual 219, 3) := by decide +kernel
theorem dX5_turn_74 : decode cX5_turn 74 = .ok (.aload_n 0, 1) := by decide +kernel
theorem dX5_turn_75 : decode cX5_turn 75 = .ok (.iload_n 2, 1) := by decide +kernel
theorem dX5_turn_76 : decode cX5_turn 76 = .ok (.invokevirtual 156, 3) := by decide +kernel
theorem dX5_turn_79 : decode cX5_turn 79 = .ok (.istore 7, 2) := by decide +kernel
theorem dX5_turn_81 : decode cX5_turn 81 = .ok (.iload 7, 2) := by decide +kernel
theorem dX5_turn_83 : decode cX5_turn 83 = .ok (.iload 4, 2) := by decide +kernel
theorem dX5_turn_85 : decode cX5_turn 85 = .ok (.if_icmp .le 11, 3) := by decide +kernel
theorem dX5_turn_88 : decode cX5_turn 88 = .ok (.iload 7, 2) := by decide +kernel
theorem dX5_turn_90 : decode cX5_turn 90 = .ok (.istore 4, 2) := by decide +kernel
theorem dX5_turn_92 : decode cX5_turn 92 = .ok (.iload 6, 2) := by decide +kernel
theorem dX5_turn_94 : decode cX5_turn 94 = .ok (.istore 5, 2) := by decide +kernel
theorem dX5_turn_96 : decode cX5_turn 96 = .ok (.iinc 6 1, 3) := by decide +kernel
theorem dX5_turn_99 : decode cX5_turn 99 = .ok (.goto (-53), 3) := by decide +kernel
theorem dX5_turn_102 : decode cX5_turn 102 = .ok (.iload 5, 2) := by decide +kernel
theorem dX5_turn_104 : decode cX5_turn 104 = .ok (.ireturn, 1) := by decide +kernel
theorem dX5_row_0 : decode cX5_row 0 = .ok (.iload_n 1, 1) := by decide +kernel
theorem dX5_row_1 : decode cX5_row 1 = .ok (.iconst 0, 1) := by decide +kernel
theorem dX5_row_2 : decode cX5_row 2 = .ok (.bipush 99, 2) := by decide +kernel
theorem dX5_row_4 : decode cX5_row 4 = .ok (.invokestatic 47, 3) := by decide +kernel
theorem dX5_row_7 : decode cX5_row 7 = .ok (.istore_n 2, 1) := by decide +kernel
theorem dX5_row_8 : decode cX5_row 8 = .ok (.iload_n 2, 1) := by decide +kernel
theorem dX5_row_9 : decode cX5_row 9 = .ok (.ifCond .eq 9, 3) := by decide +kernel
theorem dX5_row_12 : decode cX5_row 12 = .ok (.aload_n 0, 1) := by decide +kernel
theorem dX5_row_13 : decode cX5_row 13 = .ok (.iload_n 2, 1) := by decide +kernel
theorem dX5_row_14 : decode cX5_row 14 = .ok (.invokevirtual 51, 3) := by decide +kernel
theorem dX5_row_17 : decode cX5_row 17 = .ok (.ireturn, 1) := by decide +kernel
theorem dX5_row_18 : decode cX5_row 18 = .ok (.aload_n 0, 1) := by decide +kernel
theorem dX5_row_19 : decode cX5_row 19 = .ok (.getfield 39, 3) := by decide +kernel
theorem dX5_row_22 : decode cX5_row 22 = .ok (.iload_n 1, 1) := by decide +kernel
theorem dX5_row_23 : decode cX5_row 23 = .ok (.invokevirtual 223, 3) := by decide +kernel
theorem dX5_row_26 : decode cX5_row 26 = .ok (.ifCond .ne 10, 3) := by decide +kernel
theorem dX5_row_29 : decode cX5_row 29 = .ok (.aload_n 0, 1) := by decide +kernel
theorem dX5_row_30 : decode cX5_row 30 = .ok (.bipush (-6), 2) := by decide +kernel
theorem dX5_row_32 : decode cX5_row 32 = .ok (.invokevirtual 51, 3) := by decide +kernel
theorem dX5_row_35 : decode cX5_row 35 = .ok (.ireturn, 1) := by decide +kernel
theorem dX5_row_36 : decode cX5_row 36 = .ok (.aload_n 0, 1) := by decide +kernel
theorem dX5_row_37 : decode cX5_row 37 = .ok (.getfield 39, 3) := by decide +kernel
theorem dX5_row_40 : decode cX5_row 40 = .ok (.invokevirtual 224, 3) := by decide +kernel
theorem dX5_row_43 : decode cX5_row 43 = .ok (.ireturn, 1) := by decide +kernel
theorem dX5_judge_0 : decode cX5_judge 0 = .ok (.bipush (-9), 2) := by decide +kernel
theorem dX5_judge_2 : decode cX5_judge 2 = .ok (.istore_n 1, 1) := by decide +kernel
theorem dX5_judge_3 : decode cX5_judge 3 = .ok (.iconst 0, 1) := by decide +kernel
theorem dX5_judge_4 : decode cX5_judge 4 = .ok (.istore_n 2, 1) := by decide +kernel
theorem dX5_judge_5 : decode cX5_judge 5 = .ok (.iload_n 2, 1) := by decide +kernel
theorem dX5_judge_6 : decode cX5_judge 6 = .ok (.aload_n 0, 1) := by decide +kernel
theorem dX5_judge_7 : decode cX5_judge 7 = .ok (.getfield 39, 3) := by decide +kernel
theorem dX5_judge_10 : decode cX5_judge 10 = .ok (.invokevirtual 224, 3) := by decide +kernel
theorem dX5_judge_13 : decode cX5_judge 13 = .ok (.if_icmp .ge 47, 3) := by decide +kernel
theorem dX5_judge_16 : decode cX5_judge 16 = .ok (.iload_n 1, 1) := by decide +kernel
theorem dX5_judge_17 : decode cX5_judge 17 = .ok (.bipush (-9), 2) := by decide +kernel
theorem dX5_judge_19 : decode cX5_judge 19 = .ok (.if_icmp .ne 41, 3) := by decide +kernel
theorem dX5_judge_22 : decode cX5_judge 22 = .ok (.aload_n 0, 1) := by decide +kernel
theorem dX5_judge_23 : decode cX5_judge 23 = .ok (.getfield 10, 3) := by decide +kernel
theorem dX5_judge_26 : decode cX5_judge 26 = .ok (.iload_n 2, 1) := by decide +kernel
theorem dX5_judge_27 : decode cX5_judge 27 = .ok (.invokevirtual 72, 3) := by decide +kernel
theorem dX5_judge_30 : decode cX5_judge 30 = .ok (.ifCond .eq 22, 3) := by decide +kernel
theorem dX5_judge_33 : decode cX5_judge 33 = .ok (.aload_n 0, 1) := by decide +kernel
theorem dX5_judge_34 : decode cX5_judge 34 = .ok (.getfield 10, 3) := by decide +kernel
theorem dX5_judge_37 : decode cX5_judge 37 = .ok (.iload_n 2, 1) := by decide +kernel
theorem dX5_judge_38 : decode cX5_judge 38 = .ok (.invokevirtual 81, 3) := by decide +kernel
theorem dX5_judge_41 : decode cX5_judge 41 = .ok (.aload_n 0, 1) := by decide +kernel
theorem dX5_judge_42 : decode cX5_judge 42 = .ok (.getfield 39, 3) := by decide +kernel
theorem dX5_judge_45 : decode cX5_judge 45 = .ok (.iload_n 2, 1) := by decide +kernel
theorem dX5_judge_46 : decode cX5_judge 46 = .ok (.invokevirtual 225, 3) := by decide +kernel
theorem dX5_judge_49 : decode cX5_judge 49 = .ok (.if_icmp .eq 5, 3) := by decide +kernel
theorem dX5_judge_52 : decode cX5_judge 52 = .ok (.iload_n 2, 1) := by decide +kernel
theorem dX5_judge_53 : decode cX5_judge 53 = .ok (.istore_n 1, 1) := by decide +kernel
theorem dX5_judge_54 : decode cX5_judge 54 = .ok (.iinc 2 1, 3) := by decide +kernel
theorem dX5_judge_57 : decode cX5_judge 57 = .ok (.goto (-52), 3) := by decide +kernel
theorem dX5_judge_60 : decode cX5_judge 60 = .ok (.aload_n 0, 1) := by decide +kernel
theorem dX5_judge_61 : decode cX5_judge 61 = .ok (.getfield 39, 3) := by decide +kernel
theorem dX5_judge_64 : decode cX5_judge 64 = .ok (.invokevirtual 228, 3) := by decide +kernel
theorem dX5_judge_67 : decode cX5_judge 67 = .ok (.iload_n 1, 1) := by decide +kernel
theorem dX5_judge_68 : decode cX5_judge 68 = .ok (.ireturn, 1) := by decide +kernel
theorem dX5_clear_0 : decode cX5_clear 0 = .ok (.aload_n 0, 1) := by decide +kernel
theorem dX5_clear_1 : decode cX5_clear 1 = .ok (.getfield 39, 3) := by decide +kernel
theorem dX5_clear_4 : decode cX5_clear 4 = .ok (.invokevirtual 224, 3) := by decide +kernel
theorem dX5_clear_7 : decode cX5_clear 7 = .ok (.istore_n 1, 1) := by decide +kernel
theorem dX5_clear_8 : decode cX5_clear 8 = .ok (.aload_n 0, 1) := by decide +kernel
theorem dX5_clear_9 : decode cX5_clear 9 = .ok (.getfield 39, 3) := by decide +kernel
theorem dX5_clear_12 : decode cX5_clear 12 = .ok (.invokevirtual 228, 3) := by decide +kernel
theorem dX5_clear_15 : decode cX5_clear 15 = .ok (.iload_n 1, 1) := by decide +kernel
theorem dX5_clear_16 : decode cX5_clear 16 = .ok (.ireturn, 1) := by decide +kernel
theorem dX5_lots_0 : decode cX5_lots 0 = .ok (.iload_n 1, 1) := by decide +kernel
theorem dX5_lots_1 : decode cX5_lots 1 = .ok (.iconst 1, 1) := by decide +kernel
theorem dX5_lots_2 : decode cX5_lots 2 = .ok (.bipush 20, 2) := by decide +kernel
theorem dX5_lots_4 : decode cX5_lots 4 = .ok (.invokestatic 47, 3) := by decide +kernel
theorem dX5_lots_7 : decode cX5_lots 7 = .ok (.istore 4, 2) := by decide +kernel
theorem dX5_lots_9 : decode cX5_lots 9 = .ok (.iload 4, 2) := by decide +kernel
theorem dX5_lots_11 : decode cX5_lots 11 = .ok (.ifCond .eq 10, 3) := by decide +kernel
theorem dX5_lots_14 : decode cX5_lots 14 = .ok (.aload_n 0, 1) := by decide +kernel
theorem dX5_lots_15 : decode cX5_lots 15 = .ok (.iload 4, 2) := by decide +kernel
theorem dX5_lots_17 : decode cX5_lots 17 = .ok (.invokevirtual 51, 3) := by decide +kernel
theorem dX5_lots_20 : decode cX5_lots 20 = .ok (.ireturn, 1) := by decide +kernel
theorem dX5_lots_21 : decode cX5_lots 21 = .ok (.iload_n 3, 1) := by decide +kernel
theorem dX5_lots_22 : decode cX5_lots 22 = .ok (.ifCond .eq 15, 3) := by decide +kernel
theorem dX5_lots_25 : decode cX5_lots 25 = .ok (.iload_n 3, 1) := by decide +kernel
theorem dX5_lots_26 : decode cX5_lots 26 = .ok (.iconst 1, 1) := by decide +kernel
theorem dX5_lots_27 : decode cX5_lots 27 = .ok (.if_icmp .eq 10, 3) := by decide +kernel
theorem dX5_lots_30 : decode cX5_lots 30 = .ok (.aload_n 0, 1) := by decide +kernel
theorem dX5_lots_31 : decode cX5_lots 31 = .ok (.bipush (-2), 2) := by decide +kernel
theorem dX5_lots_33 : decode cX5_lots 33 = .ok (.invokevirtual 51, 3) := by decide +kernel
theorem dX5_lots_36 : decode cX5_lots 36 = .ok (.ireturn, 1) := by decide +kernel
theorem dX5_lots_37 : decode cX5_lots 37 = .ok (.iload_n 2, 1) := by decide +kernel
theorem dX5_lots_38 : decode cX5_lots 38 = .ok (.istore 5, 2) := by decide +kernel
theorem dX5_lots_40 : decode cX5_lots 40 = .ok (.iconst 0, 1) := by decide +kernel
theorem dX5_lots_41 : decode cX5_lots 41 = .ok (.istore 6, 2) := by decide +kernel
theorem dX5_lots_43 : decode cX5_lots 43 = .ok (.iconst 0, 1) := by decide +kernel
theorem dX5_lots_44 : decode cX5_lots 44 = .ok (.istore 7, 2) := by decide +kernel
theorem dX5_lots_46 : decode cX5_lots 46 = .ok (.iload 7, 2) := by decide +kernel
theorem dX5_lots_48 : decode cX5_lots 48 = .ok (.iload_n 1, 1) := by decide +kernel
theorem dX5_lots_49 : decode cX5_lots 49 = .ok (.if_icmp .ge 51, 3) := by decide +kernel
theorem dX5_lots_52 : decode cX5_lots 52 = .ok (.aload_n 0, 1) := by decide +kernel
theorem dX5_lots_53 : decode cX5_lots 53 = .ok (.iload 5, 2) := by decide +kernel
theorem dX5_lots_55 : decode cX5_lots 55 = .ok (.invokevirtual 229, 3) := by decide +kernel
theorem dX5_lots_58 : decode cX5_lots 58 = .ok (.istore 5, 2) := by decide +kernel
theorem dX5_lots_60 : decode cX5_lots 60 = .ok (.iload 6, 2) := by decide +kernel
theorem dX5_lots_62 : decode cX5_lots 62 = .ok (.iload_n 3, 1) := by decide +kernel
theorem dX5_lots_63 : decode cX5_lots 63 = .ok (.ifCond .ne 21, 3) := by decide +kernel
theorem dX5_lots_66 : decode cX5_lots 66 = .ok (.aload_n 0, 1) := by decide +kernel
theorem dX5_lots_67 : decode cX5_lots 67 = .ok (.getfield 16, 3) := by decide +kernel
theorem dX5_lots_70 : decode cX5_lots 70 = .ok (.invokevirtual 119, 3) := by decide +kernel
theorem dX5_lots_73 : decode cX5_lots 73 = .ok (.aload_n 0, 1) := by decide +kernel
theorem dX5_lots_74 : decode cX5_lots 74 = .ok (.getfield 10, 3) := by decide +kernel
theorem dX5_lots_77 : decode cX5_lots 77 = .ok (.invokevirtual 119, 3) := by decide +kernel
theorem dX5_lots_80 : decode cX5_lots 80 = .ok (.isub, 1) := by decide +kernel
theorem dX5_lots_81 : decode cX5_lots 81 = .ok (.goto 10, 3) := by decide +kernel
theorem dX5_lots_84 : decode cX5_lots 84 = .ok (.aload_n 0, 1) := by decide +kernel
theorem dX5_lots_85 : decode cX5_lots 85 = .ok (.getfield 16, 3) := by decide +kernel
theorem dX5_lots_88 : decode cX5_lots 88 = .ok (.invokevirtual 140, 3) := by decide +kernel
theorem dX5_lots_91 : decode cX5_lots 91 = .ok (.iadd, 1) := by decide +kernel
theorem dX5_lots_92 : decode cX5_lots 92 = .ok (.istore 6, 2) := by decide +kernel
theorem dX5_lots_94 : decode cX5_lots 94 = .ok (.iinc 7 1, 3) := by decide +kernel
theorem dX5_lots_97 : decode cX5_lots 97 = .ok (.goto (-51), 3) := by decide +kernel
theorem dX5_lots_100 : decode cX5_lots 100 = .ok (.iload 6, 2) := by decide +kernel
theorem dX5_lots_102 : decode cX5_lots 102 = .ok (.ireturn, 1) := by decide +kernel
theorem dX5_image_0 : decode cX5_image 0 = .ok (.aload_n 0, 1) := by decide +kernel
theorem dX5_image_1 : decode cX5_image 1 = .ok (.getfield 19, 3) := by decide +kernel
theorem dX5_image_4 : decode cX5_image 4 = .ok (.aload_n 0, 1) := by decide +kernel
theorem dX5_image_5 : decode cX5_image 5 = .ok (.getfield 10, 3) := by decide +kernel
theorem dX5_image_8 : decode cX5_image 8 = .ok (.invokevirtual 232, 3) := by decide +kernel
theorem dX5_image_11 : decode cX5_image 11 = .ok (.aload_n 0, 1) := by decide +kernel
theorem dX5_image_12 : decode cX5_image 12 = .ok (.iconst 1, 1) := by decide +kernel
theorem dX5_image_13 : decode cX5_image 13 = .ok (.putfield 235, 3) := by decide +kernel
theorem dX5_image_16 : decode cX5_image 16 = .ok (.aload_n 0, 1) := by decide +kernel
theorem dX5_image_17 : decode cX5_image 17 = .ok (.getfield 10, 3) := by decide +kernel
theorem dX5_image_20 : decode cX5_image 20 = .ok (.invokevirtual 239, 3) := by decide +kernel
theorem dX5_image_23 : decode cX5_image 23 = .ok (.ireturn, 1) := by decide +kernel
theorem dX5_restore_0 : decode cX5_restore 0 = .ok (.aload_n 0, 1) := by decide +kernel
theorem dX5_restore_1 : decode cX5_restore 1 = .ok (.getfield 235, 3) := by decide +kernel
theorem dX5_restore_4 : decode cX5_restore 4 = .ok (.ifCond .ne 10, 3) := by decide +kernel
theorem dX5_restore_7 : decode cX5_restore 7 = .ok (.aload_n 0, 1) := by decide +kernel
theorem dX5_restore_8 : decode cX5_restore 8 = .ok (.bipush (-3), 2) := by decide +kernel
theorem dX5_restore_10 : decode cX5_restore 10 = .ok (.invokevirtual 51, 3) := by decide +kernel
theorem dX5_restore_13 : decode cX5_restore 13 = .ok (.ireturn, 1) := by decide +kernel
theorem dX5_restore_14 : decode cX5_restore 14 = .ok (.aload_n 0, 1) := by decide +kernel
theorem dX5_restore_15 : decode cX5_restore 15 = .ok (.getfield 10, 3) := by decide +kernel
theorem dX5_restore_18 : decode cX5_restore 18 = .ok (.aload_n 0, 1) := by decide +kernel
theorem dX5_restore_19 : decode cX5_restore 19 = .ok (.getfield 19, 3) := by decide +kernel
theorem dX5_restore_22 : decode cX5_restore 22 = .ok (.invokevirtual 232, 3) := by decide +kernel
theorem dX5_restore_25 : decode cX5_restore 25 = .ok (.aload_n 0, 1) := by decide +kernel
theorem dX5_restore_26 : decode cX5_restore 26 = .ok (.getfield 25, 3) := by decide +kernel
theorem dX5_restore_29 : decode cX5_restore 29 = .ok (.invokevirtual 100, 3) := by decide +kernel
theorem dX5_restore_32 : decode cX5_restore 32 = .ok (.aload_n 0, 1) := by decide +kernel
theorem dX5_restore_33 : decode cX5_restore 33 = .ok (.getfield 10, 3) := by decide +kernel
theorem dX5_restore_36 : decode cX5_restore 36 = .ok (.invokevirtual 239, 3) := by decide +kernel
theorem dX5_restore_39 : decode cX5_restore 39 = .ok (.ireturn, 1) := by decide +kernel
theorem dX5_count_0 : decode cX5_count 0 = .ok (.iload_n 1, 1) := by decide +kernel
theorem dX5_count_1 : decode cX5_count 1 = .ok (.tableswitch 123 0 8 #[51, 59, 67, 75, 83, 91, 99, 107, 115], 51) := by decide +kernel
theorem dX5_count_52 : decode cX5_count 52 = .ok (.aload_n 0, 1) := by decide +kernel
theorem dX5_count_53 : decode cX5_count 53 = .ok (.getfield 10, 3) := by decide +kernel
theorem dX5_count_56 : decode cX5_count 56 = .ok (.invokevirtual 103, 3) := by decide +kernel
theorem dX5_count_59 : decode cX5_count 59 = .ok (.ireturn, 1) := by decide +kernel
theorem dX5_count_60 : decode cX5_count 60 = .ok (.aload_n 0, 1) := by decide +kernel
theorem dX5_count_61 : decode cX5_count 61 = .ok (.getfield 10, 3) := by decide +kernel
theorem dX5_count_64 : decode cX5_count 64 = .ok (.invokevirtual 239, 3) := by decide +kernel
theorem dX5_count_67 : decode cX5_count 67 = .ok (.ireturn, 1) := by decide +kernel
theorem dX5_count_68 : decode cX5_count 68 = .ok (.aload_n 0, 1) := by decide +kernel
theorem dX5_count_69 : decode cX5_count 69 = .ok (.getfield 10, 3) := by decide +kernel
theorem dX5_count_72 : decode cX5_count 72 = .ok (.invokevirtual 119, 3) := by decide +kernel
theorem dX5_count_75 : decode cX5_count 75 = .ok (.ireturn, 1) := by decide +kernel
theorem dX5_count_76 : decode cX5_count 76 = .ok (.aload_n 0, 1) := by decide +kernel
theorem dX5_count_77 : decode cX5_count 77 = .ok (.getfield 10, 3) := by decide +kernel
theorem dX5_count_80 : decode cX5_count 80 = .ok (.invokevirtual 159, 3) := by decide +kernel
theorem dX5_count_83 : decode cX5_count 83 = .ok (.ireturn, 1) := by decide +kernel
theorem dX5_count_84 : decode cX5_count 84 = .ok (.aload_n 0, 1) := by decide +kernel
theorem dX5_count_85 : decode cX5_count 85 = .ok (.getfield 10, 3) := by decide +kernel
theorem dX5_count_88 : decode cX5_count 88 = .ok (.invokevirtual 206, 3) := by decide +kernel
theorem dX5_count_91 : decode cX5_count 91 = .ok (.ireturn, 1) := by decide +kernel
theorem dX5_count_92 : decode cX5_count 92 = .ok (.aload_n 0, 1) := by decide +kernel
theorem dX5_count_93 : decode cX5_count 93 = .ok (.getfield 10, 3) := by decide +kernel
theorem dX5_count_96 : decode cX5_count 96 = .ok (.invokevirtual 140, 3) := by decide +kernel
theorem dX5_count_99 : decode cX5_count 99 = .ok (.ireturn, 1) := by decide +kernel
theorem dX5_count_100 : decode cX5_count 100 = .ok (.aload_n 0, 1) := by decide +kernel
theorem dX5_count_101 : decode cX5_count 101 = .ok (.getfield 32, 3) := by decide +kernel
theorem dX5_count_104 : decode cX5_count 104 = .ok (.invokevirtual 59, 3) := by decide +kernel
theorem dX5_count_107 : decode cX5_count 107 = .ok (.ireturn, 1) := by decide +kernel
theorem dX5_count_108 : decode cX5_count 108 = .ok (.aload_n 0, 1) := by decide +kernel
theorem dX5_count_109 : decode cX5_count 109 = .ok (.getfield 39, 3) := by decide +kernel
theorem dX5_count_112 : decode cX5_count 112 = .ok (.invokevirtual 224, 3) := by decide +kernel
theorem dX5_count_115 : decode cX5_count 115 = .ok (.ireturn, 1) := by decide +kernel
theorem dX5_count_116 : decode cX5_count 116 = .ok (.aload_n 0, 1) := by decide +kernel
theorem dX5_count_117 : decode cX5_count 117 = .ok (.getfield 25, 3) := by decide +kernel
theorem dX5_count_120 : decode cX5_count 120 = .ok (.invokevirtual 136, 3) := by decide +kernel
theorem dX5_count_123 : decode cX5_count 123 = .ok (.ireturn, 1) := by decide +kernel
theorem dX5_count_124 : decode cX5_count 124 = .ok (.aload_n 0, 1) := by decide +kernel
theorem dX5_count_125 : decode cX5_count 125 = .ok (.iload_n 1, 1) := by decide +kernel
theorem dX5_count_126 : decode cX5_count 126 = .ok (.invokevirtual 242, 3) := by decide +kernel
theorem dX5_count_129 : decode cX5_count 129 = .ok (.ireturn, 1) := by decide +kernel
theorem dX5_refusalsCounted_0 : decode cX5_refusalsCounted 0 = .ok (.iload_n 1, 1) := by decide +kernel
theorem dX5_refusalsCounted_1 : decode cX5_refusalsCounted 1 = .ok (.bipush 11, 2) := by decide +kernel
theorem dX5_refusalsCounted_3 : decode cX5_refusalsCounted 3 = .ok (.if_icmp .lt 9, 3) := by decide +kernel
theorem dX5_refusalsCounted_6 : decode cX5_refusalsCounted 6 = .ok (.iload_n 1, 1) := by decide +kernel
theorem dX5_refusalsCounted_7 : decode cX5_refusalsCounted 7 = .ok (.bipush 16, 2) := by decide +kernel
theorem dX5_refusalsCounted_9 : decode cX5_refusalsCounted 9 = .ok (.if_icmp .le 6, 3) := by decide +kernel
theorem dX5_refusalsCounted_12 : decode cX5_refusalsCounted 12 = .ok (.bipush (-9), 2) := by decide +kernel
theorem dX5_refusalsCounted_14 : decode cX5_refusalsCounted 14 = .ok (.ireturn, 1) := by decide +kernel
theorem dX5_refusalsCounted_15 : decode cX5_refusalsCounted 15 = .ok (.aload_n 0, 1) := by decide +kernel
theorem dX5_refusalsCounted_16 : decode cX5_refusalsCounted 16 = .ok (.getfield 43, 3) := by decide +kernel
theorem dX5_refusalsCounted_19 : decode cX5_refusalsCounted 19 = .ok (.iload_n 1, 1) := by decide +kernel
theorem dX5_refusalsCounted_20 : decode cX5_refusalsCounted 20 = .ok (.bipush 10, 2) := by decide +kernel
theorem dX5_refusalsCounted_22 : decode cX5_refusalsCounted 22 = .ok (.isub, 1) := by decide +kernel
theorem dX5_refusalsCounted_23 : decode cX5_refusalsCounted 23 = .ok (.iaload, 1) := by decide +kernel
theorem dX5_refusalsCounted_24 : decode cX5_refusalsCounted 24 = .ok (.ireturn, 1) := by decide +kernel
theorem dX5_refuse_0 : decode cX5_refuse 0 = .ok (.iload_n 1, 1) := by decide +kernel
theorem dX5_refuse_1 : decode cX5_refuse 1 = .ok (.ifCond .ge 20, 3) := by decide +kernel
theorem dX5_refuse_4 : decode cX5_refuse 4 = .ok (.iload_n 1, 1) := by decide +kernel
theorem dX5_refuse_5 : decode cX5_refuse 5 = .ok (.bipush (-6), 2) := by decide +kernel
theorem dX5_refuse_7 : decode cX5_refuse 7 = .ok (.if_icmp .lt 14, 3) := by decide +kernel
theorem dX5_refuse_10 : decode cX5_refuse 10 = .ok (.aload_n 0, 1) := by decide +kernel
theorem dX5_refuse_11 : decode cX5_refuse 11 = .ok (.getfield 43, 3) := by decide +kernel
theorem dX5_refuse_14 : decode cX5_refuse 14 = .ok (.iload_n 1, 1) := by decide +kernel
theorem dX5_refuse_15 : decode cX5_refuse 15 = .ok (.ineg, 1) := by decide +kernel
theorem dX5_refuse_16 : decode cX5_refuse 16 = .ok (.dup2, 1) := by decide +kernel
theorem dX5_refuse_17 : decode cX5_refuse 17 = .ok (.iaload, 1) := by decide +kernel
theorem dX5_refuse_18 : decode cX5_refuse 18 = .ok (.iconst 1, 1) := by decide +kernel
theorem dX5_refuse_19 : decode cX5_refuse 19 = .ok (.iadd, 1) := by decide +kernel
theorem dX5_refuse_20 : decode cX5_refuse 20 = .ok (.iastore, 1) := by decide +kernel
theorem dX5_refuse_21 : decode cX5_refuse 21 = .ok (.iload_n 1, 1) := by decide +kernel
theorem dX5_refuse_22 : decode cX5_refuse 22 = .ok (.ireturn, 1) := by decide +kernel
theorem dX5_refuseLong_0 : decode cX5_refuseLong 0 = .ok (.ldc2_w 245, 3) := by decide +kernel
theorem dX5_refuseLong_3 : decode cX5_refuseLong 3 = .ok (.aload_n 0, 1) := by decide +kernel
theorem dX5_refuseLong_4 : decode cX5_refuseLong 4 = .ok (.iload_n 1, 1) := by decide +kernel
theorem dX5_refuseLong_5 : decode cX5_refuseLong 5 = .ok (.invokevirtual 51, 3) := by decide +kernel
theorem dX5_refuseLong_8 : decode cX5_refuseLong 8 = .ok (.i2l, 1) := by decide +kernel
theorem dX5_refuseLong_9 : decode cX5_refuseLong 9 = .ok (.lsub, 1) := by decide +kernel
theorem dX5_refuseLong_10 : decode cX5_refuseLong 10 = .ok (.lreturn, 1) := by decide +kernel
theorem dX5_outside_0 : decode cX5_outside 0 = .ok (.iload_n 0, 1) := by decide +kernel
theorem dX5_outside_1 : decode cX5_outside 1 = .ok (.iload_n 1, 1) := by decide +kernel
theorem dX5_outside_2 : decode cX5_outside 2 = .ok (.if_icmp .ge 6, 3) := by decide +kernel
theorem dX5_outside_5 : decode cX5_outside 5 = .ok (.bipush (-4), 2) := by decide +kernel
theorem dX5_outside_7 : decode cX5_outside 7 = .ok (.ireturn, 1) := by decide +kernel
theorem dX5_outside_8 : decode cX5_outside 8 = .ok (.iload_n 0, 1) := by decide +kernel
theorem dX5_outside_9 : decode cX5_outside 9 = .ok (.iload_n 2, 1) := by decide +kernel
theorem dX5_outside_10 : decode cX5_outside 10 = .ok (.if_icmp .le 8, 3) := by decide +kernel
theorem dX5_outside_13 : decode cX5_outside 13 = .ok (.bipush (-6), 2) := by decide +kernel
theorem dX5_outside_15 : decode cX5_outside 15 = .ok (.goto 4, 3) := by decide +kernel
theorem dX5_outside_18 : decode cX5_outside 18 = .ok (.iconst 0, 1) := by decide +kernel
theorem dX5_outside_19 : decode cX5_outside 19 = .ok (.ireturn, 1) := by decide +kernel
theorem dX5_think_0 : decode cX5_think 0 = .ok (.aload_n 0, 1) := by decide +kernel
theorem dX5_think_1 : decode cX5_think 1 = .ok (.getfield 16, 3) := by decide +kernel
theorem dX5_think_4 : decode cX5_think 4 = .ok (.aload_n 0, 1) := by decide +kernel
theorem dX5_think_5 : decode cX5_think 5 = .ok (.getfield 10, 3) := by decide +kernel
theorem dX5_think_8 : decode cX5_think 8 = .ok (.invokevirtual 232, 3) := by decide +kernel
theorem dX5_think_11 : decode cX5_think 11 = .ok (.return_, 1) := by decide +kernel
theorem dX5_cupBehind_0 : decode cX5_cupBehind 0 = .ok (.aload_n 0, 1) := by decide +kernel
theorem dX5_cupBehind_1 : decode cX5_cupBehind 1 = .ok (.getfield 16, 3) := by decide +kernel
theorem dX5_cupBehind_4 : decode cX5_cupBehind 4 = .ok (.iload_n 1, 1) := by decide +kernel
theorem dX5_cupBehind_5 : decode cX5_cupBehind 5 = .ok (.invokevirtual 128, 3) := by decide +kernel
theorem dX5_cupBehind_8 : decode cX5_cupBehind 8 = .ok (.aload_n 0, 1) := by decide +kernel
theorem dX5_cupBehind_9 : decode cX5_cupBehind 9 = .ok (.getfield 16, 3) := by decide +kernel
theorem dX5_cupBehind_12 : decode cX5_cupBehind 12 = .ok (.invokevirtual 119, 3) := by decide +kernel
theorem dX5_cupBehind_15 : decode cX5_cupBehind 15 = .ok (.ireturn, 1) := by decide +kernel
theorem dX5_tellAll_0 : decode cX5_tellAll 0 = .ok (.aload_n 0, 1) := by decide +kernel
theorem dX5_tellAll_1 : decode cX5_tellAll 1 = .ok (.invokevirtual 137, 3) := by decide +kernel
theorem dX5_tellAll_4 : decode cX5_tellAll 4 = .ok (.iconst 0, 1) := by decide +kernel
theorem dX5_tellAll_5 : decode cX5_tellAll 5 = .ok (.istore_n 1, 1) := by decide +kernel
theorem dX5_tellAll_6 : decode cX5_tellAll 6 = .ok (.iconst 0, 1) := by decide +kernel
theorem dX5_tellAll_7 : decode cX5_tellAll 7 = .ok (.istore_n 2, 1) := by decide +kernel
theorem dX5_tellAll_8 : decode cX5_tellAll 8 = .ok (.iload_n 2, 1) := by decide +kernel
theorem dX5_tellAll_9 : decode cX5_tellAll 9 = .ok (.aload_n 0, 1) := by decide +kernel
theorem dX5_tellAll_10 : decode cX5_tellAll 10 = .ok (.getfield 32, 3) := by decide +kernel
theorem dX5_tellAll_13 : decode cX5_tellAll 13 = .ok (.invokevirtual 59, 3) := by decide +kernel
theorem dX5_tellAll_16 : decode cX5_tellAll 16 = .ok (.if_icmp .ge 37, 3) := by decide +kernel
theorem dX5_tellAll_19 : decode cX5_tellAll 19 = .ok (.aload_n 0, 1) := by decide +kernel
theorem dX5_tellAll_20 : decode cX5_tellAll 20 = .ok (.getfield 32, 3) := by decide +kernel
theorem dX5_tellAll_23 : decode cX5_tellAll 23 = .ok (.iload_n 2, 1) := by decide +kernel
theorem dX5_tellAll_24 : decode cX5_tellAll 24 = .ok (.invokevirtual 247, 3) := by decide +kernel
theorem dX5_tellAll_27 : decode cX5_tellAll 27 = .ok (.ifCond .eq 20, 3) := by decide +kernel
theorem dX5_tellAll_30 : decode cX5_tellAll 30 = .ok (.aload_n 0, 1) := by decide +kernel
theorem dX5_tellAll_31 : decode cX5_tellAll 31 = .ok (.iload_n 2, 1) := by decide +kernel
theorem dX5_tellAll_32 : decode cX5_tellAll 32 = .ok (.invokevirtual 250, 3) := by decide +kernel
theorem dX5_tellAll_35 : decode cX5_tellAll 35 = .ok (.ifCond .ne 9, 3) := by decide +kernel
theorem dX5_tellAll_38 : decode cX5_tellAll 38 = .ok (.sipush (-2000), 3) := by decide +kernel
theorem dX5_tellAll_41 : decode cX5_tellAll 41 = .ok (.iload_n 2, 1) := by decide +kernel
theorem dX5_tellAll_42 : decode cX5_tellAll 42 = .ok (.isub, 1) := by decide +kernel
theorem dX5_tellAll_43 : decode cX5_tellAll 43 = .ok (.ireturn, 1) := by decide +kernel
theorem dX5_tellAll_44 : decode cX5_tellAll 44 = .ok (.iinc 1 1, 3) := by decide +kernel
theorem dX5_tellAll_47 : decode cX5_tellAll 47 = .ok (.iinc 2 1, 3) := by decide +kernel
theorem dX5_tellAll_50 : decode cX5_tellAll 50 = .ok (.goto (-42), 3) := by decide +kernel
theorem dX5_tellAll_53 : decode cX5_tellAll 53 = .ok (.aload_n 0, 1) := by decide +kernel
theorem dX5_tellAll_54 : decode cX5_tellAll 54 = .ok (.getfield 10, 3) := by decide +kernel
theorem dX5_tellAll_57 : decode cX5_tellAll 57 = .ok (.aload_n 0, 1) := by decide +kernel
theorem dX5_tellAll_58 : decode cX5_tellAll 58 = .ok (.getfield 16, 3) := by decide +kernel
theorem dX5_tellAll_61 : decode cX5_tellAll 61 = .ok (.invokevirtual 232, 3) := by decide +kernel
theorem dX5_tellAll_64 : decode cX5_tellAll 64 = .ok (.aload_n 0, 1) := by decide +kernel
theorem dX5_tellAll_65 : decode cX5_tellAll 65 = .ok (.getfield 25, 3) := by decide +kernel
theorem dX5_tellAll_68 : decode cX5_tellAll 68 = .ok (.invokevirtual 100, 3) := by decide +kernel
theorem dX5_tellAll_71 : decode cX5_tellAll 71 = .ok (.iload_n 1, 1) := by decide +kernel
theorem dX5_tellAll_72 : decode cX5_tellAll 72 = .ok (.ireturn, 1) := by decide +kernel
theorem dX5_tell_0 : decode cX5_tell 0 = .ok (.aload_n 0, 1) := by decide +kernel
theorem dX5_tell_1 : decode cX5_tell 1 = .ok (.getfield 32, 3) := by decide +kernel
theorem dX5_tell_4 : decode cX5_tell 4 = .ok (.iload_n 1, 1) := by decide +kernel
theorem dX5_tell_5 : decode cX5_tell 5 = .ok (.iconst 1, 1) := by decide +kernel
theorem dX5_tell_6 : decode cX5_tell 6 = .ok (.iadd, 1) := by decide +kernel
theorem dX5_tell_7 : decode cX5_tell 7 = .ok (.invokevirtual 253, 3) := by decide +kernel
theorem dX5_tell_10 : decode cX5_tell 10 = .ok (.istore_n 2, 1) := by decide +kernel
theorem dX5_tell_11 : decode cX5_tell 11 = .ok (.aload_n 0, 1) := by decide +kernel
theorem dX5_tell_12 : decode cX5_tell 12 = .ok (.getfield 32, 3) := by decide +kernel
theorem dX5_tell_15 : decode cX5_tell 15 = .ok (.iload_n 1, 1) := by decide +kernel
theorem dX5_tell_16 : decode cX5_tell 16 = .ok (.iconst 2, 1) := by decide +kernel
theorem dX5_tell_17 : decode cX5_tell 17 = .ok (.iadd, 1) := by decide +kernel
theorem dX5_tell_18 : decode cX5_tell 18 = .ok (.invokevirtual 253, 3) := by decide +kernel
theorem dX5_tell_21 : decode cX5_tell 21 = .ok (.istore_n 3, 1) := by decide +kernel
theorem dX5_tell_22 : decode cX5_tell 22 = .ok (.aload_n 0, 1) := by decide +kernel
theorem dX5_tell_23 : decode cX5_tell 23 = .ok (.getfield 32, 3) := by decide +kernel
theorem dX5_tell_26 : decode cX5_tell 26 = .ok (.iload_n 1, 1) := by decide +kernel
theorem dX5_tell_27 : decode cX5_tell 27 = .ok (.invokevirtual 256, 3) := by decide +kernel
theorem dX5_tell_30 : decode cX5_tell 30 = .ok (.lookupswitch 153 #[(98, 78), (99, 111), (100, 120), (110, 58), (118, 87), (120, 68)], 58) := by decide +kernel
theorem dX5_tell_88 : decode cX5_tell 88 = .ok (.aload_n 0, 1) := by decide +kernel
theorem dX5_tell_89 : decode cX5_tell 89 = .ok (.getfield 16, 3) := by decide +kernel
theorem dX5_tell_92 : decode cX5_tell 92 = .ok (.iload_n 2, 1) := by decide +kernel
theorem dX5_tell_93 : decode cX5_tell 93 = .ok (.iload_n 3, 1) := by decide +kernel
theorem dX5_tell_94 : decode cX5_tell 94 = .ok (.invokevirtual 96, 3) := by decide +kernel
theorem dX5_tell_97 : decode cX5_tell 97 = .ok (.ireturn, 1) := by decide +kernel
theorem dX5_tell_98 : decode cX5_tell 98 = .ok (.aload_n 0, 1) := by decide +kernel
theorem dX5_tell_99 : decode cX5_tell 99 = .ok (.getfield 16, 3) := by decide +kernel
theorem dX5_tell_102 : decode cX5_tell 102 = .ok (.iload_n 2, 1) := by decide +kernel
theorem dX5_tell_103 : decode cX5_tell 103 = .ok (.iload_n 3, 1) := by decide +kernel
theorem dX5_tell_104 : decode cX5_tell 104 = .ok (.invokevirtual 110, 3) := by decide +kernel
theorem dX5_tell_107 : decode cX5_tell 107 = .ok (.ireturn, 1) := by decide +kernel
theorem dX5_tell_108 : decode cX5_tell 108 = .ok (.aload_n 0, 1) := by decide +kernel
theorem dX5_tell_109 : decode cX5_tell 109 = .ok (.getfield 16, 3) := by decide +kernel
theorem dX5_tell_112 : decode cX5_tell 112 = .ok (.iload_n 2, 1) := by decide +kernel
theorem dX5_tell_113 : decode cX5_tell 113 = .ok (.invokevirtual 113, 3) := by decide +kernel
theorem dX5_tell_116 : decode cX5_tell 116 = .ok (.ireturn, 1) := by decide +kernel
theorem dX5_tell_117 : decode cX5_tell 117 = .ok (.aload_n 0, 1) := by decide +kernel
theorem dX5_tell_118 : decode cX5_tell 118 = .ok (.getfield 16, 3) := by decide +kernel
theorem dX5_tell_121 : decode cX5_tell 121 = .ok (.iload_n 2, 1) := by decide +kernel
theorem dX5_tell_122 : decode cX5_tell 122 = .ok (.bipush 10, 2) := by decide +kernel
theorem dX5_tell_124 : decode cX5_tell 124 = .ok (.iload_n 3, 1) := by decide +kernel
theorem dX5_tell_125 : decode cX5_tell 125 = .ok (.imul, 1) := by decide +kernel
theorem dX5_tell_126 : decode cX5_tell 126 = .ok (.aload_n 0, 1) := by decide +kernel
theorem dX5_tell_127 : decode cX5_tell 127 = .ok (.getfield 32, 3) := by decide +kernel
theorem dX5_tell_130 : decode cX5_tell 130 = .ok (.iload_n 1, 1) := by decide +kernel
theorem dX5_tell_131 : decode cX5_tell 131 = .ok (.iconst 3, 1) := by decide +kernel
theorem dX5_tell_132 : decode cX5_tell 132 = .ok (.iadd, 1) := by decide +kernel
theorem dX5_tell_133 : decode cX5_tell 133 = .ok (.invokevirtual 253, 3) := by decide +kernel
theorem dX5_tell_136 : decode cX5_tell 136 = .ok (.iadd, 1) := by decide +kernel
theorem dX5_tell_137 : decode cX5_tell 137 = .ok (.invokevirtual 116, 3) := by decide +kernel
theorem dX5_tell_140 : decode cX5_tell 140 = .ok (.ireturn, 1) := by decide +kernel
theorem dX5_tell_141 : decode cX5_tell 141 = .ok (.aload_n 0, 1) := by decide +kernel
theorem dX5_tell_142 : decode cX5_tell 142 = .ok (.getfield 16, 3) := by decide +kernel
theorem dX5_tell_145 : decode cX5_tell 145 = .ok (.invokevirtual 122, 3) := by decide +kernel
theorem dX5_tell_148 : decode cX5_tell 148 = .ok (.iconst 1, 1) := by decide +kernel
theorem dX5_tell_149 : decode cX5_tell 149 = .ok (.ireturn, 1) := by decide +kernel
theorem dX5_tell_150 : decode cX5_tell 150 = .ok (.aload_n 0, 1) := by decide +kernel
theorem dX5_tell_151 : decode cX5_tell 151 = .ok (.getfield 16, 3) := by decide +kernel
theorem dX5_tell_154 : decode cX5_tell 154 = .ok (.bipush 10, 2) := by decide +kernel
theorem dX5_tell_156 : decode cX5_tell 156 = .ok (.iload_n 2, 1) := by decide +kernel
theorem dX5_tell_157 : decode cX5_tell 157 = .ok (.imul, 1) := by decide +kernel
theorem dX5_tell_158 : decode cX5_tell 158 = .ok (.iload_n 3, 1) := by decide +kernel
theorem dX5_tell_159 : decode cX5_tell 159 = .ok (.iadd, 1) := by decide +kernel
theorem dX5_tell_160 : decode cX5_tell 160 = .ok (.invokevirtual 125, 3) := by decide +kernel
theorem dX5_tell_163 : decode cX5_tell 163 = .ok (.ifCond .ne 5, 3) := by decide +kernel
theorem dX5_tell_166 : decode cX5_tell 166 = .ok (.iconst 0, 1) := by decide +kernel
theorem dX5_tell_167 : decode cX5_tell 167 = .ok (.ireturn, 1) := by decide +kernel
theorem dX5_tell_168 : decode cX5_tell 168 = .ok (.aload_n 0, 1) := by decide +kernel
theorem dX5_tell_169 : decode cX5_tell 169 = .ok (.getfield 16, 3) := by decide +kernel
theorem dX5_tell_172 : decode cX5_tell 172 = .ok (.bipush 10, 2) := by decide +kernel
theorem dX5_tell_174 : decode cX5_tell 174 = .ok (.iload_n 2, 1) := by decide +kernel
theorem dX5_tell_175 : decode cX5_tell 175 = .ok (.imul, 1) := by decide +kernel
theorem dX5_tell_176 : decode cX5_tell 176 = .ok (.iload_n 3, 1) := by decide +kernel
theorem dX5_tell_177 : decode cX5_tell 177 = .ok (.iadd, 1) := by decide +kernel
theorem dX5_tell_178 : decode cX5_tell 178 = .ok (.invokevirtual 128, 3) := by decide +kernel
theorem dX5_tell_181 : decode cX5_tell 181 = .ok (.iconst 1, 1) := by decide +kernel
theorem dX5_tell_182 : decode cX5_tell 182 = .ok (.ireturn, 1) := by decide +kernel
theorem dX5_tell_183 : decode cX5_tell 183 = .ok (.iconst 0, 1) := by decide +kernel
theorem dX5_tell_184 : decode cX5_tell 184 = .ok (.ireturn, 1) := by decide +kernel
theorem dX5_firstDrip_0 : decode cX5_firstDrip 0 = .ok (.aload_n 0, 1) := by decide +kernel
theorem dX5_firstDrip_1 : decode cX5_firstDrip 1 = .ok (.invokevirtual 137, 3) := by decide +kernel
theorem dX5_firstDrip_4 : decode cX5_firstDrip 4 = .ok (.iconst 0, 1) := by decide +kernel
theorem dX5_firstDrip_5 : decode cX5_firstDrip 5 = .ok (.istore_n 1, 1) := by decide +kernel
theorem dX5_firstDrip_6 : decode cX5_firstDrip 6 = .ok (.iload_n 1, 1) := by decide +kernel
theorem dX5_firstDrip_7 : decode cX5_firstDrip 7 = .ok (.bipush 60, 2) := by decide +kernel
theorem dX5_firstDrip_9 : decode cX5_firstDrip 9 = .ok (.if_icmp .gt 36, 3) := by decide +kernel
theorem dX5_firstDrip_12 : decode cX5_firstDrip 12 = .ok (.aload_n 0, 1) := by decide +kernel
theorem dX5_firstDrip_13 : decode cX5_firstDrip 13 = .ok (.getfield 16, 3) := by decide +kernel
theorem dX5_firstDrip_16 : decode cX5_firstDrip 16 = .ok (.invokevirtual 119, 3) := by decide +kernel
theorem dX5_firstDrip_19 : decode cX5_firstDrip 19 = .ok (.aload_n 0, 1) := by decide +kernel
theorem dX5_firstDrip_20 : decode cX5_firstDrip 20 = .ok (.getfield 10, 3) := by decide +kernel
theorem dX5_firstDrip_23 : decode cX5_firstDrip 23 = .ok (.invokevirtual 119, 3) := by decide +kernel
theorem dX5_firstDrip_26 : decode cX5_firstDrip 26 = .ok (.if_icmp .le 5, 3) := by decide +kernel
theorem dX5_firstDrip_29 : decode cX5_firstDrip 29 = .ok (.iload_n 1, 1) := by decide +kernel
theorem dX5_firstDrip_30 : decode cX5_firstDrip 30 = .ok (.ireturn, 1) := by decide +kernel
theorem dX5_firstDrip_31 : decode cX5_firstDrip 31 = .ok (.aload_n 0, 1) := by decide +kernel
theorem dX5_firstDrip_32 : decode cX5_firstDrip 32 = .ok (.getfield 16, 3) := by decide +kernel
theorem dX5_firstDrip_35 : decode cX5_firstDrip 35 = .ok (.invokevirtual 152, 3) := by decide +kernel
theorem dX5_firstDrip_38 : decode cX5_firstDrip 38 = .ok (.pop, 1) := by decide +kernel
theorem dX5_firstDrip_39 : decode cX5_firstDrip 39 = .ok (.iinc 1 1, 3) := by decide +kernel
theorem dX5_firstDrip_42 : decode cX5_firstDrip 42 = .ok (.goto (-36), 3) := by decide +kernel
theorem dX5_firstDrip_45 : decode cX5_firstDrip 45 = .ok (.bipush (-9), 2) := by decide +kernel
theorem dX5_firstDrip_47 : decode cX5_firstDrip 47 = .ok (.ireturn, 1) := by decide +kernel
theorem dX5_driedAfter_0 : decode cX5_driedAfter 0 = .ok (.aload_n 0, 1) := by decide +kernel
theorem dX5_driedAfter_1 : decode cX5_driedAfter 1 = .ok (.invokevirtual 137, 3) := by decide +kernel
theorem dX5_driedAfter_4 : decode cX5_driedAfter 4 = .ok (.iconst 0, 1) := by decide +kernel
theorem dX5_driedAfter_5 : decode cX5_driedAfter 5 = .ok (.istore_n 1, 1) := by decide +kernel
theorem dX5_driedAfter_6 : decode cX5_driedAfter 6 = .ok (.iload_n 1, 1) := by decide +kernel
theorem dX5_driedAfter_7 : decode cX5_driedAfter 7 = .ok (.bipush 60, 2) := by decide +kernel
theorem dX5_driedAfter_9 : decode cX5_driedAfter 9 = .ok (.if_icmp .gt 29, 3) := by decide +kernel
theorem dX5_driedAfter_12 : decode cX5_driedAfter 12 = .ok (.aload_n 0, 1) := by decide +kernel
theorem dX5_driedAfter_13 : decode cX5_driedAfter 13 = .ok (.getfield 16, 3) := by decide +kernel
theorem dX5_driedAfter_16 : decode cX5_driedAfter 16 = .ok (.invokevirtual 140, 3) := by decide +kernel
theorem dX5_driedAfter_19 : decode cX5_driedAfter 19 = .ok (.ifCond .ne 5, 3) := by decide +kernel
theorem dX5_driedAfter_22 : decode cX5_driedAfter 22 = .ok (.iload_n 1, 1) := by decide +kernel
theorem dX5_driedAfter_23 : decode cX5_driedAfter 23 = .ok (.ireturn, 1) := by decide +kernel
theorem dX5_driedAfter_24 : decode cX5_driedAfter 24 = .ok (.aload_n 0, 1) := by decide +kernel
theorem dX5_driedAfter_25 : decode cX5_driedAfter 25 = .ok (.getfield 16, 3) := by decide +kernel
theorem dX5_driedAfter_28 : decode cX5_driedAfter 28 = .ok (.invokevirtual 152, 3) := by decide +kernel
theorem dX5_driedAfter_31 : decode cX5_driedAfter 31 = .ok (.pop, 1) := by decide +kernel
theorem dX5_driedAfter_32 : decode cX5_driedAfter 32 = .ok (.iinc 1 1, 3) := by decide +kernel
theorem dX5_driedAfter_35 : decode cX5_driedAfter 35 = .ok (.goto (-29), 3) := by decide +kernel
theorem dX5_driedAfter_38 : decode cX5_driedAfter 38 = .ok (.bipush (-9), 2) := by decide +kernel
theorem dX5_driedAfter_40 : decode cX5_driedAfter 40 = .ok (.ireturn, 1) := by decide +kernel
theorem dX5_settledAfter_0 : decode cX5_settledAfter 0 = .ok (.aload_n 0, 1) := by decide +kernel
theorem dX5_settledAfter_1 : decode cX5_settledAfter 1 = .ok (.invokevirtual 137, 3) := by decide +kernel
theorem dX5_settledAfter_4 : decode cX5_settledAfter 4 = .ok (.iconst 0, 1) := by decide +kernel
theorem dX5_settledAfter_5 : decode cX5_settledAfter 5 = .ok (.istore_n 1, 1) := by decide +kernel
theorem dX5_settledAfter_6 : decode cX5_settledAfter 6 = .ok (.iload_n 1, 1) := by decide +kernel
theorem dX5_settledAfter_7 : decode cX5_settledAfter 7 = .ok (.bipush 50, 2) := by decide +kernel
theorem dX5_settledAfter_9 : decode cX5_settledAfter 9 = .ok (.if_icmp .gt 21, 3) := by decide +kernel
theorem dX5_settledAfter_12 : decode cX5_settledAfter 12 = .ok (.aload_n 0, 1) := by decide +kernel
theorem dX5_settledAfter_13 : decode cX5_settledAfter 13 = .ok (.getfield 16, 3) := by decide +kernel
theorem dX5_settledAfter_16 : decode cX5_settledAfter 16 = .ok (.invokevirtual 152, 3) := by decide +kernel
theorem dX5_settledAfter_19 : decode cX5_settledAfter 19 = .ok (.ifCond .ne 5, 3) := by decide +kernel
theorem dX5_settledAfter_22 : decode cX5_settledAfter 22 = .ok (.iload_n 1, 1) := by decide +kernel
theorem dX5_settledAfter_23 : decode cX5_settledAfter 23 = .ok (.ireturn, 1) := by decide +kernel
theorem dX5_settledAfter_24 : decode cX5_settledAfter 24 = .ok (.iinc 1 1, 3) := by decide +kernel
theorem dX5_settledAfter_27 : decode cX5_settledAfter 27 = .ok (.goto (-21), 3) := by decide +kernel
theorem dX5_settledAfter_30 : decode cX5_settledAfter 30 = .ok (.bipush (-9), 2) := by decide +kernel
theorem dX5_settledAfter_32 : decode cX5_settledAfter 32 = .ok (.ireturn, 1) := by decide +kernel
theorem dX5_rowTellsCup_0 : decode cX5_rowTellsCup 0 = .ok (.iconst 0, 1) := by decide +kernel
theorem dX5_rowTellsCup_1 : decode cX5_rowTellsCup 1 = .ok (.istore_n 1, 1) := by decide +kernel
theorem dX5_rowTellsCup_2 : decode cX5_rowTellsCup 2 = .ok (.iload_n 1, 1) := by decide +kernel
theorem dX5_rowTellsCup_3 : decode cX5_rowTellsCup 3 = .ok (.aload_n 0, 1) := by decide +kernel
theorem dX5_rowTellsCup_4 : decode cX5_rowTellsCup 4 = .ok (.getfield 39, 3) := by decide +kernel
theorem dX5_rowTellsCup_7 : decode cX5_rowTellsCup 7 = .ok (.invokevirtual 224, 3) := by decide +kernel
theorem dX5_rowTellsCup_10 : decode cX5_rowTellsCup 10 = .ok (.if_icmp .ge 37, 3) := by decide +kernel
theorem dX5_rowTellsCup_13 : decode cX5_rowTellsCup 13 = .ok (.aload_n 0, 1) := by decide +kernel
theorem dX5_rowTellsCup_14 : decode cX5_rowTellsCup 14 = .ok (.getfield 39, 3) := by decide +kernel
theorem dX5_rowTellsCup_17 : decode cX5_rowTellsCup 17 = .ok (.iload_n 1, 1) := by decide +kernel
theorem dX5_rowTellsCup_18 : decode cX5_rowTellsCup 18 = .ok (.invokevirtual 225, 3) := by decide +kernel
theorem dX5_rowTellsCup_21 : decode cX5_rowTellsCup 21 = .ok (.aload_n 0, 1) := by decide +kernel
theorem dX5_rowTellsCup_22 : decode cX5_rowTellsCup 22 = .ok (.getfield 16, 3) := by decide +kernel
theorem dX5_rowTellsCup_25 : decode cX5_rowTellsCup 25 = .ok (.invokevirtual 119, 3) := by decide +kernel
theorem dX5_rowTellsCup_28 : decode cX5_rowTellsCup 28 = .ok (.if_icmp .eq 5, 3) := by decide +kernel
theorem dX5_rowTellsCup_31 : decode cX5_rowTellsCup 31 = .ok (.iconst 0, 1) := by decide +kernel
theorem dX5_rowTellsCup_32 : decode cX5_rowTellsCup 32 = .ok (.ireturn, 1) := by decide +kernel
theorem dX5_rowTellsCup_33 : decode cX5_rowTellsCup 33 = .ok (.aload_n 0, 1) := by decide +kernel
theorem dX5_rowTellsCup_34 : decode cX5_rowTellsCup 34 = .ok (.getfield 16, 3) := by decide +kernel
theorem dX5_rowTellsCup_37 : decode cX5_rowTellsCup 37 = .ok (.invokevirtual 152, 3) := by decide +kernel
theorem dX5_rowTellsCup_40 : decode cX5_rowTellsCup 40 = .ok (.pop, 1) := by decide +kernel
theorem dX5_rowTellsCup_41 : decode cX5_rowTellsCup 41 = .ok (.iinc 1 1, 3) := by decide +kernel
theorem dX5_rowTellsCup_44 : decode cX5_rowTellsCup 44 = .ok (.goto (-42), 3) := by decide +kernel
theorem dX5_rowTellsCup_47 : decode cX5_rowTellsCup 47 = .ok (.iconst 1, 1) := by decide +kernel
theorem dX5_rowTellsCup_48 : decode cX5_rowTellsCup 48 = .ok (.ireturn, 1) := by decide +kernel
theorem dX5_kindsTold_0 : decode cX5_kindsTold 0 = .ok (.iconst 0, 1) := by decide +kernel
theorem dX5_kindsTold_1 : decode cX5_kindsTold 1 = .ok (.istore_n 2, 1) := by decide +kernel
theorem dX5_kindsTold_2 : decode cX5_kindsTold 2 = .ok (.iconst 0, 1) := by decide +kernel
theorem dX5_kindsTold_3 : decode cX5_kindsTold 3 = .ok (.istore_n 3, 1) := by decide +kernel
theorem dX5_kindsTold_4 : decode cX5_kindsTold 4 = .ok (.iload_n 3, 1) := by decide +kernel
theorem dX5_kindsTold_5 : decode cX5_kindsTold 5 = .ok (.iconst 5, 1) := by decide +kernel
theorem dX5_kindsTold_6 : decode cX5_kindsTold 6 = .ok (.if_icmp .gt 43, 3) := by decide +kernel
theorem dX5_kindsTold_9 : decode cX5_kindsTold 9 = .ok (.aload_n 0, 1) := by decide +kernel
theorem dX5_kindsTold_10 : decode cX5_kindsTold 10 = .ok (.invokevirtual 137, 3) := by decide +kernel
theorem dX5_kindsTold_13 : decode cX5_kindsTold 13 = .ok (.aload_n 0, 1) := by decide +kernel
theorem dX5_kindsTold_14 : decode cX5_kindsTold 14 = .ok (.getfield 16, 3) := by decide +kernel
theorem dX5_kindsTold_17 : decode cX5_kindsTold 17 = .ok (.iload_n 1, 1) := by decide +kernel
theorem dX5_kindsTold_18 : decode cX5_kindsTold 18 = .ok (.iload_n 3, 1) := by decide +kernel
theorem dX5_kindsTold_19 : decode cX5_kindsTold 19 = .ok (.aload_n 0, 1) := by decide +kernel
theorem dX5_kindsTold_20 : decode cX5_kindsTold 20 = .ok (.getfield 10, 3) := by decide +kernel
theorem dX5_kindsTold_23 : decode cX5_kindsTold 23 = .ok (.iload_n 1, 1) := by decide +kernel
theorem dX5_kindsTold_24 : decode cX5_kindsTold 24 = .ok (.invokevirtual 78, 3) := by decide +kernel
theorem dX5_kindsTold_27 : decode cX5_kindsTold 27 = .ok (.invokevirtual 219, 3) := by decide +kernel
theorem dX5_kindsTold_30 : decode cX5_kindsTold 30 = .ok (.aload_n 0, 1) := by decide +kernel
theorem dX5_kindsTold_31 : decode cX5_kindsTold 31 = .ok (.invokevirtual 176, 3) := by decide +kernel
theorem dX5_kindsTold_34 : decode cX5_kindsTold 34 = .ok (.ifCond .eq 9, 3) := by decide +kernel
theorem dX5_kindsTold_37 : decode cX5_kindsTold 37 = .ok (.iload_n 2, 1) := by decide +kernel
theorem dX5_kindsTold_38 : decode cX5_kindsTold 38 = .ok (.iconst 1, 1) := by decide +kernel
theorem dX5_kindsTold_39 : decode cX5_kindsTold 39 = .ok (.iload_n 3, 1) := by decide +kernel
theorem dX5_kindsTold_40 : decode cX5_kindsTold 40 = .ok (.ishl, 1) := by decide +kernel
theorem dX5_kindsTold_41 : decode cX5_kindsTold 41 = .ok (.ior, 1) := by decide +kernel
theorem dX5_kindsTold_42 : decode cX5_kindsTold 42 = .ok (.istore_n 2, 1) := by decide +kernel
theorem dX5_kindsTold_43 : decode cX5_kindsTold 43 = .ok (.iinc 3 1, 3) := by decide +kernel
theorem dX5_kindsTold_46 : decode cX5_kindsTold 46 = .ok (.goto (-42), 3) := by decide +kernel
theorem dX5_kindsTold_49 : decode cX5_kindsTold 49 = .ok (.iload_n 2, 1) := by decide +kernel
theorem dX5_kindsTold_50 : decode cX5_kindsTold 50 = .ok (.ireturn, 1) := by decide +kernel
theorem dX5_figuresTold_0 : decode cX5_figuresTold 0 = .ok (.iconst 0, 1) := by decide +kernel
theorem dX5_figuresTold_1 : decode cX5_figuresTold 1 = .ok (.istore_n 2, 1) := by decide +kernel
theorem dX5_figuresTold_2 : decode cX5_figuresTold 2 = .ok (.iconst 0, 1) := by decide +kernel
theorem dX5_figuresTold_3 : decode cX5_figuresTold 3 = .ok (.istore_n 3, 1) := by decide +kernel
theorem dX5_figuresTold_4 : decode cX5_figuresTold 4 = .ok (.iload_n 3, 1) := by decide +kernel
theorem dX5_figuresTold_5 : decode cX5_figuresTold 5 = .ok (.bipush 9, 2) := by decide +kernel
theorem dX5_figuresTold_7 : decode cX5_figuresTold 7 = .ok (.if_icmp .gt 43, 3) := by decide +kernel
theorem dX5_figuresTold_10 : decode cX5_figuresTold 10 = .ok (.aload_n 0, 1) := by decide +kernel
theorem dX5_figuresTold_11 : decode cX5_figuresTold 11 = .ok (.invokevirtual 137, 3) := by decide +kernel
theorem dX5_figuresTold_14 : decode cX5_figuresTold 14 = .ok (.aload_n 0, 1) := by decide +kernel
theorem dX5_figuresTold_15 : decode cX5_figuresTold 15 = .ok (.getfield 16, 3) := by decide +kernel
theorem dX5_figuresTold_18 : decode cX5_figuresTold 18 = .ok (.iload_n 1, 1) := by decide +kernel
theorem dX5_figuresTold_19 : decode cX5_figuresTold 19 = .ok (.aload_n 0, 1) := by decide +kernel
theorem dX5_figuresTold_20 : decode cX5_figuresTold 20 = .ok (.getfield 10, 3) := by decide +kernel
theorem dX5_figuresTold_23 : decode cX5_figuresTold 23 = .ok (.iload_n 1, 1) := by decide +kernel
theorem dX5_figuresTold_24 : decode cX5_figuresTold 24 = .ok (.invokevirtual 75, 3) := by decide +kernel
theorem dX5_figuresTold_27 : decode cX5_figuresTold 27 = .ok (.iload_n 3, 1) := by decide +kernel
theorem dX5_figuresTold_28 : decode cX5_figuresTold 28 = .ok (.invokevirtual 219, 3) := by decide +kernel
theorem dX5_figuresTold_31 : decode cX5_figuresTold 31 = .ok (.aload_n 0, 1) := by decide +kernel
theorem dX5_figuresTold_32 : decode cX5_figuresTold 32 = .ok (.invokevirtual 176, 3) := by decide +kernel
theorem dX5_figuresTold_35 : decode cX5_figuresTold 35 = .ok (.ifCond .eq 9, 3) := by decide +kernel
theorem dX5_figuresTold_38 : decode cX5_figuresTold 38 = .ok (.iload_n 2, 1) := by decide +kernel
theorem dX5_figuresTold_39 : decode cX5_figuresTold 39 = .ok (.iconst 1, 1) := by decide +kernel
theorem dX5_figuresTold_40 : decode cX5_figuresTold 40 = .ok (.iload_n 3, 1) := by decide +kernel
theorem dX5_figuresTold_41 : decode cX5_figuresTold 41 = .ok (.ishl, 1) := by decide +kernel
theorem dX5_figuresTold_42 : decode cX5_figuresTold 42 = .ok (.ior, 1) := by decide +kernel
theorem dX5_figuresTold_43 : decode cX5_figuresTold 43 = .ok (.istore_n 2, 1) := by decide +kernel
theorem dX5_figuresTold_44 : decode cX5_figuresTold 44 = .ok (.iinc 3 1, 3) := by decide +kernel
theorem dX5_figuresTold_47 : decode cX5_figuresTold 47 = .ok (.goto (-43), 3) := by decide +kernel
theorem dX5_figuresTold_50 : decode cX5_figuresTold 50 = .ok (.iload_n 2, 1) := by decide +kernel
theorem dX5_figuresTold_51 : decode cX5_figuresTold 51 = .ok (.ireturn, 1) := by decide +kernel
theorem dX5_isContent_0 : decode cX5_isContent 0 = .ok (.aload_n 0, 1) := by decide +kernel
theorem dX5_isContent_1 : decode cX5_isContent 1 = .ok (.iload_n 1, 1) := by decide +kernel
theorem dX5_isContent_2 : decode cX5_isContent 2 = .ok (.iload_n 2, 1) := by decide +kernel
theorem dX5_isContent_3 : decode cX5_isContent 3 = .ok (.iload_n 3, 1) := by decide +kernel
theorem dX5_isContent_4 : decode cX5_isContent 4 = .ok (.iload 4, 2) := by decide +kernel
theorem dX5_isContent_6 : decode cX5_isContent 6 = .ok (.iload 5, 2) := by decide +kernel
theorem dX5_isContent_8 : decode cX5_isContent 8 = .ok (.invokevirtual 257, 3) := by decide +kernel
theorem dX5_isContent_11 : decode cX5_isContent 11 = .ok (.istore 6, 2) := by decide +kernel
theorem dX5_isContent_13 : decode cX5_isContent 13 = .ok (.iload 6, 2) := by decide +kernel
theorem dX5_isContent_15 : decode cX5_isContent 15 = .ok (.aload_n 0, 1) := by decide +kernel
theorem dX5_isContent_16 : decode cX5_isContent 16 = .ok (.iload_n 1, 1) := by decide +kernel
theorem dX5_isContent_17 : decode cX5_isContent 17 = .ok (.iconst 1, 1) := by decide +kernel
theorem dX5_isContent_18 : decode cX5_isContent 18 = .ok (.iload_n 2, 1) := by decide +kernel
theorem dX5_isContent_19 : decode cX5_isContent 19 = .ok (.isub, 1) := by decide +kernel
theorem dX5_isContent_20 : decode cX5_isContent 20 = .ok (.iload_n 3, 1) := by decide +kernel
theorem dX5_isContent_21 : decode cX5_isContent 21 = .ok (.iload 4, 2) := by decide +kernel
theorem dX5_isContent_23 : decode cX5_isContent 23 = .ok (.iload 5, 2) := by decide +kernel
theorem dX5_isContent_25 : decode cX5_isContent 25 = .ok (.invokevirtual 257, 3) := by decide +kernel
theorem dX5_isContent_28 : decode cX5_isContent 28 = .ok (.if_icmp .lt 7, 3) := by decide +kernel
theorem dX5_isContent_31 : decode cX5_isContent 31 = .ok (.iconst 1, 1) := by decide +kernel
theorem dX5_isContent_32 : decode cX5_isContent 32 = .ok (.goto 4, 3) := by decide +kernel
theorem dX5_isContent_35 : decode cX5_isContent 35 = .ok (.iconst 0, 1) := by decide +kernel
theorem dX5_isContent_36 : decode cX5_isContent 36 = .ok (.ireturn, 1) := by decide +kernel
theorem dX5_gain_0 : decode cX5_gain 0 = .ok (.aload_n 0, 1) := by decide +kernel
theorem dX5_gain_1 : decode cX5_gain 1 = .ok (.invokevirtual 137, 3) := by decide +kernel
theorem dX5_gain_4 : decode cX5_gain 4 = .ok (.iload_n 2, 1) := by decide +kernel
theorem dX5_gain_5 : decode cX5_gain 5 = .ok (.iconst 1, 1) := by decide +kernel
theorem dX5_gain_6 : decode cX5_gain 6 = .ok (.if_icmp .ne 11, 3) := by decide +kernel
theorem dX5_gain_9 : decode cX5_gain 9 = .ok (.aload_n 0, 1) := by decide +kernel
theorem dX5_gain_10 : decode cX5_gain 10 = .ok (.getfield 16, 3) := by decide +kernel
theorem dX5_gain_13 : decode cX5_gain 13 = .ok (.iload_n 1, 1) := by decide +kernel
theorem dX5_gain_14 : decode cX5_gain 14 = .ok (.invokevirtual 170, 3) := by decide +kernel
theorem dX5_gain_17 : decode cX5_gain 17 = .ok (.iload 4, 2) := by decide +kernel
theorem dX5_gain_19 : decode cX5_gain 19 = .ok (.iconst 1, 1) := by decide +kernel
theorem dX5_gain_20 : decode cX5_gain 20 = .ok (.if_icmp .ne 11, 3) := by decide +kernel
theorem dX5_gain_23 : decode cX5_gain 23 = .ok (.aload_n 0, 1) := by decide +kernel
theorem dX5_gain_24 : decode cX5_gain 24 = .ok (.getfield 16, 3) := by decide +kernel
theorem dX5_gain_27 : decode cX5_gain 27 = .ok (.iload_n 3, 1) := by decide +kernel
theorem dX5_gain_28 : decode cX5_gain 28 = .ok (.invokevirtual 170, 3) := by decide +kernel
theorem dX5_gain_31 : decode cX5_gain 31 = .ok (.aload_n 0, 1) := by decide +kernel
theorem dX5_gain_32 : decode cX5_gain 32 = .ok (.getfield 16, 3) := by decide +kernel
theorem dX5_gain_35 : decode cX5_gain 35 = .ok (.iload 5, 2) := by decide +kernel
theorem dX5_gain_37 : decode cX5_gain 37 = .ok (.invokevirtual 128, 3) := by decide +kernel
theorem dX5_gain_40 : decode cX5_gain 40 = .ok (.aload_n 0, 1) := by decide +kernel
theorem dX5_gain_41 : decode cX5_gain 41 = .ok (.getfield 16, 3) := by decide +kernel
theorem dX5_gain_44 : decode cX5_gain 44 = .ok (.iload_n 1, 1) := by decide +kernel
theorem dX5_gain_45 : decode cX5_gain 45 = .ok (.invokevirtual 81, 3) := by decide +kernel
theorem dX5_gain_48 : decode cX5_gain 48 = .ok (.iconst 3, 1) := by decide +kernel
theorem dX5_gain_49 : decode cX5_gain 49 = .ok (.iload_n 2, 1) := by decide +kernel
theorem dX5_gain_50 : decode cX5_gain 50 = .ok (.imul, 1) := by decide +kernel
theorem dX5_gain_51 : decode cX5_gain 51 = .ok (.isub, 1) := by decide +kernel
theorem dX5_gain_52 : decode cX5_gain 52 = .ok (.ireturn, 1) := by decide +kernel
theorem dX5_houseHoldingMost_0 : decode cX5_houseHoldingMost 0 = .ok (.bipush (-9), 2) := by decide +kernel
theorem dX5_houseHoldingMost_2 : decode cX5_houseHoldingMost 2 = .ok (.istore_n 1, 1) := by decide +kernel
theorem dX5_houseHoldingMost_3 : decode cX5_houseHoldingMost 3 = .ok (.iconst (-1), 1) := by decide +kernel
theorem dX5_houseHoldingMost_4 : decode cX5_houseHoldingMost 4 = .ok (.istore_n 2, 1) := by decide +kernel
theorem dX5_houseHoldingMost_5 : decode cX5_houseHoldingMost 5 = .ok (.iconst 0, 1) := by decide +kernel
theorem dX5_houseHoldingMost_6 : decode cX5_houseHoldingMost 6 = .ok (.istore_n 3, 1) := by decide +kernel
theorem dX5_houseHoldingMost_7 : decode cX5_houseHoldingMost 7 = .ok (.iload_n 3, 1) := by decide +kernel
theorem dX5_houseHoldingMost_8 : decode cX5_houseHoldingMost 8 = .ok (.aload_n 0, 1) := by decide +kernel
theorem dX5_houseHoldingMost_9 : decode cX5_houseHoldingMost 9 = .ok (.getfield 10, 3) := by decide +kernel
theorem dX5_houseHoldingMost_12 : decode cX5_houseHoldingMost 12 = .ok (.invokevirtual 103, 3) := by decide +kernel
theorem dX5_houseHoldingMost_15 : decode cX5_houseHoldingMost 15 = .ok (.if_icmp .ge 32, 3) := by decide +kernel
theorem dX5_houseHoldingMost_18 : decode cX5_houseHoldingMost 18 = .ok (.aload_n 0, 1) := by decide +kernel
theorem dX5_houseHoldingMost_19 : decode cX5_houseHoldingMost 19 = .ok (.getfield 10, 3) := by decide +kernel
theorem dX5_houseHoldingMost_22 : decode cX5_houseHoldingMost 22 = .ok (.iload_n 3, 1) := by decide +kernel
theorem dX5_houseHoldingMost_23 : decode cX5_houseHoldingMost 23 = .ok (.invokevirtual 81, 3) := by decide +kernel
theorem dX5_houseHoldingMost_26 : decode cX5_houseHoldingMost 26 = .ok (.iload_n 2, 1) := by decide +kernel
theorem dX5_houseHoldingMost_27 : decode cX5_houseHoldingMost 27 = .ok (.if_icmp .le 14, 3) := by decide +kernel
theorem dX5_houseHoldingMost_30 : decode cX5_houseHoldingMost 30 = .ok (.aload_n 0, 1) := by decide +kernel
theorem dX5_houseHoldingMost_31 : decode cX5_houseHoldingMost 31 = .ok (.getfield 10, 3) := by decide +kernel
theorem dX5_houseHoldingMost_34 : decode cX5_houseHoldingMost 34 = .ok (.iload_n 3, 1) := by decide +kernel
theorem dX5_houseHoldingMost_35 : decode cX5_houseHoldingMost 35 = .ok (.invokevirtual 81, 3) := by decide +kernel
theorem dX5_houseHoldingMost_38 : decode cX5_houseHoldingMost 38 = .ok (.istore_n 2, 1) := by decide +kernel
theorem dX5_houseHoldingMost_39 : decode cX5_houseHoldingMost 39 = .ok (.iload_n 3, 1) := by decide +kernel
theorem dX5_houseHoldingMost_40 : decode cX5_houseHoldingMost 40 = .ok (.istore_n 1, 1) := by decide +kernel
theorem dX5_houseHoldingMost_41 : decode cX5_houseHoldingMost 41 = .ok (.iinc 3 1, 3) := by decide +kernel
theorem dX5_houseHoldingMost_44 : decode cX5_houseHoldingMost 44 = .ok (.goto (-37), 3) := by decide +kernel
theorem dX5_houseHoldingMost_47 : decode cX5_houseHoldingMost 47 = .ok (.iload_n 1, 1) := by decide +kernel
theorem dX5_houseHoldingMost_48 : decode cX5_houseHoldingMost 48 = .ok (.ireturn, 1) := by decide +kernel
theorem dX5_housesAtCup_0 : decode cX5_housesAtCup 0 = .ok (.iconst 0, 1) := by decide +kernel
theorem dX5_housesAtCup_1 : decode cX5_housesAtCup 1 = .ok (.istore_n 1, 1) := by decide +kernel
theorem dX5_housesAtCup_2 : decode cX5_housesAtCup 2 = .ok (.iconst 0, 1) := by decide +kernel
theorem dX5_housesAtCup_3 : decode cX5_housesAtCup 3 = .ok (.istore_n 2, 1) := by decide +kernel
theorem dX5_housesAtCup_4 : decode cX5_housesAtCup 4 = .ok (.iload_n 2, 1) := by decide +kernel
theorem dX5_housesAtCup_5 : decode cX5_housesAtCup 5 = .ok (.aload_n 0, 1) := by decide +kernel
theorem dX5_housesAtCup_6 : decode cX5_housesAtCup 6 = .ok (.getfield 10, 3) := by decide +kernel
theorem dX5_housesAtCup_9 : decode cX5_housesAtCup 9 = .ok (.invokevirtual 103, 3) := by decide +kernel
theorem dX5_housesAtCup_12 : decode cX5_housesAtCup 12 = .ok (.if_icmp .ge 33, 3) := by decide +kernel
theorem dX5_housesAtCup_15 : decode cX5_housesAtCup 15 = .ok (.aload_n 0, 1) := by decide +kernel
theorem dX5_housesAtCup_16 : decode cX5_housesAtCup 16 = .ok (.getfield 10, 3) := by decide +kernel
theorem dX5_housesAtCup_19 : decode cX5_housesAtCup 19 = .ok (.aload_n 0, 1) := by decide +kernel
theorem dX5_housesAtCup_20 : decode cX5_housesAtCup 20 = .ok (.getfield 10, 3) := by decide +kernel
theorem dX5_housesAtCup_23 : decode cX5_housesAtCup 23 = .ok (.iload_n 2, 1) := by decide +kernel
theorem dX5_housesAtCup_24 : decode cX5_housesAtCup 24 = .ok (.invokevirtual 84, 3) := by decide +kernel
theorem dX5_housesAtCup_27 : decode cX5_housesAtCup 27 = .ok (.invokevirtual 72, 3) := by decide +kernel
theorem dX5_housesAtCup_30 : decode cX5_housesAtCup 30 = .ok (.ifCond .ne 9, 3) := by decide +kernel
theorem dX5_housesAtCup_33 : decode cX5_housesAtCup 33 = .ok (.iload_n 1, 1) := by decide +kernel
theorem dX5_housesAtCup_34 : decode cX5_housesAtCup 34 = .ok (.iconst 1, 1) := by decide +kernel
theorem dX5_housesAtCup_35 : decode cX5_housesAtCup 35 = .ok (.iload_n 2, 1) := by decide +kernel
theorem dX5_housesAtCup_36 : decode cX5_housesAtCup 36 = .ok (.ishl, 1) := by decide +kernel
theorem dX5_housesAtCup_37 : decode cX5_housesAtCup 37 = .ok (.ior, 1) := by decide +kernel
theorem dX5_housesAtCup_38 : decode cX5_housesAtCup 38 = .ok (.istore_n 1, 1) := by decide +kernel
theorem dX5_housesAtCup_39 : decode cX5_housesAtCup 39 = .ok (.iinc 2 1, 3) := by decide +kernel
theorem dX5_housesAtCup_42 : decode cX5_housesAtCup 42 = .ok (.goto (-38), 3) := by decide +kernel
theorem dX5_housesAtCup_45 : decode cX5_housesAtCup 45 = .ok (.iload_n 1, 1) := by decide +kernel
theorem dX5_housesAtCup_46 : decode cX5_housesAtCup 46 = .ok (.ireturn, 1) := by decide +kernel
theorem dX5_longestWay_0 : decode cX5_longestWay 0 = .ok (.iconst 0, 1) := by decide +kernel
theorem dX5_longestWay_1 : decode cX5_longestWay 1 = .ok (.istore_n 1, 1) := by decide +kernel
theorem dX5_longestWay_2 : decode cX5_longestWay 2 = .ok (.iconst 0, 1) := by decide +kernel
theorem dX5_longestWay_3 : decode cX5_longestWay 3 = .ok (.istore_n 2, 1) := by decide +kernel
theorem dX5_longestWay_4 : decode cX5_longestWay 4 = .ok (.iload_n 2, 1) := by decide +kernel
theorem dX5_longestWay_5 : decode cX5_longestWay 5 = .ok (.aload_n 0, 1) := by decide +kernel
theorem dX5_longestWay_6 : decode cX5_longestWay 6 = .ok (.getfield 10, 3) := by decide +kernel
theorem dX5_longestWay_9 : decode cX5_longestWay 9 = .ok (.invokevirtual 103, 3) := by decide +kernel
theorem dX5_longestWay_12 : decode cX5_longestWay 12 = .ok (.if_icmp .ge 25, 3) := by decide +kernel
theorem dX5_longestWay_15 : decode cX5_longestWay 15 = .ok (.iload_n 1, 1) := by decide +kernel
theorem dX5_longestWay_16 : decode cX5_longestWay 16 = .ok (.aload_n 0, 1) := by decide +kernel
theorem dX5_longestWay_17 : decode cX5_longestWay 17 = .ok (.getfield 10, 3) := by decide +kernel
theorem dX5_longestWay_20 : decode cX5_longestWay 20 = .ok (.iload_n 2, 1) := by decide +kernel
theorem dX5_longestWay_21 : decode cX5_longestWay 21 = .ok (.invokevirtual 173, 3) := by decide +kernel
theorem dX5_longestWay_24 : decode cX5_longestWay 24 = .ok (.invokestatic 165, 3) := by decide +kernel
theorem dX5_longestWay_27 : decode cX5_longestWay 27 = .ok (.invokestatic 261, 3) := by decide +kernel
theorem dX5_longestWay_30 : decode cX5_longestWay 30 = .ok (.istore_n 1, 1) := by decide +kernel
theorem dX5_longestWay_31 : decode cX5_longestWay 31 = .ok (.iinc 2 1, 3) := by decide +kernel
theorem dX5_longestWay_34 : decode cX5_longestWay 34 = .ok (.goto (-30), 3) := by decide +kernel
theorem dX5_longestWay_37 : decode cX5_longestWay 37 = .ok (.iload_n 1, 1) := by decide +kernel
theorem dX5_longestWay_38 : decode cX5_longestWay 38 = .ok (.ireturn, 1) := by decide +kernel
theorem dX5_longestStill_0 : decode cX5_longestStill 0 = .ok (.aload_n 0, 1) := by decide +kernel
theorem dX5_longestStill_1 : decode cX5_longestStill 1 = .ok (.invokevirtual 137, 3) := by decide +kernel
theorem dX5_longestStill_4 : decode cX5_longestStill 4 = .ok (.iconst 0, 1) := by decide +kernel
theorem dX5_longestStill_5 : decode cX5_longestStill 5 = .ok (.istore_n 1, 1) := by decide +kernel
theorem dX5_longestStill_6 : decode cX5_longestStill 6 = .ok (.iconst 0, 1) := by decide +kernel
theorem dX5_longestStill_7 : decode cX5_longestStill 7 = .ok (.istore_n 2, 1) := by decide +kernel
theorem dX5_longestStill_8 : decode cX5_longestStill 8 = .ok (.iconst 0, 1) := by decide +kernel
theorem dX5_longestStill_9 : decode cX5_longestStill 9 = .ok (.istore_n 3, 1) := by decide +kernel
theorem dX5_longestStill_10 : decode cX5_longestStill 10 = .ok (.iload_n 3, 1) := by decide +kernel
theorem dX5_longestStill_11 : decode cX5_longestStill 11 = .ok (.bipush 60, 2) := by decide +kernel
theorem dX5_longestStill_13 : decode cX5_longestStill 13 = .ok (.if_icmp .ge 41, 3) := by decide +kernel
theorem dX5_longestStill_16 : decode cX5_longestStill 16 = .ok (.aload_n 0, 1) := by decide +kernel
theorem dX5_longestStill_17 : decode cX5_longestStill 17 = .ok (.getfield 16, 3) := by decide +kernel
theorem dX5_longestStill_20 : decode cX5_longestStill 20 = .ok (.invokevirtual 152, 3) := by decide +kernel
theorem dX5_longestStill_23 : decode cX5_longestStill 23 = .ok (.pop, 1) := by decide +kernel
theorem dX5_longestStill_24 : decode cX5_longestStill 24 = .ok (.aload_n 0, 1) := by decide +kernel
theorem dX5_longestStill_25 : decode cX5_longestStill 25 = .ok (.getfield 16, 3) := by decide +kernel
theorem dX5_longestStill_28 : decode cX5_longestStill 28 = .ok (.invokevirtual 267, 3) := by decide +kernel
theorem dX5_longestStill_31 : decode cX5_longestStill 31 = .ok (.ifCond .eq 7, 3) := by decide +kernel
theorem dX5_longestStill_34 : decode cX5_longestStill 34 = .ok (.iconst 0, 1) := by decide +kernel
theorem dX5_longestStill_35 : decode cX5_longestStill 35 = .ok (.goto 6, 3) := by decide +kernel
theorem dX5_longestStill_38 : decode cX5_longestStill 38 = .ok (.iload_n 2, 1) := by decide +kernel
theorem dX5_longestStill_39 : decode cX5_longestStill 39 = .ok (.iconst 1, 1) := by decide +kernel
theorem dX5_longestStill_40 : decode cX5_longestStill 40 = .ok (.iadd, 1) := by decide +kernel
theorem dX5_longestStill_41 : decode cX5_longestStill 41 = .ok (.istore_n 2, 1) := by decide +kernel
theorem dX5_longestStill_42 : decode cX5_longestStill 42 = .ok (.iload_n 1, 1) := by decide +kernel
theorem dX5_longestStill_43 : decode cX5_longestStill 43 = .ok (.iload_n 2, 1) := by decide +kernel
theorem dX5_longestStill_44 : decode cX5_longestStill 44 = .ok (.invokestatic 261, 3) := by decide +kernel
theorem dX5_longestStill_47 : decode cX5_longestStill 47 = .ok (.istore_n 1, 1) := by decide +kernel
theorem dX5_longestStill_48 : decode cX5_longestStill 48 = .ok (.iinc 3 1, 3) := by decide +kernel
theorem dX5_longestStill_51 : decode cX5_longestStill 51 = .ok (.goto (-41), 3) := by decide +kernel
theorem dX5_longestStill_54 : decode cX5_longestStill 54 = .ok (.iload_n 1, 1) := by decide +kernel
theorem dX5_longestStill_55 : decode cX5_longestStill 55 = .ok (.ireturn, 1) := by decide +kernel
theorem dX5_twins_0 : decode cX5_twins 0 = .ok (.iconst 0, 1) := by decide +kernel
theorem dX5_twins_1 : decode cX5_twins 1 = .ok (.istore_n 1, 1) := by decide +kernel
theorem dX5_twins_2 : decode cX5_twins 2 = .ok (.iconst 0, 1) := by decide +kernel
theorem dX5_twins_3 : decode cX5_twins 3 = .ok (.istore_n 2, 1) := by decide +kernel
theorem dX5_twins_4 : decode cX5_twins 4 = .ok (.iload_n 2, 1) := by decide +kernel
theorem dX5_twins_5 : decode cX5_twins 5 = .ok (.aload_n 0, 1) := by decide +kernel
theorem dX5_twins_6 : decode cX5_twins 6 = .ok (.getfield 10, 3) := by decide +kernel
theorem dX5_twins_9 : decode cX5_twins 9 = .ok (.invokevirtual 103, 3) := by decide +kernel
theorem dX5_twins_12 : decode cX5_twins 12 = .ok (.if_icmp .ge 52, 3) := by decide +kernel
theorem dX5_twins_15 : decode cX5_twins 15 = .ok (.iload_n 2, 1) := by decide +kernel
theorem dX5_twins_16 : decode cX5_twins 16 = .ok (.iconst 1, 1) := by decide +kernel
theorem dX5_twins_17 : decode cX5_twins 17 = .ok (.iadd, 1) := by decide +kernel
theorem dX5_twins_18 : decode cX5_twins 18 = .ok (.istore_n 3, 1) := by decide +kernel
theorem dX5_twins_19 : decode cX5_twins 19 = .ok (.iload_n 3, 1) := by decide +kernel
theorem dX5_twins_20 : decode cX5_twins 20 = .ok (.aload_n 0, 1) := by decide +kernel
theorem dX5_twins_21 : decode cX5_twins 21 = .ok (.getfield 10, 3) := by decide +kernel
theorem dX5_twins_24 : decode cX5_twins 24 = .ok (.invokevirtual 103, 3) := by decide +kernel
theorem dX5_twins_27 : decode cX5_twins 27 = .ok (.if_icmp .ge 31, 3) := by decide +kernel
theorem dX5_twins_30 : decode cX5_twins 30 = .ok (.aload_n 0, 1) := by decide +kernel
theorem dX5_twins_31 : decode cX5_twins 31 = .ok (.getfield 10, 3) := by decide +kernel
theorem dX5_twins_34 : decode cX5_twins 34 = .ok (.iload_n 2, 1) := by decide +kernel
theorem dX5_twins_35 : decode cX5_twins 35 = .ok (.invokevirtual 81, 3) := by decide +kernel
theorem dX5_twins_38 : decode cX5_twins 38 = .ok (.aload_n 0, 1) := by decide +kernel
theorem dX5_twins_39 : decode cX5_twins 39 = .ok (.getfield 10, 3) := by decide +kernel
theorem dX5_twins_42 : decode cX5_twins 42 = .ok (.iload_n 3, 1) := by decide +kernel
theorem dX5_twins_43 : decode cX5_twins 43 = .ok (.invokevirtual 81, 3) := by decide +kernel
theorem dX5_twins_46 : decode cX5_twins 46 = .ok (.if_icmp .ne 6, 3) := by decide +kernel
theorem dX5_twins_49 : decode cX5_twins 49 = .ok (.iinc 1 1, 3) := by decide +kernel
theorem dX5_twins_52 : decode cX5_twins 52 = .ok (.iinc 3 1, 3) := by decide +kernel
theorem dX5_twins_55 : decode cX5_twins 55 = .ok (.goto (-36), 3) := by decide +kernel
theorem dX5_twins_58 : decode cX5_twins 58 = .ok (.iinc 2 1, 3) := by decide +kernel
theorem dX5_twins_61 : decode cX5_twins 61 = .ok (.goto (-57), 3) := by decide +kernel
theorem dX5_twins_64 : decode cX5_twins 64 = .ok (.iload_n 1, 1) := by decide +kernel
theorem dX5_twins_65 : decode cX5_twins 65 = .ok (.ireturn, 1) := by decide +kernel
theorem dX5_liveWeek_0 : decode cX5_liveWeek 0 = .ok (.aload_n 0, 1) := by decide +kernel
theorem dX5_liveWeek_1 : decode cX5_liveWeek 1 = .ok (.invokevirtual 137, 3) := by decide +kernel
theorem dX5_liveWeek_4 : decode cX5_liveWeek 4 = .ok (.iload_n 1, 1) := by decide +kernel
theorem dX5_liveWeek_5 : decode cX5_liveWeek 5 = .ok (.istore_n 2, 1) := by decide +kernel
theorem dX5_liveWeek_6 : decode cX5_liveWeek 6 = .ok (.iconst 0, 1) := by decide +kernel
theorem dX5_liveWeek_7 : decode cX5_liveWeek 7 = .ok (.istore_n 3, 1) := by decide +kernel
theorem dX5_liveWeek_8 : decode cX5_liveWeek 8 = .ok (.iload_n 3, 1) := by decide +kernel
theorem dX5_liveWeek_9 : decode cX5_liveWeek 9 = .ok (.iconst 3, 1) := by decide +kernel
theorem dX5_liveWeek_10 : decode cX5_liveWeek 10 = .ok (.if_icmp .ge 58, 3) := by decide +kernel
theorem dX5_liveWeek_13 : decode cX5_liveWeek 13 = .ok (.aload_n 0, 1) := by decide +kernel
theorem dX5_liveWeek_14 : decode cX5_liveWeek 14 = .ok (.getfield 10, 3) := by decide +kernel
theorem dX5_liveWeek_17 : decode cX5_liveWeek 17 = .ok (.invokevirtual 103, 3) := by decide +kernel
theorem dX5_liveWeek_20 : decode cX5_liveWeek 20 = .ok (.ifCond .le 48, 3) := by decide +kernel
theorem dX5_liveWeek_23 : decode cX5_liveWeek 23 = .ok (.iload_n 2, 1) := by decide +kernel
theorem dX5_liveWeek_24 : decode cX5_liveWeek 24 = .ok (.invokestatic 270, 3) := by decide +kernel
theorem dX5_liveWeek_27 : decode cX5_liveWeek 27 = .ok (.istore_n 2, 1) := by decide +kernel
theorem dX5_liveWeek_28 : decode cX5_liveWeek 28 = .ok (.iload_n 2, 1) := by decide +kernel
theorem dX5_liveWeek_29 : decode cX5_liveWeek 29 = .ok (.aload_n 0, 1) := by decide +kernel
theorem dX5_liveWeek_30 : decode cX5_liveWeek 30 = .ok (.getfield 10, 3) := by decide +kernel
theorem dX5_liveWeek_33 : decode cX5_liveWeek 33 = .ok (.invokevirtual 103, 3) := by decide +kernel
theorem dX5_liveWeek_36 : decode cX5_liveWeek 36 = .ok (.invokestatic 273, 3) := by decide +kernel
theorem dX5_liveWeek_39 : decode cX5_liveWeek 39 = .ok (.istore 4, 2) := by decide +kernel
theorem dX5_liveWeek_41 : decode cX5_liveWeek 41 = .ok (.iload_n 2, 1) := by decide +kernel
theorem dX5_liveWeek_42 : decode cX5_liveWeek 42 = .ok (.invokestatic 270, 3) := by decide +kernel
theorem dX5_liveWeek_45 : decode cX5_liveWeek 45 = .ok (.istore_n 2, 1) := by decide +kernel
theorem dX5_liveWeek_46 : decode cX5_liveWeek 46 = .ok (.aload_n 0, 1) := by decide +kernel
theorem dX5_liveWeek_47 : decode cX5_liveWeek 47 = .ok (.getfield 16, 3) := by decide +kernel
theorem dX5_liveWeek_50 : decode cX5_liveWeek 50 = .ok (.iload 4, 2) := by decide +kernel
theorem dX5_liveWeek_52 : decode cX5_liveWeek 52 = .ok (.iload_n 2, 1) := by decide +kernel
theorem dX5_liveWeek_53 : decode cX5_liveWeek 53 = .ok (.bipush 40, 2) := by decide +kernel
theorem dX5_liveWeek_55 : decode cX5_liveWeek 55 = .ok (.invokestatic 273, 3) := by decide +kernel
theorem dX5_liveWeek_58 : decode cX5_liveWeek 58 = .ok (.invokevirtual 116, 3) := by decide +kernel
theorem dX5_liveWeek_61 : decode cX5_liveWeek 61 = .ok (.pop, 1) := by decide +kernel
theorem dX5_liveWeek_62 : decode cX5_liveWeek 62 = .ok (.iinc 3 1, 3) := by decide +kernel
theorem dX5_liveWeek_65 : decode cX5_liveWeek 65 = .ok (.goto (-57), 3) := by decide +kernel
theorem dX5_liveWeek_68 : decode cX5_liveWeek 68 = .ok (.aload_n 0, 1) := by decide +kernel
theorem dX5_liveWeek_69 : decode cX5_liveWeek 69 = .ok (.getfield 16, 3) := by decide +kernel
theorem dX5_liveWeek_72 : decode cX5_liveWeek 72 = .ok (.bipush 12, 2) := by decide +kernel
theorem dX5_liveWeek_74 : decode cX5_liveWeek 74 = .ok (.invokevirtual 128, 3) := by decide +kernel
theorem dX5_liveWeek_77 : decode cX5_liveWeek 77 = .ok (.iload_n 2, 1) := by decide +kernel
theorem dX5_liveWeek_78 : decode cX5_liveWeek 78 = .ok (.ireturn, 1) := by decide +kernel
theorem dX5_nextSeed_0 : decode cX5_nextSeed 0 = .ok (.iload_n 0, 1) := by decide +kernel
theorem dX5_nextSeed_1 : decode cX5_nextSeed 1 = .ok (.ldc_w 276, 3) := by decide +kernel
theorem dX5_nextSeed_4 : decode cX5_nextSeed 4 = .ok (.imul, 1) := by decide +kernel
theorem dX5_nextSeed_5 : decode cX5_nextSeed 5 = .ok (.sipush 12345, 3) := by decide +kernel
theorem dX5_nextSeed_8 : decode cX5_nextSeed 8 = .ok (.iadd, 1) := by decide +kernel
theorem dX5_nextSeed_9 : decode cX5_nextSeed 9 = .ok (.ireturn, 1) := by decide +kernel
theorem dX5_drawn_0 : decode cX5_drawn 0 = .ok (.iload_n 1, 1) := by decide +kernel
theorem dX5_drawn_1 : decode cX5_drawn 1 = .ok (.iconst 1, 1) := by decide +kernel
theorem dX5_drawn_2 : decode cX5_drawn 2 = .ok (.if_icmp .ge 5, 3) := by decide +kernel
theorem dX5_drawn_5 : decode cX5_drawn 5 = .ok (.iconst 0, 1) := by decide +kernel
theorem dX5_drawn_6 : decode cX5_drawn 6 = .ok (.ireturn, 1) := by decide +kernel
theorem dX5_drawn_7 : decode cX5_drawn 7 = .ok (.iload_n 0, 1) := by decide +kernel
theorem dX5_drawn_8 : decode cX5_drawn 8 = .ok (.ldc_w 277, 3) := by decide +kernel
theorem dX5_drawn_11 : decode cX5_drawn 11 = .ok (.iand, 1) := by decide +kernel
theorem dX5_drawn_12 : decode cX5_drawn 12 = .ok (.ldc_w 278, 3) := by decide +kernel
theorem dX5_drawn_15 : decode cX5_drawn 15 = .ok (.idiv, 1) := by decide +kernel
theorem dX5_drawn_16 : decode cX5_drawn 16 = .ok (.iload_n 1, 1) := by decide +kernel
theorem dX5_drawn_17 : decode cX5_drawn 17 = .ok (.irem, 1) := by decide +kernel
theorem dX5_drawn_18 : decode cX5_drawn 18 = .ok (.ireturn, 1) := by decide +kernel
theorem dX5_partOf_0 : decode cX5_partOf 0 = .ok (.lload_n 0, 1) := by decide +kernel
theorem dX5_partOf_1 : decode cX5_partOf 1 = .ok (.lconst 0, 1) := by decide +kernel
theorem dX5_partOf_2 : decode cX5_partOf 2 = .ok (.lcmp, 1) := by decide +kernel
theorem dX5_partOf_3 : decode cX5_partOf 3 = .ok (.ifCond .le 9, 3) := by decide +kernel
theorem dX5_partOf_6 : decode cX5_partOf 6 = .ok (.lload_n 2, 1) := by decide +kernel
theorem dX5_partOf_7 : decode cX5_partOf 7 = .ok (.lconst 0, 1) := by decide +kernel
theorem dX5_partOf_8 : decode cX5_partOf 8 = .ok (.lcmp, 1) := by decide +kernel
theorem dX5_partOf_9 : decode cX5_partOf 9 = .ok (.ifCond .gt 14, 3) := by decide +kernel
theorem dX5_partOf_12 : decode cX5_partOf 12 = .ok (.iload 4, 2) := by decide +kernel
theorem dX5_partOf_14 : decode cX5_partOf 14 = .ok (.ifCond .ne 7, 3) := by decide +kernel
theorem dX5_partOf_17 : decode cX5_partOf 17 = .ok (.lconst 0, 1) := by decide +kernel
theorem dX5_partOf_18 : decode cX5_partOf 18 = .ok (.goto 4, 3) := by decide +kernel
theorem dX5_partOf_21 : decode cX5_partOf 21 = .ok (.lconst 1, 1) := by decide +kernel
theorem dX5_partOf_22 : decode cX5_partOf 22 = .ok (.lreturn, 1) := by decide +kernel
theorem dX5_partOf_23 : decode cX5_partOf 23 = .ok (.iload 4, 2) := by decide +kernel
theorem dX5_partOf_25 : decode cX5_partOf 25 = .ok (.ifCond .ne 7, 3) := by decide +kernel
theorem dX5_partOf_28 : decode cX5_partOf 28 = .ok (.lload_n 0, 1) := by decide +kernel
theorem dX5_partOf_29 : decode cX5_partOf 29 = .ok (.goto 4, 3) := by decide +kernel
theorem dX5_partOf_32 : decode cX5_partOf 32 = .ok (.lload_n 2, 1) := by decide +kernel
theorem dX5_partOf_33 : decode cX5_partOf 33 = .ok (.lstore 5, 2) := by decide +kernel
theorem dX5_partOf_35 : decode cX5_partOf 35 = .ok (.lload_n 0, 1) := by decide +kernel
theorem dX5_partOf_36 : decode cX5_partOf 36 = .ok (.lload_n 2, 1) := by decide +kernel
theorem dX5_partOf_37 : decode cX5_partOf 37 = .ok (.invokestatic 279, 3) := by decide +kernel
theorem dX5_partOf_40 : decode cX5_partOf 40 = .ok (.lstore 7, 2) := by decide +kernel
theorem dX5_partOf_42 : decode cX5_partOf 42 = .ok (.lload 7, 2) := by decide +kernel
theorem dX5_partOf_44 : decode cX5_partOf 44 = .ok (.lconst 1, 1) := by decide +kernel
theorem dX5_partOf_45 : decode cX5_partOf 45 = .ok (.lcmp, 1) := by decide +kernel
theorem dX5_partOf_46 : decode cX5_partOf 46 = .ok (.ifCond .le 11, 3) := by decide +kernel
theorem dX5_partOf_49 : decode cX5_partOf 49 = .ok (.lload 5, 2) := by decide +kernel
theorem dX5_partOf_51 : decode cX5_partOf 51 = .ok (.lload 7, 2) := by decide +kernel
theorem dX5_partOf_53 : decode cX5_partOf 53 = .ok (.ldiv, 1) := by decide +kernel
theorem dX5_partOf_54 : decode cX5_partOf 54 = .ok (.goto 5, 3) := by decide +kernel
theorem dX5_partOf_57 : decode cX5_partOf 57 = .ok (.lload 5, 2) := by decide +kernel
theorem dX5_partOf_59 : decode cX5_partOf 59 = .ok (.lreturn, 1) := by decide +kernel
theorem dX5_commonDivisor_0 : decode cX5_commonDivisor 0 = .ok (.lload_n 0, 1) := by decide +kernel
theorem dX5_commonDivisor_1 : decode cX5_commonDivisor 1 = .ok (.lstore 4, 2) := by decide +kernel
theorem dX5_commonDivisor_3 : decode cX5_commonDivisor 3 = .ok (.lload_n 2, 1) := by decide +kernel
theorem dX5_commonDivisor_4 : decode cX5_commonDivisor 4 = .ok (.lstore 6, 2) := by decide +kernel
theorem dX5_commonDivisor_6 : decode cX5_commonDivisor 6 = .ok (.iconst 0, 1) := by decide +kernel
theorem dX5_commonDivisor_7 : decode cX5_commonDivisor 7 = .ok (.istore 8, 2) := by decide +kernel
theorem dX5_commonDivisor_9 : decode cX5_commonDivisor 9 = .ok (.iload 8, 2) := by decide +kernel
theorem dX5_commonDivisor_11 : decode cX5_commonDivisor 11 = .ok (.sipush 128, 3) := by decide +kernel
theorem dX5_commonDivisor_14 : decode cX5_commonDivisor 14 = .ok (.if_icmp .ge 31, 3) := by decide +kernel
theorem dX5_commonDivisor_17 : decode cX5_commonDivisor 17 = .ok (.lload 6, 2) := by decide +kernel
theorem dX5_commonDivisor_19 : decode cX5_commonDivisor 19 = .ok (.lconst 0, 1) := by decide +kernel
theorem dX5_commonDivisor_20 : decode cX5_commonDivisor 20 = .ok (.lcmp, 1) := by decide +kernel
theorem dX5_commonDivisor_21 : decode cX5_commonDivisor 21 = .ok (.ifCond .eq 24, 3) := by decide +kernel
theorem dX5_commonDivisor_24 : decode cX5_commonDivisor 24 = .ok (.lload 4, 2) := by decide +kernel
theorem dX5_commonDivisor_26 : decode cX5_commonDivisor 26 = .ok (.lload 6, 2) := by decide +kernel
theorem dX5_commonDivisor_28 : decode cX5_commonDivisor 28 = .ok (.lrem, 1) := by decide +kernel
theorem dX5_commonDivisor_29 : decode cX5_commonDivisor 29 = .ok (.lstore 9, 2) := by decide +kernel
theorem dX5_commonDivisor_31 : decode cX5_commonDivisor 31 = .ok (.lload 6, 2) := by decide +kernel
theorem dX5_commonDivisor_33 : decode cX5_commonDivisor 33 = .ok (.lstore 4, 2) := by decide +kernel
theorem dX5_commonDivisor_35 : decode cX5_commonDivisor 35 = .ok (.lload 9, 2) := by decide +kernel
theorem dX5_commonDivisor_37 : decode cX5_commonDivisor 37 = .ok (.lstore 6, 2) := by decide +kernel
theorem dX5_commonDivisor_39 : decode cX5_commonDivisor 39 = .ok (.iinc 8 1, 3) := by decide +kernel
theorem dX5_commonDivisor_42 : decode cX5_commonDivisor 42 = .ok (.goto (-33), 3) := by decide +kernel
theorem dX5_commonDivisor_45 : decode cX5_commonDivisor 45 = .ok (.lload 4, 2) := by decide +kernel
theorem dX5_commonDivisor_47 : decode cX5_commonDivisor 47 = .ok (.lreturn, 1) := by decide +kernel
end
section
theorem dX6_init_0 : decode cX6_init 0 = .ok (.aload_n 0, 1) := by decide +kernel
theorem dX6_init_1 : decode cX6_init 1 = .ok (.invokespecial 1, 3) := by decide +kernel
theorem dX6_init_4 : decode cX6_init 4 = .ok (.aload_n 0, 1) := by decide +kernel
theorem dX6_init_5 : decode cX6_init 5 = .ok (.bipush 9, 2) := by decide +kernel
theorem dX6_init_7 : decode cX6_init 7 = .ok (.newarray .int, 2) := by decide +kernel
theorem dX6_init_9 : decode cX6_init 9 = .ok (.putfield 7, 3) := by decide +kernel
theorem dX6_init_12 : decode cX6_init 12 = .ok (.aload_n 0, 1) := by decide +kernel
theorem dX6_init_13 : decode cX6_init 13 = .ok (.bipush 9, 2) := by decide +kernel
theorem dX6_init_15 : decode cX6_init 15 = .ok (.newarray .int, 2) := by decide +kernel
theorem dX6_init_17 : decode cX6_init 17 = .ok (.putfield 13, 3) := by decide +kernel
theorem dX6_init_20 : decode cX6_init 20 = .ok (.aload_n 0, 1) := by decide +kernel
theorem dX6_init_21 : decode cX6_init 21 = .ok (.bipush 9, 2) := by decide +kernel
theorem dX6_init_23 : decode cX6_init 23 = .ok (.newarray .int, 2) := by decide +kernel
theorem dX6_init_25 : decode cX6_init 25 = .ok (.putfield 16, 3) := by decide +kernel
theorem dX6_init_28 : decode cX6_init 28 = .ok (.aload_n 0, 1) := by decide +kernel
theorem dX6_init_29 : decode cX6_init 29 = .ok (.bipush 9, 2) := by decide +kernel
theorem dX6_init_31 : decode cX6_init 31 = .ok (.newarray .int, 2) := by decide +kernel
theorem dX6_init_33 : decode cX6_init 33 = .ok (.putfield 19, 3) := by decide +kernel
theorem dX6_init_36 : decode cX6_init 36 = .ok (.aload_n 0, 1) := by decide +kernel
theorem dX6_init_37 : decode cX6_init 37 = .ok (.bipush 7, 2) := by decide +kernel
theorem dX6_init_39 : decode cX6_init 39 = .ok (.newarray .int, 2) := by decide +kernel
theorem dX6_init_41 : decode cX6_init 41 = .ok (.putfield 22, 3) := by decide +kernel
theorem dX6_init_44 : decode cX6_init 44 = .ok (.aload_n 0, 1) := by decide +kernel
theorem dX6_init_45 : decode cX6_init 45 = .ok (.bipush 96, 2) := by decide +kernel
theorem dX6_init_47 : decode cX6_init 47 = .ok (.newarray .int, 2) := by decide +kernel
theorem dX6_init_49 : decode cX6_init 49 = .ok (.putfield 25, 3) := by decide +kernel
theorem dX6_init_52 : decode cX6_init 52 = .ok (.aload_n 0, 1) := by decide +kernel
theorem dX6_init_53 : decode cX6_init 53 = .ok (.bipush 49, 2) := by decide +kernel
theorem dX6_init_55 : decode cX6_init 55 = .ok (.newarray .int, 2) := by decide +kernel
theorem dX6_init_57 : decode cX6_init 57 = .ok (.putfield 28, 3) := by decide +kernel
theorem dX6_init_60 : decode cX6_init 60 = .ok (.aload_n 0, 1) := by decide +kernel
theorem dX6_init_61 : decode cX6_init 61 = .ok (.bipush 49, 2) := by decide +kernel
theorem dX6_init_63 : decode cX6_init 63 = .ok (.newarray .int, 2) := by decide +kernel
theorem dX6_init_65 : decode cX6_init 65 = .ok (.putfield 31, 3) := by decide +kernel
theorem dX6_init_68 : decode cX6_init 68 = .ok (.aload_n 0, 1) := by decide +kernel
theorem dX6_init_69 : decode cX6_init 69 = .ok (.bipush 98, 2) := by decide +kernel
theorem dX6_init_71 : decode cX6_init 71 = .ok (.newarray .int, 2) := by decide +kernel
theorem dX6_init_73 : decode cX6_init 73 = .ok (.putfield 34, 3) := by decide +kernel
theorem dX6_init_76 : decode cX6_init 76 = .ok (.aload_n 0, 1) := by decide +kernel
theorem dX6_init_77 : decode cX6_init 77 = .ok (.bipush 41, 2) := by decide +kernel
theorem dX6_init_79 : decode cX6_init 79 = .ok (.newarray .int, 2) := by decide +kernel
theorem dX6_init_81 : decode cX6_init 81 = .ok (.putfield 37, 3) := by decide +kernel
theorem dX6_init_84 : decode cX6_init 84 = .ok (.aload_n 0, 1) := by decide +kernel
theorem dX6_init_85 : decode cX6_init 85 = .ok (.bipush 41, 2) := by decide +kernel
theorem dX6_init_87 : decode cX6_init 87 = .ok (.newarray .int, 2) := by decide +kernel
theorem dX6_init_89 : decode cX6_init 89 = .ok (.putfield 40, 3) := by decide +kernel
theorem dX6_init_92 : decode cX6_init 92 = .ok (.aload_n 0, 1) := by decide +kernel
theorem dX6_init_93 : decode cX6_init 93 = .ok (.sipush 328, 3) := by decide +kernel
theorem dX6_init_96 : decode cX6_init 96 = .ok (.newarray .int, 2) := by decide +kernel
theorem dX6_init_98 : decode cX6_init 98 = .ok (.putfield 43, 3) := by decide +kernel
theorem dX6_init_101 : decode cX6_init 101 = .ok (.aload_n 0, 1) := by decide +kernel
theorem dX6_init_102 : decode cX6_init 102 = .ok (.bipush 41, 2) := by decide +kernel
theorem dX6_init_104 : decode cX6_init 104 = .ok (.newarray .int, 2) := by decide +kernel
theorem dX6_init_106 : decode cX6_init 106 = .ok (.putfield 46, 3) := by decide +kernel
theorem dX6_init_109 : decode cX6_init 109 = .ok (.aload_n 0, 1) := by decide +kernel
theorem dX6_init_110 : decode cX6_init 110 = .ok (.bipush 9, 2) := by decide +kernel
theorem dX6_init_112 : decode cX6_init 112 = .ok (.newarray .int, 2) := by decide +kernel
theorem dX6_init_114 : decode cX6_init 114 = .ok (.putfield 49, 3) := by decide +kernel
theorem dX6_init_117 : decode cX6_init 117 = .ok (.aload_n 0, 1) := by decide +kernel
theorem dX6_init_118 : decode cX6_init 118 = .ok (.bipush 12, 2) := by decide +kernel
theorem dX6_init_120 : decode cX6_init 120 = .ok (.newarray .int, 2) := by decide +kernel
theorem dX6_init_122 : decode cX6_init 122 = .ok (.putfield 52, 3) := by decide +kernel
theorem dX6_init_125 : decode cX6_init 125 = .ok (.aload_n 0, 1) := by decide +kernel
theorem dX6_init_126 : decode cX6_init 126 = .ok (.bipush 8, 2) := by decide +kernel
theorem dX6_init_128 : decode cX6_init 128 = .ok (.newarray .int, 2) := by decide +kernel
theorem dX6_init_130 : decode cX6_init 130 = .ok (.putfield 55, 3) := by decide +kernel
theorem dX6_init_133 : decode cX6_init 133 = .ok (.aload_n 0, 1) := by decide +kernel
theorem dX6_init_134 : decode cX6_init 134 = .ok (.iconst 0, 1) := by decide +kernel
theorem dX6_init_135 : decode cX6_init 135 = .ok (.putfield 58, 3) := by decide +kernel
theorem dX6_init_138 : decode cX6_init 138 = .ok (.return_, 1) := by decide +kernel
theorem dX6_in_0 : decode cX6_in 0 = .ok (.lload_n 0, 1) := by decide +kernel
theorem dX6_in_1 : decode cX6_in 1 = .ok (.lload_n 2, 1) := by decide +kernel
theorem dX6_in_2 : decode cX6_in 2 = .ok (.lcmp, 1) := by decide +kernel
theorem dX6_in_3 : decode cX6_in 3 = .ok (.ifCond .lt 14, 3) := by decide +kernel
theorem dX6_in_6 : decode cX6_in 6 = .ok (.lload_n 0, 1) := by decide +kernel
theorem dX6_in_7 : decode cX6_in 7 = .ok (.lload 4, 2) := by decide +kernel
theorem dX6_in_9 : decode cX6_in 9 = .ok (.lcmp, 1) := by decide +kernel
theorem dX6_in_10 : decode cX6_in 10 = .ok (.ifCond .gt 7, 3) := by decide +kernel
theorem dX6_in_13 : decode cX6_in 13 = .ok (.iconst 1, 1) := by decide +kernel
theorem dX6_in_14 : decode cX6_in 14 = .ok (.goto 4, 3) := by decide +kernel
theorem dX6_in_17 : decode cX6_in 17 = .ok (.iconst 0, 1) := by decide +kernel
theorem dX6_in_18 : decode cX6_in 18 = .ok (.ireturn, 1) := by decide +kernel
theorem dX6_refuse_0 : decode cX6_refuse 0 = .ok (.aload_n 0, 1) := by decide +kernel
theorem dX6_refuse_1 : decode cX6_refuse 1 = .ok (.getfield 22, 3) := by decide +kernel
theorem dX6_refuse_4 : decode cX6_refuse 4 = .ok (.iload_n 1, 1) := by decide +kernel
theorem dX6_refuse_5 : decode cX6_refuse 5 = .ok (.ineg, 1) := by decide +kernel
theorem dX6_refuse_6 : decode cX6_refuse 6 = .ok (.dup2, 1) := by decide +kernel
theorem dX6_refuse_7 : decode cX6_refuse 7 = .ok (.iaload, 1) := by decide +kernel
theorem dX6_refuse_8 : decode cX6_refuse 8 = .ok (.iconst 1, 1) := by decide +kernel
theorem dX6_refuse_9 : decode cX6_refuse 9 = .ok (.iadd, 1) := by decide +kernel
theorem dX6_refuse_10 : decode cX6_refuse 10 = .ok (.iastore, 1) := by decide +kernel
theorem dX6_refuse_11 : decode cX6_refuse 11 = .ok (.iload_n 1, 1) := by decide +kernel
theorem dX6_refuse_12 : decode cX6_refuse 12 = .ok (.ireturn, 1) := by decide +kernel
theorem dX6_isHouse_0 : decode cX6_isHouse 0 = .ok (.iload_n 1, 1) := by decide +kernel
theorem dX6_isHouse_1 : decode cX6_isHouse 1 = .ok (.i2l, 1) := by decide +kernel
theorem dX6_isHouse_2 : decode cX6_isHouse 2 = .ok (.lconst 0, 1) := by decide +kernel
theorem dX6_isHouse_3 : decode cX6_isHouse 3 = .ok (.aload_n 0, 1) := by decide +kernel
theorem dX6_isHouse_4 : decode cX6_isHouse 4 = .ok (.getfield 62, 3) := by decide +kernel
theorem dX6_isHouse_7 : decode cX6_isHouse 7 = .ok (.iconst 1, 1) := by decide +kernel
theorem dX6_isHouse_8 : decode cX6_isHouse 8 = .ok (.isub, 1) := by decide +kernel
theorem dX6_isHouse_9 : decode cX6_isHouse 9 = .ok (.i2l, 1) := by decide +kernel
theorem dX6_isHouse_10 : decode cX6_isHouse 10 = .ok (.invokestatic 65, 3) := by decide +kernel
theorem dX6_isHouse_13 : decode cX6_isHouse 13 = .ok (.ireturn, 1) := by decide +kernel
theorem dX6_wrongNumber_0 : decode cX6_wrongNumber 0 = .ok (.iload_n 0, 1) := by decide +kernel
theorem dX6_wrongNumber_1 : decode cX6_wrongNumber 1 = .ok (.iload_n 1, 1) := by decide +kernel
theorem dX6_wrongNumber_2 : decode cX6_wrongNumber 2 = .ok (.if_icmp .ge 8, 3) := by decide +kernel
theorem dX6_wrongNumber_5 : decode cX6_wrongNumber 5 = .ok (.bipush (-4), 2) := by decide +kernel
theorem dX6_wrongNumber_7 : decode cX6_wrongNumber 7 = .ok (.goto 14, 3) := by decide +kernel
theorem dX6_wrongNumber_10 : decode cX6_wrongNumber 10 = .ok (.iload_n 0, 1) := by decide +kernel
theorem dX6_wrongNumber_11 : decode cX6_wrongNumber 11 = .ok (.iload_n 2, 1) := by decide +kernel
theorem dX6_wrongNumber_12 : decode cX6_wrongNumber 12 = .ok (.if_icmp .le 8, 3) := by decide +kernel
theorem dX6_wrongNumber_15 : decode cX6_wrongNumber 15 = .ok (.bipush (-6), 2) := by decide +kernel
theorem dX6_wrongNumber_17 : decode cX6_wrongNumber 17 = .ok (.goto 4, 3) := by decide +kernel
theorem dX6_wrongNumber_20 : decode cX6_wrongNumber 20 = .ok (.iconst 0, 1) := by decide +kernel
theorem dX6_wrongNumber_21 : decode cX6_wrongNumber 21 = .ok (.ireturn, 1) := by decide +kernel
theorem dX6_wrongBit_0 : decode cX6_wrongBit 0 = .ok (.iload_n 0, 1) := by decide +kernel
theorem dX6_wrongBit_1 : decode cX6_wrongBit 1 = .ok (.ifCond .ne 19, 3) := by decide +kernel
theorem dX6_wrongBit_4 : decode cX6_wrongBit 4 = .ok (.iload_n 1, 1) := by decide +kernel
theorem dX6_wrongBit_5 : decode cX6_wrongBit 5 = .ok (.i2l, 1) := by decide +kernel
theorem dX6_wrongBit_6 : decode cX6_wrongBit 6 = .ok (.lconst 0, 1) := by decide +kernel
theorem dX6_wrongBit_7 : decode cX6_wrongBit 7 = .ok (.iload_n 2, 1) := by decide +kernel
theorem dX6_wrongBit_8 : decode cX6_wrongBit 8 = .ok (.i2l, 1) := by decide +kernel
theorem dX6_wrongBit_9 : decode cX6_wrongBit 9 = .ok (.invokestatic 65, 3) := by decide +kernel
theorem dX6_wrongBit_12 : decode cX6_wrongBit 12 = .ok (.ifCond .ne 8, 3) := by decide +kernel
theorem dX6_wrongBit_15 : decode cX6_wrongBit 15 = .ok (.bipush (-2), 2) := by decide +kernel
theorem dX6_wrongBit_17 : decode cX6_wrongBit 17 = .ok (.goto 4, 3) := by decide +kernel
theorem dX6_wrongBit_20 : decode cX6_wrongBit 20 = .ok (.iload_n 0, 1) := by decide +kernel
theorem dX6_wrongBit_21 : decode cX6_wrongBit 21 = .ok (.ireturn, 1) := by decide +kernel
theorem dX6_hasBit_0 : decode cX6_hasBit 0 = .ok (.iload_n 0, 1) := by decide +kernel
theorem dX6_hasBit_1 : decode cX6_hasBit 1 = .ok (.iload_n 1, 1) := by decide +kernel
theorem dX6_hasBit_2 : decode cX6_hasBit 2 = .ok (.ishr, 1) := by decide +kernel
theorem dX6_hasBit_3 : decode cX6_hasBit 3 = .ok (.iconst 1, 1) := by decide +kernel
theorem dX6_hasBit_4 : decode cX6_hasBit 4 = .ok (.iand, 1) := by decide +kernel
theorem dX6_hasBit_5 : decode cX6_hasBit 5 = .ok (.iconst 1, 1) := by decide +kernel
theorem dX6_hasBit_6 : decode cX6_hasBit 6 = .ok (.if_icmp .ne 7, 3) := by decide +kernel
theorem dX6_hasBit_9 : decode cX6_hasBit 9 = .ok (.iconst 1, 1) := by decide +kernel
theorem dX6_hasBit_10 : decode cX6_hasBit 10 = .ok (.goto 4, 3) := by decide +kernel
theorem dX6_hasBit_13 : decode cX6_hasBit 13 = .ok (.iconst 0, 1) := by decide +kernel
theorem dX6_hasBit_14 : decode cX6_hasBit 14 = .ok (.ireturn, 1) := by decide +kernel
theorem dX6_onesOf_0 : decode cX6_onesOf 0 = .ok (.iconst 0, 1) := by decide +kernel
theorem dX6_onesOf_1 : decode cX6_onesOf 1 = .ok (.istore_n 1, 1) := by decide +kernel
theorem dX6_onesOf_2 : decode cX6_onesOf 2 = .ok (.iload_n 0, 1) := by decide +kernel
theorem dX6_onesOf_3 : decode cX6_onesOf 3 = .ok (.istore_n 2, 1) := by decide +kernel
theorem dX6_onesOf_4 : decode cX6_onesOf 4 = .ok (.iload_n 2, 1) := by decide +kernel
theorem dX6_onesOf_5 : decode cX6_onesOf 5 = .ok (.ifCond .eq 15, 3) := by decide +kernel
theorem dX6_onesOf_8 : decode cX6_onesOf 8 = .ok (.iinc 1 1, 3) := by decide +kernel
theorem dX6_onesOf_11 : decode cX6_onesOf 11 = .ok (.iload_n 2, 1) := by decide +kernel
theorem dX6_onesOf_12 : decode cX6_onesOf 12 = .ok (.iload_n 2, 1) := by decide +kernel
theorem dX6_onesOf_13 : decode cX6_onesOf 13 = .ok (.iconst 1, 1) := by decide +kernel
theorem dX6_onesOf_14 : decode cX6_onesOf 14 = .ok (.isub, 1) := by decide +kernel
theorem dX6_onesOf_15 : decode cX6_onesOf 15 = .ok (.iand, 1) := by decide +kernel
theorem dX6_onesOf_16 : decode cX6_onesOf 16 = .ok (.istore_n 2, 1) := by decide +kernel
theorem dX6_onesOf_17 : decode cX6_onesOf 17 = .ok (.goto (-13), 3) := by decide +kernel
theorem dX6_onesOf_20 : decode cX6_onesOf 20 = .ok (.iload_n 1, 1) := by decide +kernel
theorem dX6_onesOf_21 : decode cX6_onesOf 21 = .ok (.ireturn, 1) := by decide +kernel
theorem dX6_held_0 : decode cX6_held 0 = .ok (.iload_n 0, 1) := by decide +kernel
theorem dX6_held_1 : decode cX6_held 1 = .ok (.ifCond .ge 7, 3) := by decide +kernel
theorem dX6_held_4 : decode cX6_held 4 = .ok (.iconst 0, 1) := by decide +kernel
theorem dX6_held_5 : decode cX6_held 5 = .ok (.goto 13, 3) := by decide +kernel
theorem dX6_held_8 : decode cX6_held 8 = .ok (.iload_n 0, 1) := by decide +kernel
theorem dX6_held_9 : decode cX6_held 9 = .ok (.iload_n 1, 1) := by decide +kernel
theorem dX6_held_10 : decode cX6_held 10 = .ok (.if_icmp .le 7, 3) := by decide +kernel
theorem dX6_held_13 : decode cX6_held 13 = .ok (.iload_n 1, 1) := by decide +kernel
theorem dX6_held_14 : decode cX6_held 14 = .ok (.goto 4, 3) := by decide +kernel
theorem dX6_held_17 : decode cX6_held 17 = .ok (.iload_n 0, 1) := by decide +kernel
theorem dX6_held_18 : decode cX6_held 18 = .ok (.ireturn, 1) := by decide +kernel
theorem dX6_letsOf_0 : decode cX6_letsOf 0 = .ok (.aload_n 0, 1) := by decide +kernel
theorem dX6_letsOf_1 : decode cX6_letsOf 1 = .ok (.getfield 16, 3) := by decide +kernel
theorem dX6_letsOf_4 : decode cX6_letsOf 4 = .ok (.iload_n 1, 1) := by decide +kernel
theorem dX6_letsOf_5 : decode cX6_letsOf 5 = .ok (.iaload, 1) := by decide +kernel
theorem dX6_letsOf_6 : decode cX6_letsOf 6 = .ok (.istore_n 2, 1) := by decide +kernel
theorem dX6_letsOf_7 : decode cX6_letsOf 7 = .ok (.aload_n 0, 1) := by decide +kernel
theorem dX6_letsOf_8 : decode cX6_letsOf 8 = .ok (.getfield 7, 3) := by decide +kernel
theorem dX6_letsOf_11 : decode cX6_letsOf 11 = .ok (.iload_n 1, 1) := by decide +kernel
theorem dX6_letsOf_12 : decode cX6_letsOf 12 = .ok (.iaload, 1) := by decide +kernel
theorem dX6_letsOf_13 : decode cX6_letsOf 13 = .ok (.tableswitch 92 1 5 #[35, 37, 52, 63, 77], 35) := by decide +kernel
theorem dX6_letsOf_48 : decode cX6_letsOf 48 = .ok (.iload_n 2, 1) := by decide +kernel
theorem dX6_letsOf_49 : decode cX6_letsOf 49 = .ok (.ireturn, 1) := by decide +kernel
theorem dX6_letsOf_50 : decode cX6_letsOf 50 = .ok (.iload_n 2, 1) := by decide +kernel
theorem dX6_letsOf_51 : decode cX6_letsOf 51 = .ok (.iconst 2, 1) := by decide +kernel
theorem dX6_letsOf_52 : decode cX6_letsOf 52 = .ok (.idiv, 1) := by decide +kernel
theorem dX6_letsOf_53 : decode cX6_letsOf 53 = .ok (.iload_n 2, 1) := by decide +kernel
theorem dX6_letsOf_54 : decode cX6_letsOf 54 = .ok (.iconst 1, 1) := by decide +kernel
theorem dX6_letsOf_55 : decode cX6_letsOf 55 = .ok (.isub, 1) := by decide +kernel
theorem dX6_letsOf_56 : decode cX6_letsOf 56 = .ok (.bipush 99, 2) := by decide +kernel
theorem dX6_letsOf_58 : decode cX6_letsOf 58 = .ok (.invokestatic 69, 3) := by decide +kernel
theorem dX6_letsOf_61 : decode cX6_letsOf 61 = .ok (.invokestatic 69, 3) := by decide +kernel
theorem dX6_letsOf_64 : decode cX6_letsOf 64 = .ok (.ireturn, 1) := by decide +kernel
theorem dX6_letsOf_65 : decode cX6_letsOf 65 = .ok (.aload_n 0, 1) := by decide +kernel
theorem dX6_letsOf_66 : decode cX6_letsOf 66 = .ok (.getfield 13, 3) := by decide +kernel
theorem dX6_letsOf_69 : decode cX6_letsOf 69 = .ok (.iload_n 1, 1) := by decide +kernel
theorem dX6_letsOf_70 : decode cX6_letsOf 70 = .ok (.iaload, 1) := by decide +kernel
theorem dX6_letsOf_71 : decode cX6_letsOf 71 = .ok (.iload_n 2, 1) := by decide +kernel
theorem dX6_letsOf_72 : decode cX6_letsOf 72 = .ok (.invokestatic 69, 3) := by decide +kernel
theorem dX6_letsOf_75 : decode cX6_letsOf 75 = .ok (.ireturn, 1) := by decide +kernel
theorem dX6_letsOf_76 : decode cX6_letsOf 76 = .ok (.iload_n 2, 1) := by decide +kernel
theorem dX6_letsOf_77 : decode cX6_letsOf 77 = .ok (.aload_n 0, 1) := by decide +kernel
theorem dX6_letsOf_78 : decode cX6_letsOf 78 = .ok (.getfield 13, 3) := by decide +kernel
theorem dX6_letsOf_81 : decode cX6_letsOf 81 = .ok (.iload_n 1, 1) := by decide +kernel
theorem dX6_letsOf_82 : decode cX6_letsOf 82 = .ok (.iaload, 1) := by decide +kernel
theorem dX6_letsOf_83 : decode cX6_letsOf 83 = .ok (.isub, 1) := by decide +kernel
theorem dX6_letsOf_84 : decode cX6_letsOf 84 = .ok (.bipush 99, 2) := by decide +kernel
theorem dX6_letsOf_86 : decode cX6_letsOf 86 = .ok (.invokestatic 69, 3) := by decide +kernel
theorem dX6_letsOf_89 : decode cX6_letsOf 89 = .ok (.ireturn, 1) := by decide +kernel
theorem dX6_letsOf_90 : decode cX6_letsOf 90 = .ok (.iload_n 2, 1) := by decide +kernel
theorem dX6_letsOf_91 : decode cX6_letsOf 91 = .ok (.iconst 4, 1) := by decide +kernel
theorem dX6_letsOf_92 : decode cX6_letsOf 92 = .ok (.idiv, 1) := by decide +kernel
theorem dX6_letsOf_93 : decode cX6_letsOf 93 = .ok (.iload_n 2, 1) := by decide +kernel
theorem dX6_letsOf_94 : decode cX6_letsOf 94 = .ok (.iconst 3, 1) := by decide +kernel
theorem dX6_letsOf_95 : decode cX6_letsOf 95 = .ok (.isub, 1) := by decide +kernel
theorem dX6_letsOf_96 : decode cX6_letsOf 96 = .ok (.bipush 99, 2) := by decide +kernel
theorem dX6_letsOf_98 : decode cX6_letsOf 98 = .ok (.invokestatic 69, 3) := by decide +kernel
theorem dX6_letsOf_101 : decode cX6_letsOf 101 = .ok (.invokestatic 69, 3) := by decide +kernel
theorem dX6_letsOf_104 : decode cX6_letsOf 104 = .ok (.ireturn, 1) := by decide +kernel
theorem dX6_letsOf_105 : decode cX6_letsOf 105 = .ok (.iload_n 2, 1) := by decide +kernel
theorem dX6_letsOf_106 : decode cX6_letsOf 106 = .ok (.iconst 1, 1) := by decide +kernel
theorem dX6_letsOf_107 : decode cX6_letsOf 107 = .ok (.iadd, 1) := by decide +kernel
theorem dX6_letsOf_108 : decode cX6_letsOf 108 = .ok (.iconst 2, 1) := by decide +kernel
theorem dX6_letsOf_109 : decode cX6_letsOf 109 = .ok (.idiv, 1) := by decide +kernel
theorem dX6_letsOf_110 : decode cX6_letsOf 110 = .ok (.ireturn, 1) := by decide +kernel
theorem dX6_addsOf_0 : decode cX6_addsOf 0 = .ok (.aload_n 0, 1) := by decide +kernel
theorem dX6_addsOf_1 : decode cX6_addsOf 1 = .ok (.getfield 7, 3) := by decide +kernel
theorem dX6_addsOf_4 : decode cX6_addsOf 4 = .ok (.iload_n 1, 1) := by decide +kernel
theorem dX6_addsOf_5 : decode cX6_addsOf 5 = .ok (.iaload, 1) := by decide +kernel
theorem dX6_addsOf_6 : decode cX6_addsOf 6 = .ok (.tableswitch 63 1 5 #[34, 41, 43, 45, 54], 34) := by decide +kernel
theorem dX6_addsOf_40 : decode cX6_addsOf 40 = .ok (.aload_n 0, 1) := by decide +kernel
theorem dX6_addsOf_41 : decode cX6_addsOf 41 = .ok (.getfield 13, 3) := by decide +kernel
theorem dX6_addsOf_44 : decode cX6_addsOf 44 = .ok (.iload_n 1, 1) := by decide +kernel
theorem dX6_addsOf_45 : decode cX6_addsOf 45 = .ok (.iaload, 1) := by decide +kernel
theorem dX6_addsOf_46 : decode cX6_addsOf 46 = .ok (.ireturn, 1) := by decide +kernel
theorem dX6_addsOf_47 : decode cX6_addsOf 47 = .ok (.iconst 3, 1) := by decide +kernel
theorem dX6_addsOf_48 : decode cX6_addsOf 48 = .ok (.ireturn, 1) := by decide +kernel
theorem dX6_addsOf_49 : decode cX6_addsOf 49 = .ok (.iconst 0, 1) := by decide +kernel
theorem dX6_addsOf_50 : decode cX6_addsOf 50 = .ok (.ireturn, 1) := by decide +kernel
theorem dX6_addsOf_51 : decode cX6_addsOf 51 = .ok (.aload_n 0, 1) := by decide +kernel
theorem dX6_addsOf_52 : decode cX6_addsOf 52 = .ok (.getfield 13, 3) := by decide +kernel
theorem dX6_addsOf_55 : decode cX6_addsOf 55 = .ok (.iload_n 1, 1) := by decide +kernel
theorem dX6_addsOf_56 : decode cX6_addsOf 56 = .ok (.iaload, 1) := by decide +kernel
theorem dX6_addsOf_57 : decode cX6_addsOf 57 = .ok (.iconst 2, 1) := by decide +kernel
theorem dX6_addsOf_58 : decode cX6_addsOf 58 = .ok (.idiv, 1) := by decide +kernel
theorem dX6_addsOf_59 : decode cX6_addsOf 59 = .ok (.ireturn, 1) := by decide +kernel
theorem dX6_addsOf_60 : decode cX6_addsOf 60 = .ok (.aload_n 0, 1) := by decide +kernel
theorem dX6_addsOf_61 : decode cX6_addsOf 61 = .ok (.getfield 13, 3) := by decide +kernel
theorem dX6_addsOf_64 : decode cX6_addsOf 64 = .ok (.iload_n 1, 1) := by decide +kernel
theorem dX6_addsOf_65 : decode cX6_addsOf 65 = .ok (.iaload, 1) := by decide +kernel
theorem dX6_addsOf_66 : decode cX6_addsOf 66 = .ok (.iconst 3, 1) := by decide +kernel
theorem dX6_addsOf_67 : decode cX6_addsOf 67 = .ok (.iadd, 1) := by decide +kernel
theorem dX6_addsOf_68 : decode cX6_addsOf 68 = .ok (.ireturn, 1) := by decide +kernel
theorem dX6_addsOf_69 : decode cX6_addsOf 69 = .ok (.iconst 1, 1) := by decide +kernel
theorem dX6_addsOf_70 : decode cX6_addsOf 70 = .ok (.ireturn, 1) := by decide +kernel
theorem dX6_pourIn_0 : decode cX6_pourIn 0 = .ok (.aload_n 0, 1) := by decide +kernel
theorem dX6_pourIn_1 : decode cX6_pourIn 1 = .ok (.getfield 16, 3) := by decide +kernel
theorem dX6_pourIn_4 : decode cX6_pourIn 4 = .ok (.iload_n 1, 1) := by decide +kernel
theorem dX6_pourIn_5 : decode cX6_pourIn 5 = .ok (.aload_n 0, 1) := by decide +kernel
theorem dX6_pourIn_6 : decode cX6_pourIn 6 = .ok (.getfield 16, 3) := by decide +kernel
theorem dX6_pourIn_9 : decode cX6_pourIn 9 = .ok (.iload_n 1, 1) := by decide +kernel
theorem dX6_pourIn_10 : decode cX6_pourIn 10 = .ok (.iaload, 1) := by decide +kernel
theorem dX6_pourIn_11 : decode cX6_pourIn 11 = .ok (.iload_n 2, 1) := by decide +kernel
theorem dX6_pourIn_12 : decode cX6_pourIn 12 = .ok (.iadd, 1) := by decide +kernel
theorem dX6_pourIn_13 : decode cX6_pourIn 13 = .ok (.bipush 99, 2) := by decide +kernel
theorem dX6_pourIn_15 : decode cX6_pourIn 15 = .ok (.invokestatic 69, 3) := by decide +kernel
theorem dX6_pourIn_18 : decode cX6_pourIn 18 = .ok (.iastore, 1) := by decide +kernel
theorem dX6_pourIn_19 : decode cX6_pourIn 19 = .ok (.aload_n 0, 1) := by decide +kernel
theorem dX6_pourIn_20 : decode cX6_pourIn 20 = .ok (.dup, 1) := by decide +kernel
theorem dX6_pourIn_21 : decode cX6_pourIn 21 = .ok (.getfield 73, 3) := by decide +kernel
theorem dX6_pourIn_24 : decode cX6_pourIn 24 = .ok (.iload_n 2, 1) := by decide +kernel
theorem dX6_pourIn_25 : decode cX6_pourIn 25 = .ok (.ifCond .le 9, 3) := by decide +kernel
theorem dX6_pourIn_28 : decode cX6_pourIn 28 = .ok (.iconst 1, 1) := by decide +kernel
theorem dX6_pourIn_29 : decode cX6_pourIn 29 = .ok (.iload_n 1, 1) := by decide +kernel
theorem dX6_pourIn_30 : decode cX6_pourIn 30 = .ok (.ishl, 1) := by decide +kernel
theorem dX6_pourIn_31 : decode cX6_pourIn 31 = .ok (.goto 4, 3) := by decide +kernel
theorem dX6_pourIn_34 : decode cX6_pourIn 34 = .ok (.iconst 0, 1) := by decide +kernel
theorem dX6_pourIn_35 : decode cX6_pourIn 35 = .ok (.ior, 1) := by decide +kernel
theorem dX6_pourIn_36 : decode cX6_pourIn 36 = .ok (.putfield 73, 3) := by decide +kernel
theorem dX6_pourIn_39 : decode cX6_pourIn 39 = .ok (.return_, 1) := by decide +kernel
theorem dX6_hourBy_0 : decode cX6_hourBy 0 = .ok (.aload_n 0, 1) := by decide +kernel
theorem dX6_hourBy_1 : decode cX6_hourBy 1 = .ok (.dup, 1) := by decide +kernel
theorem dX6_hourBy_2 : decode cX6_hourBy 2 = .ok (.getfield 76, 3) := by decide +kernel
theorem dX6_hourBy_5 : decode cX6_hourBy 5 = .ok (.iconst 1, 1) := by decide +kernel
theorem dX6_hourBy_6 : decode cX6_hourBy 6 = .ok (.iadd, 1) := by decide +kernel
theorem dX6_hourBy_7 : decode cX6_hourBy 7 = .ok (.putfield 76, 3) := by decide +kernel
theorem dX6_hourBy_10 : decode cX6_hourBy 10 = .ok (.aload_n 0, 1) := by decide +kernel
theorem dX6_hourBy_11 : decode cX6_hourBy 11 = .ok (.iconst 0, 1) := by decide +kernel
theorem dX6_hourBy_12 : decode cX6_hourBy 12 = .ok (.putfield 79, 3) := by decide +kernel
theorem dX6_hourBy_15 : decode cX6_hourBy 15 = .ok (.iconst 0, 1) := by decide +kernel
theorem dX6_hourBy_16 : decode cX6_hourBy 16 = .ok (.istore_n 2, 1) := by decide +kernel
theorem dX6_hourBy_17 : decode cX6_hourBy 17 = .ok (.iload_n 2, 1) := by decide +kernel
theorem dX6_hourBy_18 : decode cX6_hourBy 18 = .ok (.aload_n 0, 1) := by decide +kernel
theorem dX6_hourBy_19 : decode cX6_hourBy 19 = .ok (.getfield 62, 3) := by decide +kernel
theorem dX6_hourBy_22 : decode cX6_hourBy 22 = .ok (.if_icmp .ge 127, 3) := by decide +kernel
theorem dX6_hourBy_25 : decode cX6_hourBy 25 = .ok (.iload_n 1, 1) := by decide +kernel
theorem dX6_hourBy_26 : decode cX6_hourBy 26 = .ok (.ifCond .ne 14, 3) := by decide +kernel
theorem dX6_hourBy_29 : decode cX6_hourBy 29 = .ok (.aload_n 0, 1) := by decide +kernel
theorem dX6_hourBy_30 : decode cX6_hourBy 30 = .ok (.getfield 83, 3) := by decide +kernel
theorem dX6_hourBy_33 : decode cX6_hourBy 33 = .ok (.iload_n 2, 1) := by decide +kernel
theorem dX6_hourBy_34 : decode cX6_hourBy 34 = .ok (.invokestatic 86, 3) := by decide +kernel
theorem dX6_hourBy_37 : decode cX6_hourBy 37 = .ok (.ifCond .eq 7, 3) := by decide +kernel
theorem dX6_hourBy_40 : decode cX6_hourBy 40 = .ok (.iconst 0, 1) := by decide +kernel
theorem dX6_hourBy_41 : decode cX6_hourBy 41 = .ok (.goto 8, 3) := by decide +kernel
theorem dX6_hourBy_44 : decode cX6_hourBy 44 = .ok (.aload_n 0, 1) := by decide +kernel
theorem dX6_hourBy_45 : decode cX6_hourBy 45 = .ok (.iload_n 2, 1) := by decide +kernel
theorem dX6_hourBy_46 : decode cX6_hourBy 46 = .ok (.invokevirtual 90, 3) := by decide +kernel
theorem dX6_hourBy_49 : decode cX6_hourBy 49 = .ok (.istore_n 3, 1) := by decide +kernel
theorem dX6_hourBy_50 : decode cX6_hourBy 50 = .ok (.aload_n 0, 1) := by decide +kernel
theorem dX6_hourBy_51 : decode cX6_hourBy 51 = .ok (.getfield 16, 3) := by decide +kernel
theorem dX6_hourBy_54 : decode cX6_hourBy 54 = .ok (.iload_n 2, 1) := by decide +kernel
theorem dX6_hourBy_55 : decode cX6_hourBy 55 = .ok (.dup2, 1) := by decide +kernel
theorem dX6_hourBy_56 : decode cX6_hourBy 56 = .ok (.iaload, 1) := by decide +kernel
theorem dX6_hourBy_57 : decode cX6_hourBy 57 = .ok (.iload_n 3, 1) := by decide +kernel
theorem dX6_hourBy_58 : decode cX6_hourBy 58 = .ok (.isub, 1) := by decide +kernel
theorem dX6_hourBy_59 : decode cX6_hourBy 59 = .ok (.iastore, 1) := by decide +kernel
theorem dX6_hourBy_60 : decode cX6_hourBy 60 = .ok (.iload_n 3, 1) := by decide +kernel
theorem dX6_hourBy_61 : decode cX6_hourBy 61 = .ok (.ifCond .ne 7, 3) := by decide +kernel
theorem dX6_hourBy_64 : decode cX6_hourBy 64 = .ok (.iconst 0, 1) := by decide +kernel
theorem dX6_hourBy_65 : decode cX6_hourBy 65 = .ok (.goto 10, 3) := by decide +kernel
theorem dX6_hourBy_68 : decode cX6_hourBy 68 = .ok (.iload_n 3, 1) := by decide +kernel
theorem dX6_hourBy_69 : decode cX6_hourBy 69 = .ok (.aload_n 0, 1) := by decide +kernel
theorem dX6_hourBy_70 : decode cX6_hourBy 70 = .ok (.iload_n 2, 1) := by decide +kernel
theorem dX6_hourBy_71 : decode cX6_hourBy 71 = .ok (.invokevirtual 94, 3) := by decide +kernel
theorem dX6_hourBy_74 : decode cX6_hourBy 74 = .ok (.iadd, 1) := by decide +kernel
theorem dX6_hourBy_75 : decode cX6_hourBy 75 = .ok (.istore 4, 2) := by decide +kernel
theorem dX6_hourBy_77 : decode cX6_hourBy 77 = .ok (.aload_n 0, 1) := by decide +kernel
theorem dX6_hourBy_78 : decode cX6_hourBy 78 = .ok (.getfield 19, 3) := by decide +kernel
theorem dX6_hourBy_81 : decode cX6_hourBy 81 = .ok (.iload_n 2, 1) := by decide +kernel
theorem dX6_hourBy_82 : decode cX6_hourBy 82 = .ok (.iaload, 1) := by decide +kernel
theorem dX6_hourBy_83 : decode cX6_hourBy 83 = .ok (.aload_n 0, 1) := by decide +kernel
theorem dX6_hourBy_84 : decode cX6_hourBy 84 = .ok (.getfield 62, 3) := by decide +kernel
theorem dX6_hourBy_87 : decode cX6_hourBy 87 = .ok (.if_icmp .ge 18, 3) := by decide +kernel
theorem dX6_hourBy_90 : decode cX6_hourBy 90 = .ok (.aload_n 0, 1) := by decide +kernel
theorem dX6_hourBy_91 : decode cX6_hourBy 91 = .ok (.aload_n 0, 1) := by decide +kernel
theorem dX6_hourBy_92 : decode cX6_hourBy 92 = .ok (.getfield 19, 3) := by decide +kernel
theorem dX6_hourBy_95 : decode cX6_hourBy 95 = .ok (.iload_n 2, 1) := by decide +kernel
theorem dX6_hourBy_96 : decode cX6_hourBy 96 = .ok (.iaload, 1) := by decide +kernel
theorem dX6_hourBy_97 : decode cX6_hourBy 97 = .ok (.iload 4, 2) := by decide +kernel
theorem dX6_hourBy_99 : decode cX6_hourBy 99 = .ok (.invokevirtual 97, 3) := by decide +kernel
theorem dX6_hourBy_102 : decode cX6_hourBy 102 = .ok (.goto 41, 3) := by decide +kernel
theorem dX6_hourBy_105 : decode cX6_hourBy 105 = .ok (.aload_n 0, 1) := by decide +kernel
theorem dX6_hourBy_106 : decode cX6_hourBy 106 = .ok (.aload_n 0, 1) := by decide +kernel
theorem dX6_hourBy_107 : decode cX6_hourBy 107 = .ok (.getfield 101, 3) := by decide +kernel
theorem dX6_hourBy_110 : decode cX6_hourBy 110 = .ok (.iload 4, 2) := by decide +kernel
theorem dX6_hourBy_112 : decode cX6_hourBy 112 = .ok (.iadd, 1) := by decide +kernel
theorem dX6_hourBy_113 : decode cX6_hourBy 113 = .ok (.sipush 9999, 3) := by decide +kernel
theorem dX6_hourBy_116 : decode cX6_hourBy 116 = .ok (.invokestatic 69, 3) := by decide +kernel
theorem dX6_hourBy_119 : decode cX6_hourBy 119 = .ok (.putfield 101, 3) := by decide +kernel
theorem dX6_hourBy_122 : decode cX6_hourBy 122 = .ok (.aload_n 0, 1) := by decide +kernel
theorem dX6_hourBy_123 : decode cX6_hourBy 123 = .ok (.aload_n 0, 1) := by decide +kernel
theorem dX6_hourBy_124 : decode cX6_hourBy 124 = .ok (.getfield 79, 3) := by decide +kernel
theorem dX6_hourBy_127 : decode cX6_hourBy 127 = .ok (.ifCond .ne 8, 3) := by decide +kernel
theorem dX6_hourBy_130 : decode cX6_hourBy 130 = .ok (.iload 4, 2) := by decide +kernel
theorem dX6_hourBy_132 : decode cX6_hourBy 132 = .ok (.ifCond .le 7, 3) := by decide +kernel
theorem dX6_hourBy_135 : decode cX6_hourBy 135 = .ok (.iconst 1, 1) := by decide +kernel
theorem dX6_hourBy_136 : decode cX6_hourBy 136 = .ok (.goto 4, 3) := by decide +kernel
theorem dX6_hourBy_139 : decode cX6_hourBy 139 = .ok (.iconst 0, 1) := by decide +kernel
theorem dX6_hourBy_140 : decode cX6_hourBy 140 = .ok (.putfield 79, 3) := by decide +kernel
theorem dX6_hourBy_143 : decode cX6_hourBy 143 = .ok (.iinc 2 1, 3) := by decide +kernel
theorem dX6_hourBy_146 : decode cX6_hourBy 146 = .ok (.goto (-129), 3) := by decide +kernel
theorem dX6_hourBy_149 : decode cX6_hourBy 149 = .ok (.return_, 1) := by decide +kernel
theorem dX6_goHours_0 : decode cX6_goHours 0 = .ok (.iconst 0, 1) := by decide +kernel
theorem dX6_goHours_1 : decode cX6_goHours 1 = .ok (.istore_n 2, 1) := by decide +kernel
theorem dX6_goHours_2 : decode cX6_goHours 2 = .ok (.iload_n 2, 1) := by decide +kernel
theorem dX6_goHours_3 : decode cX6_goHours 3 = .ok (.iload_n 1, 1) := by decide +kernel
theorem dX6_goHours_4 : decode cX6_goHours 4 = .ok (.if_icmp .ge 14, 3) := by decide +kernel
theorem dX6_goHours_7 : decode cX6_goHours 7 = .ok (.aload_n 0, 1) := by decide +kernel
theorem dX6_goHours_8 : decode cX6_goHours 8 = .ok (.iconst 0, 1) := by decide +kernel
theorem dX6_goHours_9 : decode cX6_goHours 9 = .ok (.invokevirtual 104, 3) := by decide +kernel
theorem dX6_goHours_12 : decode cX6_goHours 12 = .ok (.iinc 2 1, 3) := by decide +kernel
theorem dX6_goHours_15 : decode cX6_goHours 15 = .ok (.goto (-13), 3) := by decide +kernel
theorem dX6_goHours_18 : decode cX6_goHours 18 = .ok (.return_, 1) := by decide +kernel
theorem dX6_allHold_0 : decode cX6_allHold 0 = .ok (.iconst 0, 1) := by decide +kernel
theorem dX6_allHold_1 : decode cX6_allHold 1 = .ok (.istore_n 1, 1) := by decide +kernel
theorem dX6_allHold_2 : decode cX6_allHold 2 = .ok (.iconst 0, 1) := by decide +kernel
theorem dX6_allHold_3 : decode cX6_allHold 3 = .ok (.istore_n 2, 1) := by decide +kernel
theorem dX6_allHold_4 : decode cX6_allHold 4 = .ok (.iload_n 2, 1) := by decide +kernel
theorem dX6_allHold_5 : decode cX6_allHold 5 = .ok (.aload_n 0, 1) := by decide +kernel
theorem dX6_allHold_6 : decode cX6_allHold 6 = .ok (.getfield 62, 3) := by decide +kernel
theorem dX6_allHold_9 : decode cX6_allHold 9 = .ok (.if_icmp .ge 18, 3) := by decide +kernel
theorem dX6_allHold_12 : decode cX6_allHold 12 = .ok (.iload_n 1, 1) := by decide +kernel
theorem dX6_allHold_13 : decode cX6_allHold 13 = .ok (.aload_n 0, 1) := by decide +kernel
theorem dX6_allHold_14 : decode cX6_allHold 14 = .ok (.getfield 16, 3) := by decide +kernel
theorem dX6_allHold_17 : decode cX6_allHold 17 = .ok (.iload_n 2, 1) := by decide +kernel
theorem dX6_allHold_18 : decode cX6_allHold 18 = .ok (.iaload, 1) := by decide +kernel
theorem dX6_allHold_19 : decode cX6_allHold 19 = .ok (.iadd, 1) := by decide +kernel
theorem dX6_allHold_20 : decode cX6_allHold 20 = .ok (.istore_n 1, 1) := by decide +kernel
theorem dX6_allHold_21 : decode cX6_allHold 21 = .ok (.iinc 2 1, 3) := by decide +kernel
theorem dX6_allHold_24 : decode cX6_allHold 24 = .ok (.goto (-20), 3) := by decide +kernel
theorem dX6_allHold_27 : decode cX6_allHold 27 = .ok (.iload_n 1, 1) := by decide +kernel
theorem dX6_allHold_28 : decode cX6_allHold 28 = .ok (.ireturn, 1) := by decide +kernel
theorem dX6_houseComes_0 : decode cX6_houseComes 0 = .ok (.iload_n 1, 1) := by decide +kernel
theorem dX6_houseComes_1 : decode cX6_houseComes 1 = .ok (.bipush 6, 2) := by decide +kernel
theorem dX6_houseComes_3 : decode cX6_houseComes 3 = .ok (.if_icmp .ge 16, 3) := by decide +kernel
theorem dX6_houseComes_6 : decode cX6_houseComes 6 = .ok (.aload_n 0, 1) := by decide +kernel
theorem dX6_houseComes_7 : decode cX6_houseComes 7 = .ok (.getfield 62, 3) := by decide +kernel
theorem dX6_houseComes_10 : decode cX6_houseComes 10 = .ok (.bipush 9, 2) := by decide +kernel
theorem dX6_houseComes_12 : decode cX6_houseComes 12 = .ok (.if_icmp .ge 7, 3) := by decide +kernel
theorem dX6_houseComes_15 : decode cX6_houseComes 15 = .ok (.iconst 1, 1) := by decide +kernel
theorem dX6_houseComes_16 : decode cX6_houseComes 16 = .ok (.goto 4, 3) := by decide +kernel
theorem dX6_houseComes_19 : decode cX6_houseComes 19 = .ok (.iconst 0, 1) := by decide +kernel
theorem dX6_houseComes_20 : decode cX6_houseComes 20 = .ok (.istore_n 3, 1) := by decide +kernel
theorem dX6_houseComes_21 : decode cX6_houseComes 21 = .ok (.iload_n 3, 1) := by decide +kernel
theorem dX6_houseComes_22 : decode cX6_houseComes 22 = .ok (.ifCond .eq 88, 3) := by decide +kernel
theorem dX6_houseComes_25 : decode cX6_houseComes 25 = .ok (.aload_n 0, 1) := by decide +kernel
theorem dX6_houseComes_26 : decode cX6_houseComes 26 = .ok (.getfield 7, 3) := by decide +kernel
theorem dX6_houseComes_29 : decode cX6_houseComes 29 = .ok (.aload_n 0, 1) := by decide +kernel
theorem dX6_houseComes_30 : decode cX6_houseComes 30 = .ok (.getfield 62, 3) := by decide +kernel
theorem dX6_houseComes_33 : decode cX6_houseComes 33 = .ok (.iload_n 1, 1) := by decide +kernel
theorem dX6_houseComes_34 : decode cX6_houseComes 34 = .ok (.iastore, 1) := by decide +kernel
theorem dX6_houseComes_35 : decode cX6_houseComes 35 = .ok (.aload_n 0, 1) := by decide +kernel
theorem dX6_houseComes_36 : decode cX6_houseComes 36 = .ok (.getfield 13, 3) := by decide +kernel
theorem dX6_houseComes_39 : decode cX6_houseComes 39 = .ok (.aload_n 0, 1) := by decide +kernel
theorem dX6_houseComes_40 : decode cX6_houseComes 40 = .ok (.getfield 62, 3) := by decide +kernel
theorem dX6_houseComes_43 : decode cX6_houseComes 43 = .ok (.iload_n 2, 1) := by decide +kernel
theorem dX6_houseComes_44 : decode cX6_houseComes 44 = .ok (.iastore, 1) := by decide +kernel
theorem dX6_houseComes_45 : decode cX6_houseComes 45 = .ok (.aload_n 0, 1) := by decide +kernel
theorem dX6_houseComes_46 : decode cX6_houseComes 46 = .ok (.getfield 16, 3) := by decide +kernel
theorem dX6_houseComes_49 : decode cX6_houseComes 49 = .ok (.aload_n 0, 1) := by decide +kernel
theorem dX6_houseComes_50 : decode cX6_houseComes 50 = .ok (.getfield 62, 3) := by decide +kernel
theorem dX6_houseComes_53 : decode cX6_houseComes 53 = .ok (.iconst 0, 1) := by decide +kernel
theorem dX6_houseComes_54 : decode cX6_houseComes 54 = .ok (.iastore, 1) := by decide +kernel
theorem dX6_houseComes_55 : decode cX6_houseComes 55 = .ok (.aload_n 0, 1) := by decide +kernel
theorem dX6_houseComes_56 : decode cX6_houseComes 56 = .ok (.getfield 19, 3) := by decide +kernel
theorem dX6_houseComes_59 : decode cX6_houseComes 59 = .ok (.aload_n 0, 1) := by decide +kernel
theorem dX6_houseComes_60 : decode cX6_houseComes 60 = .ok (.getfield 62, 3) := by decide +kernel
theorem dX6_houseComes_63 : decode cX6_houseComes 63 = .ok (.bipush 9, 2) := by decide +kernel
theorem dX6_houseComes_65 : decode cX6_houseComes 65 = .ok (.iastore, 1) := by decide +kernel
theorem dX6_houseComes_66 : decode cX6_houseComes 66 = .ok (.aload_n 0, 1) := by decide +kernel
theorem dX6_houseComes_67 : decode cX6_houseComes 67 = .ok (.dup, 1) := by decide +kernel
theorem dX6_houseComes_68 : decode cX6_houseComes 68 = .ok (.getfield 83, 3) := by decide +kernel
theorem dX6_houseComes_71 : decode cX6_houseComes 71 = .ok (.iconst 1, 1) := by decide +kernel
theorem dX6_houseComes_72 : decode cX6_houseComes 72 = .ok (.aload_n 0, 1) := by decide +kernel
theorem dX6_houseComes_73 : decode cX6_houseComes 73 = .ok (.getfield 62, 3) := by decide +kernel
theorem dX6_houseComes_76 : decode cX6_houseComes 76 = .ok (.ishl, 1) := by decide +kernel
theorem dX6_houseComes_77 : decode cX6_houseComes 77 = .ok (.iconst (-1), 1) := by decide +kernel
theorem dX6_houseComes_78 : decode cX6_houseComes 78 = .ok (.ixor, 1) := by decide +kernel
theorem dX6_houseComes_79 : decode cX6_houseComes 79 = .ok (.iand, 1) := by decide +kernel
theorem dX6_houseComes_80 : decode cX6_houseComes 80 = .ok (.putfield 83, 3) := by decide +kernel
theorem dX6_houseComes_83 : decode cX6_houseComes 83 = .ok (.aload_n 0, 1) := by decide +kernel
theorem dX6_houseComes_84 : decode cX6_houseComes 84 = .ok (.dup, 1) := by decide +kernel
theorem dX6_houseComes_85 : decode cX6_houseComes 85 = .ok (.getfield 73, 3) := by decide +kernel
theorem dX6_houseComes_88 : decode cX6_houseComes 88 = .ok (.iconst 1, 1) := by decide +kernel
theorem dX6_houseComes_89 : decode cX6_houseComes 89 = .ok (.aload_n 0, 1) := by decide +kernel
theorem dX6_houseComes_90 : decode cX6_houseComes 90 = .ok (.getfield 62, 3) := by decide +kernel
theorem dX6_houseComes_93 : decode cX6_houseComes 93 = .ok (.ishl, 1) := by decide +kernel
theorem dX6_houseComes_94 : decode cX6_houseComes 94 = .ok (.iconst (-1), 1) := by decide +kernel
theorem dX6_houseComes_95 : decode cX6_houseComes 95 = .ok (.ixor, 1) := by decide +kernel
theorem dX6_houseComes_96 : decode cX6_houseComes 96 = .ok (.iand, 1) := by decide +kernel
theorem dX6_houseComes_97 : decode cX6_houseComes 97 = .ok (.putfield 73, 3) := by decide +kernel
theorem dX6_houseComes_100 : decode cX6_houseComes 100 = .ok (.aload_n 0, 1) := by decide +kernel
theorem dX6_houseComes_101 : decode cX6_houseComes 101 = .ok (.dup, 1) := by decide +kernel
theorem dX6_houseComes_102 : decode cX6_houseComes 102 = .ok (.getfield 62, 3) := by decide +kernel
theorem dX6_houseComes_105 : decode cX6_houseComes 105 = .ok (.iconst 1, 1) := by decide +kernel
theorem dX6_houseComes_106 : decode cX6_houseComes 106 = .ok (.iadd, 1) := by decide +kernel
theorem dX6_houseComes_107 : decode cX6_houseComes 107 = .ok (.putfield 62, 3) := by decide +kernel
theorem dX6_houseComes_110 : decode cX6_houseComes 110 = .ok (.iload_n 3, 1) := by decide +kernel
theorem dX6_houseComes_111 : decode cX6_houseComes 111 = .ok (.ireturn, 1) := by decide +kernel
theorem dX6_feed_0 : decode cX6_feed 0 = .ok (.aload_n 0, 1) := by decide +kernel
theorem dX6_feed_1 : decode cX6_feed 1 = .ok (.iconst 0, 1) := by decide +kernel
theorem dX6_feed_2 : decode cX6_feed 2 = .ok (.putfield 58, 3) := by decide +kernel
theorem dX6_feed_5 : decode cX6_feed 5 = .ok (.iload_n 1, 1) := by decide +kernel
theorem dX6_feed_6 : decode cX6_feed 6 = .ok (.ifCond .ge 10, 3) := by decide +kernel
theorem dX6_feed_9 : decode cX6_feed 9 = .ok (.aload_n 0, 1) := by decide +kernel
theorem dX6_feed_10 : decode cX6_feed 10 = .ok (.bipush (-4), 2) := by decide +kernel
theorem dX6_feed_12 : decode cX6_feed 12 = .ok (.invokevirtual 108, 3) := by decide +kernel
theorem dX6_feed_15 : decode cX6_feed 15 = .ok (.ireturn, 1) := by decide +kernel
theorem dX6_feed_16 : decode cX6_feed 16 = .ok (.iload_n 1, 1) := by decide +kernel
theorem dX6_feed_17 : decode cX6_feed 17 = .ok (.sipush 255, 3) := by decide +kernel
theorem dX6_feed_20 : decode cX6_feed 20 = .ok (.if_icmp .gt 12, 3) := by decide +kernel
theorem dX6_feed_23 : decode cX6_feed 23 = .ok (.aload_n 0, 1) := by decide +kernel
theorem dX6_feed_24 : decode cX6_feed 24 = .ok (.getfield 111, 3) := by decide +kernel
theorem dX6_feed_27 : decode cX6_feed 27 = .ok (.bipush 96, 2) := by decide +kernel
theorem dX6_feed_29 : decode cX6_feed 29 = .ok (.if_icmp .ne 10, 3) := by decide +kernel
theorem dX6_feed_32 : decode cX6_feed 32 = .ok (.aload_n 0, 1) := by decide +kernel
theorem dX6_feed_33 : decode cX6_feed 33 = .ok (.bipush (-6), 2) := by decide +kernel
theorem dX6_feed_35 : decode cX6_feed 35 = .ok (.invokevirtual 108, 3) := by decide +kernel
theorem dX6_feed_38 : decode cX6_feed 38 = .ok (.ireturn, 1) := by decide +kernel
theorem dX6_feed_39 : decode cX6_feed 39 = .ok (.aload_n 0, 1) := by decide +kernel
theorem dX6_feed_40 : decode cX6_feed 40 = .ok (.getfield 25, 3) := by decide +kernel
theorem dX6_feed_43 : decode cX6_feed 43 = .ok (.aload_n 0, 1) := by decide +kernel
theorem dX6_feed_44 : decode cX6_feed 44 = .ok (.getfield 111, 3) := by decide +kernel
theorem dX6_feed_47 : decode cX6_feed 47 = .ok (.iload_n 1, 1) := by decide +kernel
theorem dX6_feed_48 : decode cX6_feed 48 = .ok (.iastore, 1) := by decide +kernel
theorem dX6_feed_49 : decode cX6_feed 49 = .ok (.aload_n 0, 1) := by decide +kernel
theorem dX6_feed_50 : decode cX6_feed 50 = .ok (.dup, 1) := by decide +kernel
theorem dX6_feed_51 : decode cX6_feed 51 = .ok (.getfield 111, 3) := by decide +kernel
theorem dX6_feed_54 : decode cX6_feed 54 = .ok (.iconst 1, 1) := by decide +kernel
theorem dX6_feed_55 : decode cX6_feed 55 = .ok (.iadd, 1) := by decide +kernel
theorem dX6_feed_56 : decode cX6_feed 56 = .ok (.putfield 111, 3) := by decide +kernel
theorem dX6_feed_59 : decode cX6_feed 59 = .ok (.aload_n 0, 1) := by decide +kernel
theorem dX6_feed_60 : decode cX6_feed 60 = .ok (.getfield 111, 3) := by decide +kernel
theorem dX6_feed_63 : decode cX6_feed 63 = .ok (.ireturn, 1) := by decide +kernel
theorem dX6_here_0 : decode cX6_here 0 = .ok (.aload_n 0, 1) := by decide +kernel
theorem dX6_here_1 : decode cX6_here 1 = .ok (.getfield 114, 3) := by decide +kernel
theorem dX6_here_4 : decode cX6_here 4 = .ok (.aload_n 0, 1) := by decide +kernel
theorem dX6_here_5 : decode cX6_here 5 = .ok (.getfield 111, 3) := by decide +kernel
theorem dX6_here_8 : decode cX6_here 8 = .ok (.if_icmp .ge 15, 3) := by decide +kernel
theorem dX6_here_11 : decode cX6_here 11 = .ok (.aload_n 0, 1) := by decide +kernel
theorem dX6_here_12 : decode cX6_here 12 = .ok (.getfield 25, 3) := by decide +kernel
theorem dX6_here_15 : decode cX6_here 15 = .ok (.aload_n 0, 1) := by decide +kernel
theorem dX6_here_16 : decode cX6_here 16 = .ok (.getfield 114, 3) := by decide +kernel
theorem dX6_here_19 : decode cX6_here 19 = .ok (.iaload, 1) := by decide +kernel
theorem dX6_here_20 : decode cX6_here 20 = .ok (.goto 4, 3) := by decide +kernel
theorem dX6_here_23 : decode cX6_here 23 = .ok (.iconst (-1), 1) := by decide +kernel
theorem dX6_here_24 : decode cX6_here 24 = .ok (.ireturn, 1) := by decide +kernel
theorem dX6_readDigits_0 : decode cX6_readDigits 0 = .ok (.iconst 0, 1) := by decide +kernel
theorem dX6_readDigits_1 : decode cX6_readDigits 1 = .ok (.istore_n 2, 1) := by decide +kernel
theorem dX6_readDigits_2 : decode cX6_readDigits 2 = .ok (.iconst 0, 1) := by decide +kernel
theorem dX6_readDigits_3 : decode cX6_readDigits 3 = .ok (.istore_n 3, 1) := by decide +kernel
theorem dX6_readDigits_4 : decode cX6_readDigits 4 = .ok (.iload_n 3, 1) := by decide +kernel
theorem dX6_readDigits_5 : decode cX6_readDigits 5 = .ok (.iload_n 1, 1) := by decide +kernel
theorem dX6_readDigits_6 : decode cX6_readDigits 6 = .ok (.if_icmp .ge 92, 3) := by decide +kernel
theorem dX6_readDigits_9 : decode cX6_readDigits 9 = .ok (.aload_n 0, 1) := by decide +kernel
theorem dX6_readDigits_10 : decode cX6_readDigits 10 = .ok (.aload_n 0, 1) := by decide +kernel
theorem dX6_readDigits_11 : decode cX6_readDigits 11 = .ok (.getfield 117, 3) := by decide +kernel
theorem dX6_readDigits_14 : decode cX6_readDigits 14 = .ok (.ifCond .ne 20, 3) := by decide +kernel
theorem dX6_readDigits_17 : decode cX6_readDigits 17 = .ok (.aload_n 0, 1) := by decide +kernel
theorem dX6_readDigits_18 : decode cX6_readDigits 18 = .ok (.invokevirtual 120, 3) := by decide +kernel
theorem dX6_readDigits_21 : decode cX6_readDigits 21 = .ok (.i2l, 1) := by decide +kernel
theorem dX6_readDigits_22 : decode cX6_readDigits 22 = .ok (.ldc2_w 124, 3) := by decide +kernel
theorem dX6_readDigits_25 : decode cX6_readDigits 25 = .ok (.ldc2_w 126, 3) := by decide +kernel
theorem dX6_readDigits_28 : decode cX6_readDigits 28 = .ok (.invokestatic 65, 3) := by decide +kernel
theorem dX6_readDigits_31 : decode cX6_readDigits 31 = .ok (.ifCond .ne 7, 3) := by decide +kernel
theorem dX6_readDigits_34 : decode cX6_readDigits 34 = .ok (.iconst 1, 1) := by decide +kernel
theorem dX6_readDigits_35 : decode cX6_readDigits 35 = .ok (.goto 4, 3) := by decide +kernel
theorem dX6_readDigits_38 : decode cX6_readDigits 38 = .ok (.iconst 0, 1) := by decide +kernel
theorem dX6_readDigits_39 : decode cX6_readDigits 39 = .ok (.putfield 117, 3) := by decide +kernel
theorem dX6_readDigits_42 : decode cX6_readDigits 42 = .ok (.aload_n 0, 1) := by decide +kernel
theorem dX6_readDigits_43 : decode cX6_readDigits 43 = .ok (.getfield 117, 3) := by decide +kernel
theorem dX6_readDigits_46 : decode cX6_readDigits 46 = .ok (.ifCond .eq 7, 3) := by decide +kernel
theorem dX6_readDigits_49 : decode cX6_readDigits 49 = .ok (.iconst 0, 1) := by decide +kernel
theorem dX6_readDigits_50 : decode cX6_readDigits 50 = .ok (.goto 20, 3) := by decide +kernel
theorem dX6_readDigits_53 : decode cX6_readDigits 53 = .ok (.bipush 10, 2) := by decide +kernel
theorem dX6_readDigits_55 : decode cX6_readDigits 55 = .ok (.iload_n 2, 1) := by decide +kernel
theorem dX6_readDigits_56 : decode cX6_readDigits 56 = .ok (.imul, 1) := by decide +kernel
theorem dX6_readDigits_57 : decode cX6_readDigits 57 = .ok (.aload_n 0, 1) := by decide +kernel
theorem dX6_readDigits_58 : decode cX6_readDigits 58 = .ok (.getfield 25, 3) := by decide +kernel
theorem dX6_readDigits_61 : decode cX6_readDigits 61 = .ok (.aload_n 0, 1) := by decide +kernel
theorem dX6_readDigits_62 : decode cX6_readDigits 62 = .ok (.getfield 114, 3) := by decide +kernel
theorem dX6_readDigits_65 : decode cX6_readDigits 65 = .ok (.iaload, 1) := by decide +kernel
theorem dX6_readDigits_66 : decode cX6_readDigits 66 = .ok (.iadd, 1) := by decide +kernel
theorem dX6_readDigits_67 : decode cX6_readDigits 67 = .ok (.bipush 48, 2) := by decide +kernel
theorem dX6_readDigits_69 : decode cX6_readDigits 69 = .ok (.isub, 1) := by decide +kernel
theorem dX6_readDigits_70 : decode cX6_readDigits 70 = .ok (.istore_n 2, 1) := by decide +kernel
theorem dX6_readDigits_71 : decode cX6_readDigits 71 = .ok (.aload_n 0, 1) := by decide +kernel
theorem dX6_readDigits_72 : decode cX6_readDigits 72 = .ok (.dup, 1) := by decide +kernel
theorem dX6_readDigits_73 : decode cX6_readDigits 73 = .ok (.getfield 114, 3) := by decide +kernel
theorem dX6_readDigits_76 : decode cX6_readDigits 76 = .ok (.aload_n 0, 1) := by decide +kernel
theorem dX6_readDigits_77 : decode cX6_readDigits 77 = .ok (.getfield 117, 3) := by decide +kernel
theorem dX6_readDigits_80 : decode cX6_readDigits 80 = .ok (.ifCond .eq 7, 3) := by decide +kernel
theorem dX6_readDigits_83 : decode cX6_readDigits 83 = .ok (.iconst 0, 1) := by decide +kernel
theorem dX6_readDigits_84 : decode cX6_readDigits 84 = .ok (.goto 4, 3) := by decide +kernel
theorem dX6_readDigits_87 : decode cX6_readDigits 87 = .ok (.iconst 1, 1) := by decide +kernel
theorem dX6_readDigits_88 : decode cX6_readDigits 88 = .ok (.iadd, 1) := by decide +kernel
theorem dX6_readDigits_89 : decode cX6_readDigits 89 = .ok (.putfield 114, 3) := by decide +kernel
theorem dX6_readDigits_92 : decode cX6_readDigits 92 = .ok (.iinc 3 1, 3) := by decide +kernel
theorem dX6_readDigits_95 : decode cX6_readDigits 95 = .ok (.goto (-91), 3) := by decide +kernel
theorem dX6_readDigits_98 : decode cX6_readDigits 98 = .ok (.iload_n 2, 1) := by decide +kernel
theorem dX6_readDigits_99 : decode cX6_readDigits 99 = .ok (.ireturn, 1) := by decide +kernel
theorem dX6_isLetter_0 : decode cX6_isLetter 0 = .ok (.iload_n 0, 1) := by decide +kernel
theorem dX6_isLetter_1 : decode cX6_isLetter 1 = .ok (.bipush 110, 2) := by decide +kernel
theorem dX6_isLetter_3 : decode cX6_isLetter 3 = .ok (.if_icmp .eq 33, 3) := by decide +kernel
theorem dX6_isLetter_6 : decode cX6_isLetter 6 = .ok (.iload_n 0, 1) := by decide +kernel
theorem dX6_isLetter_7 : decode cX6_isLetter 7 = .ok (.bipush 120, 2) := by decide +kernel
theorem dX6_isLetter_9 : decode cX6_isLetter 9 = .ok (.if_icmp .eq 27, 3) := by decide +kernel
theorem dX6_isLetter_12 : decode cX6_isLetter 12 = .ok (.iload_n 0, 1) := by decide +kernel
theorem dX6_isLetter_13 : decode cX6_isLetter 13 = .ok (.bipush 98, 2) := by decide +kernel
theorem dX6_isLetter_15 : decode cX6_isLetter 15 = .ok (.if_icmp .eq 21, 3) := by decide +kernel
theorem dX6_isLetter_18 : decode cX6_isLetter 18 = .ok (.iload_n 0, 1) := by decide +kernel
theorem dX6_isLetter_19 : decode cX6_isLetter 19 = .ok (.bipush 118, 2) := by decide +kernel
theorem dX6_isLetter_21 : decode cX6_isLetter 21 = .ok (.if_icmp .eq 15, 3) := by decide +kernel
theorem dX6_isLetter_24 : decode cX6_isLetter 24 = .ok (.iload_n 0, 1) := by decide +kernel
theorem dX6_isLetter_25 : decode cX6_isLetter 25 = .ok (.bipush 99, 2) := by decide +kernel
theorem dX6_isLetter_27 : decode cX6_isLetter 27 = .ok (.if_icmp .eq 9, 3) := by decide +kernel
theorem dX6_isLetter_30 : decode cX6_isLetter 30 = .ok (.iload_n 0, 1) := by decide +kernel
theorem dX6_isLetter_31 : decode cX6_isLetter 31 = .ok (.bipush 100, 2) := by decide +kernel
theorem dX6_isLetter_33 : decode cX6_isLetter 33 = .ok (.if_icmp .ne 7, 3) := by decide +kernel
theorem dX6_isLetter_36 : decode cX6_isLetter 36 = .ok (.iconst 1, 1) := by decide +kernel
theorem dX6_isLetter_37 : decode cX6_isLetter 37 = .ok (.goto 4, 3) := by decide +kernel
theorem dX6_isLetter_40 : decode cX6_isLetter 40 = .ok (.iconst 0, 1) := by decide +kernel
theorem dX6_isLetter_41 : decode cX6_isLetter 41 = .ok (.ireturn, 1) := by decide +kernel
theorem dX6_readNumbers_0 : decode cX6_readNumbers 0 = .ok (.aload_n 0, 1) := by decide +kernel
theorem dX6_readNumbers_1 : decode cX6_readNumbers 1 = .ok (.getfield 34, 3) := by decide +kernel
theorem dX6_readNumbers_4 : decode cX6_readNumbers 4 = .ok (.iload_n 2, 1) := by decide +kernel
theorem dX6_readNumbers_5 : decode cX6_readNumbers 5 = .ok (.aload_n 0, 1) := by decide +kernel
theorem dX6_readNumbers_6 : decode cX6_readNumbers 6 = .ok (.iload_n 1, 1) := by decide +kernel
theorem dX6_readNumbers_7 : decode cX6_readNumbers 7 = .ok (.bipush 99, 2) := by decide +kernel
theorem dX6_readNumbers_9 : decode cX6_readNumbers 9 = .ok (.if_icmp .ne 7, 3) := by decide +kernel
theorem dX6_readNumbers_12 : decode cX6_readNumbers 12 = .ok (.iconst 0, 1) := by decide +kernel
theorem dX6_readNumbers_13 : decode cX6_readNumbers 13 = .ok (.goto 14, 3) := by decide +kernel
theorem dX6_readNumbers_16 : decode cX6_readNumbers 16 = .ok (.iload_n 1, 1) := by decide +kernel
theorem dX6_readNumbers_17 : decode cX6_readNumbers 17 = .ok (.bipush 100, 2) := by decide +kernel
theorem dX6_readNumbers_19 : decode cX6_readNumbers 19 = .ok (.if_icmp .ne 7, 3) := by decide +kernel
theorem dX6_readNumbers_22 : decode cX6_readNumbers 22 = .ok (.iconst 2, 1) := by decide +kernel
theorem dX6_readNumbers_23 : decode cX6_readNumbers 23 = .ok (.goto 4, 3) := by decide +kernel
theorem dX6_readNumbers_26 : decode cX6_readNumbers 26 = .ok (.iconst 1, 1) := by decide +kernel
theorem dX6_readNumbers_27 : decode cX6_readNumbers 27 = .ok (.invokevirtual 128, 3) := by decide +kernel
theorem dX6_readNumbers_30 : decode cX6_readNumbers 30 = .ok (.iastore, 1) := by decide +kernel
theorem dX6_readNumbers_31 : decode cX6_readNumbers 31 = .ok (.aload_n 0, 1) := by decide +kernel
theorem dX6_readNumbers_32 : decode cX6_readNumbers 32 = .ok (.getfield 34, 3) := by decide +kernel
theorem dX6_readNumbers_35 : decode cX6_readNumbers 35 = .ok (.iload_n 2, 1) := by decide +kernel
theorem dX6_readNumbers_36 : decode cX6_readNumbers 36 = .ok (.iconst 1, 1) := by decide +kernel
theorem dX6_readNumbers_37 : decode cX6_readNumbers 37 = .ok (.iadd, 1) := by decide +kernel
theorem dX6_readNumbers_38 : decode cX6_readNumbers 38 = .ok (.aload_n 0, 1) := by decide +kernel
theorem dX6_readNumbers_39 : decode cX6_readNumbers 39 = .ok (.iload_n 1, 1) := by decide +kernel
theorem dX6_readNumbers_40 : decode cX6_readNumbers 40 = .ok (.bipush 110, 2) := by decide +kernel
theorem dX6_readNumbers_42 : decode cX6_readNumbers 42 = .ok (.if_icmp .eq 9, 3) := by decide +kernel
theorem dX6_readNumbers_45 : decode cX6_readNumbers 45 = .ok (.iload_n 1, 1) := by decide +kernel
theorem dX6_readNumbers_46 : decode cX6_readNumbers 46 = .ok (.bipush 120, 2) := by decide +kernel
theorem dX6_readNumbers_48 : decode cX6_readNumbers 48 = .ok (.if_icmp .ne 7, 3) := by decide +kernel
theorem dX6_readNumbers_51 : decode cX6_readNumbers 51 = .ok (.iconst 1, 1) := by decide +kernel
theorem dX6_readNumbers_52 : decode cX6_readNumbers 52 = .ok (.goto 14, 3) := by decide +kernel
theorem dX6_readNumbers_55 : decode cX6_readNumbers 55 = .ok (.iload_n 1, 1) := by decide +kernel
theorem dX6_readNumbers_56 : decode cX6_readNumbers 56 = .ok (.bipush 118, 2) := by decide +kernel
theorem dX6_readNumbers_58 : decode cX6_readNumbers 58 = .ok (.if_icmp .ne 7, 3) := by decide +kernel
theorem dX6_readNumbers_61 : decode cX6_readNumbers 61 = .ok (.iconst 2, 1) := by decide +kernel
theorem dX6_readNumbers_62 : decode cX6_readNumbers 62 = .ok (.goto 4, 3) := by decide +kernel
theorem dX6_readNumbers_65 : decode cX6_readNumbers 65 = .ok (.iconst 0, 1) := by decide +kernel
theorem dX6_readNumbers_66 : decode cX6_readNumbers 66 = .ok (.invokevirtual 128, 3) := by decide +kernel
theorem dX6_readNumbers_69 : decode cX6_readNumbers 69 = .ok (.iastore, 1) := by decide +kernel
theorem dX6_readNumbers_70 : decode cX6_readNumbers 70 = .ok (.return_, 1) := by decide +kernel
theorem dX6_readStatement_0 : decode cX6_readStatement 0 = .ok (.aload_n 0, 1) := by decide +kernel
theorem dX6_readStatement_1 : decode cX6_readStatement 1 = .ok (.getfield 131, 3) := by decide +kernel
theorem dX6_readStatement_4 : decode cX6_readStatement 4 = .ok (.istore_n 1, 1) := by decide +kernel
theorem dX6_readStatement_5 : decode cX6_readStatement 5 = .ok (.aload_n 0, 1) := by decide +kernel
theorem dX6_readStatement_6 : decode cX6_readStatement 6 = .ok (.invokevirtual 120, 3) := by decide +kernel
theorem dX6_readStatement_9 : decode cX6_readStatement 9 = .ok (.istore_n 2, 1) := by decide +kernel
theorem dX6_readStatement_10 : decode cX6_readStatement 10 = .ok (.aload_n 0, 1) := by decide +kernel
theorem dX6_readStatement_11 : decode cX6_readStatement 11 = .ok (.getfield 28, 3) := by decide +kernel
theorem dX6_readStatement_14 : decode cX6_readStatement 14 = .ok (.iload_n 1, 1) := by decide +kernel
theorem dX6_readStatement_15 : decode cX6_readStatement 15 = .ok (.aload_n 0, 1) := by decide +kernel
theorem dX6_readStatement_16 : decode cX6_readStatement 16 = .ok (.getfield 114, 3) := by decide +kernel
theorem dX6_readStatement_19 : decode cX6_readStatement 19 = .ok (.iastore, 1) := by decide +kernel
theorem dX6_readStatement_20 : decode cX6_readStatement 20 = .ok (.aload_n 0, 1) := by decide +kernel
theorem dX6_readStatement_21 : decode cX6_readStatement 21 = .ok (.getfield 31, 3) := by decide +kernel
theorem dX6_readStatement_24 : decode cX6_readStatement 24 = .ok (.iload_n 1, 1) := by decide +kernel
theorem dX6_readStatement_25 : decode cX6_readStatement 25 = .ok (.iload_n 2, 1) := by decide +kernel
theorem dX6_readStatement_26 : decode cX6_readStatement 26 = .ok (.iastore, 1) := by decide +kernel
theorem dX6_readStatement_27 : decode cX6_readStatement 27 = .ok (.aload_n 0, 1) := by decide +kernel
theorem dX6_readStatement_28 : decode cX6_readStatement 28 = .ok (.aload_n 0, 1) := by decide +kernel
theorem dX6_readStatement_29 : decode cX6_readStatement 29 = .ok (.getfield 117, 3) := by decide +kernel
theorem dX6_readStatement_32 : decode cX6_readStatement 32 = .ok (.ifCond .ne 10, 3) := by decide +kernel
theorem dX6_readStatement_35 : decode cX6_readStatement 35 = .ok (.iload_n 2, 1) := by decide +kernel
theorem dX6_readStatement_36 : decode cX6_readStatement 36 = .ok (.invokestatic 134, 3) := by decide +kernel
theorem dX6_readStatement_39 : decode cX6_readStatement 39 = .ok (.ifCond .ne 7, 3) := by decide +kernel
theorem dX6_readStatement_42 : decode cX6_readStatement 42 = .ok (.iconst 1, 1) := by decide +kernel
theorem dX6_readStatement_43 : decode cX6_readStatement 43 = .ok (.goto 4, 3) := by decide +kernel
theorem dX6_readStatement_46 : decode cX6_readStatement 46 = .ok (.iconst 0, 1) := by decide +kernel
theorem dX6_readStatement_47 : decode cX6_readStatement 47 = .ok (.putfield 117, 3) := by decide +kernel
theorem dX6_readStatement_50 : decode cX6_readStatement 50 = .ok (.aload_n 0, 1) := by decide +kernel
theorem dX6_readStatement_51 : decode cX6_readStatement 51 = .ok (.dup, 1) := by decide +kernel
theorem dX6_readStatement_52 : decode cX6_readStatement 52 = .ok (.getfield 114, 3) := by decide +kernel
theorem dX6_readStatement_55 : decode cX6_readStatement 55 = .ok (.aload_n 0, 1) := by decide +kernel
theorem dX6_readStatement_56 : decode cX6_readStatement 56 = .ok (.getfield 117, 3) := by decide +kernel
theorem dX6_readStatement_59 : decode cX6_readStatement 59 = .ok (.ifCond .eq 7, 3) := by decide +kernel
theorem dX6_readStatement_62 : decode cX6_readStatement 62 = .ok (.iconst 0, 1) := by decide +kernel
theorem dX6_readStatement_63 : decode cX6_readStatement 63 = .ok (.goto 4, 3) := by decide +kernel
theorem dX6_readStatement_66 : decode cX6_readStatement 66 = .ok (.iconst 1, 1) := by decide +kernel
theorem dX6_readStatement_67 : decode cX6_readStatement 67 = .ok (.iadd, 1) := by decide +kernel
theorem dX6_readStatement_68 : decode cX6_readStatement 68 = .ok (.putfield 114, 3) := by decide +kernel
theorem dX6_readStatement_71 : decode cX6_readStatement 71 = .ok (.aload_n 0, 1) := by decide +kernel
theorem dX6_readStatement_72 : decode cX6_readStatement 72 = .ok (.getfield 117, 3) := by decide +kernel
theorem dX6_readStatement_75 : decode cX6_readStatement 75 = .ok (.ifCond .ne 11, 3) := by decide +kernel
theorem dX6_readStatement_78 : decode cX6_readStatement 78 = .ok (.aload_n 0, 1) := by decide +kernel
theorem dX6_readStatement_79 : decode cX6_readStatement 79 = .ok (.iload_n 2, 1) := by decide +kernel
theorem dX6_readStatement_80 : decode cX6_readStatement 80 = .ok (.iconst 2, 1) := by decide +kernel
theorem dX6_readStatement_81 : decode cX6_readStatement 81 = .ok (.iload_n 1, 1) := by decide +kernel
theorem dX6_readStatement_82 : decode cX6_readStatement 82 = .ok (.imul, 1) := by decide +kernel
theorem dX6_readStatement_83 : decode cX6_readStatement 83 = .ok (.invokevirtual 138, 3) := by decide +kernel
theorem dX6_readStatement_86 : decode cX6_readStatement 86 = .ok (.aload_n 0, 1) := by decide +kernel
theorem dX6_readStatement_87 : decode cX6_readStatement 87 = .ok (.aload_n 0, 1) := by decide +kernel
theorem dX6_readStatement_88 : decode cX6_readStatement 88 = .ok (.getfield 117, 3) := by decide +kernel
theorem dX6_readStatement_91 : decode cX6_readStatement 91 = .ok (.ifCond .ne 12, 3) := by decide +kernel
theorem dX6_readStatement_94 : decode cX6_readStatement 94 = .ok (.aload_n 0, 1) := by decide +kernel
theorem dX6_readStatement_95 : decode cX6_readStatement 95 = .ok (.invokevirtual 120, 3) := by decide +kernel
theorem dX6_readStatement_98 : decode cX6_readStatement 98 = .ok (.bipush 59, 2) := by decide +kernel
theorem dX6_readStatement_100 : decode cX6_readStatement 100 = .ok (.if_icmp .eq 7, 3) := by decide +kernel
theorem dX6_readStatement_103 : decode cX6_readStatement 103 = .ok (.iconst 1, 1) := by decide +kernel
theorem dX6_readStatement_104 : decode cX6_readStatement 104 = .ok (.goto 4, 3) := by decide +kernel
theorem dX6_readStatement_107 : decode cX6_readStatement 107 = .ok (.iconst 0, 1) := by decide +kernel
theorem dX6_readStatement_108 : decode cX6_readStatement 108 = .ok (.putfield 117, 3) := by decide +kernel
theorem dX6_readStatement_111 : decode cX6_readStatement 111 = .ok (.aload_n 0, 1) := by decide +kernel
theorem dX6_readStatement_112 : decode cX6_readStatement 112 = .ok (.dup, 1) := by decide +kernel
theorem dX6_readStatement_113 : decode cX6_readStatement 113 = .ok (.getfield 114, 3) := by decide +kernel
theorem dX6_readStatement_116 : decode cX6_readStatement 116 = .ok (.aload_n 0, 1) := by decide +kernel
theorem dX6_readStatement_117 : decode cX6_readStatement 117 = .ok (.getfield 117, 3) := by decide +kernel
theorem dX6_readStatement_120 : decode cX6_readStatement 120 = .ok (.ifCond .eq 7, 3) := by decide +kernel
theorem dX6_readStatement_123 : decode cX6_readStatement 123 = .ok (.iconst 0, 1) := by decide +kernel
theorem dX6_readStatement_124 : decode cX6_readStatement 124 = .ok (.goto 4, 3) := by decide +kernel
theorem dX6_readStatement_127 : decode cX6_readStatement 127 = .ok (.iconst 1, 1) := by decide +kernel
theorem dX6_readStatement_128 : decode cX6_readStatement 128 = .ok (.iadd, 1) := by decide +kernel
theorem dX6_readStatement_129 : decode cX6_readStatement 129 = .ok (.putfield 114, 3) := by decide +kernel
theorem dX6_readStatement_132 : decode cX6_readStatement 132 = .ok (.aload_n 0, 1) := by decide +kernel
theorem dX6_readStatement_133 : decode cX6_readStatement 133 = .ok (.dup, 1) := by decide +kernel
theorem dX6_readStatement_134 : decode cX6_readStatement 134 = .ok (.getfield 131, 3) := by decide +kernel
theorem dX6_readStatement_137 : decode cX6_readStatement 137 = .ok (.iconst 1, 1) := by decide +kernel
theorem dX6_readStatement_138 : decode cX6_readStatement 138 = .ok (.iadd, 1) := by decide +kernel
theorem dX6_readStatement_139 : decode cX6_readStatement 139 = .ok (.putfield 131, 3) := by decide +kernel
theorem dX6_readStatement_142 : decode cX6_readStatement 142 = .ok (.return_, 1) := by decide +kernel
theorem dX6_hoursTold_0 : decode cX6_hoursTold 0 = .ok (.iload_n 1, 1) := by decide +kernel
theorem dX6_hoursTold_1 : decode cX6_hoursTold 1 = .ok (.i2l, 1) := by decide +kernel
theorem dX6_hoursTold_2 : decode cX6_hoursTold 2 = .ok (.lconst 1, 1) := by decide +kernel
theorem dX6_hoursTold_3 : decode cX6_hoursTold 3 = .ok (.ldc2_w 141, 3) := by decide +kernel
theorem dX6_hoursTold_6 : decode cX6_hoursTold 6 = .ok (.invokestatic 65, 3) := by decide +kernel
theorem dX6_hoursTold_9 : decode cX6_hoursTold 9 = .ok (.ifCond .eq 19, 3) := by decide +kernel
theorem dX6_hoursTold_12 : decode cX6_hoursTold 12 = .ok (.aload_n 0, 1) := by decide +kernel
theorem dX6_hoursTold_13 : decode cX6_hoursTold 13 = .ok (.getfield 76, 3) := by decide +kernel
theorem dX6_hoursTold_16 : decode cX6_hoursTold 16 = .ok (.iload_n 1, 1) := by decide +kernel
theorem dX6_hoursTold_17 : decode cX6_hoursTold 17 = .ok (.iadd, 1) := by decide +kernel
theorem dX6_hoursTold_18 : decode cX6_hoursTold 18 = .ok (.sipush 999, 3) := by decide +kernel
theorem dX6_hoursTold_21 : decode cX6_hoursTold 21 = .ok (.if_icmp .gt 7, 3) := by decide +kernel
theorem dX6_hoursTold_24 : decode cX6_hoursTold 24 = .ok (.iconst 1, 1) := by decide +kernel
theorem dX6_hoursTold_25 : decode cX6_hoursTold 25 = .ok (.goto 4, 3) := by decide +kernel
theorem dX6_hoursTold_28 : decode cX6_hoursTold 28 = .ok (.iconst 0, 1) := by decide +kernel
theorem dX6_hoursTold_29 : decode cX6_hoursTold 29 = .ok (.istore_n 2, 1) := by decide +kernel
theorem dX6_hoursTold_30 : decode cX6_hoursTold 30 = .ok (.iload_n 2, 1) := by decide +kernel
theorem dX6_hoursTold_31 : decode cX6_hoursTold 31 = .ok (.ifCond .eq 8, 3) := by decide +kernel
theorem dX6_hoursTold_34 : decode cX6_hoursTold 34 = .ok (.aload_n 0, 1) := by decide +kernel
theorem dX6_hoursTold_35 : decode cX6_hoursTold 35 = .ok (.iload_n 1, 1) := by decide +kernel
theorem dX6_hoursTold_36 : decode cX6_hoursTold 36 = .ok (.invokevirtual 143, 3) := by decide +kernel
theorem dX6_hoursTold_39 : decode cX6_hoursTold 39 = .ok (.iload_n 2, 1) := by decide +kernel
theorem dX6_hoursTold_40 : decode cX6_hoursTold 40 = .ok (.ireturn, 1) := by decide +kernel
theorem dX6_comesTold_0 : decode cX6_comesTold 0 = .ok (.aload_n 0, 1) := by decide +kernel
theorem dX6_comesTold_1 : decode cX6_comesTold 1 = .ok (.getfield 34, 3) := by decide +kernel
theorem dX6_comesTold_4 : decode cX6_comesTold 4 = .ok (.iconst 2, 1) := by decide +kernel
theorem dX6_comesTold_5 : decode cX6_comesTold 5 = .ok (.iload_n 1, 1) := by decide +kernel
theorem dX6_comesTold_6 : decode cX6_comesTold 6 = .ok (.imul, 1) := by decide +kernel
theorem dX6_comesTold_7 : decode cX6_comesTold 7 = .ok (.iaload, 1) := by decide +kernel
theorem dX6_comesTold_8 : decode cX6_comesTold 8 = .ok (.istore_n 2, 1) := by decide +kernel
theorem dX6_comesTold_9 : decode cX6_comesTold 9 = .ok (.aload_n 0, 1) := by decide +kernel
theorem dX6_comesTold_10 : decode cX6_comesTold 10 = .ok (.getfield 34, 3) := by decide +kernel
theorem dX6_comesTold_13 : decode cX6_comesTold 13 = .ok (.iconst 2, 1) := by decide +kernel
theorem dX6_comesTold_14 : decode cX6_comesTold 14 = .ok (.iload_n 1, 1) := by decide +kernel
theorem dX6_comesTold_15 : decode cX6_comesTold 15 = .ok (.imul, 1) := by decide +kernel
theorem dX6_comesTold_16 : decode cX6_comesTold 16 = .ok (.iconst 1, 1) := by decide +kernel
theorem dX6_comesTold_17 : decode cX6_comesTold 17 = .ok (.iadd, 1) := by decide +kernel
theorem dX6_comesTold_18 : decode cX6_comesTold 18 = .ok (.iaload, 1) := by decide +kernel
theorem dX6_comesTold_19 : decode cX6_comesTold 19 = .ok (.istore_n 3, 1) := by decide +kernel
theorem dX6_comesTold_20 : decode cX6_comesTold 20 = .ok (.aload_n 0, 1) := by decide +kernel
theorem dX6_comesTold_21 : decode cX6_comesTold 21 = .ok (.iload_n 2, 1) := by decide +kernel
theorem dX6_comesTold_22 : decode cX6_comesTold 22 = .ok (.invokevirtual 147, 3) := by decide +kernel
theorem dX6_comesTold_25 : decode cX6_comesTold 25 = .ok (.istore 4, 2) := by decide +kernel
theorem dX6_comesTold_27 : decode cX6_comesTold 27 = .ok (.aload_n 0, 1) := by decide +kernel
theorem dX6_comesTold_28 : decode cX6_comesTold 28 = .ok (.getfield 31, 3) := by decide +kernel
theorem dX6_comesTold_31 : decode cX6_comesTold 31 = .ok (.iload_n 1, 1) := by decide +kernel
theorem dX6_comesTold_32 : decode cX6_comesTold 32 = .ok (.iaload, 1) := by decide +kernel
theorem dX6_comesTold_33 : decode cX6_comesTold 33 = .ok (.lookupswitch 135 #[(98, 90), (99, 128), (110, 51), (118, 114), (120, 58)], 51) := by decide +kernel
theorem dX6_comesTold_84 : decode cX6_comesTold 84 = .ok (.aload_n 0, 1) := by decide +kernel
theorem dX6_comesTold_85 : decode cX6_comesTold 85 = .ok (.iload_n 2, 1) := by decide +kernel
theorem dX6_comesTold_86 : decode cX6_comesTold 86 = .ok (.iload_n 3, 1) := by decide +kernel
theorem dX6_comesTold_87 : decode cX6_comesTold 87 = .ok (.invokevirtual 150, 3) := by decide +kernel
theorem dX6_comesTold_90 : decode cX6_comesTold 90 = .ok (.ireturn, 1) := by decide +kernel
theorem dX6_comesTold_91 : decode cX6_comesTold 91 = .ok (.iload 4, 2) := by decide +kernel
theorem dX6_comesTold_93 : decode cX6_comesTold 93 = .ok (.ifCond .eq 12, 3) := by decide +kernel
theorem dX6_comesTold_96 : decode cX6_comesTold 96 = .ok (.iload_n 3, 1) := by decide +kernel
theorem dX6_comesTold_97 : decode cX6_comesTold 97 = .ok (.iload_n 2, 1) := by decide +kernel
theorem dX6_comesTold_98 : decode cX6_comesTold 98 = .ok (.if_icmp .le 7, 3) := by decide +kernel
theorem dX6_comesTold_101 : decode cX6_comesTold 101 = .ok (.iconst 1, 1) := by decide +kernel
theorem dX6_comesTold_102 : decode cX6_comesTold 102 = .ok (.goto 4, 3) := by decide +kernel
theorem dX6_comesTold_105 : decode cX6_comesTold 105 = .ok (.iconst 0, 1) := by decide +kernel
theorem dX6_comesTold_106 : decode cX6_comesTold 106 = .ok (.istore 4, 2) := by decide +kernel
theorem dX6_comesTold_108 : decode cX6_comesTold 108 = .ok (.iload 4, 2) := by decide +kernel
theorem dX6_comesTold_110 : decode cX6_comesTold 110 = .ok (.ifCond .eq 10, 3) := by decide +kernel
theorem dX6_comesTold_113 : decode cX6_comesTold 113 = .ok (.aload_n 0, 1) := by decide +kernel
theorem dX6_comesTold_114 : decode cX6_comesTold 114 = .ok (.getfield 19, 3) := by decide +kernel
theorem dX6_comesTold_117 : decode cX6_comesTold 117 = .ok (.iload_n 2, 1) := by decide +kernel
theorem dX6_comesTold_118 : decode cX6_comesTold 118 = .ok (.iload_n 3, 1) := by decide +kernel
theorem dX6_comesTold_119 : decode cX6_comesTold 119 = .ok (.iastore, 1) := by decide +kernel
theorem dX6_comesTold_120 : decode cX6_comesTold 120 = .ok (.iload 4, 2) := by decide +kernel
theorem dX6_comesTold_122 : decode cX6_comesTold 122 = .ok (.ireturn, 1) := by decide +kernel
theorem dX6_comesTold_123 : decode cX6_comesTold 123 = .ok (.aload_n 0, 1) := by decide +kernel
theorem dX6_comesTold_124 : decode cX6_comesTold 124 = .ok (.dup, 1) := by decide +kernel
theorem dX6_comesTold_125 : decode cX6_comesTold 125 = .ok (.getfield 83, 3) := by decide +kernel
theorem dX6_comesTold_128 : decode cX6_comesTold 128 = .ok (.iload 4, 2) := by decide +kernel
theorem dX6_comesTold_130 : decode cX6_comesTold 130 = .ok (.ifCond .eq 9, 3) := by decide +kernel
theorem dX6_comesTold_133 : decode cX6_comesTold 133 = .ok (.iconst 1, 1) := by decide +kernel
theorem dX6_comesTold_134 : decode cX6_comesTold 134 = .ok (.iload_n 2, 1) := by decide +kernel
theorem dX6_comesTold_135 : decode cX6_comesTold 135 = .ok (.ishl, 1) := by decide +kernel
theorem dX6_comesTold_136 : decode cX6_comesTold 136 = .ok (.goto 4, 3) := by decide +kernel
theorem dX6_comesTold_139 : decode cX6_comesTold 139 = .ok (.iconst 0, 1) := by decide +kernel
theorem dX6_comesTold_140 : decode cX6_comesTold 140 = .ok (.ixor, 1) := by decide +kernel
theorem dX6_comesTold_141 : decode cX6_comesTold 141 = .ok (.putfield 83, 3) := by decide +kernel
theorem dX6_comesTold_144 : decode cX6_comesTold 144 = .ok (.iload 4, 2) := by decide +kernel
theorem dX6_comesTold_146 : decode cX6_comesTold 146 = .ok (.ireturn, 1) := by decide +kernel
theorem dX6_comesTold_147 : decode cX6_comesTold 147 = .ok (.iload 4, 2) := by decide +kernel
theorem dX6_comesTold_149 : decode cX6_comesTold 149 = .ok (.ifCond .eq 9, 3) := by decide +kernel
theorem dX6_comesTold_152 : decode cX6_comesTold 152 = .ok (.aload_n 0, 1) := by decide +kernel
theorem dX6_comesTold_153 : decode cX6_comesTold 153 = .ok (.iload_n 2, 1) := by decide +kernel
theorem dX6_comesTold_154 : decode cX6_comesTold 154 = .ok (.iload_n 3, 1) := by decide +kernel
theorem dX6_comesTold_155 : decode cX6_comesTold 155 = .ok (.invokevirtual 97, 3) := by decide +kernel
theorem dX6_comesTold_158 : decode cX6_comesTold 158 = .ok (.iload 4, 2) := by decide +kernel
theorem dX6_comesTold_160 : decode cX6_comesTold 160 = .ok (.ireturn, 1) := by decide +kernel
theorem dX6_comesTold_161 : decode cX6_comesTold 161 = .ok (.aload_n 0, 1) := by decide +kernel
theorem dX6_comesTold_162 : decode cX6_comesTold 162 = .ok (.iconst 0, 1) := by decide +kernel
theorem dX6_comesTold_163 : decode cX6_comesTold 163 = .ok (.putfield 101, 3) := by decide +kernel
theorem dX6_comesTold_166 : decode cX6_comesTold 166 = .ok (.iconst 1, 1) := by decide +kernel
theorem dX6_comesTold_167 : decode cX6_comesTold 167 = .ok (.ireturn, 1) := by decide +kernel
theorem dX6_comesTold_168 : decode cX6_comesTold 168 = .ok (.aload_n 0, 1) := by decide +kernel
theorem dX6_comesTold_169 : decode cX6_comesTold 169 = .ok (.iload_n 2, 1) := by decide +kernel
theorem dX6_comesTold_170 : decode cX6_comesTold 170 = .ok (.invokevirtual 153, 3) := by decide +kernel
theorem dX6_comesTold_173 : decode cX6_comesTold 173 = .ok (.ireturn, 1) := by decide +kernel
theorem dX6_parish_0 : decode cX6_parish 0 = .ok (.aload_n 0, 1) := by decide +kernel
theorem dX6_parish_1 : decode cX6_parish 1 = .ok (.iconst 0, 1) := by decide +kernel
theorem dX6_parish_2 : decode cX6_parish 2 = .ok (.putfield 58, 3) := by decide +kernel
theorem dX6_parish_5 : decode cX6_parish 5 = .ok (.aload_n 0, 1) := by decide +kernel
theorem dX6_parish_6 : decode cX6_parish 6 = .ok (.iconst 0, 1) := by decide +kernel
theorem dX6_parish_7 : decode cX6_parish 7 = .ok (.putfield 114, 3) := by decide +kernel
theorem dX6_parish_10 : decode cX6_parish 10 = .ok (.aload_n 0, 1) := by decide +kernel
theorem dX6_parish_11 : decode cX6_parish 11 = .ok (.iconst 0, 1) := by decide +kernel
theorem dX6_parish_12 : decode cX6_parish 12 = .ok (.putfield 117, 3) := by decide +kernel
theorem dX6_parish_15 : decode cX6_parish 15 = .ok (.aload_n 0, 1) := by decide +kernel
theorem dX6_parish_16 : decode cX6_parish 16 = .ok (.iconst 0, 1) := by decide +kernel
theorem dX6_parish_17 : decode cX6_parish 17 = .ok (.putfield 131, 3) := by decide +kernel
theorem dX6_parish_20 : decode cX6_parish 20 = .ok (.aload_n 0, 1) := by decide +kernel
theorem dX6_parish_21 : decode cX6_parish 21 = .ok (.getfield 117, 3) := by decide +kernel
theorem dX6_parish_24 : decode cX6_parish 24 = .ok (.ifCond .ne 28, 3) := by decide +kernel
theorem dX6_parish_27 : decode cX6_parish 27 = .ok (.aload_n 0, 1) := by decide +kernel
theorem dX6_parish_28 : decode cX6_parish 28 = .ok (.getfield 131, 3) := by decide +kernel
theorem dX6_parish_31 : decode cX6_parish 31 = .ok (.ifCond .eq 14, 3) := by decide +kernel
theorem dX6_parish_34 : decode cX6_parish 34 = .ok (.aload_n 0, 1) := by decide +kernel
theorem dX6_parish_35 : decode cX6_parish 35 = .ok (.getfield 114, 3) := by decide +kernel
theorem dX6_parish_38 : decode cX6_parish 38 = .ok (.aload_n 0, 1) := by decide +kernel
theorem dX6_parish_39 : decode cX6_parish 39 = .ok (.getfield 111, 3) := by decide +kernel
theorem dX6_parish_42 : decode cX6_parish 42 = .ok (.if_icmp .ge 10, 3) := by decide +kernel
theorem dX6_parish_45 : decode cX6_parish 45 = .ok (.aload_n 0, 1) := by decide +kernel
theorem dX6_parish_46 : decode cX6_parish 46 = .ok (.invokevirtual 156, 3) := by decide +kernel
theorem dX6_parish_49 : decode cX6_parish 49 = .ok (.goto (-29), 3) := by decide +kernel
theorem dX6_parish_52 : decode cX6_parish 52 = .ok (.aload_n 0, 1) := by decide +kernel
theorem dX6_parish_53 : decode cX6_parish 53 = .ok (.iconst 0, 1) := by decide +kernel
theorem dX6_parish_54 : decode cX6_parish 54 = .ok (.putfield 111, 3) := by decide +kernel
theorem dX6_parish_57 : decode cX6_parish 57 = .ok (.aload_n 0, 1) := by decide +kernel
theorem dX6_parish_58 : decode cX6_parish 58 = .ok (.getfield 117, 3) := by decide +kernel
theorem dX6_parish_61 : decode cX6_parish 61 = .ok (.ifCond .eq 12, 3) := by decide +kernel
theorem dX6_parish_64 : decode cX6_parish 64 = .ok (.sipush (-1000), 3) := by decide +kernel
theorem dX6_parish_67 : decode cX6_parish 67 = .ok (.aload_n 0, 1) := by decide +kernel
theorem dX6_parish_68 : decode cX6_parish 68 = .ok (.getfield 114, 3) := by decide +kernel
theorem dX6_parish_71 : decode cX6_parish 71 = .ok (.isub, 1) := by decide +kernel
theorem dX6_parish_72 : decode cX6_parish 72 = .ok (.ireturn, 1) := by decide +kernel
theorem dX6_parish_73 : decode cX6_parish 73 = .ok (.aload_n 0, 1) := by decide +kernel
theorem dX6_parish_74 : decode cX6_parish 74 = .ok (.invokevirtual 159, 3) := by decide +kernel
theorem dX6_parish_77 : decode cX6_parish 77 = .ok (.iconst 0, 1) := by decide +kernel
theorem dX6_parish_78 : decode cX6_parish 78 = .ok (.istore_n 1, 1) := by decide +kernel
theorem dX6_parish_79 : decode cX6_parish 79 = .ok (.iload_n 1, 1) := by decide +kernel
theorem dX6_parish_80 : decode cX6_parish 80 = .ok (.aload_n 0, 1) := by decide +kernel
theorem dX6_parish_81 : decode cX6_parish 81 = .ok (.getfield 131, 3) := by decide +kernel
theorem dX6_parish_84 : decode cX6_parish 84 = .ok (.if_icmp .ge 32, 3) := by decide +kernel
theorem dX6_parish_87 : decode cX6_parish 87 = .ok (.aload_n 0, 1) := by decide +kernel
theorem dX6_parish_88 : decode cX6_parish 88 = .ok (.iload_n 1, 1) := by decide +kernel
theorem dX6_parish_89 : decode cX6_parish 89 = .ok (.invokevirtual 162, 3) := by decide +kernel
theorem dX6_parish_92 : decode cX6_parish 92 = .ok (.ifCond .ne 18, 3) := by decide +kernel
theorem dX6_parish_95 : decode cX6_parish 95 = .ok (.aload_n 0, 1) := by decide +kernel
theorem dX6_parish_96 : decode cX6_parish 96 = .ok (.invokevirtual 165, 3) := by decide +kernel
theorem dX6_parish_99 : decode cX6_parish 99 = .ok (.sipush (-2000), 3) := by decide +kernel
theorem dX6_parish_102 : decode cX6_parish 102 = .ok (.aload_n 0, 1) := by decide +kernel
theorem dX6_parish_103 : decode cX6_parish 103 = .ok (.getfield 28, 3) := by decide +kernel
theorem dX6_parish_106 : decode cX6_parish 106 = .ok (.iload_n 1, 1) := by decide +kernel
theorem dX6_parish_107 : decode cX6_parish 107 = .ok (.iaload, 1) := by decide +kernel
theorem dX6_parish_108 : decode cX6_parish 108 = .ok (.isub, 1) := by decide +kernel
theorem dX6_parish_109 : decode cX6_parish 109 = .ok (.ireturn, 1) := by decide +kernel
theorem dX6_parish_110 : decode cX6_parish 110 = .ok (.iinc 1 1, 3) := by decide +kernel
theorem dX6_parish_113 : decode cX6_parish 113 = .ok (.goto (-34), 3) := by decide +kernel
theorem dX6_parish_116 : decode cX6_parish 116 = .ok (.aload_n 0, 1) := by decide +kernel
theorem dX6_parish_117 : decode cX6_parish 117 = .ok (.iconst 0, 1) := by decide +kernel
theorem dX6_parish_118 : decode cX6_parish 118 = .ok (.putfield 168, 3) := by decide +kernel
theorem dX6_parish_121 : decode cX6_parish 121 = .ok (.aload_n 0, 1) := by decide +kernel
theorem dX6_parish_122 : decode cX6_parish 122 = .ok (.getfield 131, 3) := by decide +kernel
theorem dX6_parish_125 : decode cX6_parish 125 = .ok (.ireturn, 1) := by decide +kernel
theorem dX6_carry_0 : decode cX6_carry 0 = .ok (.aload_n 0, 1) := by decide +kernel
theorem dX6_carry_1 : decode cX6_carry 1 = .ok (.getfield 171, 3) := by decide +kernel
theorem dX6_carry_4 : decode cX6_carry 4 = .ok (.ifCond .eq 13, 3) := by decide +kernel
theorem dX6_carry_7 : decode cX6_carry 7 = .ok (.aload_n 0, 1) := by decide +kernel
theorem dX6_carry_8 : decode cX6_carry 8 = .ok (.getfield 174, 3) := by decide +kernel
theorem dX6_carry_11 : decode cX6_carry 11 = .ok (.aload_n 0, 1) := by decide +kernel
theorem dX6_carry_12 : decode cX6_carry 12 = .ok (.getfield 177, 3) := by decide +kernel
theorem dX6_carry_15 : decode cX6_carry 15 = .ok (.iload_n 1, 1) := by decide +kernel
theorem dX6_carry_16 : decode cX6_carry 16 = .ok (.iastore, 1) := by decide +kernel
theorem dX6_carry_17 : decode cX6_carry 17 = .ok (.aload_n 0, 1) := by decide +kernel
theorem dX6_carry_18 : decode cX6_carry 18 = .ok (.dup, 1) := by decide +kernel
theorem dX6_carry_19 : decode cX6_carry 19 = .ok (.getfield 177, 3) := by decide +kernel
theorem dX6_carry_22 : decode cX6_carry 22 = .ok (.iconst 1, 1) := by decide +kernel
theorem dX6_carry_23 : decode cX6_carry 23 = .ok (.iadd, 1) := by decide +kernel
theorem dX6_carry_24 : decode cX6_carry 24 = .ok (.putfield 177, 3) := by decide +kernel
theorem dX6_carry_27 : decode cX6_carry 27 = .ok (.aload_n 0, 1) := by decide +kernel
theorem dX6_carry_28 : decode cX6_carry 28 = .ok (.getfield 174, 3) := by decide +kernel
theorem dX6_carry_31 : decode cX6_carry 31 = .ok (.aload_n 0, 1) := by decide +kernel
theorem dX6_carry_32 : decode cX6_carry 32 = .ok (.getfield 177, 3) := by decide +kernel
theorem dX6_carry_35 : decode cX6_carry 35 = .ok (.iconst 1, 1) := by decide +kernel
theorem dX6_carry_36 : decode cX6_carry 36 = .ok (.isub, 1) := by decide +kernel
theorem dX6_carry_37 : decode cX6_carry 37 = .ok (.iaload, 1) := by decide +kernel
theorem dX6_carry_38 : decode cX6_carry 38 = .ok (.ireturn, 1) := by decide +kernel
theorem dX6_carryAll_0 : decode cX6_carryAll 0 = .ok (.aload_n 0, 1) := by decide +kernel
theorem dX6_carryAll_1 : decode cX6_carryAll 1 = .ok (.aload_n 1, 1) := by decide +kernel
theorem dX6_carryAll_2 : decode cX6_carryAll 2 = .ok (.putfield 174, 3) := by decide +kernel
theorem dX6_carryAll_5 : decode cX6_carryAll 5 = .ok (.aload_n 0, 1) := by decide +kernel
theorem dX6_carryAll_6 : decode cX6_carryAll 6 = .ok (.iload_n 2, 1) := by decide +kernel
theorem dX6_carryAll_7 : decode cX6_carryAll 7 = .ok (.putfield 171, 3) := by decide +kernel
theorem dX6_carryAll_10 : decode cX6_carryAll 10 = .ok (.aload_n 0, 1) := by decide +kernel
theorem dX6_carryAll_11 : decode cX6_carryAll 11 = .ok (.iconst 0, 1) := by decide +kernel
theorem dX6_carryAll_12 : decode cX6_carryAll 12 = .ok (.putfield 177, 3) := by decide +kernel
theorem dX6_carryAll_15 : decode cX6_carryAll 15 = .ok (.aload_n 0, 1) := by decide +kernel
theorem dX6_carryAll_16 : decode cX6_carryAll 16 = .ok (.aload_n 0, 1) := by decide +kernel
theorem dX6_carryAll_17 : decode cX6_carryAll 17 = .ok (.aload_n 0, 1) := by decide +kernel
theorem dX6_carryAll_18 : decode cX6_carryAll 18 = .ok (.getfield 62, 3) := by decide +kernel
theorem dX6_carryAll_21 : decode cX6_carryAll 21 = .ok (.invokevirtual 180, 3) := by decide +kernel
theorem dX6_carryAll_24 : decode cX6_carryAll 24 = .ok (.putfield 62, 3) := by decide +kernel
theorem dX6_carryAll_27 : decode cX6_carryAll 27 = .ok (.aload_n 0, 1) := by decide +kernel
theorem dX6_carryAll_28 : decode cX6_carryAll 28 = .ok (.aload_n 0, 1) := by decide +kernel
theorem dX6_carryAll_29 : decode cX6_carryAll 29 = .ok (.aload_n 0, 1) := by decide +kernel
theorem dX6_carryAll_30 : decode cX6_carryAll 30 = .ok (.getfield 83, 3) := by decide +kernel
theorem dX6_carryAll_33 : decode cX6_carryAll 33 = .ok (.invokevirtual 180, 3) := by decide +kernel
theorem dX6_carryAll_36 : decode cX6_carryAll 36 = .ok (.putfield 83, 3) := by decide +kernel
theorem dX6_carryAll_39 : decode cX6_carryAll 39 = .ok (.aload_n 0, 1) := by decide +kernel
theorem dX6_carryAll_40 : decode cX6_carryAll 40 = .ok (.aload_n 0, 1) := by decide +kernel
theorem dX6_carryAll_41 : decode cX6_carryAll 41 = .ok (.aload_n 0, 1) := by decide +kernel
theorem dX6_carryAll_42 : decode cX6_carryAll 42 = .ok (.getfield 73, 3) := by decide +kernel
theorem dX6_carryAll_45 : decode cX6_carryAll 45 = .ok (.invokevirtual 180, 3) := by decide +kernel
theorem dX6_carryAll_48 : decode cX6_carryAll 48 = .ok (.putfield 73, 3) := by decide +kernel
theorem dX6_carryAll_51 : decode cX6_carryAll 51 = .ok (.aload_n 0, 1) := by decide +kernel
theorem dX6_carryAll_52 : decode cX6_carryAll 52 = .ok (.aload_n 0, 1) := by decide +kernel
theorem dX6_carryAll_53 : decode cX6_carryAll 53 = .ok (.aload_n 0, 1) := by decide +kernel
theorem dX6_carryAll_54 : decode cX6_carryAll 54 = .ok (.getfield 101, 3) := by decide +kernel
theorem dX6_carryAll_57 : decode cX6_carryAll 57 = .ok (.invokevirtual 180, 3) := by decide +kernel
theorem dX6_carryAll_60 : decode cX6_carryAll 60 = .ok (.putfield 101, 3) := by decide +kernel
theorem dX6_carryAll_63 : decode cX6_carryAll 63 = .ok (.aload_n 0, 1) := by decide +kernel
theorem dX6_carryAll_64 : decode cX6_carryAll 64 = .ok (.aload_n 0, 1) := by decide +kernel
theorem dX6_carryAll_65 : decode cX6_carryAll 65 = .ok (.aload_n 0, 1) := by decide +kernel
theorem dX6_carryAll_66 : decode cX6_carryAll 66 = .ok (.getfield 76, 3) := by decide +kernel
theorem dX6_carryAll_69 : decode cX6_carryAll 69 = .ok (.invokevirtual 180, 3) := by decide +kernel
theorem dX6_carryAll_72 : decode cX6_carryAll 72 = .ok (.putfield 76, 3) := by decide +kernel
theorem dX6_carryAll_75 : decode cX6_carryAll 75 = .ok (.iconst 0, 1) := by decide +kernel
theorem dX6_carryAll_76 : decode cX6_carryAll 76 = .ok (.istore_n 3, 1) := by decide +kernel
theorem dX6_carryAll_77 : decode cX6_carryAll 77 = .ok (.iload_n 3, 1) := by decide +kernel
theorem dX6_carryAll_78 : decode cX6_carryAll 78 = .ok (.bipush 9, 2) := by decide +kernel
theorem dX6_carryAll_80 : decode cX6_carryAll 80 = .ok (.if_icmp .ge 73, 3) := by decide +kernel
theorem dX6_carryAll_83 : decode cX6_carryAll 83 = .ok (.aload_n 0, 1) := by decide +kernel
theorem dX6_carryAll_84 : decode cX6_carryAll 84 = .ok (.getfield 7, 3) := by decide +kernel
theorem dX6_carryAll_87 : decode cX6_carryAll 87 = .ok (.iload_n 3, 1) := by decide +kernel
theorem dX6_carryAll_88 : decode cX6_carryAll 88 = .ok (.aload_n 0, 1) := by decide +kernel
theorem dX6_carryAll_89 : decode cX6_carryAll 89 = .ok (.aload_n 0, 1) := by decide +kernel
theorem dX6_carryAll_90 : decode cX6_carryAll 90 = .ok (.getfield 7, 3) := by decide +kernel
theorem dX6_carryAll_93 : decode cX6_carryAll 93 = .ok (.iload_n 3, 1) := by decide +kernel
theorem dX6_carryAll_94 : decode cX6_carryAll 94 = .ok (.iaload, 1) := by decide +kernel
theorem dX6_carryAll_95 : decode cX6_carryAll 95 = .ok (.invokevirtual 180, 3) := by decide +kernel
theorem dX6_carryAll_98 : decode cX6_carryAll 98 = .ok (.iastore, 1) := by decide +kernel
theorem dX6_carryAll_99 : decode cX6_carryAll 99 = .ok (.aload_n 0, 1) := by decide +kernel
theorem dX6_carryAll_100 : decode cX6_carryAll 100 = .ok (.getfield 13, 3) := by decide +kernel
theorem dX6_carryAll_103 : decode cX6_carryAll 103 = .ok (.iload_n 3, 1) := by decide +kernel
theorem dX6_carryAll_104 : decode cX6_carryAll 104 = .ok (.aload_n 0, 1) := by decide +kernel
theorem dX6_carryAll_105 : decode cX6_carryAll 105 = .ok (.aload_n 0, 1) := by decide +kernel
theorem dX6_carryAll_106 : decode cX6_carryAll 106 = .ok (.getfield 13, 3) := by decide +kernel
theorem dX6_carryAll_109 : decode cX6_carryAll 109 = .ok (.iload_n 3, 1) := by decide +kernel
theorem dX6_carryAll_110 : decode cX6_carryAll 110 = .ok (.iaload, 1) := by decide +kernel
theorem dX6_carryAll_111 : decode cX6_carryAll 111 = .ok (.invokevirtual 180, 3) := by decide +kernel
theorem dX6_carryAll_114 : decode cX6_carryAll 114 = .ok (.iastore, 1) := by decide +kernel
theorem dX6_carryAll_115 : decode cX6_carryAll 115 = .ok (.aload_n 0, 1) := by decide +kernel
theorem dX6_carryAll_116 : decode cX6_carryAll 116 = .ok (.getfield 16, 3) := by decide +kernel
theorem dX6_carryAll_119 : decode cX6_carryAll 119 = .ok (.iload_n 3, 1) := by decide +kernel
theorem dX6_carryAll_120 : decode cX6_carryAll 120 = .ok (.aload_n 0, 1) := by decide +kernel
theorem dX6_carryAll_121 : decode cX6_carryAll 121 = .ok (.aload_n 0, 1) := by decide +kernel
theorem dX6_carryAll_122 : decode cX6_carryAll 122 = .ok (.getfield 16, 3) := by decide +kernel
theorem dX6_carryAll_125 : decode cX6_carryAll 125 = .ok (.iload_n 3, 1) := by decide +kernel
theorem dX6_carryAll_126 : decode cX6_carryAll 126 = .ok (.iaload, 1) := by decide +kernel
theorem dX6_carryAll_127 : decode cX6_carryAll 127 = .ok (.invokevirtual 180, 3) := by decide +kernel
theorem dX6_carryAll_130 : decode cX6_carryAll 130 = .ok (.iastore, 1) := by decide +kernel
theorem dX6_carryAll_131 : decode cX6_carryAll 131 = .ok (.aload_n 0, 1) := by decide +kernel
theorem dX6_carryAll_132 : decode cX6_carryAll 132 = .ok (.getfield 19, 3) := by decide +kernel
theorem dX6_carryAll_135 : decode cX6_carryAll 135 = .ok (.iload_n 3, 1) := by decide +kernel
theorem dX6_carryAll_136 : decode cX6_carryAll 136 = .ok (.aload_n 0, 1) := by decide +kernel
theorem dX6_carryAll_137 : decode cX6_carryAll 137 = .ok (.aload_n 0, 1) := by decide +kernel
theorem dX6_carryAll_138 : decode cX6_carryAll 138 = .ok (.getfield 19, 3) := by decide +kernel
theorem dX6_carryAll_141 : decode cX6_carryAll 141 = .ok (.iload_n 3, 1) := by decide +kernel
theorem dX6_carryAll_142 : decode cX6_carryAll 142 = .ok (.iaload, 1) := by decide +kernel
theorem dX6_carryAll_143 : decode cX6_carryAll 143 = .ok (.invokevirtual 180, 3) := by decide +kernel
theorem dX6_carryAll_146 : decode cX6_carryAll 146 = .ok (.iastore, 1) := by decide +kernel
theorem dX6_carryAll_147 : decode cX6_carryAll 147 = .ok (.iinc 3 1, 3) := by decide +kernel
theorem dX6_carryAll_150 : decode cX6_carryAll 150 = .ok (.goto (-73), 3) := by decide +kernel
theorem dX6_carryAll_153 : decode cX6_carryAll 153 = .ok (.return_, 1) := by decide +kernel
theorem dX6_think_0 : decode cX6_think 0 = .ok (.aload_n 0, 1) := by decide +kernel
theorem dX6_think_1 : decode cX6_think 1 = .ok (.aload_n 0, 1) := by decide +kernel
theorem dX6_think_2 : decode cX6_think 2 = .ok (.getfield 37, 3) := by decide +kernel
theorem dX6_think_5 : decode cX6_think 5 = .ok (.iconst 1, 1) := by decide +kernel
theorem dX6_think_6 : decode cX6_think 6 = .ok (.invokevirtual 183, 3) := by decide +kernel
theorem dX6_think_9 : decode cX6_think 9 = .ok (.return_, 1) := by decide +kernel
theorem dX6_again_0 : decode cX6_again 0 = .ok (.aload_n 0, 1) := by decide +kernel
theorem dX6_again_1 : decode cX6_again 1 = .ok (.aload_n 0, 1) := by decide +kernel
theorem dX6_again_2 : decode cX6_again 2 = .ok (.getfield 37, 3) := by decide +kernel
theorem dX6_again_5 : decode cX6_again 5 = .ok (.iconst 0, 1) := by decide +kernel
theorem dX6_again_6 : decode cX6_again 6 = .ok (.invokevirtual 183, 3) := by decide +kernel
theorem dX6_again_9 : decode cX6_again 9 = .ok (.return_, 1) := by decide +kernel
theorem dX6_image_0 : decode cX6_image 0 = .ok (.aload_n 0, 1) := by decide +kernel
theorem dX6_image_1 : decode cX6_image 1 = .ok (.iconst 0, 1) := by decide +kernel
theorem dX6_image_2 : decode cX6_image 2 = .ok (.putfield 58, 3) := by decide +kernel
theorem dX6_image_5 : decode cX6_image 5 = .ok (.aload_n 0, 1) := by decide +kernel
theorem dX6_image_6 : decode cX6_image 6 = .ok (.iconst 1, 1) := by decide +kernel
theorem dX6_image_7 : decode cX6_image 7 = .ok (.putfield 187, 3) := by decide +kernel
theorem dX6_image_10 : decode cX6_image 10 = .ok (.aload_n 0, 1) := by decide +kernel
theorem dX6_image_11 : decode cX6_image 11 = .ok (.aload_n 0, 1) := by decide +kernel
theorem dX6_image_12 : decode cX6_image 12 = .ok (.getfield 40, 3) := by decide +kernel
theorem dX6_image_15 : decode cX6_image 15 = .ok (.iconst 1, 1) := by decide +kernel
theorem dX6_image_16 : decode cX6_image 16 = .ok (.invokevirtual 183, 3) := by decide +kernel
theorem dX6_image_19 : decode cX6_image 19 = .ok (.aload_n 0, 1) := by decide +kernel
theorem dX6_image_20 : decode cX6_image 20 = .ok (.getfield 76, 3) := by decide +kernel
theorem dX6_image_23 : decode cX6_image 23 = .ok (.ireturn, 1) := by decide +kernel
theorem dX6_restore_0 : decode cX6_restore 0 = .ok (.aload_n 0, 1) := by decide +kernel
theorem dX6_restore_1 : decode cX6_restore 1 = .ok (.iconst 0, 1) := by decide +kernel
theorem dX6_restore_2 : decode cX6_restore 2 = .ok (.putfield 58, 3) := by decide +kernel
theorem dX6_restore_5 : decode cX6_restore 5 = .ok (.aload_n 0, 1) := by decide +kernel
theorem dX6_restore_6 : decode cX6_restore 6 = .ok (.getfield 187, 3) := by decide +kernel
theorem dX6_restore_9 : decode cX6_restore 9 = .ok (.ifCond .ne 10, 3) := by decide +kernel
theorem dX6_restore_12 : decode cX6_restore 12 = .ok (.aload_n 0, 1) := by decide +kernel
theorem dX6_restore_13 : decode cX6_restore 13 = .ok (.bipush (-3), 2) := by decide +kernel
theorem dX6_restore_15 : decode cX6_restore 15 = .ok (.invokevirtual 108, 3) := by decide +kernel
theorem dX6_restore_18 : decode cX6_restore 18 = .ok (.ireturn, 1) := by decide +kernel
theorem dX6_restore_19 : decode cX6_restore 19 = .ok (.aload_n 0, 1) := by decide +kernel
theorem dX6_restore_20 : decode cX6_restore 20 = .ok (.aload_n 0, 1) := by decide +kernel
theorem dX6_restore_21 : decode cX6_restore 21 = .ok (.getfield 40, 3) := by decide +kernel
theorem dX6_restore_24 : decode cX6_restore 24 = .ok (.iconst 0, 1) := by decide +kernel
theorem dX6_restore_25 : decode cX6_restore 25 = .ok (.invokevirtual 183, 3) := by decide +kernel
theorem dX6_restore_28 : decode cX6_restore 28 = .ok (.aload_n 0, 1) := by decide +kernel
theorem dX6_restore_29 : decode cX6_restore 29 = .ok (.iconst 0, 1) := by decide +kernel
theorem dX6_restore_30 : decode cX6_restore 30 = .ok (.putfield 168, 3) := by decide +kernel
theorem dX6_restore_33 : decode cX6_restore 33 = .ok (.aload_n 0, 1) := by decide +kernel
theorem dX6_restore_34 : decode cX6_restore 34 = .ok (.getfield 76, 3) := by decide +kernel
theorem dX6_restore_37 : decode cX6_restore 37 = .ok (.ireturn, 1) := by decide +kernel
theorem dX6_keepTurn_0 : decode cX6_keepTurn 0 = .ok (.aload_n 0, 1) := by decide +kernel
theorem dX6_keepTurn_1 : decode cX6_keepTurn 1 = .ok (.getfield 168, 3) := by decide +kernel
theorem dX6_keepTurn_4 : decode cX6_keepTurn 4 = .ok (.bipush 8, 2) := by decide +kernel
theorem dX6_keepTurn_6 : decode cX6_keepTurn 6 = .ok (.if_icmp .ne 44, 3) := by decide +kernel
theorem dX6_keepTurn_9 : decode cX6_keepTurn 9 = .ok (.bipush 41, 2) := by decide +kernel
theorem dX6_keepTurn_11 : decode cX6_keepTurn 11 = .ok (.istore_n 1, 1) := by decide +kernel
theorem dX6_keepTurn_12 : decode cX6_keepTurn 12 = .ok (.iload_n 1, 1) := by decide +kernel
theorem dX6_keepTurn_13 : decode cX6_keepTurn 13 = .ok (.sipush 328, 3) := by decide +kernel
theorem dX6_keepTurn_16 : decode cX6_keepTurn 16 = .ok (.if_icmp .ge 24, 3) := by decide +kernel
theorem dX6_keepTurn_19 : decode cX6_keepTurn 19 = .ok (.aload_n 0, 1) := by decide +kernel
theorem dX6_keepTurn_20 : decode cX6_keepTurn 20 = .ok (.getfield 43, 3) := by decide +kernel
theorem dX6_keepTurn_23 : decode cX6_keepTurn 23 = .ok (.iload_n 1, 1) := by decide +kernel
theorem dX6_keepTurn_24 : decode cX6_keepTurn 24 = .ok (.bipush 41, 2) := by decide +kernel
theorem dX6_keepTurn_26 : decode cX6_keepTurn 26 = .ok (.isub, 1) := by decide +kernel
theorem dX6_keepTurn_27 : decode cX6_keepTurn 27 = .ok (.aload_n 0, 1) := by decide +kernel
theorem dX6_keepTurn_28 : decode cX6_keepTurn 28 = .ok (.getfield 43, 3) := by decide +kernel
theorem dX6_keepTurn_31 : decode cX6_keepTurn 31 = .ok (.iload_n 1, 1) := by decide +kernel
theorem dX6_keepTurn_32 : decode cX6_keepTurn 32 = .ok (.iaload, 1) := by decide +kernel
theorem dX6_keepTurn_33 : decode cX6_keepTurn 33 = .ok (.iastore, 1) := by decide +kernel
theorem dX6_keepTurn_34 : decode cX6_keepTurn 34 = .ok (.iinc 1 1, 3) := by decide +kernel
theorem dX6_keepTurn_37 : decode cX6_keepTurn 37 = .ok (.goto (-25), 3) := by decide +kernel
theorem dX6_keepTurn_40 : decode cX6_keepTurn 40 = .ok (.aload_n 0, 1) := by decide +kernel
theorem dX6_keepTurn_41 : decode cX6_keepTurn 41 = .ok (.dup, 1) := by decide +kernel
theorem dX6_keepTurn_42 : decode cX6_keepTurn 42 = .ok (.getfield 168, 3) := by decide +kernel
theorem dX6_keepTurn_45 : decode cX6_keepTurn 45 = .ok (.iconst 1, 1) := by decide +kernel
theorem dX6_keepTurn_46 : decode cX6_keepTurn 46 = .ok (.isub, 1) := by decide +kernel
theorem dX6_keepTurn_47 : decode cX6_keepTurn 47 = .ok (.putfield 168, 3) := by decide +kernel
theorem dX6_keepTurn_50 : decode cX6_keepTurn 50 = .ok (.aload_n 0, 1) := by decide +kernel
theorem dX6_keepTurn_51 : decode cX6_keepTurn 51 = .ok (.aload_n 0, 1) := by decide +kernel
theorem dX6_keepTurn_52 : decode cX6_keepTurn 52 = .ok (.getfield 46, 3) := by decide +kernel
theorem dX6_keepTurn_55 : decode cX6_keepTurn 55 = .ok (.iconst 1, 1) := by decide +kernel
theorem dX6_keepTurn_56 : decode cX6_keepTurn 56 = .ok (.invokevirtual 183, 3) := by decide +kernel
theorem dX6_keepTurn_59 : decode cX6_keepTurn 59 = .ok (.iconst 0, 1) := by decide +kernel
theorem dX6_keepTurn_60 : decode cX6_keepTurn 60 = .ok (.istore_n 1, 1) := by decide +kernel
theorem dX6_keepTurn_61 : decode cX6_keepTurn 61 = .ok (.iload_n 1, 1) := by decide +kernel
theorem dX6_keepTurn_62 : decode cX6_keepTurn 62 = .ok (.bipush 41, 2) := by decide +kernel
theorem dX6_keepTurn_64 : decode cX6_keepTurn 64 = .ok (.if_icmp .ge 29, 3) := by decide +kernel
theorem dX6_keepTurn_67 : decode cX6_keepTurn 67 = .ok (.aload_n 0, 1) := by decide +kernel
theorem dX6_keepTurn_68 : decode cX6_keepTurn 68 = .ok (.getfield 43, 3) := by decide +kernel
theorem dX6_keepTurn_71 : decode cX6_keepTurn 71 = .ok (.bipush 41, 2) := by decide +kernel
theorem dX6_keepTurn_73 : decode cX6_keepTurn 73 = .ok (.aload_n 0, 1) := by decide +kernel
theorem dX6_keepTurn_74 : decode cX6_keepTurn 74 = .ok (.getfield 168, 3) := by decide +kernel
theorem dX6_keepTurn_77 : decode cX6_keepTurn 77 = .ok (.imul, 1) := by decide +kernel
theorem dX6_keepTurn_78 : decode cX6_keepTurn 78 = .ok (.iload_n 1, 1) := by decide +kernel
theorem dX6_keepTurn_79 : decode cX6_keepTurn 79 = .ok (.iadd, 1) := by decide +kernel
theorem dX6_keepTurn_80 : decode cX6_keepTurn 80 = .ok (.aload_n 0, 1) := by decide +kernel
theorem dX6_keepTurn_81 : decode cX6_keepTurn 81 = .ok (.getfield 46, 3) := by decide +kernel
theorem dX6_keepTurn_84 : decode cX6_keepTurn 84 = .ok (.iload_n 1, 1) := by decide +kernel
theorem dX6_keepTurn_85 : decode cX6_keepTurn 85 = .ok (.iaload, 1) := by decide +kernel
theorem dX6_keepTurn_86 : decode cX6_keepTurn 86 = .ok (.iastore, 1) := by decide +kernel
theorem dX6_keepTurn_87 : decode cX6_keepTurn 87 = .ok (.iinc 1 1, 3) := by decide +kernel
theorem dX6_keepTurn_90 : decode cX6_keepTurn 90 = .ok (.goto (-29), 3) := by decide +kernel
theorem dX6_keepTurn_93 : decode cX6_keepTurn 93 = .ok (.aload_n 0, 1) := by decide +kernel
theorem dX6_keepTurn_94 : decode cX6_keepTurn 94 = .ok (.dup, 1) := by decide +kernel
theorem dX6_keepTurn_95 : decode cX6_keepTurn 95 = .ok (.getfield 168, 3) := by decide +kernel
theorem dX6_keepTurn_98 : decode cX6_keepTurn 98 = .ok (.iconst 1, 1) := by decide +kernel
theorem dX6_keepTurn_99 : decode cX6_keepTurn 99 = .ok (.iadd, 1) := by decide +kernel
theorem dX6_keepTurn_100 : decode cX6_keepTurn 100 = .ok (.putfield 168, 3) := by decide +kernel
theorem dX6_keepTurn_103 : decode cX6_keepTurn 103 = .ok (.return_, 1) := by decide +kernel
theorem dX6_back_0 : decode cX6_back 0 = .ok (.aload_n 0, 1) := by decide +kernel
theorem dX6_back_1 : decode cX6_back 1 = .ok (.iconst 0, 1) := by decide +kernel
theorem dX6_back_2 : decode cX6_back 2 = .ok (.putfield 58, 3) := by decide +kernel
theorem dX6_back_5 : decode cX6_back 5 = .ok (.aload_n 0, 1) := by decide +kernel
theorem dX6_back_6 : decode cX6_back 6 = .ok (.getfield 168, 3) := by decide +kernel
theorem dX6_back_9 : decode cX6_back 9 = .ok (.ifCond .ne 10, 3) := by decide +kernel
theorem dX6_back_12 : decode cX6_back 12 = .ok (.aload_n 0, 1) := by decide +kernel
theorem dX6_back_13 : decode cX6_back 13 = .ok (.bipush (-3), 2) := by decide +kernel
theorem dX6_back_15 : decode cX6_back 15 = .ok (.invokevirtual 108, 3) := by decide +kernel
theorem dX6_back_18 : decode cX6_back 18 = .ok (.ireturn, 1) := by decide +kernel
theorem dX6_back_19 : decode cX6_back 19 = .ok (.aload_n 0, 1) := by decide +kernel
theorem dX6_back_20 : decode cX6_back 20 = .ok (.dup, 1) := by decide +kernel
theorem dX6_back_21 : decode cX6_back 21 = .ok (.getfield 168, 3) := by decide +kernel
theorem dX6_back_24 : decode cX6_back 24 = .ok (.iconst 1, 1) := by decide +kernel
theorem dX6_back_25 : decode cX6_back 25 = .ok (.isub, 1) := by decide +kernel
theorem dX6_back_26 : decode cX6_back 26 = .ok (.putfield 168, 3) := by decide +kernel
theorem dX6_back_29 : decode cX6_back 29 = .ok (.iconst 0, 1) := by decide +kernel
theorem dX6_back_30 : decode cX6_back 30 = .ok (.istore_n 1, 1) := by decide +kernel
theorem dX6_back_31 : decode cX6_back 31 = .ok (.iload_n 1, 1) := by decide +kernel
theorem dX6_back_32 : decode cX6_back 32 = .ok (.bipush 41, 2) := by decide +kernel
theorem dX6_back_34 : decode cX6_back 34 = .ok (.if_icmp .ge 29, 3) := by decide +kernel
theorem dX6_back_37 : decode cX6_back 37 = .ok (.aload_n 0, 1) := by decide +kernel
theorem dX6_back_38 : decode cX6_back 38 = .ok (.getfield 46, 3) := by decide +kernel
theorem dX6_back_41 : decode cX6_back 41 = .ok (.iload_n 1, 1) := by decide +kernel
theorem dX6_back_42 : decode cX6_back 42 = .ok (.aload_n 0, 1) := by decide +kernel
theorem dX6_back_43 : decode cX6_back 43 = .ok (.getfield 43, 3) := by decide +kernel
theorem dX6_back_46 : decode cX6_back 46 = .ok (.bipush 41, 2) := by decide +kernel
theorem dX6_back_48 : decode cX6_back 48 = .ok (.aload_n 0, 1) := by decide +kernel
theorem dX6_back_49 : decode cX6_back 49 = .ok (.getfield 168, 3) := by decide +kernel
theorem dX6_back_52 : decode cX6_back 52 = .ok (.imul, 1) := by decide +kernel
theorem dX6_back_53 : decode cX6_back 53 = .ok (.iload_n 1, 1) := by decide +kernel
theorem dX6_back_54 : decode cX6_back 54 = .ok (.iadd, 1) := by decide +kernel
theorem dX6_back_55 : decode cX6_back 55 = .ok (.iaload, 1) := by decide +kernel
theorem dX6_back_56 : decode cX6_back 56 = .ok (.iastore, 1) := by decide +kernel
theorem dX6_back_57 : decode cX6_back 57 = .ok (.iinc 1 1, 3) := by decide +kernel
theorem dX6_back_60 : decode cX6_back 60 = .ok (.goto (-29), 3) := by decide +kernel
theorem dX6_back_63 : decode cX6_back 63 = .ok (.aload_n 0, 1) := by decide +kernel
theorem dX6_back_64 : decode cX6_back 64 = .ok (.aload_n 0, 1) := by decide +kernel
theorem dX6_back_65 : decode cX6_back 65 = .ok (.getfield 46, 3) := by decide +kernel
theorem dX6_back_68 : decode cX6_back 68 = .ok (.iconst 0, 1) := by decide +kernel
theorem dX6_back_69 : decode cX6_back 69 = .ok (.invokevirtual 183, 3) := by decide +kernel
theorem dX6_back_72 : decode cX6_back 72 = .ok (.aload_n 0, 1) := by decide +kernel
theorem dX6_back_73 : decode cX6_back 73 = .ok (.getfield 168, 3) := by decide +kernel
theorem dX6_back_76 : decode cX6_back 76 = .ok (.ireturn, 1) := by decide +kernel
theorem dX6_letNext_0 : decode cX6_letNext 0 = .ok (.aload_n 0, 1) := by decide +kernel
theorem dX6_letNext_1 : decode cX6_letNext 1 = .ok (.getfield 83, 3) := by decide +kernel
theorem dX6_letNext_4 : decode cX6_letNext 4 = .ok (.iload_n 1, 1) := by decide +kernel
theorem dX6_letNext_5 : decode cX6_letNext 5 = .ok (.invokestatic 86, 3) := by decide +kernel
theorem dX6_letNext_8 : decode cX6_letNext 8 = .ok (.ifCond .eq 7, 3) := by decide +kernel
theorem dX6_letNext_11 : decode cX6_letNext 11 = .ok (.iconst 0, 1) := by decide +kernel
theorem dX6_letNext_12 : decode cX6_letNext 12 = .ok (.goto 8, 3) := by decide +kernel
theorem dX6_letNext_15 : decode cX6_letNext 15 = .ok (.aload_n 0, 1) := by decide +kernel
theorem dX6_letNext_16 : decode cX6_letNext 16 = .ok (.iload_n 1, 1) := by decide +kernel
theorem dX6_letNext_17 : decode cX6_letNext 17 = .ok (.invokevirtual 90, 3) := by decide +kernel
theorem dX6_letNext_20 : decode cX6_letNext 20 = .ok (.ireturn, 1) := by decide +kernel
theorem dX6_houseOf_0 : decode cX6_houseOf 0 = .ok (.aload_n 0, 1) := by decide +kernel
theorem dX6_houseOf_1 : decode cX6_houseOf 1 = .ok (.iconst 0, 1) := by decide +kernel
theorem dX6_houseOf_2 : decode cX6_houseOf 2 = .ok (.putfield 58, 3) := by decide +kernel
theorem dX6_houseOf_5 : decode cX6_houseOf 5 = .ok (.aload_n 0, 1) := by decide +kernel
theorem dX6_houseOf_6 : decode cX6_houseOf 6 = .ok (.iload_n 1, 1) := by decide +kernel
theorem dX6_houseOf_7 : decode cX6_houseOf 7 = .ok (.invokevirtual 147, 3) := by decide +kernel
theorem dX6_houseOf_10 : decode cX6_houseOf 10 = .ok (.ifCond .eq 15, 3) := by decide +kernel
theorem dX6_houseOf_13 : decode cX6_houseOf 13 = .ok (.iload_n 2, 1) := by decide +kernel
theorem dX6_houseOf_14 : decode cX6_houseOf 14 = .ok (.i2l, 1) := by decide +kernel
theorem dX6_houseOf_15 : decode cX6_houseOf 15 = .ok (.lconst 0, 1) := by decide +kernel
theorem dX6_houseOf_16 : decode cX6_houseOf 16 = .ok (.ldc2_w 190, 3) := by decide +kernel
theorem dX6_houseOf_19 : decode cX6_houseOf 19 = .ok (.invokestatic 65, 3) := by decide +kernel
theorem dX6_houseOf_22 : decode cX6_houseOf 22 = .ok (.ifCond .ne 22, 3) := by decide +kernel
theorem dX6_houseOf_25 : decode cX6_houseOf 25 = .ok (.aload_n 0, 1) := by decide +kernel
theorem dX6_houseOf_26 : decode cX6_houseOf 26 = .ok (.aload_n 0, 1) := by decide +kernel
theorem dX6_houseOf_27 : decode cX6_houseOf 27 = .ok (.iload_n 1, 1) := by decide +kernel
theorem dX6_houseOf_28 : decode cX6_houseOf 28 = .ok (.invokevirtual 147, 3) := by decide +kernel
theorem dX6_houseOf_31 : decode cX6_houseOf 31 = .ok (.ifCond .eq 8, 3) := by decide +kernel
theorem dX6_houseOf_34 : decode cX6_houseOf 34 = .ok (.bipush (-2), 2) := by decide +kernel
theorem dX6_houseOf_36 : decode cX6_houseOf 36 = .ok (.goto 4, 3) := by decide +kernel
theorem dX6_houseOf_39 : decode cX6_houseOf 39 = .ok (.iconst (-1), 1) := by decide +kernel
theorem dX6_houseOf_40 : decode cX6_houseOf 40 = .ok (.invokevirtual 108, 3) := by decide +kernel
theorem dX6_houseOf_43 : decode cX6_houseOf 43 = .ok (.ireturn, 1) := by decide +kernel
theorem dX6_houseOf_44 : decode cX6_houseOf 44 = .ok (.iload_n 2, 1) := by decide +kernel
theorem dX6_houseOf_45 : decode cX6_houseOf 45 = .ok (.tableswitch 101 0 5 #[39, 46, 53, 60, 67, 84], 39) := by decide +kernel
theorem dX6_houseOf_84 : decode cX6_houseOf 84 = .ok (.aload_n 0, 1) := by decide +kernel
theorem dX6_houseOf_85 : decode cX6_houseOf 85 = .ok (.getfield 7, 3) := by decide +kernel
theorem dX6_houseOf_88 : decode cX6_houseOf 88 = .ok (.iload_n 1, 1) := by decide +kernel
theorem dX6_houseOf_89 : decode cX6_houseOf 89 = .ok (.iaload, 1) := by decide +kernel
theorem dX6_houseOf_90 : decode cX6_houseOf 90 = .ok (.ireturn, 1) := by decide +kernel
theorem dX6_houseOf_91 : decode cX6_houseOf 91 = .ok (.aload_n 0, 1) := by decide +kernel
theorem dX6_houseOf_92 : decode cX6_houseOf 92 = .ok (.getfield 13, 3) := by decide +kernel
theorem dX6_houseOf_95 : decode cX6_houseOf 95 = .ok (.iload_n 1, 1) := by decide +kernel
theorem dX6_houseOf_96 : decode cX6_houseOf 96 = .ok (.iaload, 1) := by decide +kernel
theorem dX6_houseOf_97 : decode cX6_houseOf 97 = .ok (.ireturn, 1) := by decide +kernel
theorem dX6_houseOf_98 : decode cX6_houseOf 98 = .ok (.aload_n 0, 1) := by decide +kernel
theorem dX6_houseOf_99 : decode cX6_houseOf 99 = .ok (.getfield 16, 3) := by decide +kernel
theorem dX6_houseOf_102 : decode cX6_houseOf 102 = .ok (.iload_n 1, 1) := by decide +kernel
theorem dX6_houseOf_103 : decode cX6_houseOf 103 = .ok (.iaload, 1) := by decide +kernel
theorem dX6_houseOf_104 : decode cX6_houseOf 104 = .ok (.ireturn, 1) := by decide +kernel
theorem dX6_houseOf_105 : decode cX6_houseOf 105 = .ok (.aload_n 0, 1) := by decide +kernel
theorem dX6_houseOf_106 : decode cX6_houseOf 106 = .ok (.getfield 19, 3) := by decide +kernel
theorem dX6_houseOf_109 : decode cX6_houseOf 109 = .ok (.iload_n 1, 1) := by decide +kernel
theorem dX6_houseOf_110 : decode cX6_houseOf 110 = .ok (.iaload, 1) := by decide +kernel
theorem dX6_houseOf_111 : decode cX6_houseOf 111 = .ok (.ireturn, 1) := by decide +kernel
theorem dX6_houseOf_112 : decode cX6_houseOf 112 = .ok (.aload_n 0, 1) := by decide +kernel
theorem dX6_houseOf_113 : decode cX6_houseOf 113 = .ok (.getfield 83, 3) := by decide +kernel
theorem dX6_houseOf_116 : decode cX6_houseOf 116 = .ok (.iload_n 1, 1) := by decide +kernel
theorem dX6_houseOf_117 : decode cX6_houseOf 117 = .ok (.invokestatic 86, 3) := by decide +kernel
theorem dX6_houseOf_120 : decode cX6_houseOf 120 = .ok (.ifCond .eq 7, 3) := by decide +kernel
theorem dX6_houseOf_123 : decode cX6_houseOf 123 = .ok (.iconst 1, 1) := by decide +kernel
theorem dX6_houseOf_124 : decode cX6_houseOf 124 = .ok (.goto 4, 3) := by decide +kernel
theorem dX6_houseOf_127 : decode cX6_houseOf 127 = .ok (.iconst 0, 1) := by decide +kernel
theorem dX6_houseOf_128 : decode cX6_houseOf 128 = .ok (.ireturn, 1) := by decide +kernel
theorem dX6_houseOf_129 : decode cX6_houseOf 129 = .ok (.aload_n 0, 1) := by decide +kernel
theorem dX6_houseOf_130 : decode cX6_houseOf 130 = .ok (.getfield 73, 3) := by decide +kernel
theorem dX6_houseOf_133 : decode cX6_houseOf 133 = .ok (.iload_n 1, 1) := by decide +kernel
theorem dX6_houseOf_134 : decode cX6_houseOf 134 = .ok (.invokestatic 86, 3) := by decide +kernel
theorem dX6_houseOf_137 : decode cX6_houseOf 137 = .ok (.ifCond .eq 7, 3) := by decide +kernel
theorem dX6_houseOf_140 : decode cX6_houseOf 140 = .ok (.iconst 1, 1) := by decide +kernel
theorem dX6_houseOf_141 : decode cX6_houseOf 141 = .ok (.goto 4, 3) := by decide +kernel
theorem dX6_houseOf_144 : decode cX6_houseOf 144 = .ok (.iconst 0, 1) := by decide +kernel
theorem dX6_houseOf_145 : decode cX6_houseOf 145 = .ok (.ireturn, 1) := by decide +kernel
theorem dX6_houseOf_146 : decode cX6_houseOf 146 = .ok (.aload_n 0, 1) := by decide +kernel
theorem dX6_houseOf_147 : decode cX6_houseOf 147 = .ok (.iload_n 1, 1) := by decide +kernel
theorem dX6_houseOf_148 : decode cX6_houseOf 148 = .ok (.invokevirtual 192, 3) := by decide +kernel
theorem dX6_houseOf_151 : decode cX6_houseOf 151 = .ok (.ireturn, 1) := by decide +kernel
theorem dX6_house_0 : decode cX6_house 0 = .ok (.aload_n 0, 1) := by decide +kernel
theorem dX6_house_1 : decode cX6_house 1 = .ok (.iconst 0, 1) := by decide +kernel
theorem dX6_house_2 : decode cX6_house 2 = .ok (.putfield 58, 3) := by decide +kernel
theorem dX6_house_5 : decode cX6_house 5 = .ok (.iload_n 1, 1) := by decide +kernel
theorem dX6_house_6 : decode cX6_house 6 = .ok (.i2l, 1) := by decide +kernel
theorem dX6_house_7 : decode cX6_house 7 = .ok (.lconst 0, 1) := by decide +kernel
theorem dX6_house_8 : decode cX6_house 8 = .ok (.ldc2_w 195, 3) := by decide +kernel
theorem dX6_house_11 : decode cX6_house 11 = .ok (.invokestatic 65, 3) := by decide +kernel
theorem dX6_house_14 : decode cX6_house 14 = .ok (.ifCond .eq 13, 3) := by decide +kernel
theorem dX6_house_17 : decode cX6_house 17 = .ok (.iload_n 2, 1) := by decide +kernel
theorem dX6_house_18 : decode cX6_house 18 = .ok (.iconst 0, 1) := by decide +kernel
theorem dX6_house_19 : decode cX6_house 19 = .ok (.bipush 9, 2) := by decide +kernel
theorem dX6_house_21 : decode cX6_house 21 = .ok (.invokestatic 197, 3) := by decide +kernel
theorem dX6_house_24 : decode cX6_house 24 = .ok (.goto 5, 3) := by decide +kernel
theorem dX6_house_27 : decode cX6_house 27 = .ok (.bipush (-2), 2) := by decide +kernel
theorem dX6_house_29 : decode cX6_house 29 = .ok (.istore_n 3, 1) := by decide +kernel
theorem dX6_house_30 : decode cX6_house 30 = .ok (.iload_n 3, 1) := by decide +kernel
theorem dX6_house_31 : decode cX6_house 31 = .ok (.ifCond .ne 17, 3) := by decide +kernel
theorem dX6_house_34 : decode cX6_house 34 = .ok (.aload_n 0, 1) := by decide +kernel
theorem dX6_house_35 : decode cX6_house 35 = .ok (.getfield 62, 3) := by decide +kernel
theorem dX6_house_38 : decode cX6_house 38 = .ok (.bipush 9, 2) := by decide +kernel
theorem dX6_house_40 : decode cX6_house 40 = .ok (.if_icmp .ne 8, 3) := by decide +kernel
theorem dX6_house_43 : decode cX6_house 43 = .ok (.bipush (-6), 2) := by decide +kernel
theorem dX6_house_45 : decode cX6_house 45 = .ok (.goto 4, 3) := by decide +kernel
theorem dX6_house_48 : decode cX6_house 48 = .ok (.iload_n 3, 1) := by decide +kernel
theorem dX6_house_49 : decode cX6_house 49 = .ok (.istore_n 3, 1) := by decide +kernel
theorem dX6_house_50 : decode cX6_house 50 = .ok (.iload_n 3, 1) := by decide +kernel
theorem dX6_house_51 : decode cX6_house 51 = .ok (.ifCond .ge 9, 3) := by decide +kernel
theorem dX6_house_54 : decode cX6_house 54 = .ok (.aload_n 0, 1) := by decide +kernel
theorem dX6_house_55 : decode cX6_house 55 = .ok (.iload_n 3, 1) := by decide +kernel
theorem dX6_house_56 : decode cX6_house 56 = .ok (.invokevirtual 108, 3) := by decide +kernel
theorem dX6_house_59 : decode cX6_house 59 = .ok (.ireturn, 1) := by decide +kernel
theorem dX6_house_60 : decode cX6_house 60 = .ok (.aload_n 0, 1) := by decide +kernel
theorem dX6_house_61 : decode cX6_house 61 = .ok (.iload_n 1, 1) := by decide +kernel
theorem dX6_house_62 : decode cX6_house 62 = .ok (.iload_n 2, 1) := by decide +kernel
theorem dX6_house_63 : decode cX6_house 63 = .ok (.invokevirtual 150, 3) := by decide +kernel
theorem dX6_house_66 : decode cX6_house 66 = .ok (.pop, 1) := by decide +kernel
theorem dX6_house_67 : decode cX6_house 67 = .ok (.aload_n 0, 1) := by decide +kernel
theorem dX6_house_68 : decode cX6_house 68 = .ok (.iconst 0, 1) := by decide +kernel
theorem dX6_house_69 : decode cX6_house 69 = .ok (.putfield 168, 3) := by decide +kernel
theorem dX6_house_72 : decode cX6_house 72 = .ok (.aload_n 0, 1) := by decide +kernel
theorem dX6_house_73 : decode cX6_house 73 = .ok (.getfield 62, 3) := by decide +kernel
theorem dX6_house_76 : decode cX6_house 76 = .ok (.iconst 1, 1) := by decide +kernel
theorem dX6_house_77 : decode cX6_house 77 = .ok (.isub, 1) := by decide +kernel
theorem dX6_house_78 : decode cX6_house 78 = .ok (.ireturn, 1) := by decide +kernel
theorem dX6_joins_0 : decode cX6_joins 0 = .ok (.aload_n 0, 1) := by decide +kernel
theorem dX6_joins_1 : decode cX6_joins 1 = .ok (.iconst 0, 1) := by decide +kernel
theorem dX6_joins_2 : decode cX6_joins 2 = .ok (.putfield 58, 3) := by decide +kernel
theorem dX6_joins_5 : decode cX6_joins 5 = .ok (.aload_n 0, 1) := by decide +kernel
theorem dX6_joins_6 : decode cX6_joins 6 = .ok (.iload_n 1, 1) := by decide +kernel
theorem dX6_joins_7 : decode cX6_joins 7 = .ok (.invokevirtual 147, 3) := by decide +kernel
theorem dX6_joins_10 : decode cX6_joins 10 = .ok (.ifCond .eq 15, 3) := by decide +kernel
theorem dX6_joins_13 : decode cX6_joins 13 = .ok (.iload_n 2, 1) := by decide +kernel
theorem dX6_joins_14 : decode cX6_joins 14 = .ok (.i2l, 1) := by decide +kernel
theorem dX6_joins_15 : decode cX6_joins 15 = .ok (.lconst 0, 1) := by decide +kernel
theorem dX6_joins_16 : decode cX6_joins 16 = .ok (.ldc2_w 201, 3) := by decide +kernel
theorem dX6_joins_19 : decode cX6_joins 19 = .ok (.invokestatic 65, 3) := by decide +kernel
theorem dX6_joins_22 : decode cX6_joins 22 = .ok (.ifCond .ne 9, 3) := by decide +kernel
theorem dX6_joins_25 : decode cX6_joins 25 = .ok (.aload_n 0, 1) := by decide +kernel
theorem dX6_joins_26 : decode cX6_joins 26 = .ok (.iconst (-1), 1) := by decide +kernel
theorem dX6_joins_27 : decode cX6_joins 27 = .ok (.invokevirtual 108, 3) := by decide +kernel
theorem dX6_joins_30 : decode cX6_joins 30 = .ok (.ireturn, 1) := by decide +kernel
theorem dX6_joins_31 : decode cX6_joins 31 = .ok (.iload_n 2, 1) := by decide +kernel
theorem dX6_joins_32 : decode cX6_joins 32 = .ok (.iload_n 1, 1) := by decide +kernel
theorem dX6_joins_33 : decode cX6_joins 33 = .ok (.if_icmp .gt 10, 3) := by decide +kernel
theorem dX6_joins_36 : decode cX6_joins 36 = .ok (.aload_n 0, 1) := by decide +kernel
theorem dX6_joins_37 : decode cX6_joins 37 = .ok (.bipush (-3), 2) := by decide +kernel
theorem dX6_joins_39 : decode cX6_joins 39 = .ok (.invokevirtual 108, 3) := by decide +kernel
theorem dX6_joins_42 : decode cX6_joins 42 = .ok (.ireturn, 1) := by decide +kernel
theorem dX6_joins_43 : decode cX6_joins 43 = .ok (.aload_n 0, 1) := by decide +kernel
theorem dX6_joins_44 : decode cX6_joins 44 = .ok (.invokevirtual 203, 3) := by decide +kernel
theorem dX6_joins_47 : decode cX6_joins 47 = .ok (.aload_n 0, 1) := by decide +kernel
theorem dX6_joins_48 : decode cX6_joins 48 = .ok (.getfield 19, 3) := by decide +kernel
theorem dX6_joins_51 : decode cX6_joins 51 = .ok (.iload_n 1, 1) := by decide +kernel
theorem dX6_joins_52 : decode cX6_joins 52 = .ok (.iaload, 1) := by decide +kernel
theorem dX6_joins_53 : decode cX6_joins 53 = .ok (.istore_n 3, 1) := by decide +kernel
theorem dX6_joins_54 : decode cX6_joins 54 = .ok (.aload_n 0, 1) := by decide +kernel
theorem dX6_joins_55 : decode cX6_joins 55 = .ok (.getfield 19, 3) := by decide +kernel
theorem dX6_joins_58 : decode cX6_joins 58 = .ok (.iload_n 1, 1) := by decide +kernel
theorem dX6_joins_59 : decode cX6_joins 59 = .ok (.iload_n 2, 1) := by decide +kernel
theorem dX6_joins_60 : decode cX6_joins 60 = .ok (.iastore, 1) := by decide +kernel
theorem dX6_joins_61 : decode cX6_joins 61 = .ok (.iload_n 3, 1) := by decide +kernel
theorem dX6_joins_62 : decode cX6_joins 62 = .ok (.ireturn, 1) := by decide +kernel
theorem dX6_blocks_0 : decode cX6_blocks 0 = .ok (.aload_n 0, 1) := by decide +kernel
theorem dX6_blocks_1 : decode cX6_blocks 1 = .ok (.iconst 0, 1) := by decide +kernel
theorem dX6_blocks_2 : decode cX6_blocks 2 = .ok (.putfield 58, 3) := by decide +kernel
theorem dX6_blocks_5 : decode cX6_blocks 5 = .ok (.aload_n 0, 1) := by decide +kernel
theorem dX6_blocks_6 : decode cX6_blocks 6 = .ok (.iload_n 1, 1) := by decide +kernel
theorem dX6_blocks_7 : decode cX6_blocks 7 = .ok (.invokevirtual 147, 3) := by decide +kernel
theorem dX6_blocks_10 : decode cX6_blocks 10 = .ok (.ifCond .ne 9, 3) := by decide +kernel
theorem dX6_blocks_13 : decode cX6_blocks 13 = .ok (.aload_n 0, 1) := by decide +kernel
theorem dX6_blocks_14 : decode cX6_blocks 14 = .ok (.iconst (-1), 1) := by decide +kernel
theorem dX6_blocks_15 : decode cX6_blocks 15 = .ok (.invokevirtual 108, 3) := by decide +kernel
theorem dX6_blocks_18 : decode cX6_blocks 18 = .ok (.ireturn, 1) := by decide +kernel
theorem dX6_blocks_19 : decode cX6_blocks 19 = .ok (.aload_n 0, 1) := by decide +kernel
theorem dX6_blocks_20 : decode cX6_blocks 20 = .ok (.invokevirtual 203, 3) := by decide +kernel
theorem dX6_blocks_23 : decode cX6_blocks 23 = .ok (.aload_n 0, 1) := by decide +kernel
theorem dX6_blocks_24 : decode cX6_blocks 24 = .ok (.dup, 1) := by decide +kernel
theorem dX6_blocks_25 : decode cX6_blocks 25 = .ok (.getfield 83, 3) := by decide +kernel
theorem dX6_blocks_28 : decode cX6_blocks 28 = .ok (.iconst 1, 1) := by decide +kernel
theorem dX6_blocks_29 : decode cX6_blocks 29 = .ok (.iload_n 1, 1) := by decide +kernel
theorem dX6_blocks_30 : decode cX6_blocks 30 = .ok (.ishl, 1) := by decide +kernel
theorem dX6_blocks_31 : decode cX6_blocks 31 = .ok (.ixor, 1) := by decide +kernel
theorem dX6_blocks_32 : decode cX6_blocks 32 = .ok (.putfield 83, 3) := by decide +kernel
theorem dX6_blocks_35 : decode cX6_blocks 35 = .ok (.aload_n 0, 1) := by decide +kernel
theorem dX6_blocks_36 : decode cX6_blocks 36 = .ok (.getfield 83, 3) := by decide +kernel
theorem dX6_blocks_39 : decode cX6_blocks 39 = .ok (.iload_n 1, 1) := by decide +kernel
theorem dX6_blocks_40 : decode cX6_blocks 40 = .ok (.invokestatic 86, 3) := by decide +kernel
theorem dX6_blocks_43 : decode cX6_blocks 43 = .ok (.ifCond .eq 7, 3) := by decide +kernel
theorem dX6_blocks_46 : decode cX6_blocks 46 = .ok (.iconst 1, 1) := by decide +kernel
theorem dX6_blocks_47 : decode cX6_blocks 47 = .ok (.goto 4, 3) := by decide +kernel
theorem dX6_blocks_50 : decode cX6_blocks 50 = .ok (.iconst 0, 1) := by decide +kernel
theorem dX6_blocks_51 : decode cX6_blocks 51 = .ok (.ireturn, 1) := by decide +kernel
theorem dX6_pours_0 : decode cX6_pours 0 = .ok (.aload_n 0, 1) := by decide +kernel
theorem dX6_pours_1 : decode cX6_pours 1 = .ok (.iconst 0, 1) := by decide +kernel
theorem dX6_pours_2 : decode cX6_pours 2 = .ok (.putfield 58, 3) := by decide +kernel
theorem dX6_pours_5 : decode cX6_pours 5 = .ok (.aload_n 0, 1) := by decide +kernel
theorem dX6_pours_6 : decode cX6_pours 6 = .ok (.iload_n 1, 1) := by decide +kernel
theorem dX6_pours_7 : decode cX6_pours 7 = .ok (.invokevirtual 147, 3) := by decide +kernel
theorem dX6_pours_10 : decode cX6_pours 10 = .ok (.ifCond .eq 13, 3) := by decide +kernel
theorem dX6_pours_13 : decode cX6_pours 13 = .ok (.iload_n 2, 1) := by decide +kernel
theorem dX6_pours_14 : decode cX6_pours 14 = .ok (.iconst 0, 1) := by decide +kernel
theorem dX6_pours_15 : decode cX6_pours 15 = .ok (.bipush 99, 2) := by decide +kernel
theorem dX6_pours_17 : decode cX6_pours 17 = .ok (.invokestatic 197, 3) := by decide +kernel
theorem dX6_pours_20 : decode cX6_pours 20 = .ok (.goto 4, 3) := by decide +kernel
theorem dX6_pours_23 : decode cX6_pours 23 = .ok (.iconst (-1), 1) := by decide +kernel
theorem dX6_pours_24 : decode cX6_pours 24 = .ok (.istore_n 3, 1) := by decide +kernel
theorem dX6_pours_25 : decode cX6_pours 25 = .ok (.iload_n 3, 1) := by decide +kernel
theorem dX6_pours_26 : decode cX6_pours 26 = .ok (.ifCond .ge 9, 3) := by decide +kernel
theorem dX6_pours_29 : decode cX6_pours 29 = .ok (.aload_n 0, 1) := by decide +kernel
theorem dX6_pours_30 : decode cX6_pours 30 = .ok (.iload_n 3, 1) := by decide +kernel
theorem dX6_pours_31 : decode cX6_pours 31 = .ok (.invokevirtual 108, 3) := by decide +kernel
theorem dX6_pours_34 : decode cX6_pours 34 = .ok (.ireturn, 1) := by decide +kernel
theorem dX6_pours_35 : decode cX6_pours 35 = .ok (.aload_n 0, 1) := by decide +kernel
theorem dX6_pours_36 : decode cX6_pours 36 = .ok (.invokevirtual 203, 3) := by decide +kernel
theorem dX6_pours_39 : decode cX6_pours 39 = .ok (.aload_n 0, 1) := by decide +kernel
theorem dX6_pours_40 : decode cX6_pours 40 = .ok (.iload_n 1, 1) := by decide +kernel
theorem dX6_pours_41 : decode cX6_pours 41 = .ok (.iload_n 2, 1) := by decide +kernel
theorem dX6_pours_42 : decode cX6_pours 42 = .ok (.invokevirtual 97, 3) := by decide +kernel
theorem dX6_pours_45 : decode cX6_pours 45 = .ok (.aload_n 0, 1) := by decide +kernel
theorem dX6_pours_46 : decode cX6_pours 46 = .ok (.getfield 16, 3) := by decide +kernel
theorem dX6_pours_49 : decode cX6_pours 49 = .ok (.iload_n 1, 1) := by decide +kernel
theorem dX6_pours_50 : decode cX6_pours 50 = .ok (.iaload, 1) := by decide +kernel
theorem dX6_pours_51 : decode cX6_pours 51 = .ok (.ireturn, 1) := by decide +kernel
theorem dX6_empties_0 : decode cX6_empties 0 = .ok (.aload_n 0, 1) := by decide +kernel
theorem dX6_empties_1 : decode cX6_empties 1 = .ok (.iconst 0, 1) := by decide +kernel
theorem dX6_empties_2 : decode cX6_empties 2 = .ok (.putfield 58, 3) := by decide +kernel
theorem dX6_empties_5 : decode cX6_empties 5 = .ok (.aload_n 0, 1) := by decide +kernel
theorem dX6_empties_6 : decode cX6_empties 6 = .ok (.getfield 101, 3) := by decide +kernel
theorem dX6_empties_9 : decode cX6_empties 9 = .ok (.istore_n 1, 1) := by decide +kernel
theorem dX6_empties_10 : decode cX6_empties 10 = .ok (.aload_n 0, 1) := by decide +kernel
theorem dX6_empties_11 : decode cX6_empties 11 = .ok (.iconst 0, 1) := by decide +kernel
theorem dX6_empties_12 : decode cX6_empties 12 = .ok (.putfield 101, 3) := by decide +kernel
theorem dX6_empties_15 : decode cX6_empties 15 = .ok (.aload_n 0, 1) := by decide +kernel
theorem dX6_empties_16 : decode cX6_empties 16 = .ok (.iconst 0, 1) := by decide +kernel
theorem dX6_empties_17 : decode cX6_empties 17 = .ok (.putfield 168, 3) := by decide +kernel
theorem dX6_empties_20 : decode cX6_empties 20 = .ok (.iload_n 1, 1) := by decide +kernel
theorem dX6_empties_21 : decode cX6_empties 21 = .ok (.ireturn, 1) := by decide +kernel
theorem dX6_hours_0 : decode cX6_hours 0 = .ok (.aload_n 0, 1) := by decide +kernel
theorem dX6_hours_1 : decode cX6_hours 1 = .ok (.iconst 0, 1) := by decide +kernel
theorem dX6_hours_2 : decode cX6_hours 2 = .ok (.putfield 58, 3) := by decide +kernel
theorem dX6_hours_5 : decode cX6_hours 5 = .ok (.iload_n 1, 1) := by decide +kernel
theorem dX6_hours_6 : decode cX6_hours 6 = .ok (.iconst 1, 1) := by decide +kernel
theorem dX6_hours_7 : decode cX6_hours 7 = .ok (.bipush 60, 2) := by decide +kernel
theorem dX6_hours_9 : decode cX6_hours 9 = .ok (.invokestatic 197, 3) := by decide +kernel
theorem dX6_hours_12 : decode cX6_hours 12 = .ok (.istore_n 2, 1) := by decide +kernel
theorem dX6_hours_13 : decode cX6_hours 13 = .ok (.iload_n 2, 1) := by decide +kernel
theorem dX6_hours_14 : decode cX6_hours 14 = .ok (.ifCond .ne 20, 3) := by decide +kernel
theorem dX6_hours_17 : decode cX6_hours 17 = .ok (.aload_n 0, 1) := by decide +kernel
theorem dX6_hours_18 : decode cX6_hours 18 = .ok (.getfield 76, 3) := by decide +kernel
theorem dX6_hours_21 : decode cX6_hours 21 = .ok (.iload_n 1, 1) := by decide +kernel
theorem dX6_hours_22 : decode cX6_hours 22 = .ok (.iadd, 1) := by decide +kernel
theorem dX6_hours_23 : decode cX6_hours 23 = .ok (.sipush 999, 3) := by decide +kernel
theorem dX6_hours_26 : decode cX6_hours 26 = .ok (.if_icmp .le 8, 3) := by decide +kernel
theorem dX6_hours_29 : decode cX6_hours 29 = .ok (.bipush (-6), 2) := by decide +kernel
theorem dX6_hours_31 : decode cX6_hours 31 = .ok (.goto 4, 3) := by decide +kernel
theorem dX6_hours_34 : decode cX6_hours 34 = .ok (.iload_n 2, 1) := by decide +kernel
theorem dX6_hours_35 : decode cX6_hours 35 = .ok (.istore_n 2, 1) := by decide +kernel
theorem dX6_hours_36 : decode cX6_hours 36 = .ok (.iload_n 2, 1) := by decide +kernel
theorem dX6_hours_37 : decode cX6_hours 37 = .ok (.ifCond .ge 9, 3) := by decide +kernel
theorem dX6_hours_40 : decode cX6_hours 40 = .ok (.aload_n 0, 1) := by decide +kernel
theorem dX6_hours_41 : decode cX6_hours 41 = .ok (.iload_n 2, 1) := by decide +kernel
theorem dX6_hours_42 : decode cX6_hours 42 = .ok (.invokevirtual 108, 3) := by decide +kernel
theorem dX6_hours_45 : decode cX6_hours 45 = .ok (.ireturn, 1) := by decide +kernel
theorem dX6_hours_46 : decode cX6_hours 46 = .ok (.aload_n 0, 1) := by decide +kernel
theorem dX6_hours_47 : decode cX6_hours 47 = .ok (.invokevirtual 203, 3) := by decide +kernel
theorem dX6_hours_50 : decode cX6_hours 50 = .ok (.aload_n 0, 1) := by decide +kernel
theorem dX6_hours_51 : decode cX6_hours 51 = .ok (.iload_n 1, 1) := by decide +kernel
theorem dX6_hours_52 : decode cX6_hours 52 = .ok (.invokevirtual 143, 3) := by decide +kernel
theorem dX6_hours_55 : decode cX6_hours 55 = .ok (.aload_n 0, 1) := by decide +kernel
theorem dX6_hours_56 : decode cX6_hours 56 = .ok (.getfield 101, 3) := by decide +kernel
theorem dX6_hours_59 : decode cX6_hours 59 = .ok (.ireturn, 1) := by decide +kernel
theorem dX6_holdsIn_0 : decode cX6_holdsIn 0 = .ok (.aload_n 0, 1) := by decide +kernel
theorem dX6_holdsIn_1 : decode cX6_holdsIn 1 = .ok (.iconst 0, 1) := by decide +kernel
theorem dX6_holdsIn_2 : decode cX6_holdsIn 2 = .ok (.putfield 58, 3) := by decide +kernel
theorem dX6_holdsIn_5 : decode cX6_holdsIn 5 = .ok (.aload_n 0, 1) := by decide +kernel
theorem dX6_holdsIn_6 : decode cX6_holdsIn 6 = .ok (.iload_n 1, 1) := by decide +kernel
theorem dX6_holdsIn_7 : decode cX6_holdsIn 7 = .ok (.invokevirtual 147, 3) := by decide +kernel
theorem dX6_holdsIn_10 : decode cX6_holdsIn 10 = .ok (.ifCond .eq 13, 3) := by decide +kernel
theorem dX6_holdsIn_13 : decode cX6_holdsIn 13 = .ok (.iload_n 2, 1) := by decide +kernel
theorem dX6_holdsIn_14 : decode cX6_holdsIn 14 = .ok (.iconst 0, 1) := by decide +kernel
theorem dX6_holdsIn_15 : decode cX6_holdsIn 15 = .ok (.bipush 60, 2) := by decide +kernel
theorem dX6_holdsIn_17 : decode cX6_holdsIn 17 = .ok (.invokestatic 197, 3) := by decide +kernel
theorem dX6_holdsIn_20 : decode cX6_holdsIn 20 = .ok (.goto 4, 3) := by decide +kernel
theorem dX6_holdsIn_23 : decode cX6_holdsIn 23 = .ok (.iconst (-1), 1) := by decide +kernel
theorem dX6_holdsIn_24 : decode cX6_holdsIn 24 = .ok (.istore_n 3, 1) := by decide +kernel
theorem dX6_holdsIn_25 : decode cX6_holdsIn 25 = .ok (.iload_n 3, 1) := by decide +kernel
theorem dX6_holdsIn_26 : decode cX6_holdsIn 26 = .ok (.ifCond .ge 9, 3) := by decide +kernel
theorem dX6_holdsIn_29 : decode cX6_holdsIn 29 = .ok (.aload_n 0, 1) := by decide +kernel
theorem dX6_holdsIn_30 : decode cX6_holdsIn 30 = .ok (.iload_n 3, 1) := by decide +kernel
theorem dX6_holdsIn_31 : decode cX6_holdsIn 31 = .ok (.invokevirtual 108, 3) := by decide +kernel
theorem dX6_holdsIn_34 : decode cX6_holdsIn 34 = .ok (.ireturn, 1) := by decide +kernel
theorem dX6_holdsIn_35 : decode cX6_holdsIn 35 = .ok (.aload_n 0, 1) := by decide +kernel
theorem dX6_holdsIn_36 : decode cX6_holdsIn 36 = .ok (.invokevirtual 159, 3) := by decide +kernel
theorem dX6_holdsIn_39 : decode cX6_holdsIn 39 = .ok (.aload_n 0, 1) := by decide +kernel
theorem dX6_holdsIn_40 : decode cX6_holdsIn 40 = .ok (.iload_n 2, 1) := by decide +kernel
theorem dX6_holdsIn_41 : decode cX6_holdsIn 41 = .ok (.invokevirtual 143, 3) := by decide +kernel
theorem dX6_holdsIn_44 : decode cX6_holdsIn 44 = .ok (.aload_n 0, 1) := by decide +kernel
theorem dX6_holdsIn_45 : decode cX6_holdsIn 45 = .ok (.getfield 16, 3) := by decide +kernel
theorem dX6_holdsIn_48 : decode cX6_holdsIn 48 = .ok (.iload_n 1, 1) := by decide +kernel
theorem dX6_holdsIn_49 : decode cX6_holdsIn 49 = .ok (.iaload, 1) := by decide +kernel
theorem dX6_holdsIn_50 : decode cX6_holdsIn 50 = .ok (.istore 4, 2) := by decide +kernel
theorem dX6_holdsIn_52 : decode cX6_holdsIn 52 = .ok (.aload_n 0, 1) := by decide +kernel
theorem dX6_holdsIn_53 : decode cX6_holdsIn 53 = .ok (.invokevirtual 165, 3) := by decide +kernel
theorem dX6_holdsIn_56 : decode cX6_holdsIn 56 = .ok (.iload 4, 2) := by decide +kernel
theorem dX6_holdsIn_58 : decode cX6_holdsIn 58 = .ok (.ireturn, 1) := by decide +kernel
theorem dX6_cupThen_0 : decode cX6_cupThen 0 = .ok (.aload_n 0, 1) := by decide +kernel
theorem dX6_cupThen_1 : decode cX6_cupThen 1 = .ok (.iload_n 1, 1) := by decide +kernel
theorem dX6_cupThen_2 : decode cX6_cupThen 2 = .ok (.invokevirtual 143, 3) := by decide +kernel
theorem dX6_cupThen_5 : decode cX6_cupThen 5 = .ok (.aload_n 0, 1) := by decide +kernel
theorem dX6_cupThen_6 : decode cX6_cupThen 6 = .ok (.getfield 101, 3) := by decide +kernel
theorem dX6_cupThen_9 : decode cX6_cupThen 9 = .ok (.istore_n 2, 1) := by decide +kernel
theorem dX6_cupThen_10 : decode cX6_cupThen 10 = .ok (.aload_n 0, 1) := by decide +kernel
theorem dX6_cupThen_11 : decode cX6_cupThen 11 = .ok (.invokevirtual 165, 3) := by decide +kernel
theorem dX6_cupThen_14 : decode cX6_cupThen 14 = .ok (.iload_n 2, 1) := by decide +kernel
theorem dX6_cupThen_15 : decode cX6_cupThen 15 = .ok (.ireturn, 1) := by decide +kernel
theorem dX6_then_0 : decode cX6_then 0 = .ok (.aload_n 0, 1) := by decide +kernel
theorem dX6_then_1 : decode cX6_then 1 = .ok (.iconst 0, 1) := by decide +kernel
theorem dX6_then_2 : decode cX6_then 2 = .ok (.putfield 58, 3) := by decide +kernel
theorem dX6_then_5 : decode cX6_then 5 = .ok (.iload_n 1, 1) := by decide +kernel
theorem dX6_then_6 : decode cX6_then 6 = .ok (.iconst 0, 1) := by decide +kernel
theorem dX6_then_7 : decode cX6_then 7 = .ok (.bipush 60, 2) := by decide +kernel
theorem dX6_then_9 : decode cX6_then 9 = .ok (.invokestatic 197, 3) := by decide +kernel
theorem dX6_then_12 : decode cX6_then 12 = .ok (.iload_n 2, 1) := by decide +kernel
theorem dX6_then_13 : decode cX6_then 13 = .ok (.iconst 1, 1) := by decide +kernel
theorem dX6_then_14 : decode cX6_then 14 = .ok (.invokestatic 206, 3) := by decide +kernel
theorem dX6_then_17 : decode cX6_then 17 = .ok (.istore_n 3, 1) := by decide +kernel
theorem dX6_then_18 : decode cX6_then 18 = .ok (.iload_n 3, 1) := by decide +kernel
theorem dX6_then_19 : decode cX6_then 19 = .ok (.ifCond .ge 9, 3) := by decide +kernel
theorem dX6_then_22 : decode cX6_then 22 = .ok (.aload_n 0, 1) := by decide +kernel
theorem dX6_then_23 : decode cX6_then 23 = .ok (.iload_n 3, 1) := by decide +kernel
theorem dX6_then_24 : decode cX6_then 24 = .ok (.invokevirtual 108, 3) := by decide +kernel
theorem dX6_then_27 : decode cX6_then 27 = .ok (.ireturn, 1) := by decide +kernel
theorem dX6_then_28 : decode cX6_then 28 = .ok (.aload_n 0, 1) := by decide +kernel
theorem dX6_then_29 : decode cX6_then 29 = .ok (.invokevirtual 159, 3) := by decide +kernel
theorem dX6_then_32 : decode cX6_then 32 = .ok (.aload_n 0, 1) := by decide +kernel
theorem dX6_then_33 : decode cX6_then 33 = .ok (.iload_n 1, 1) := by decide +kernel
theorem dX6_then_34 : decode cX6_then 34 = .ok (.invokevirtual 143, 3) := by decide +kernel
theorem dX6_then_37 : decode cX6_then 37 = .ok (.iload_n 2, 1) := by decide +kernel
theorem dX6_then_38 : decode cX6_then 38 = .ok (.ifCond .ne 10, 3) := by decide +kernel
theorem dX6_then_41 : decode cX6_then 41 = .ok (.aload_n 0, 1) := by decide +kernel
theorem dX6_then_42 : decode cX6_then 42 = .ok (.getfield 101, 3) := by decide +kernel
theorem dX6_then_45 : decode cX6_then 45 = .ok (.goto 7, 3) := by decide +kernel
theorem dX6_then_48 : decode cX6_then 48 = .ok (.aload_n 0, 1) := by decide +kernel
theorem dX6_then_49 : decode cX6_then 49 = .ok (.invokevirtual 209, 3) := by decide +kernel
theorem dX6_then_52 : decode cX6_then 52 = .ok (.istore 4, 2) := by decide +kernel
theorem dX6_then_54 : decode cX6_then 54 = .ok (.aload_n 0, 1) := by decide +kernel
theorem dX6_then_55 : decode cX6_then 55 = .ok (.invokevirtual 165, 3) := by decide +kernel
theorem dX6_then_58 : decode cX6_then 58 = .ok (.iload 4, 2) := by decide +kernel
theorem dX6_then_60 : decode cX6_then 60 = .ok (.ireturn, 1) := by decide +kernel
theorem dX6_firstDrip_0 : decode cX6_firstDrip 0 = .ok (.bipush (-9), 2) := by decide +kernel
theorem dX6_firstDrip_2 : decode cX6_firstDrip 2 = .ok (.istore_n 1, 1) := by decide +kernel
theorem dX6_firstDrip_3 : decode cX6_firstDrip 3 = .ok (.aload_n 0, 1) := by decide +kernel
theorem dX6_firstDrip_4 : decode cX6_firstDrip 4 = .ok (.getfield 101, 3) := by decide +kernel
theorem dX6_firstDrip_7 : decode cX6_firstDrip 7 = .ok (.istore_n 2, 1) := by decide +kernel
theorem dX6_firstDrip_8 : decode cX6_firstDrip 8 = .ok (.aload_n 0, 1) := by decide +kernel
theorem dX6_firstDrip_9 : decode cX6_firstDrip 9 = .ok (.invokevirtual 159, 3) := by decide +kernel
theorem dX6_firstDrip_12 : decode cX6_firstDrip 12 = .ok (.iconst 0, 1) := by decide +kernel
theorem dX6_firstDrip_13 : decode cX6_firstDrip 13 = .ok (.istore_n 3, 1) := by decide +kernel
theorem dX6_firstDrip_14 : decode cX6_firstDrip 14 = .ok (.iload_n 3, 1) := by decide +kernel
theorem dX6_firstDrip_15 : decode cX6_firstDrip 15 = .ok (.bipush 60, 2) := by decide +kernel
theorem dX6_firstDrip_17 : decode cX6_firstDrip 17 = .ok (.if_icmp .gt 33, 3) := by decide +kernel
theorem dX6_firstDrip_20 : decode cX6_firstDrip 20 = .ok (.iload_n 1, 1) := by decide +kernel
theorem dX6_firstDrip_21 : decode cX6_firstDrip 21 = .ok (.ifCond .ge 29, 3) := by decide +kernel
theorem dX6_firstDrip_24 : decode cX6_firstDrip 24 = .ok (.aload_n 0, 1) := by decide +kernel
theorem dX6_firstDrip_25 : decode cX6_firstDrip 25 = .ok (.getfield 101, 3) := by decide +kernel
theorem dX6_firstDrip_28 : decode cX6_firstDrip 28 = .ok (.iload_n 2, 1) := by decide +kernel
theorem dX6_firstDrip_29 : decode cX6_firstDrip 29 = .ok (.if_icmp .le 7, 3) := by decide +kernel
theorem dX6_firstDrip_32 : decode cX6_firstDrip 32 = .ok (.iload_n 3, 1) := by decide +kernel
theorem dX6_firstDrip_33 : decode cX6_firstDrip 33 = .ok (.goto 5, 3) := by decide +kernel
theorem dX6_firstDrip_36 : decode cX6_firstDrip 36 = .ok (.bipush (-9), 2) := by decide +kernel
theorem dX6_firstDrip_38 : decode cX6_firstDrip 38 = .ok (.istore_n 1, 1) := by decide +kernel
theorem dX6_firstDrip_39 : decode cX6_firstDrip 39 = .ok (.aload_n 0, 1) := by decide +kernel
theorem dX6_firstDrip_40 : decode cX6_firstDrip 40 = .ok (.iconst 0, 1) := by decide +kernel
theorem dX6_firstDrip_41 : decode cX6_firstDrip 41 = .ok (.invokevirtual 104, 3) := by decide +kernel
theorem dX6_firstDrip_44 : decode cX6_firstDrip 44 = .ok (.iinc 3 1, 3) := by decide +kernel
theorem dX6_firstDrip_47 : decode cX6_firstDrip 47 = .ok (.goto (-33), 3) := by decide +kernel
theorem dX6_firstDrip_50 : decode cX6_firstDrip 50 = .ok (.aload_n 0, 1) := by decide +kernel
theorem dX6_firstDrip_51 : decode cX6_firstDrip 51 = .ok (.invokevirtual 165, 3) := by decide +kernel
theorem dX6_firstDrip_54 : decode cX6_firstDrip 54 = .ok (.iload_n 1, 1) := by decide +kernel
theorem dX6_firstDrip_55 : decode cX6_firstDrip 55 = .ok (.ireturn, 1) := by decide +kernel
theorem dX6_dryIn_0 : decode cX6_dryIn 0 = .ok (.bipush (-9), 2) := by decide +kernel
theorem dX6_dryIn_2 : decode cX6_dryIn 2 = .ok (.istore_n 1, 1) := by decide +kernel
theorem dX6_dryIn_3 : decode cX6_dryIn 3 = .ok (.aload_n 0, 1) := by decide +kernel
theorem dX6_dryIn_4 : decode cX6_dryIn 4 = .ok (.invokevirtual 159, 3) := by decide +kernel
theorem dX6_dryIn_7 : decode cX6_dryIn 7 = .ok (.iconst 0, 1) := by decide +kernel
theorem dX6_dryIn_8 : decode cX6_dryIn 8 = .ok (.istore_n 2, 1) := by decide +kernel
theorem dX6_dryIn_9 : decode cX6_dryIn 9 = .ok (.iload_n 2, 1) := by decide +kernel
theorem dX6_dryIn_10 : decode cX6_dryIn 10 = .ok (.bipush 60, 2) := by decide +kernel
theorem dX6_dryIn_12 : decode cX6_dryIn 12 = .ok (.if_icmp .gt 32, 3) := by decide +kernel
theorem dX6_dryIn_15 : decode cX6_dryIn 15 = .ok (.iload_n 1, 1) := by decide +kernel
theorem dX6_dryIn_16 : decode cX6_dryIn 16 = .ok (.ifCond .ge 28, 3) := by decide +kernel
theorem dX6_dryIn_19 : decode cX6_dryIn 19 = .ok (.aload_n 0, 1) := by decide +kernel
theorem dX6_dryIn_20 : decode cX6_dryIn 20 = .ok (.invokevirtual 209, 3) := by decide +kernel
theorem dX6_dryIn_23 : decode cX6_dryIn 23 = .ok (.ifCond .ne 7, 3) := by decide +kernel
theorem dX6_dryIn_26 : decode cX6_dryIn 26 = .ok (.iload_n 2, 1) := by decide +kernel
theorem dX6_dryIn_27 : decode cX6_dryIn 27 = .ok (.goto 5, 3) := by decide +kernel
theorem dX6_dryIn_30 : decode cX6_dryIn 30 = .ok (.bipush (-9), 2) := by decide +kernel
theorem dX6_dryIn_32 : decode cX6_dryIn 32 = .ok (.istore_n 1, 1) := by decide +kernel
theorem dX6_dryIn_33 : decode cX6_dryIn 33 = .ok (.aload_n 0, 1) := by decide +kernel
theorem dX6_dryIn_34 : decode cX6_dryIn 34 = .ok (.iconst 0, 1) := by decide +kernel
theorem dX6_dryIn_35 : decode cX6_dryIn 35 = .ok (.invokevirtual 104, 3) := by decide +kernel
theorem dX6_dryIn_38 : decode cX6_dryIn 38 = .ok (.iinc 2 1, 3) := by decide +kernel
theorem dX6_dryIn_41 : decode cX6_dryIn 41 = .ok (.goto (-32), 3) := by decide +kernel
theorem dX6_dryIn_44 : decode cX6_dryIn 44 = .ok (.aload_n 0, 1) := by decide +kernel
theorem dX6_dryIn_45 : decode cX6_dryIn 45 = .ok (.invokevirtual 165, 3) := by decide +kernel
theorem dX6_dryIn_48 : decode cX6_dryIn 48 = .ok (.iload_n 1, 1) := by decide +kernel
theorem dX6_dryIn_49 : decode cX6_dryIn 49 = .ok (.ireturn, 1) := by decide +kernel
theorem dX6_isAsHad_0 : decode cX6_isAsHad 0 = .ok (.iconst 1, 1) := by decide +kernel
theorem dX6_isAsHad_1 : decode cX6_isAsHad 1 = .ok (.istore_n 1, 1) := by decide +kernel
theorem dX6_isAsHad_2 : decode cX6_isAsHad 2 = .ok (.iconst 0, 1) := by decide +kernel
theorem dX6_isAsHad_3 : decode cX6_isAsHad 3 = .ok (.istore_n 2, 1) := by decide +kernel
theorem dX6_isAsHad_4 : decode cX6_isAsHad 4 = .ok (.iload_n 2, 1) := by decide +kernel
theorem dX6_isAsHad_5 : decode cX6_isAsHad 5 = .ok (.aload_n 0, 1) := by decide +kernel
theorem dX6_isAsHad_6 : decode cX6_isAsHad 6 = .ok (.getfield 62, 3) := by decide +kernel
theorem dX6_isAsHad_9 : decode cX6_isAsHad 9 = .ok (.if_icmp .ge 34, 3) := by decide +kernel
theorem dX6_isAsHad_12 : decode cX6_isAsHad 12 = .ok (.iload_n 1, 1) := by decide +kernel
theorem dX6_isAsHad_13 : decode cX6_isAsHad 13 = .ok (.ifCond .eq 22, 3) := by decide +kernel
theorem dX6_isAsHad_16 : decode cX6_isAsHad 16 = .ok (.aload_n 0, 1) := by decide +kernel
theorem dX6_isAsHad_17 : decode cX6_isAsHad 17 = .ok (.getfield 16, 3) := by decide +kernel
theorem dX6_isAsHad_20 : decode cX6_isAsHad 20 = .ok (.iload_n 2, 1) := by decide +kernel
theorem dX6_isAsHad_21 : decode cX6_isAsHad 21 = .ok (.iaload, 1) := by decide +kernel
theorem dX6_isAsHad_22 : decode cX6_isAsHad 22 = .ok (.aload_n 0, 1) := by decide +kernel
theorem dX6_isAsHad_23 : decode cX6_isAsHad 23 = .ok (.getfield 49, 3) := by decide +kernel
theorem dX6_isAsHad_26 : decode cX6_isAsHad 26 = .ok (.iload_n 2, 1) := by decide +kernel
theorem dX6_isAsHad_27 : decode cX6_isAsHad 27 = .ok (.iaload, 1) := by decide +kernel
theorem dX6_isAsHad_28 : decode cX6_isAsHad 28 = .ok (.if_icmp .ne 7, 3) := by decide +kernel
theorem dX6_isAsHad_31 : decode cX6_isAsHad 31 = .ok (.iconst 1, 1) := by decide +kernel
theorem dX6_isAsHad_32 : decode cX6_isAsHad 32 = .ok (.goto 4, 3) := by decide +kernel
theorem dX6_isAsHad_35 : decode cX6_isAsHad 35 = .ok (.iconst 0, 1) := by decide +kernel
theorem dX6_isAsHad_36 : decode cX6_isAsHad 36 = .ok (.istore_n 1, 1) := by decide +kernel
theorem dX6_isAsHad_37 : decode cX6_isAsHad 37 = .ok (.iinc 2 1, 3) := by decide +kernel
theorem dX6_isAsHad_40 : decode cX6_isAsHad 40 = .ok (.goto (-36), 3) := by decide +kernel
theorem dX6_isAsHad_43 : decode cX6_isAsHad 43 = .ok (.iload_n 1, 1) := by decide +kernel
theorem dX6_isAsHad_44 : decode cX6_isAsHad 44 = .ok (.ireturn, 1) := by decide +kernel
theorem dX6_settledIn_0 : decode cX6_settledIn 0 = .ok (.iconst 0, 1) := by decide +kernel
theorem dX6_settledIn_1 : decode cX6_settledIn 1 = .ok (.istore_n 1, 1) := by decide +kernel
theorem dX6_settledIn_2 : decode cX6_settledIn 2 = .ok (.bipush (-9), 2) := by decide +kernel
theorem dX6_settledIn_4 : decode cX6_settledIn 4 = .ok (.istore_n 2, 1) := by decide +kernel
theorem dX6_settledIn_5 : decode cX6_settledIn 5 = .ok (.aload_n 0, 1) := by decide +kernel
theorem dX6_settledIn_6 : decode cX6_settledIn 6 = .ok (.invokevirtual 159, 3) := by decide +kernel
theorem dX6_settledIn_9 : decode cX6_settledIn 9 = .ok (.iconst 1, 1) := by decide +kernel
theorem dX6_settledIn_10 : decode cX6_settledIn 10 = .ok (.istore_n 3, 1) := by decide +kernel
theorem dX6_settledIn_11 : decode cX6_settledIn 11 = .ok (.iload_n 3, 1) := by decide +kernel
theorem dX6_settledIn_12 : decode cX6_settledIn 12 = .ok (.bipush 60, 2) := by decide +kernel
theorem dX6_settledIn_14 : decode cX6_settledIn 14 = .ok (.if_icmp .gt 93, 3) := by decide +kernel
theorem dX6_settledIn_17 : decode cX6_settledIn 17 = .ok (.iload_n 2, 1) := by decide +kernel
theorem dX6_settledIn_18 : decode cX6_settledIn 18 = .ok (.ifCond .ge 89, 3) := by decide +kernel
theorem dX6_settledIn_21 : decode cX6_settledIn 21 = .ok (.iconst 0, 1) := by decide +kernel
theorem dX6_settledIn_22 : decode cX6_settledIn 22 = .ok (.istore 4, 2) := by decide +kernel
theorem dX6_settledIn_24 : decode cX6_settledIn 24 = .ok (.iload 4, 2) := by decide +kernel
theorem dX6_settledIn_26 : decode cX6_settledIn 26 = .ok (.aload_n 0, 1) := by decide +kernel
theorem dX6_settledIn_27 : decode cX6_settledIn 27 = .ok (.getfield 62, 3) := by decide +kernel
theorem dX6_settledIn_30 : decode cX6_settledIn 30 = .ok (.if_icmp .ge 23, 3) := by decide +kernel
theorem dX6_settledIn_33 : decode cX6_settledIn 33 = .ok (.aload_n 0, 1) := by decide +kernel
theorem dX6_settledIn_34 : decode cX6_settledIn 34 = .ok (.getfield 49, 3) := by decide +kernel
theorem dX6_settledIn_37 : decode cX6_settledIn 37 = .ok (.iload 4, 2) := by decide +kernel
theorem dX6_settledIn_39 : decode cX6_settledIn 39 = .ok (.aload_n 0, 1) := by decide +kernel
theorem dX6_settledIn_40 : decode cX6_settledIn 40 = .ok (.getfield 16, 3) := by decide +kernel
theorem dX6_settledIn_43 : decode cX6_settledIn 43 = .ok (.iload 4, 2) := by decide +kernel
theorem dX6_settledIn_45 : decode cX6_settledIn 45 = .ok (.iaload, 1) := by decide +kernel
theorem dX6_settledIn_46 : decode cX6_settledIn 46 = .ok (.iastore, 1) := by decide +kernel
theorem dX6_settledIn_47 : decode cX6_settledIn 47 = .ok (.iinc 4 1, 3) := by decide +kernel
theorem dX6_settledIn_50 : decode cX6_settledIn 50 = .ok (.goto (-26), 3) := by decide +kernel
theorem dX6_settledIn_53 : decode cX6_settledIn 53 = .ok (.aload_n 0, 1) := by decide +kernel
theorem dX6_settledIn_54 : decode cX6_settledIn 54 = .ok (.getfield 101, 3) := by decide +kernel
theorem dX6_settledIn_57 : decode cX6_settledIn 57 = .ok (.istore 4, 2) := by decide +kernel
theorem dX6_settledIn_59 : decode cX6_settledIn 59 = .ok (.aload_n 0, 1) := by decide +kernel
theorem dX6_settledIn_60 : decode cX6_settledIn 60 = .ok (.iconst 0, 1) := by decide +kernel
theorem dX6_settledIn_61 : decode cX6_settledIn 61 = .ok (.invokevirtual 104, 3) := by decide +kernel
theorem dX6_settledIn_64 : decode cX6_settledIn 64 = .ok (.aload_n 0, 1) := by decide +kernel
theorem dX6_settledIn_65 : decode cX6_settledIn 65 = .ok (.invokevirtual 212, 3) := by decide +kernel
theorem dX6_settledIn_68 : decode cX6_settledIn 68 = .ok (.ifCond .eq 16, 3) := by decide +kernel
theorem dX6_settledIn_71 : decode cX6_settledIn 71 = .ok (.aload_n 0, 1) := by decide +kernel
theorem dX6_settledIn_72 : decode cX6_settledIn 72 = .ok (.getfield 101, 3) := by decide +kernel
theorem dX6_settledIn_75 : decode cX6_settledIn 75 = .ok (.iload 4, 2) := by decide +kernel
theorem dX6_settledIn_77 : decode cX6_settledIn 77 = .ok (.if_icmp .ne 7, 3) := by decide +kernel
theorem dX6_settledIn_80 : decode cX6_settledIn 80 = .ok (.iload_n 1, 1) := by decide +kernel
theorem dX6_settledIn_81 : decode cX6_settledIn 81 = .ok (.goto 4, 3) := by decide +kernel
theorem dX6_settledIn_84 : decode cX6_settledIn 84 = .ok (.iload_n 3, 1) := by decide +kernel
theorem dX6_settledIn_85 : decode cX6_settledIn 85 = .ok (.istore_n 1, 1) := by decide +kernel
theorem dX6_settledIn_86 : decode cX6_settledIn 86 = .ok (.iload_n 3, 1) := by decide +kernel
theorem dX6_settledIn_87 : decode cX6_settledIn 87 = .ok (.iload_n 1, 1) := by decide +kernel
theorem dX6_settledIn_88 : decode cX6_settledIn 88 = .ok (.isub, 1) := by decide +kernel
theorem dX6_settledIn_89 : decode cX6_settledIn 89 = .ok (.bipush 10, 2) := by decide +kernel
theorem dX6_settledIn_91 : decode cX6_settledIn 91 = .ok (.if_icmp .ne 7, 3) := by decide +kernel
theorem dX6_settledIn_94 : decode cX6_settledIn 94 = .ok (.iload_n 1, 1) := by decide +kernel
theorem dX6_settledIn_95 : decode cX6_settledIn 95 = .ok (.goto 5, 3) := by decide +kernel
theorem dX6_settledIn_98 : decode cX6_settledIn 98 = .ok (.bipush (-9), 2) := by decide +kernel
theorem dX6_settledIn_100 : decode cX6_settledIn 100 = .ok (.istore_n 2, 1) := by decide +kernel
theorem dX6_settledIn_101 : decode cX6_settledIn 101 = .ok (.iinc 3 1, 3) := by decide +kernel
theorem dX6_settledIn_104 : decode cX6_settledIn 104 = .ok (.goto (-93), 3) := by decide +kernel
theorem dX6_settledIn_107 : decode cX6_settledIn 107 = .ok (.aload_n 0, 1) := by decide +kernel
theorem dX6_settledIn_108 : decode cX6_settledIn 108 = .ok (.invokevirtual 165, 3) := by decide +kernel
theorem dX6_settledIn_111 : decode cX6_settledIn 111 = .ok (.iload_n 2, 1) := by decide +kernel
theorem dX6_settledIn_112 : decode cX6_settledIn 112 = .ok (.ireturn, 1) := by decide +kernel
theorem dX6_drip_0 : decode cX6_drip 0 = .ok (.aload_n 0, 1) := by decide +kernel
theorem dX6_drip_1 : decode cX6_drip 1 = .ok (.iconst 0, 1) := by decide +kernel
theorem dX6_drip_2 : decode cX6_drip 2 = .ok (.putfield 58, 3) := by decide +kernel
theorem dX6_drip_5 : decode cX6_drip 5 = .ok (.iload_n 1, 1) := by decide +kernel
theorem dX6_drip_6 : decode cX6_drip 6 = .ok (.tableswitch 41 0 2 #[26, 31, 36], 26) := by decide +kernel
theorem dX6_drip_32 : decode cX6_drip 32 = .ok (.aload_n 0, 1) := by decide +kernel
theorem dX6_drip_33 : decode cX6_drip 33 = .ok (.invokevirtual 216, 3) := by decide +kernel
theorem dX6_drip_36 : decode cX6_drip 36 = .ok (.ireturn, 1) := by decide +kernel
theorem dX6_drip_37 : decode cX6_drip 37 = .ok (.aload_n 0, 1) := by decide +kernel
theorem dX6_drip_38 : decode cX6_drip 38 = .ok (.invokevirtual 219, 3) := by decide +kernel
theorem dX6_drip_41 : decode cX6_drip 41 = .ok (.ireturn, 1) := by decide +kernel
theorem dX6_drip_42 : decode cX6_drip 42 = .ok (.aload_n 0, 1) := by decide +kernel
theorem dX6_drip_43 : decode cX6_drip 43 = .ok (.invokevirtual 222, 3) := by decide +kernel
theorem dX6_drip_46 : decode cX6_drip 46 = .ok (.ireturn, 1) := by decide +kernel
theorem dX6_drip_47 : decode cX6_drip 47 = .ok (.aload_n 0, 1) := by decide +kernel
theorem dX6_drip_48 : decode cX6_drip 48 = .ok (.bipush (-2), 2) := by decide +kernel
theorem dX6_drip_50 : decode cX6_drip 50 = .ok (.invokevirtual 108, 3) := by decide +kernel
theorem dX6_drip_53 : decode cX6_drip 53 = .ok (.ireturn, 1) := by decide +kernel
theorem dX6_reaches_0 : decode cX6_reaches 0 = .ok (.aload_n 0, 1) := by decide +kernel
theorem dX6_reaches_1 : decode cX6_reaches 1 = .ok (.iconst 0, 1) := by decide +kernel
theorem dX6_reaches_2 : decode cX6_reaches 2 = .ok (.putfield 58, 3) := by decide +kernel
theorem dX6_reaches_5 : decode cX6_reaches 5 = .ok (.aload_n 0, 1) := by decide +kernel
theorem dX6_reaches_6 : decode cX6_reaches 6 = .ok (.iload_n 1, 1) := by decide +kernel
theorem dX6_reaches_7 : decode cX6_reaches 7 = .ok (.invokevirtual 147, 3) := by decide +kernel
theorem dX6_reaches_10 : decode cX6_reaches 10 = .ok (.ifCond .eq 13, 3) := by decide +kernel
theorem dX6_reaches_13 : decode cX6_reaches 13 = .ok (.iload_n 2, 1) := by decide +kernel
theorem dX6_reaches_14 : decode cX6_reaches 14 = .ok (.iconst 1, 1) := by decide +kernel
theorem dX6_reaches_15 : decode cX6_reaches 15 = .ok (.bipush 99, 2) := by decide +kernel
theorem dX6_reaches_17 : decode cX6_reaches 17 = .ok (.invokestatic 197, 3) := by decide +kernel
theorem dX6_reaches_20 : decode cX6_reaches 20 = .ok (.goto 4, 3) := by decide +kernel
theorem dX6_reaches_23 : decode cX6_reaches 23 = .ok (.iconst (-1), 1) := by decide +kernel
theorem dX6_reaches_24 : decode cX6_reaches 24 = .ok (.istore_n 3, 1) := by decide +kernel
theorem dX6_reaches_25 : decode cX6_reaches 25 = .ok (.iload_n 3, 1) := by decide +kernel
theorem dX6_reaches_26 : decode cX6_reaches 26 = .ok (.ifCond .ge 9, 3) := by decide +kernel
theorem dX6_reaches_29 : decode cX6_reaches 29 = .ok (.aload_n 0, 1) := by decide +kernel
theorem dX6_reaches_30 : decode cX6_reaches 30 = .ok (.iload_n 3, 1) := by decide +kernel
theorem dX6_reaches_31 : decode cX6_reaches 31 = .ok (.invokevirtual 108, 3) := by decide +kernel
theorem dX6_reaches_34 : decode cX6_reaches 34 = .ok (.ireturn, 1) := by decide +kernel
theorem dX6_reaches_35 : decode cX6_reaches 35 = .ok (.bipush (-9), 2) := by decide +kernel
theorem dX6_reaches_37 : decode cX6_reaches 37 = .ok (.istore 4, 2) := by decide +kernel
theorem dX6_reaches_39 : decode cX6_reaches 39 = .ok (.aload_n 0, 1) := by decide +kernel
theorem dX6_reaches_40 : decode cX6_reaches 40 = .ok (.invokevirtual 159, 3) := by decide +kernel
theorem dX6_reaches_43 : decode cX6_reaches 43 = .ok (.iconst 0, 1) := by decide +kernel
theorem dX6_reaches_44 : decode cX6_reaches 44 = .ok (.istore 5, 2) := by decide +kernel
theorem dX6_reaches_46 : decode cX6_reaches 46 = .ok (.iload 5, 2) := by decide +kernel
theorem dX6_reaches_48 : decode cX6_reaches 48 = .ok (.bipush 60, 2) := by decide +kernel
theorem dX6_reaches_50 : decode cX6_reaches 50 = .ok (.if_icmp .gt 38, 3) := by decide +kernel
theorem dX6_reaches_53 : decode cX6_reaches 53 = .ok (.iload 4, 2) := by decide +kernel
theorem dX6_reaches_55 : decode cX6_reaches 55 = .ok (.ifCond .ge 33, 3) := by decide +kernel
theorem dX6_reaches_58 : decode cX6_reaches 58 = .ok (.aload_n 0, 1) := by decide +kernel
theorem dX6_reaches_59 : decode cX6_reaches 59 = .ok (.getfield 16, 3) := by decide +kernel
theorem dX6_reaches_62 : decode cX6_reaches 62 = .ok (.iload_n 1, 1) := by decide +kernel
theorem dX6_reaches_63 : decode cX6_reaches 63 = .ok (.iaload, 1) := by decide +kernel
theorem dX6_reaches_64 : decode cX6_reaches 64 = .ok (.iload_n 2, 1) := by decide +kernel
theorem dX6_reaches_65 : decode cX6_reaches 65 = .ok (.if_icmp .lt 8, 3) := by decide +kernel
theorem dX6_reaches_68 : decode cX6_reaches 68 = .ok (.iload 5, 2) := by decide +kernel
theorem dX6_reaches_70 : decode cX6_reaches 70 = .ok (.goto 5, 3) := by decide +kernel
theorem dX6_reaches_73 : decode cX6_reaches 73 = .ok (.bipush (-9), 2) := by decide +kernel
theorem dX6_reaches_75 : decode cX6_reaches 75 = .ok (.istore 4, 2) := by decide +kernel
theorem dX6_reaches_77 : decode cX6_reaches 77 = .ok (.aload_n 0, 1) := by decide +kernel
theorem dX6_reaches_78 : decode cX6_reaches 78 = .ok (.iconst 0, 1) := by decide +kernel
theorem dX6_reaches_79 : decode cX6_reaches 79 = .ok (.invokevirtual 104, 3) := by decide +kernel
theorem dX6_reaches_82 : decode cX6_reaches 82 = .ok (.iinc 5 1, 3) := by decide +kernel
theorem dX6_reaches_85 : decode cX6_reaches 85 = .ok (.goto (-39), 3) := by decide +kernel
theorem dX6_reaches_88 : decode cX6_reaches 88 = .ok (.aload_n 0, 1) := by decide +kernel
theorem dX6_reaches_89 : decode cX6_reaches 89 = .ok (.invokevirtual 165, 3) := by decide +kernel
theorem dX6_reaches_92 : decode cX6_reaches 92 = .ok (.iload 4, 2) := by decide +kernel
theorem dX6_reaches_94 : decode cX6_reaches 94 = .ok (.ireturn, 1) := by decide +kernel
theorem dX6_pour_0 : decode cX6_pour 0 = .ok (.aload_n 0, 1) := by decide +kernel
theorem dX6_pour_1 : decode cX6_pour 1 = .ok (.iconst 0, 1) := by decide +kernel
theorem dX6_pour_2 : decode cX6_pour 2 = .ok (.putfield 58, 3) := by decide +kernel
theorem dX6_pour_5 : decode cX6_pour 5 = .ok (.iload_n 1, 1) := by decide +kernel
theorem dX6_pour_6 : decode cX6_pour 6 = .ok (.iconst 1, 1) := by decide +kernel
theorem dX6_pour_7 : decode cX6_pour 7 = .ok (.if_icmp .lt 7, 3) := by decide +kernel
theorem dX6_pour_10 : decode cX6_pour 10 = .ok (.iload_n 2, 1) := by decide +kernel
theorem dX6_pour_11 : decode cX6_pour 11 = .ok (.ifCond .ge 8, 3) := by decide +kernel
theorem dX6_pour_14 : decode cX6_pour 14 = .ok (.bipush (-4), 2) := by decide +kernel
theorem dX6_pour_16 : decode cX6_pour 16 = .ok (.goto 21, 3) := by decide +kernel
theorem dX6_pour_19 : decode cX6_pour 19 = .ok (.iload_n 1, 1) := by decide +kernel
theorem dX6_pour_20 : decode cX6_pour 20 = .ok (.bipush 99, 2) := by decide +kernel
theorem dX6_pour_22 : decode cX6_pour 22 = .ok (.if_icmp .gt 9, 3) := by decide +kernel
theorem dX6_pour_25 : decode cX6_pour 25 = .ok (.iload_n 2, 1) := by decide +kernel
theorem dX6_pour_26 : decode cX6_pour 26 = .ok (.bipush 60, 2) := by decide +kernel
theorem dX6_pour_28 : decode cX6_pour 28 = .ok (.if_icmp .le 8, 3) := by decide +kernel
theorem dX6_pour_31 : decode cX6_pour 31 = .ok (.bipush (-6), 2) := by decide +kernel
theorem dX6_pour_33 : decode cX6_pour 33 = .ok (.goto 4, 3) := by decide +kernel
theorem dX6_pour_36 : decode cX6_pour 36 = .ok (.iconst 0, 1) := by decide +kernel
theorem dX6_pour_37 : decode cX6_pour 37 = .ok (.istore 4, 2) := by decide +kernel
theorem dX6_pour_39 : decode cX6_pour 39 = .ok (.iload 4, 2) := by decide +kernel
theorem dX6_pour_41 : decode cX6_pour 41 = .ok (.iload_n 3, 1) := by decide +kernel
theorem dX6_pour_42 : decode cX6_pour 42 = .ok (.iconst 1, 1) := by decide +kernel
theorem dX6_pour_43 : decode cX6_pour 43 = .ok (.invokestatic 206, 3) := by decide +kernel
theorem dX6_pour_46 : decode cX6_pour 46 = .ok (.istore 4, 2) := by decide +kernel
theorem dX6_pour_48 : decode cX6_pour 48 = .ok (.iload 4, 2) := by decide +kernel
theorem dX6_pour_50 : decode cX6_pour 50 = .ok (.ifCond .ge 10, 3) := by decide +kernel
theorem dX6_pour_53 : decode cX6_pour 53 = .ok (.aload_n 0, 1) := by decide +kernel
theorem dX6_pour_54 : decode cX6_pour 54 = .ok (.iload 4, 2) := by decide +kernel
theorem dX6_pour_56 : decode cX6_pour 56 = .ok (.invokevirtual 108, 3) := by decide +kernel
theorem dX6_pour_59 : decode cX6_pour 59 = .ok (.ireturn, 1) := by decide +kernel
theorem dX6_pour_60 : decode cX6_pour 60 = .ok (.bipush (-9), 2) := by decide +kernel
theorem dX6_pour_62 : decode cX6_pour 62 = .ok (.istore 5, 2) := by decide +kernel
theorem dX6_pour_64 : decode cX6_pour 64 = .ok (.bipush (-9), 2) := by decide +kernel
theorem dX6_pour_66 : decode cX6_pour 66 = .ok (.istore 6, 2) := by decide +kernel
theorem dX6_pour_68 : decode cX6_pour 68 = .ok (.aload_n 0, 1) := by decide +kernel
theorem dX6_pour_69 : decode cX6_pour 69 = .ok (.invokevirtual 159, 3) := by decide +kernel
theorem dX6_pour_72 : decode cX6_pour 72 = .ok (.iconst 0, 1) := by decide +kernel
theorem dX6_pour_73 : decode cX6_pour 73 = .ok (.istore 7, 2) := by decide +kernel
theorem dX6_pour_75 : decode cX6_pour 75 = .ok (.iload 7, 2) := by decide +kernel
theorem dX6_pour_77 : decode cX6_pour 77 = .ok (.aload_n 0, 1) := by decide +kernel
theorem dX6_pour_78 : decode cX6_pour 78 = .ok (.getfield 62, 3) := by decide +kernel
theorem dX6_pour_81 : decode cX6_pour 81 = .ok (.if_icmp .ge 55, 3) := by decide +kernel
theorem dX6_pour_84 : decode cX6_pour 84 = .ok (.aload_n 0, 1) := by decide +kernel
theorem dX6_pour_85 : decode cX6_pour 85 = .ok (.iload 7, 2) := by decide +kernel
theorem dX6_pour_87 : decode cX6_pour 87 = .ok (.iload_n 1, 1) := by decide +kernel
theorem dX6_pour_88 : decode cX6_pour 88 = .ok (.invokevirtual 97, 3) := by decide +kernel
theorem dX6_pour_91 : decode cX6_pour 91 = .ok (.aload_n 0, 1) := by decide +kernel
theorem dX6_pour_92 : decode cX6_pour 92 = .ok (.iload_n 2, 1) := by decide +kernel
theorem dX6_pour_93 : decode cX6_pour 93 = .ok (.invokevirtual 225, 3) := by decide +kernel
theorem dX6_pour_96 : decode cX6_pour 96 = .ok (.istore 8, 2) := by decide +kernel
theorem dX6_pour_98 : decode cX6_pour 98 = .ok (.iload 8, 2) := by decide +kernel
theorem dX6_pour_100 : decode cX6_pour 100 = .ok (.iload 6, 2) := by decide +kernel
theorem dX6_pour_102 : decode cX6_pour 102 = .ok (.if_icmp .le 8, 3) := by decide +kernel
theorem dX6_pour_105 : decode cX6_pour 105 = .ok (.iload 7, 2) := by decide +kernel
theorem dX6_pour_107 : decode cX6_pour 107 = .ok (.goto 5, 3) := by decide +kernel
theorem dX6_pour_110 : decode cX6_pour 110 = .ok (.iload 5, 2) := by decide +kernel
theorem dX6_pour_112 : decode cX6_pour 112 = .ok (.istore 5, 2) := by decide +kernel
theorem dX6_pour_114 : decode cX6_pour 114 = .ok (.iload 8, 2) := by decide +kernel
theorem dX6_pour_116 : decode cX6_pour 116 = .ok (.iload 6, 2) := by decide +kernel
theorem dX6_pour_118 : decode cX6_pour 118 = .ok (.if_icmp .le 8, 3) := by decide +kernel
theorem dX6_pour_121 : decode cX6_pour 121 = .ok (.iload 8, 2) := by decide +kernel
theorem dX6_pour_123 : decode cX6_pour 123 = .ok (.goto 5, 3) := by decide +kernel
theorem dX6_pour_126 : decode cX6_pour 126 = .ok (.iload 6, 2) := by decide +kernel
theorem dX6_pour_128 : decode cX6_pour 128 = .ok (.istore 6, 2) := by decide +kernel
theorem dX6_pour_130 : decode cX6_pour 130 = .ok (.iinc 7 1, 3) := by decide +kernel
theorem dX6_pour_133 : decode cX6_pour 133 = .ok (.goto (-58), 3) := by decide +kernel
theorem dX6_pour_136 : decode cX6_pour 136 = .ok (.iload_n 3, 1) := by decide +kernel
theorem dX6_pour_137 : decode cX6_pour 137 = .ok (.ifCond .ne 8, 3) := by decide +kernel
theorem dX6_pour_140 : decode cX6_pour 140 = .ok (.iload 5, 2) := by decide +kernel
theorem dX6_pour_142 : decode cX6_pour 142 = .ok (.goto 5, 3) := by decide +kernel
theorem dX6_pour_145 : decode cX6_pour 145 = .ok (.iload 6, 2) := by decide +kernel
theorem dX6_pour_147 : decode cX6_pour 147 = .ok (.ireturn, 1) := by decide +kernel
theorem dX6_least_0 : decode cX6_least 0 = .ok (.aload_n 0, 1) := by decide +kernel
theorem dX6_least_1 : decode cX6_least 1 = .ok (.iconst 0, 1) := by decide +kernel
theorem dX6_least_2 : decode cX6_least 2 = .ok (.putfield 58, 3) := by decide +kernel
theorem dX6_least_5 : decode cX6_least 5 = .ok (.iload_n 1, 1) := by decide +kernel
theorem dX6_least_6 : decode cX6_least 6 = .ok (.ifCond .lt 7, 3) := by decide +kernel
theorem dX6_least_9 : decode cX6_least 9 = .ok (.iload_n 2, 1) := by decide +kernel
theorem dX6_least_10 : decode cX6_least 10 = .ok (.ifCond .ge 8, 3) := by decide +kernel
theorem dX6_least_13 : decode cX6_least 13 = .ok (.bipush (-4), 2) := by decide +kernel
theorem dX6_least_15 : decode cX6_least 15 = .ok (.goto 22, 3) := by decide +kernel
theorem dX6_least_18 : decode cX6_least 18 = .ok (.iload_n 1, 1) := by decide +kernel
theorem dX6_least_19 : decode cX6_least 19 = .ok (.sipush 999, 3) := by decide +kernel
theorem dX6_least_22 : decode cX6_least 22 = .ok (.if_icmp .gt 9, 3) := by decide +kernel
theorem dX6_least_25 : decode cX6_least 25 = .ok (.iload_n 2, 1) := by decide +kernel
theorem dX6_least_26 : decode cX6_least 26 = .ok (.bipush 60, 2) := by decide +kernel
theorem dX6_least_28 : decode cX6_least 28 = .ok (.if_icmp .le 8, 3) := by decide +kernel
theorem dX6_least_31 : decode cX6_least 31 = .ok (.bipush (-6), 2) := by decide +kernel
theorem dX6_least_33 : decode cX6_least 33 = .ok (.goto 4, 3) := by decide +kernel
theorem dX6_least_36 : decode cX6_least 36 = .ok (.iconst 0, 1) := by decide +kernel
theorem dX6_least_37 : decode cX6_least 37 = .ok (.istore_n 3, 1) := by decide +kernel
theorem dX6_least_38 : decode cX6_least 38 = .ok (.iload_n 3, 1) := by decide +kernel
theorem dX6_least_39 : decode cX6_least 39 = .ok (.ifCond .ge 9, 3) := by decide +kernel
theorem dX6_least_42 : decode cX6_least 42 = .ok (.aload_n 0, 1) := by decide +kernel
theorem dX6_least_43 : decode cX6_least 43 = .ok (.iload_n 3, 1) := by decide +kernel
theorem dX6_least_44 : decode cX6_least 44 = .ok (.invokevirtual 108, 3) := by decide +kernel
theorem dX6_least_47 : decode cX6_least 47 = .ok (.ireturn, 1) := by decide +kernel
theorem dX6_least_48 : decode cX6_least 48 = .ok (.bipush (-9), 2) := by decide +kernel
theorem dX6_least_50 : decode cX6_least 50 = .ok (.istore 4, 2) := by decide +kernel
theorem dX6_least_52 : decode cX6_least 52 = .ok (.aload_n 0, 1) := by decide +kernel
theorem dX6_least_53 : decode cX6_least 53 = .ok (.invokevirtual 159, 3) := by decide +kernel
theorem dX6_least_56 : decode cX6_least 56 = .ok (.iconst 0, 1) := by decide +kernel
theorem dX6_least_57 : decode cX6_least 57 = .ok (.istore 5, 2) := by decide +kernel
theorem dX6_least_59 : decode cX6_least 59 = .ok (.iload 5, 2) := by decide +kernel
theorem dX6_least_61 : decode cX6_least 61 = .ok (.bipush 100, 2) := by decide +kernel
theorem dX6_least_63 : decode cX6_least 63 = .ok (.if_icmp .ge 46, 3) := by decide +kernel
theorem dX6_least_66 : decode cX6_least 66 = .ok (.iload 4, 2) := by decide +kernel
theorem dX6_least_68 : decode cX6_least 68 = .ok (.ifCond .ge 41, 3) := by decide +kernel
theorem dX6_least_71 : decode cX6_least 71 = .ok (.aload_n 0, 1) := by decide +kernel
theorem dX6_least_72 : decode cX6_least 72 = .ok (.getfield 62, 3) := by decide +kernel
theorem dX6_least_75 : decode cX6_least 75 = .ok (.ifCond .le 34, 3) := by decide +kernel
theorem dX6_least_78 : decode cX6_least 78 = .ok (.aload_n 0, 1) := by decide +kernel
theorem dX6_least_79 : decode cX6_least 79 = .ok (.iconst 0, 1) := by decide +kernel
theorem dX6_least_80 : decode cX6_least 80 = .ok (.iload 5, 2) := by decide +kernel
theorem dX6_least_82 : decode cX6_least 82 = .ok (.invokevirtual 97, 3) := by decide +kernel
theorem dX6_least_85 : decode cX6_least 85 = .ok (.aload_n 0, 1) := by decide +kernel
theorem dX6_least_86 : decode cX6_least 86 = .ok (.iload_n 2, 1) := by decide +kernel
theorem dX6_least_87 : decode cX6_least 87 = .ok (.invokevirtual 225, 3) := by decide +kernel
theorem dX6_least_90 : decode cX6_least 90 = .ok (.iload_n 1, 1) := by decide +kernel
theorem dX6_least_91 : decode cX6_least 91 = .ok (.if_icmp .lt 8, 3) := by decide +kernel
theorem dX6_least_94 : decode cX6_least 94 = .ok (.iload 5, 2) := by decide +kernel
theorem dX6_least_96 : decode cX6_least 96 = .ok (.goto 5, 3) := by decide +kernel
theorem dX6_least_99 : decode cX6_least 99 = .ok (.bipush (-9), 2) := by decide +kernel
theorem dX6_least_101 : decode cX6_least 101 = .ok (.istore 4, 2) := by decide +kernel
theorem dX6_least_103 : decode cX6_least 103 = .ok (.iinc 5 1, 3) := by decide +kernel
theorem dX6_least_106 : decode cX6_least 106 = .ok (.goto (-47), 3) := by decide +kernel
theorem dX6_least_109 : decode cX6_least 109 = .ok (.iload 4, 2) := by decide +kernel
theorem dX6_least_111 : decode cX6_least 111 = .ok (.ireturn, 1) := by decide +kernel
theorem dX6_clearing_0 : decode cX6_clearing 0 = .ok (.aload_n 0, 1) := by decide +kernel
theorem dX6_clearing_1 : decode cX6_clearing 1 = .ok (.iconst 0, 1) := by decide +kernel
theorem dX6_clearing_2 : decode cX6_clearing 2 = .ok (.putfield 58, 3) := by decide +kernel
theorem dX6_clearing_5 : decode cX6_clearing 5 = .ok (.iload_n 1, 1) := by decide +kernel
theorem dX6_clearing_6 : decode cX6_clearing 6 = .ok (.iconst 0, 1) := by decide +kernel
theorem dX6_clearing_7 : decode cX6_clearing 7 = .ok (.bipush 60, 2) := by decide +kernel
theorem dX6_clearing_9 : decode cX6_clearing 9 = .ok (.invokestatic 197, 3) := by decide +kernel
theorem dX6_clearing_12 : decode cX6_clearing 12 = .ok (.istore_n 2, 1) := by decide +kernel
theorem dX6_clearing_13 : decode cX6_clearing 13 = .ok (.iload_n 2, 1) := by decide +kernel
theorem dX6_clearing_14 : decode cX6_clearing 14 = .ok (.ifCond .ge 9, 3) := by decide +kernel
theorem dX6_clearing_17 : decode cX6_clearing 17 = .ok (.aload_n 0, 1) := by decide +kernel
theorem dX6_clearing_18 : decode cX6_clearing 18 = .ok (.iload_n 2, 1) := by decide +kernel
theorem dX6_clearing_19 : decode cX6_clearing 19 = .ok (.invokevirtual 108, 3) := by decide +kernel
theorem dX6_clearing_22 : decode cX6_clearing 22 = .ok (.ireturn, 1) := by decide +kernel
theorem dX6_clearing_23 : decode cX6_clearing 23 = .ok (.iconst 0, 1) := by decide +kernel
theorem dX6_clearing_24 : decode cX6_clearing 24 = .ok (.istore_n 3, 1) := by decide +kernel
theorem dX6_clearing_25 : decode cX6_clearing 25 = .ok (.iconst (-1), 1) := by decide +kernel
theorem dX6_clearing_26 : decode cX6_clearing 26 = .ok (.istore 4, 2) := by decide +kernel
theorem dX6_clearing_28 : decode cX6_clearing 28 = .ok (.aload_n 0, 1) := by decide +kernel
theorem dX6_clearing_29 : decode cX6_clearing 29 = .ok (.invokevirtual 159, 3) := by decide +kernel
theorem dX6_clearing_32 : decode cX6_clearing 32 = .ok (.iconst 0, 1) := by decide +kernel
theorem dX6_clearing_33 : decode cX6_clearing 33 = .ok (.istore 5, 2) := by decide +kernel
theorem dX6_clearing_35 : decode cX6_clearing 35 = .ok (.iload 5, 2) := by decide +kernel
theorem dX6_clearing_37 : decode cX6_clearing 37 = .ok (.iconst 1, 1) := by decide +kernel
theorem dX6_clearing_38 : decode cX6_clearing 38 = .ok (.aload_n 0, 1) := by decide +kernel
theorem dX6_clearing_39 : decode cX6_clearing 39 = .ok (.getfield 62, 3) := by decide +kernel
theorem dX6_clearing_42 : decode cX6_clearing 42 = .ok (.ishl, 1) := by decide +kernel
theorem dX6_clearing_43 : decode cX6_clearing 43 = .ok (.if_icmp .ge 90, 3) := by decide +kernel
theorem dX6_clearing_46 : decode cX6_clearing 46 = .ok (.iload 5, 2) := by decide +kernel
theorem dX6_clearing_48 : decode cX6_clearing 48 = .ok (.aload_n 0, 1) := by decide +kernel
theorem dX6_clearing_49 : decode cX6_clearing 49 = .ok (.getfield 83, 3) := by decide +kernel
theorem dX6_clearing_52 : decode cX6_clearing 52 = .ok (.iconst (-1), 1) := by decide +kernel
theorem dX6_clearing_53 : decode cX6_clearing 53 = .ok (.ixor, 1) := by decide +kernel
theorem dX6_clearing_54 : decode cX6_clearing 54 = .ok (.iand, 1) := by decide +kernel
theorem dX6_clearing_55 : decode cX6_clearing 55 = .ok (.ifCond .ne 72, 3) := by decide +kernel
theorem dX6_clearing_58 : decode cX6_clearing 58 = .ok (.aload_n 0, 1) := by decide +kernel
theorem dX6_clearing_59 : decode cX6_clearing 59 = .ok (.dup, 1) := by decide +kernel
theorem dX6_clearing_60 : decode cX6_clearing 60 = .ok (.getfield 83, 3) := by decide +kernel
theorem dX6_clearing_63 : decode cX6_clearing 63 = .ok (.iload 5, 2) := by decide +kernel
theorem dX6_clearing_65 : decode cX6_clearing 65 = .ok (.iconst (-1), 1) := by decide +kernel
theorem dX6_clearing_66 : decode cX6_clearing 66 = .ok (.ixor, 1) := by decide +kernel
theorem dX6_clearing_67 : decode cX6_clearing 67 = .ok (.iand, 1) := by decide +kernel
theorem dX6_clearing_68 : decode cX6_clearing 68 = .ok (.putfield 83, 3) := by decide +kernel
theorem dX6_clearing_71 : decode cX6_clearing 71 = .ok (.aload_n 0, 1) := by decide +kernel
theorem dX6_clearing_72 : decode cX6_clearing 72 = .ok (.iload_n 1, 1) := by decide +kernel
theorem dX6_clearing_73 : decode cX6_clearing 73 = .ok (.invokevirtual 225, 3) := by decide +kernel
theorem dX6_clearing_76 : decode cX6_clearing 76 = .ok (.istore 6, 2) := by decide +kernel
theorem dX6_clearing_78 : decode cX6_clearing 78 = .ok (.iload 6, 2) := by decide +kernel
theorem dX6_clearing_80 : decode cX6_clearing 80 = .ok (.iload 4, 2) := by decide +kernel
theorem dX6_clearing_82 : decode cX6_clearing 82 = .ok (.if_icmp .gt 22, 3) := by decide +kernel
theorem dX6_clearing_85 : decode cX6_clearing 85 = .ok (.iload 6, 2) := by decide +kernel
theorem dX6_clearing_87 : decode cX6_clearing 87 = .ok (.iload 4, 2) := by decide +kernel
theorem dX6_clearing_89 : decode cX6_clearing 89 = .ok (.if_icmp .ne 20, 3) := by decide +kernel
theorem dX6_clearing_92 : decode cX6_clearing 92 = .ok (.iload 5, 2) := by decide +kernel
theorem dX6_clearing_94 : decode cX6_clearing 94 = .ok (.invokestatic 228, 3) := by decide +kernel
theorem dX6_clearing_97 : decode cX6_clearing 97 = .ok (.iload_n 3, 1) := by decide +kernel
theorem dX6_clearing_98 : decode cX6_clearing 98 = .ok (.invokestatic 228, 3) := by decide +kernel
theorem dX6_clearing_101 : decode cX6_clearing 101 = .ok (.if_icmp .ge 8, 3) := by decide +kernel
theorem dX6_clearing_104 : decode cX6_clearing 104 = .ok (.iload 5, 2) := by decide +kernel
theorem dX6_clearing_106 : decode cX6_clearing 106 = .ok (.goto 4, 3) := by decide +kernel
theorem dX6_clearing_109 : decode cX6_clearing 109 = .ok (.iload_n 3, 1) := by decide +kernel
theorem dX6_clearing_110 : decode cX6_clearing 110 = .ok (.istore_n 3, 1) := by decide +kernel
theorem dX6_clearing_111 : decode cX6_clearing 111 = .ok (.iload 6, 2) := by decide +kernel
theorem dX6_clearing_113 : decode cX6_clearing 113 = .ok (.iload 4, 2) := by decide +kernel
theorem dX6_clearing_115 : decode cX6_clearing 115 = .ok (.if_icmp .le 8, 3) := by decide +kernel
theorem dX6_clearing_118 : decode cX6_clearing 118 = .ok (.iload 6, 2) := by decide +kernel
theorem dX6_clearing_120 : decode cX6_clearing 120 = .ok (.goto 5, 3) := by decide +kernel
theorem dX6_clearing_123 : decode cX6_clearing 123 = .ok (.iload 4, 2) := by decide +kernel
theorem dX6_clearing_125 : decode cX6_clearing 125 = .ok (.istore 4, 2) := by decide +kernel
theorem dX6_clearing_127 : decode cX6_clearing 127 = .ok (.iinc 5 1, 3) := by decide +kernel
theorem dX6_clearing_130 : decode cX6_clearing 130 = .ok (.goto (-95), 3) := by decide +kernel
theorem dX6_clearing_133 : decode cX6_clearing 133 = .ok (.iload_n 3, 1) := by decide +kernel
theorem dX6_clearing_134 : decode cX6_clearing 134 = .ok (.ireturn, 1) := by decide +kernel
theorem dX6_stop_0 : decode cX6_stop 0 = .ok (.aload_n 0, 1) := by decide +kernel
theorem dX6_stop_1 : decode cX6_stop 1 = .ok (.iconst 0, 1) := by decide +kernel
theorem dX6_stop_2 : decode cX6_stop 2 = .ok (.putfield 58, 3) := by decide +kernel
theorem dX6_stop_5 : decode cX6_stop 5 = .ok (.iload_n 1, 1) := by decide +kernel
theorem dX6_stop_6 : decode cX6_stop 6 = .ok (.iconst 0, 1) := by decide +kernel
theorem dX6_stop_7 : decode cX6_stop 7 = .ok (.bipush 60, 2) := by decide +kernel
theorem dX6_stop_9 : decode cX6_stop 9 = .ok (.invokestatic 197, 3) := by decide +kernel
theorem dX6_stop_12 : decode cX6_stop 12 = .ok (.istore_n 2, 1) := by decide +kernel
theorem dX6_stop_13 : decode cX6_stop 13 = .ok (.iload_n 2, 1) := by decide +kernel
theorem dX6_stop_14 : decode cX6_stop 14 = .ok (.ifCond .ge 9, 3) := by decide +kernel
theorem dX6_stop_17 : decode cX6_stop 17 = .ok (.aload_n 0, 1) := by decide +kernel
theorem dX6_stop_18 : decode cX6_stop 18 = .ok (.iload_n 2, 1) := by decide +kernel
theorem dX6_stop_19 : decode cX6_stop 19 = .ok (.invokevirtual 108, 3) := by decide +kernel
theorem dX6_stop_22 : decode cX6_stop 22 = .ok (.ireturn, 1) := by decide +kernel
theorem dX6_stop_23 : decode cX6_stop 23 = .ok (.bipush (-9), 2) := by decide +kernel
theorem dX6_stop_25 : decode cX6_stop 25 = .ok (.istore_n 3, 1) := by decide +kernel
theorem dX6_stop_26 : decode cX6_stop 26 = .ok (.aload_n 0, 1) := by decide +kernel
theorem dX6_stop_27 : decode cX6_stop 27 = .ok (.invokevirtual 159, 3) := by decide +kernel
theorem dX6_stop_30 : decode cX6_stop 30 = .ok (.aload_n 0, 1) := by decide +kernel
theorem dX6_stop_31 : decode cX6_stop 31 = .ok (.iload_n 1, 1) := by decide +kernel
theorem dX6_stop_32 : decode cX6_stop 32 = .ok (.invokevirtual 225, 3) := by decide +kernel
theorem dX6_stop_35 : decode cX6_stop 35 = .ok (.istore 4, 2) := by decide +kernel
theorem dX6_stop_37 : decode cX6_stop 37 = .ok (.iconst 0, 1) := by decide +kernel
theorem dX6_stop_38 : decode cX6_stop 38 = .ok (.istore 5, 2) := by decide +kernel
theorem dX6_stop_40 : decode cX6_stop 40 = .ok (.iload 5, 2) := by decide +kernel
theorem dX6_stop_42 : decode cX6_stop 42 = .ok (.aload_n 0, 1) := by decide +kernel
theorem dX6_stop_43 : decode cX6_stop 43 = .ok (.getfield 62, 3) := by decide +kernel
theorem dX6_stop_46 : decode cX6_stop 46 = .ok (.if_icmp .ge 71, 3) := by decide +kernel
theorem dX6_stop_49 : decode cX6_stop 49 = .ok (.aload_n 0, 1) := by decide +kernel
theorem dX6_stop_50 : decode cX6_stop 50 = .ok (.getfield 83, 3) := by decide +kernel
theorem dX6_stop_53 : decode cX6_stop 53 = .ok (.iload 5, 2) := by decide +kernel
theorem dX6_stop_55 : decode cX6_stop 55 = .ok (.invokestatic 86, 3) := by decide +kernel
theorem dX6_stop_58 : decode cX6_stop 58 = .ok (.ifCond .ne 53, 3) := by decide +kernel
theorem dX6_stop_61 : decode cX6_stop 61 = .ok (.aload_n 0, 1) := by decide +kernel
theorem dX6_stop_62 : decode cX6_stop 62 = .ok (.dup, 1) := by decide +kernel
theorem dX6_stop_63 : decode cX6_stop 63 = .ok (.getfield 83, 3) := by decide +kernel
theorem dX6_stop_66 : decode cX6_stop 66 = .ok (.iconst 1, 1) := by decide +kernel
theorem dX6_stop_67 : decode cX6_stop 67 = .ok (.iload 5, 2) := by decide +kernel
theorem dX6_stop_69 : decode cX6_stop 69 = .ok (.ishl, 1) := by decide +kernel
theorem dX6_stop_70 : decode cX6_stop 70 = .ok (.ior, 1) := by decide +kernel
theorem dX6_stop_71 : decode cX6_stop 71 = .ok (.putfield 83, 3) := by decide +kernel
theorem dX6_stop_74 : decode cX6_stop 74 = .ok (.aload_n 0, 1) := by decide +kernel
theorem dX6_stop_75 : decode cX6_stop 75 = .ok (.iload_n 1, 1) := by decide +kernel
theorem dX6_stop_76 : decode cX6_stop 76 = .ok (.invokevirtual 225, 3) := by decide +kernel
theorem dX6_stop_79 : decode cX6_stop 79 = .ok (.istore 6, 2) := by decide +kernel
theorem dX6_stop_81 : decode cX6_stop 81 = .ok (.iload 6, 2) := by decide +kernel
theorem dX6_stop_83 : decode cX6_stop 83 = .ok (.iload 4, 2) := by decide +kernel
theorem dX6_stop_85 : decode cX6_stop 85 = .ok (.if_icmp .ge 8, 3) := by decide +kernel
theorem dX6_stop_88 : decode cX6_stop 88 = .ok (.iload 5, 2) := by decide +kernel
theorem dX6_stop_90 : decode cX6_stop 90 = .ok (.goto 4, 3) := by decide +kernel
theorem dX6_stop_93 : decode cX6_stop 93 = .ok (.iload_n 3, 1) := by decide +kernel
theorem dX6_stop_94 : decode cX6_stop 94 = .ok (.istore_n 3, 1) := by decide +kernel
theorem dX6_stop_95 : decode cX6_stop 95 = .ok (.iload 6, 2) := by decide +kernel
theorem dX6_stop_97 : decode cX6_stop 97 = .ok (.iload 4, 2) := by decide +kernel
theorem dX6_stop_99 : decode cX6_stop 99 = .ok (.if_icmp .ge 8, 3) := by decide +kernel
theorem dX6_stop_102 : decode cX6_stop 102 = .ok (.iload 6, 2) := by decide +kernel
theorem dX6_stop_104 : decode cX6_stop 104 = .ok (.goto 5, 3) := by decide +kernel
theorem dX6_stop_107 : decode cX6_stop 107 = .ok (.iload 4, 2) := by decide +kernel
theorem dX6_stop_109 : decode cX6_stop 109 = .ok (.istore 4, 2) := by decide +kernel
theorem dX6_stop_111 : decode cX6_stop 111 = .ok (.iinc 5 1, 3) := by decide +kernel
theorem dX6_stop_114 : decode cX6_stop 114 = .ok (.goto (-74), 3) := by decide +kernel
theorem dX6_stop_117 : decode cX6_stop 117 = .ok (.iload_n 3, 1) := by decide +kernel
theorem dX6_stop_118 : decode cX6_stop 118 = .ok (.ireturn, 1) := by decide +kernel
theorem dX6_join_0 : decode cX6_join 0 = .ok (.aload_n 0, 1) := by decide +kernel
theorem dX6_join_1 : decode cX6_join 1 = .ok (.iconst 0, 1) := by decide +kernel
theorem dX6_join_2 : decode cX6_join 2 = .ok (.putfield 58, 3) := by decide +kernel
theorem dX6_join_5 : decode cX6_join 5 = .ok (.iload_n 1, 1) := by decide +kernel
theorem dX6_join_6 : decode cX6_join 6 = .ok (.iconst 0, 1) := by decide +kernel
theorem dX6_join_7 : decode cX6_join 7 = .ok (.bipush 60, 2) := by decide +kernel
theorem dX6_join_9 : decode cX6_join 9 = .ok (.invokestatic 197, 3) := by decide +kernel
theorem dX6_join_12 : decode cX6_join 12 = .ok (.istore_n 2, 1) := by decide +kernel
theorem dX6_join_13 : decode cX6_join 13 = .ok (.iload_n 2, 1) := by decide +kernel
theorem dX6_join_14 : decode cX6_join 14 = .ok (.ifCond .ge 9, 3) := by decide +kernel
theorem dX6_join_17 : decode cX6_join 17 = .ok (.aload_n 0, 1) := by decide +kernel
theorem dX6_join_18 : decode cX6_join 18 = .ok (.iload_n 2, 1) := by decide +kernel
theorem dX6_join_19 : decode cX6_join 19 = .ok (.invokevirtual 108, 3) := by decide +kernel
theorem dX6_join_22 : decode cX6_join 22 = .ok (.ireturn, 1) := by decide +kernel
theorem dX6_join_23 : decode cX6_join 23 = .ok (.bipush (-9), 2) := by decide +kernel
theorem dX6_join_25 : decode cX6_join 25 = .ok (.istore_n 3, 1) := by decide +kernel
theorem dX6_join_26 : decode cX6_join 26 = .ok (.aload_n 0, 1) := by decide +kernel
theorem dX6_join_27 : decode cX6_join 27 = .ok (.invokevirtual 159, 3) := by decide +kernel
theorem dX6_join_30 : decode cX6_join 30 = .ok (.aload_n 0, 1) := by decide +kernel
theorem dX6_join_31 : decode cX6_join 31 = .ok (.iload_n 1, 1) := by decide +kernel
theorem dX6_join_32 : decode cX6_join 32 = .ok (.invokevirtual 225, 3) := by decide +kernel
theorem dX6_join_35 : decode cX6_join 35 = .ok (.istore 4, 2) := by decide +kernel
theorem dX6_join_37 : decode cX6_join 37 = .ok (.iconst 0, 1) := by decide +kernel
theorem dX6_join_38 : decode cX6_join 38 = .ok (.istore 5, 2) := by decide +kernel
theorem dX6_join_40 : decode cX6_join 40 = .ok (.iload 5, 2) := by decide +kernel
theorem dX6_join_42 : decode cX6_join 42 = .ok (.bipush 10, 2) := by decide +kernel
theorem dX6_join_44 : decode cX6_join 44 = .ok (.aload_n 0, 1) := by decide +kernel
theorem dX6_join_45 : decode cX6_join 45 = .ok (.getfield 62, 3) := by decide +kernel
theorem dX6_join_48 : decode cX6_join 48 = .ok (.imul, 1) := by decide +kernel
theorem dX6_join_49 : decode cX6_join 49 = .ok (.if_icmp .ge 91, 3) := by decide +kernel
theorem dX6_join_52 : decode cX6_join 52 = .ok (.iload 5, 2) := by decide +kernel
theorem dX6_join_54 : decode cX6_join 54 = .ok (.bipush 10, 2) := by decide +kernel
theorem dX6_join_56 : decode cX6_join 56 = .ok (.irem, 1) := by decide +kernel
theorem dX6_join_57 : decode cX6_join 57 = .ok (.istore 6, 2) := by decide +kernel
theorem dX6_join_59 : decode cX6_join 59 = .ok (.iload 6, 2) := by decide +kernel
theorem dX6_join_61 : decode cX6_join 61 = .ok (.iload 5, 2) := by decide +kernel
theorem dX6_join_63 : decode cX6_join 63 = .ok (.bipush 10, 2) := by decide +kernel
theorem dX6_join_65 : decode cX6_join 65 = .ok (.idiv, 1) := by decide +kernel
theorem dX6_join_66 : decode cX6_join 66 = .ok (.if_icmp .le 68, 3) := by decide +kernel
theorem dX6_join_69 : decode cX6_join 69 = .ok (.iload 6, 2) := by decide +kernel
theorem dX6_join_71 : decode cX6_join 71 = .ok (.aload_n 0, 1) := by decide +kernel
theorem dX6_join_72 : decode cX6_join 72 = .ok (.getfield 62, 3) := by decide +kernel
theorem dX6_join_75 : decode cX6_join 75 = .ok (.if_icmp .lt 10, 3) := by decide +kernel
theorem dX6_join_78 : decode cX6_join 78 = .ok (.iload 6, 2) := by decide +kernel
theorem dX6_join_80 : decode cX6_join 80 = .ok (.bipush 9, 2) := by decide +kernel
theorem dX6_join_82 : decode cX6_join 82 = .ok (.if_icmp .ne 52, 3) := by decide +kernel
theorem dX6_join_85 : decode cX6_join 85 = .ok (.aload_n 0, 1) := by decide +kernel
theorem dX6_join_86 : decode cX6_join 86 = .ok (.getfield 19, 3) := by decide +kernel
theorem dX6_join_89 : decode cX6_join 89 = .ok (.iload 5, 2) := by decide +kernel
theorem dX6_join_91 : decode cX6_join 91 = .ok (.bipush 10, 2) := by decide +kernel
theorem dX6_join_93 : decode cX6_join 93 = .ok (.idiv, 1) := by decide +kernel
theorem dX6_join_94 : decode cX6_join 94 = .ok (.iload 6, 2) := by decide +kernel
theorem dX6_join_96 : decode cX6_join 96 = .ok (.iastore, 1) := by decide +kernel
theorem dX6_join_97 : decode cX6_join 97 = .ok (.aload_n 0, 1) := by decide +kernel
theorem dX6_join_98 : decode cX6_join 98 = .ok (.iload_n 1, 1) := by decide +kernel
theorem dX6_join_99 : decode cX6_join 99 = .ok (.invokevirtual 225, 3) := by decide +kernel
theorem dX6_join_102 : decode cX6_join 102 = .ok (.istore 7, 2) := by decide +kernel
theorem dX6_join_104 : decode cX6_join 104 = .ok (.iload 7, 2) := by decide +kernel
theorem dX6_join_106 : decode cX6_join 106 = .ok (.iload 4, 2) := by decide +kernel
theorem dX6_join_108 : decode cX6_join 108 = .ok (.if_icmp .le 8, 3) := by decide +kernel
theorem dX6_join_111 : decode cX6_join 111 = .ok (.iload 5, 2) := by decide +kernel
theorem dX6_join_113 : decode cX6_join 113 = .ok (.goto 4, 3) := by decide +kernel
theorem dX6_join_116 : decode cX6_join 116 = .ok (.iload_n 3, 1) := by decide +kernel
theorem dX6_join_117 : decode cX6_join 117 = .ok (.istore_n 3, 1) := by decide +kernel
theorem dX6_join_118 : decode cX6_join 118 = .ok (.iload 7, 2) := by decide +kernel
theorem dX6_join_120 : decode cX6_join 120 = .ok (.iload 4, 2) := by decide +kernel
theorem dX6_join_122 : decode cX6_join 122 = .ok (.if_icmp .le 8, 3) := by decide +kernel
theorem dX6_join_125 : decode cX6_join 125 = .ok (.iload 7, 2) := by decide +kernel
theorem dX6_join_127 : decode cX6_join 127 = .ok (.goto 5, 3) := by decide +kernel
theorem dX6_join_130 : decode cX6_join 130 = .ok (.iload 4, 2) := by decide +kernel
theorem dX6_join_132 : decode cX6_join 132 = .ok (.istore 4, 2) := by decide +kernel
theorem dX6_join_134 : decode cX6_join 134 = .ok (.iinc 5 1, 3) := by decide +kernel
theorem dX6_join_137 : decode cX6_join 137 = .ok (.goto (-97), 3) := by decide +kernel
theorem dX6_join_140 : decode cX6_join 140 = .ok (.iload_n 3, 1) := by decide +kernel
theorem dX6_join_141 : decode cX6_join 141 = .ok (.ireturn, 1) := by decide +kernel
theorem dX6_wayBits_0 : decode cX6_wayBits 0 = .ok (.iconst 0, 1) := by decide +kernel
theorem dX6_wayBits_1 : decode cX6_wayBits 1 = .ok (.istore_n 2, 1) := by decide +kernel
theorem dX6_wayBits_2 : decode cX6_wayBits 2 = .ok (.iload_n 1, 1) := by decide +kernel
theorem dX6_wayBits_3 : decode cX6_wayBits 3 = .ok (.istore_n 3, 1) := by decide +kernel
theorem dX6_wayBits_4 : decode cX6_wayBits 4 = .ok (.iload_n 3, 1) := by decide +kernel
theorem dX6_wayBits_5 : decode cX6_wayBits 5 = .ok (.aload_n 0, 1) := by decide +kernel
theorem dX6_wayBits_6 : decode cX6_wayBits 6 = .ok (.getfield 62, 3) := by decide +kernel
theorem dX6_wayBits_9 : decode cX6_wayBits 9 = .ok (.if_icmp .ge 19, 3) := by decide +kernel
theorem dX6_wayBits_12 : decode cX6_wayBits 12 = .ok (.iload_n 2, 1) := by decide +kernel
theorem dX6_wayBits_13 : decode cX6_wayBits 13 = .ok (.iconst 1, 1) := by decide +kernel
theorem dX6_wayBits_14 : decode cX6_wayBits 14 = .ok (.iload_n 3, 1) := by decide +kernel
theorem dX6_wayBits_15 : decode cX6_wayBits 15 = .ok (.ishl, 1) := by decide +kernel
theorem dX6_wayBits_16 : decode cX6_wayBits 16 = .ok (.ior, 1) := by decide +kernel
theorem dX6_wayBits_17 : decode cX6_wayBits 17 = .ok (.istore_n 2, 1) := by decide +kernel
theorem dX6_wayBits_18 : decode cX6_wayBits 18 = .ok (.aload_n 0, 1) := by decide +kernel
theorem dX6_wayBits_19 : decode cX6_wayBits 19 = .ok (.getfield 19, 3) := by decide +kernel
theorem dX6_wayBits_22 : decode cX6_wayBits 22 = .ok (.iload_n 3, 1) := by decide +kernel
theorem dX6_wayBits_23 : decode cX6_wayBits 23 = .ok (.iaload, 1) := by decide +kernel
theorem dX6_wayBits_24 : decode cX6_wayBits 24 = .ok (.istore_n 3, 1) := by decide +kernel
theorem dX6_wayBits_25 : decode cX6_wayBits 25 = .ok (.goto (-21), 3) := by decide +kernel
theorem dX6_wayBits_28 : decode cX6_wayBits 28 = .ok (.iload_n 2, 1) := by decide +kernel
theorem dX6_wayBits_29 : decode cX6_wayBits 29 = .ok (.ireturn, 1) := by decide +kernel
theorem dX6_way_0 : decode cX6_way 0 = .ok (.aload_n 0, 1) := by decide +kernel
theorem dX6_way_1 : decode cX6_way 1 = .ok (.iconst 0, 1) := by decide +kernel
theorem dX6_way_2 : decode cX6_way 2 = .ok (.putfield 58, 3) := by decide +kernel
theorem dX6_way_5 : decode cX6_way 5 = .ok (.aload_n 0, 1) := by decide +kernel
theorem dX6_way_6 : decode cX6_way 6 = .ok (.iload_n 1, 1) := by decide +kernel
theorem dX6_way_7 : decode cX6_way 7 = .ok (.invokevirtual 147, 3) := by decide +kernel
theorem dX6_way_10 : decode cX6_way 10 = .ok (.ifCond .eq 7, 3) := by decide +kernel
theorem dX6_way_13 : decode cX6_way 13 = .ok (.iconst 0, 1) := by decide +kernel
theorem dX6_way_14 : decode cX6_way 14 = .ok (.goto 4, 3) := by decide +kernel
theorem dX6_way_17 : decode cX6_way 17 = .ok (.iconst (-1), 1) := by decide +kernel
theorem dX6_way_18 : decode cX6_way 18 = .ok (.iload_n 2, 1) := by decide +kernel
theorem dX6_way_19 : decode cX6_way 19 = .ok (.iconst 2, 1) := by decide +kernel
theorem dX6_way_20 : decode cX6_way 20 = .ok (.invokestatic 206, 3) := by decide +kernel
theorem dX6_way_23 : decode cX6_way 23 = .ok (.istore_n 3, 1) := by decide +kernel
theorem dX6_way_24 : decode cX6_way 24 = .ok (.iload_n 3, 1) := by decide +kernel
theorem dX6_way_25 : decode cX6_way 25 = .ok (.ifCond .ge 9, 3) := by decide +kernel
theorem dX6_way_28 : decode cX6_way 28 = .ok (.aload_n 0, 1) := by decide +kernel
theorem dX6_way_29 : decode cX6_way 29 = .ok (.iload_n 3, 1) := by decide +kernel
theorem dX6_way_30 : decode cX6_way 30 = .ok (.invokevirtual 108, 3) := by decide +kernel
theorem dX6_way_33 : decode cX6_way 33 = .ok (.ireturn, 1) := by decide +kernel
theorem dX6_way_34 : decode cX6_way 34 = .ok (.aload_n 0, 1) := by decide +kernel
theorem dX6_way_35 : decode cX6_way 35 = .ok (.iload_n 1, 1) := by decide +kernel
theorem dX6_way_36 : decode cX6_way 36 = .ok (.invokevirtual 231, 3) := by decide +kernel
theorem dX6_way_39 : decode cX6_way 39 = .ok (.istore 4, 2) := by decide +kernel
theorem dX6_way_41 : decode cX6_way 41 = .ok (.iload_n 2, 1) := by decide +kernel
theorem dX6_way_42 : decode cX6_way 42 = .ok (.ifCond .ne 11, 3) := by decide +kernel
theorem dX6_way_45 : decode cX6_way 45 = .ok (.iload 4, 2) := by decide +kernel
theorem dX6_way_47 : decode cX6_way 47 = .ok (.invokestatic 228, 3) := by decide +kernel
theorem dX6_way_50 : decode cX6_way 50 = .ok (.goto 23, 3) := by decide +kernel
theorem dX6_way_53 : decode cX6_way 53 = .ok (.iload_n 2, 1) := by decide +kernel
theorem dX6_way_54 : decode cX6_way 54 = .ok (.iconst 1, 1) := by decide +kernel
theorem dX6_way_55 : decode cX6_way 55 = .ok (.if_icmp .ne 16, 3) := by decide +kernel
theorem dX6_way_58 : decode cX6_way 58 = .ok (.iload 4, 2) := by decide +kernel
theorem dX6_way_60 : decode cX6_way 60 = .ok (.aload_n 0, 1) := by decide +kernel
theorem dX6_way_61 : decode cX6_way 61 = .ok (.getfield 83, 3) := by decide +kernel
theorem dX6_way_64 : decode cX6_way 64 = .ok (.iand, 1) := by decide +kernel
theorem dX6_way_65 : decode cX6_way 65 = .ok (.invokestatic 228, 3) := by decide +kernel
theorem dX6_way_68 : decode cX6_way 68 = .ok (.goto 5, 3) := by decide +kernel
theorem dX6_way_71 : decode cX6_way 71 = .ok (.iload 4, 2) := by decide +kernel
theorem dX6_way_73 : decode cX6_way 73 = .ok (.ireturn, 1) := by decide +kernel
theorem dX6_isRow_0 : decode cX6_isRow 0 = .ok (.iconst 1, 1) := by decide +kernel
theorem dX6_isRow_1 : decode cX6_isRow 1 = .ok (.istore_n 1, 1) := by decide +kernel
theorem dX6_isRow_2 : decode cX6_isRow 2 = .ok (.iconst 0, 1) := by decide +kernel
theorem dX6_isRow_3 : decode cX6_isRow 3 = .ok (.istore_n 2, 1) := by decide +kernel
theorem dX6_isRow_4 : decode cX6_isRow 4 = .ok (.iload_n 2, 1) := by decide +kernel
theorem dX6_isRow_5 : decode cX6_isRow 5 = .ok (.aload_n 0, 1) := by decide +kernel
theorem dX6_isRow_6 : decode cX6_isRow 6 = .ok (.getfield 234, 3) := by decide +kernel
theorem dX6_isRow_9 : decode cX6_isRow 9 = .ok (.if_icmp .ge 37, 3) := by decide +kernel
theorem dX6_isRow_12 : decode cX6_isRow 12 = .ok (.iload_n 1, 1) := by decide +kernel
theorem dX6_isRow_13 : decode cX6_isRow 13 = .ok (.ifCond .eq 33, 3) := by decide +kernel
theorem dX6_isRow_16 : decode cX6_isRow 16 = .ok (.aload_n 0, 1) := by decide +kernel
theorem dX6_isRow_17 : decode cX6_isRow 17 = .ok (.getfield 52, 3) := by decide +kernel
theorem dX6_isRow_20 : decode cX6_isRow 20 = .ok (.iload_n 2, 1) := by decide +kernel
theorem dX6_isRow_21 : decode cX6_isRow 21 = .ok (.iaload, 1) := by decide +kernel
theorem dX6_isRow_22 : decode cX6_isRow 22 = .ok (.aload_n 0, 1) := by decide +kernel
theorem dX6_isRow_23 : decode cX6_isRow 23 = .ok (.getfield 101, 3) := by decide +kernel
theorem dX6_isRow_26 : decode cX6_isRow 26 = .ok (.if_icmp .ne 7, 3) := by decide +kernel
theorem dX6_isRow_29 : decode cX6_isRow 29 = .ok (.iconst 1, 1) := by decide +kernel
theorem dX6_isRow_30 : decode cX6_isRow 30 = .ok (.goto 4, 3) := by decide +kernel
theorem dX6_isRow_33 : decode cX6_isRow 33 = .ok (.iconst 0, 1) := by decide +kernel
theorem dX6_isRow_34 : decode cX6_isRow 34 = .ok (.istore_n 1, 1) := by decide +kernel
theorem dX6_isRow_35 : decode cX6_isRow 35 = .ok (.aload_n 0, 1) := by decide +kernel
theorem dX6_isRow_36 : decode cX6_isRow 36 = .ok (.iconst 0, 1) := by decide +kernel
theorem dX6_isRow_37 : decode cX6_isRow 37 = .ok (.invokevirtual 104, 3) := by decide +kernel
theorem dX6_isRow_40 : decode cX6_isRow 40 = .ok (.iinc 2 1, 3) := by decide +kernel
theorem dX6_isRow_43 : decode cX6_isRow 43 = .ok (.goto (-39), 3) := by decide +kernel
theorem dX6_isRow_46 : decode cX6_isRow 46 = .ok (.aload_n 0, 1) := by decide +kernel
theorem dX6_isRow_47 : decode cX6_isRow 47 = .ok (.invokevirtual 165, 3) := by decide +kernel
theorem dX6_isRow_50 : decode cX6_isRow 50 = .ok (.iload_n 1, 1) := by decide +kernel
theorem dX6_isRow_51 : decode cX6_isRow 51 = .ok (.ireturn, 1) := by decide +kernel
theorem dX6_whichBlocked_0 : decode cX6_whichBlocked 0 = .ok (.aload_n 0, 1) := by decide +kernel
theorem dX6_whichBlocked_1 : decode cX6_whichBlocked 1 = .ok (.iconst 0, 1) := by decide +kernel
theorem dX6_whichBlocked_2 : decode cX6_whichBlocked 2 = .ok (.putfield 58, 3) := by decide +kernel
theorem dX6_whichBlocked_5 : decode cX6_whichBlocked 5 = .ok (.iconst 0, 1) := by decide +kernel
theorem dX6_whichBlocked_6 : decode cX6_whichBlocked 6 = .ok (.istore_n 1, 1) := by decide +kernel
theorem dX6_whichBlocked_7 : decode cX6_whichBlocked 7 = .ok (.aload_n 0, 1) := by decide +kernel
theorem dX6_whichBlocked_8 : decode cX6_whichBlocked 8 = .ok (.invokevirtual 159, 3) := by decide +kernel
theorem dX6_whichBlocked_11 : decode cX6_whichBlocked 11 = .ok (.iconst 0, 1) := by decide +kernel
theorem dX6_whichBlocked_12 : decode cX6_whichBlocked 12 = .ok (.istore_n 2, 1) := by decide +kernel
theorem dX6_whichBlocked_13 : decode cX6_whichBlocked 13 = .ok (.iload_n 2, 1) := by decide +kernel
theorem dX6_whichBlocked_14 : decode cX6_whichBlocked 14 = .ok (.aload_n 0, 1) := by decide +kernel
theorem dX6_whichBlocked_15 : decode cX6_whichBlocked 15 = .ok (.getfield 62, 3) := by decide +kernel
theorem dX6_whichBlocked_18 : decode cX6_whichBlocked 18 = .ok (.if_icmp .ge 49, 3) := by decide +kernel
theorem dX6_whichBlocked_21 : decode cX6_whichBlocked 21 = .ok (.aload_n 0, 1) := by decide +kernel
theorem dX6_whichBlocked_22 : decode cX6_whichBlocked 22 = .ok (.getfield 83, 3) := by decide +kernel
theorem dX6_whichBlocked_25 : decode cX6_whichBlocked 25 = .ok (.iload_n 2, 1) := by decide +kernel
theorem dX6_whichBlocked_26 : decode cX6_whichBlocked 26 = .ok (.invokestatic 86, 3) := by decide +kernel
theorem dX6_whichBlocked_29 : decode cX6_whichBlocked 29 = .ok (.ifCond .ne 32, 3) := by decide +kernel
theorem dX6_whichBlocked_32 : decode cX6_whichBlocked 32 = .ok (.aload_n 0, 1) := by decide +kernel
theorem dX6_whichBlocked_33 : decode cX6_whichBlocked 33 = .ok (.dup, 1) := by decide +kernel
theorem dX6_whichBlocked_34 : decode cX6_whichBlocked 34 = .ok (.getfield 83, 3) := by decide +kernel
theorem dX6_whichBlocked_37 : decode cX6_whichBlocked 37 = .ok (.iconst 1, 1) := by decide +kernel
theorem dX6_whichBlocked_38 : decode cX6_whichBlocked 38 = .ok (.iload_n 2, 1) := by decide +kernel
theorem dX6_whichBlocked_39 : decode cX6_whichBlocked 39 = .ok (.ishl, 1) := by decide +kernel
theorem dX6_whichBlocked_40 : decode cX6_whichBlocked 40 = .ok (.ior, 1) := by decide +kernel
theorem dX6_whichBlocked_41 : decode cX6_whichBlocked 41 = .ok (.putfield 83, 3) := by decide +kernel
theorem dX6_whichBlocked_44 : decode cX6_whichBlocked 44 = .ok (.iload_n 1, 1) := by decide +kernel
theorem dX6_whichBlocked_45 : decode cX6_whichBlocked 45 = .ok (.aload_n 0, 1) := by decide +kernel
theorem dX6_whichBlocked_46 : decode cX6_whichBlocked 46 = .ok (.invokevirtual 237, 3) := by decide +kernel
theorem dX6_whichBlocked_49 : decode cX6_whichBlocked 49 = .ok (.ifCond .eq 9, 3) := by decide +kernel
theorem dX6_whichBlocked_52 : decode cX6_whichBlocked 52 = .ok (.iconst 1, 1) := by decide +kernel
theorem dX6_whichBlocked_53 : decode cX6_whichBlocked 53 = .ok (.iload_n 2, 1) := by decide +kernel
theorem dX6_whichBlocked_54 : decode cX6_whichBlocked 54 = .ok (.ishl, 1) := by decide +kernel
theorem dX6_whichBlocked_55 : decode cX6_whichBlocked 55 = .ok (.goto 4, 3) := by decide +kernel
theorem dX6_whichBlocked_58 : decode cX6_whichBlocked 58 = .ok (.iconst 0, 1) := by decide +kernel
theorem dX6_whichBlocked_59 : decode cX6_whichBlocked 59 = .ok (.ior, 1) := by decide +kernel
theorem dX6_whichBlocked_60 : decode cX6_whichBlocked 60 = .ok (.istore_n 1, 1) := by decide +kernel
theorem dX6_whichBlocked_61 : decode cX6_whichBlocked 61 = .ok (.iinc 2 1, 3) := by decide +kernel
theorem dX6_whichBlocked_64 : decode cX6_whichBlocked 64 = .ok (.goto (-51), 3) := by decide +kernel
theorem dX6_whichBlocked_67 : decode cX6_whichBlocked 67 = .ok (.iload_n 1, 1) := by decide +kernel
theorem dX6_whichBlocked_68 : decode cX6_whichBlocked 68 = .ok (.ireturn, 1) := by decide +kernel
theorem dX6_wasPoured_0 : decode cX6_wasPoured 0 = .ok (.aload_n 0, 1) := by decide +kernel
theorem dX6_wasPoured_1 : decode cX6_wasPoured 1 = .ok (.iconst 0, 1) := by decide +kernel
theorem dX6_wasPoured_2 : decode cX6_wasPoured 2 = .ok (.putfield 58, 3) := by decide +kernel
theorem dX6_wasPoured_5 : decode cX6_wasPoured 5 = .ok (.aload_n 0, 1) := by decide +kernel
theorem dX6_wasPoured_6 : decode cX6_wasPoured 6 = .ok (.iload_n 1, 1) := by decide +kernel
theorem dX6_wasPoured_7 : decode cX6_wasPoured 7 = .ok (.invokevirtual 147, 3) := by decide +kernel
theorem dX6_wasPoured_10 : decode cX6_wasPoured 10 = .ok (.ifCond .eq 7, 3) := by decide +kernel
theorem dX6_wasPoured_13 : decode cX6_wasPoured 13 = .ok (.iconst 0, 1) := by decide +kernel
theorem dX6_wasPoured_14 : decode cX6_wasPoured 14 = .ok (.goto 4, 3) := by decide +kernel
theorem dX6_wasPoured_17 : decode cX6_wasPoured 17 = .ok (.iconst (-1), 1) := by decide +kernel
theorem dX6_wasPoured_18 : decode cX6_wasPoured 18 = .ok (.iload_n 2, 1) := by decide +kernel
theorem dX6_wasPoured_19 : decode cX6_wasPoured 19 = .ok (.iconst 2, 1) := by decide +kernel
theorem dX6_wasPoured_20 : decode cX6_wasPoured 20 = .ok (.invokestatic 206, 3) := by decide +kernel
theorem dX6_wasPoured_23 : decode cX6_wasPoured 23 = .ok (.istore_n 3, 1) := by decide +kernel
theorem dX6_wasPoured_24 : decode cX6_wasPoured 24 = .ok (.iload_n 3, 1) := by decide +kernel
theorem dX6_wasPoured_25 : decode cX6_wasPoured 25 = .ok (.ifCond .ge 9, 3) := by decide +kernel
theorem dX6_wasPoured_28 : decode cX6_wasPoured 28 = .ok (.aload_n 0, 1) := by decide +kernel
theorem dX6_wasPoured_29 : decode cX6_wasPoured 29 = .ok (.iload_n 3, 1) := by decide +kernel
theorem dX6_wasPoured_30 : decode cX6_wasPoured 30 = .ok (.invokevirtual 108, 3) := by decide +kernel
theorem dX6_wasPoured_33 : decode cX6_wasPoured 33 = .ok (.ireturn, 1) := by decide +kernel
theorem dX6_wasPoured_34 : decode cX6_wasPoured 34 = .ok (.iconst 0, 1) := by decide +kernel
theorem dX6_wasPoured_35 : decode cX6_wasPoured 35 = .ok (.istore 4, 2) := by decide +kernel
theorem dX6_wasPoured_37 : decode cX6_wasPoured 37 = .ok (.bipush (-9), 2) := by decide +kernel
theorem dX6_wasPoured_39 : decode cX6_wasPoured 39 = .ok (.istore 5, 2) := by decide +kernel
theorem dX6_wasPoured_41 : decode cX6_wasPoured 41 = .ok (.bipush (-9), 2) := by decide +kernel
theorem dX6_wasPoured_43 : decode cX6_wasPoured 43 = .ok (.istore 6, 2) := by decide +kernel
theorem dX6_wasPoured_45 : decode cX6_wasPoured 45 = .ok (.aload_n 0, 1) := by decide +kernel
theorem dX6_wasPoured_46 : decode cX6_wasPoured 46 = .ok (.invokevirtual 159, 3) := by decide +kernel
theorem dX6_wasPoured_49 : decode cX6_wasPoured 49 = .ok (.iconst 0, 1) := by decide +kernel
theorem dX6_wasPoured_50 : decode cX6_wasPoured 50 = .ok (.istore 7, 2) := by decide +kernel
theorem dX6_wasPoured_52 : decode cX6_wasPoured 52 = .ok (.iload 7, 2) := by decide +kernel
theorem dX6_wasPoured_54 : decode cX6_wasPoured 54 = .ok (.bipush 100, 2) := by decide +kernel
theorem dX6_wasPoured_56 : decode cX6_wasPoured 56 = .ok (.if_icmp .ge 44, 3) := by decide +kernel
theorem dX6_wasPoured_59 : decode cX6_wasPoured 59 = .ok (.aload_n 0, 1) := by decide +kernel
theorem dX6_wasPoured_60 : decode cX6_wasPoured 60 = .ok (.iload_n 1, 1) := by decide +kernel
theorem dX6_wasPoured_61 : decode cX6_wasPoured 61 = .ok (.iload 7, 2) := by decide +kernel
theorem dX6_wasPoured_63 : decode cX6_wasPoured 63 = .ok (.invokevirtual 97, 3) := by decide +kernel
theorem dX6_wasPoured_66 : decode cX6_wasPoured 66 = .ok (.aload_n 0, 1) := by decide +kernel
theorem dX6_wasPoured_67 : decode cX6_wasPoured 67 = .ok (.invokevirtual 237, 3) := by decide +kernel
theorem dX6_wasPoured_70 : decode cX6_wasPoured 70 = .ok (.ifCond .eq 24, 3) := by decide +kernel
theorem dX6_wasPoured_73 : decode cX6_wasPoured 73 = .ok (.iinc 4 1, 3) := by decide +kernel
theorem dX6_wasPoured_76 : decode cX6_wasPoured 76 = .ok (.iload 5, 2) := by decide +kernel
theorem dX6_wasPoured_78 : decode cX6_wasPoured 78 = .ok (.ifCond .ge 8, 3) := by decide +kernel
theorem dX6_wasPoured_81 : decode cX6_wasPoured 81 = .ok (.iload 7, 2) := by decide +kernel
theorem dX6_wasPoured_83 : decode cX6_wasPoured 83 = .ok (.goto 5, 3) := by decide +kernel
theorem dX6_wasPoured_86 : decode cX6_wasPoured 86 = .ok (.iload 5, 2) := by decide +kernel
theorem dX6_wasPoured_88 : decode cX6_wasPoured 88 = .ok (.istore 5, 2) := by decide +kernel
theorem dX6_wasPoured_90 : decode cX6_wasPoured 90 = .ok (.iload 7, 2) := by decide +kernel
theorem dX6_wasPoured_92 : decode cX6_wasPoured 92 = .ok (.istore 6, 2) := by decide +kernel
theorem dX6_wasPoured_94 : decode cX6_wasPoured 94 = .ok (.iinc 7 1, 3) := by decide +kernel
theorem dX6_wasPoured_97 : decode cX6_wasPoured 97 = .ok (.goto (-45), 3) := by decide +kernel
theorem dX6_wasPoured_100 : decode cX6_wasPoured 100 = .ok (.iload_n 2, 1) := by decide +kernel
theorem dX6_wasPoured_101 : decode cX6_wasPoured 101 = .ok (.ifCond .ne 8, 3) := by decide +kernel
theorem dX6_wasPoured_104 : decode cX6_wasPoured 104 = .ok (.iload 4, 2) := by decide +kernel
theorem dX6_wasPoured_106 : decode cX6_wasPoured 106 = .ok (.goto 15, 3) := by decide +kernel
theorem dX6_wasPoured_109 : decode cX6_wasPoured 109 = .ok (.iload_n 2, 1) := by decide +kernel
theorem dX6_wasPoured_110 : decode cX6_wasPoured 110 = .ok (.iconst 1, 1) := by decide +kernel
theorem dX6_wasPoured_111 : decode cX6_wasPoured 111 = .ok (.if_icmp .ne 8, 3) := by decide +kernel
theorem dX6_wasPoured_114 : decode cX6_wasPoured 114 = .ok (.iload 5, 2) := by decide +kernel
theorem dX6_wasPoured_116 : decode cX6_wasPoured 116 = .ok (.goto 5, 3) := by decide +kernel
theorem dX6_wasPoured_119 : decode cX6_wasPoured 119 = .ok (.iload 6, 2) := by decide +kernel
theorem dX6_wasPoured_121 : decode cX6_wasPoured 121 = .ok (.ireturn, 1) := by decide +kernel
theorem dX6_whatKind_0 : decode cX6_whatKind 0 = .ok (.aload_n 0, 1) := by decide +kernel
theorem dX6_whatKind_1 : decode cX6_whatKind 1 = .ok (.iconst 0, 1) := by decide +kernel
theorem dX6_whatKind_2 : decode cX6_whatKind 2 = .ok (.putfield 58, 3) := by decide +kernel
theorem dX6_whatKind_5 : decode cX6_whatKind 5 = .ok (.aload_n 0, 1) := by decide +kernel
theorem dX6_whatKind_6 : decode cX6_whatKind 6 = .ok (.iload_n 1, 1) := by decide +kernel
theorem dX6_whatKind_7 : decode cX6_whatKind 7 = .ok (.invokevirtual 147, 3) := by decide +kernel
theorem dX6_whatKind_10 : decode cX6_whatKind 10 = .ok (.ifCond .eq 7, 3) := by decide +kernel
theorem dX6_whatKind_13 : decode cX6_whatKind 13 = .ok (.iconst 0, 1) := by decide +kernel
theorem dX6_whatKind_14 : decode cX6_whatKind 14 = .ok (.goto 4, 3) := by decide +kernel
theorem dX6_whatKind_17 : decode cX6_whatKind 17 = .ok (.iconst (-1), 1) := by decide +kernel
theorem dX6_whatKind_18 : decode cX6_whatKind 18 = .ok (.iload_n 2, 1) := by decide +kernel
theorem dX6_whatKind_19 : decode cX6_whatKind 19 = .ok (.iconst 1, 1) := by decide +kernel
theorem dX6_whatKind_20 : decode cX6_whatKind 20 = .ok (.invokestatic 206, 3) := by decide +kernel
theorem dX6_whatKind_23 : decode cX6_whatKind 23 = .ok (.istore_n 3, 1) := by decide +kernel
theorem dX6_whatKind_24 : decode cX6_whatKind 24 = .ok (.iload_n 3, 1) := by decide +kernel
theorem dX6_whatKind_25 : decode cX6_whatKind 25 = .ok (.ifCond .ge 9, 3) := by decide +kernel
theorem dX6_whatKind_28 : decode cX6_whatKind 28 = .ok (.aload_n 0, 1) := by decide +kernel
theorem dX6_whatKind_29 : decode cX6_whatKind 29 = .ok (.iload_n 3, 1) := by decide +kernel
theorem dX6_whatKind_30 : decode cX6_whatKind 30 = .ok (.invokevirtual 108, 3) := by decide +kernel
theorem dX6_whatKind_33 : decode cX6_whatKind 33 = .ok (.ireturn, 1) := by decide +kernel
theorem dX6_whatKind_34 : decode cX6_whatKind 34 = .ok (.iconst 0, 1) := by decide +kernel
theorem dX6_whatKind_35 : decode cX6_whatKind 35 = .ok (.istore 4, 2) := by decide +kernel
theorem dX6_whatKind_37 : decode cX6_whatKind 37 = .ok (.aload_n 0, 1) := by decide +kernel
theorem dX6_whatKind_38 : decode cX6_whatKind 38 = .ok (.invokevirtual 159, 3) := by decide +kernel
theorem dX6_whatKind_41 : decode cX6_whatKind 41 = .ok (.iconst 0, 1) := by decide +kernel
theorem dX6_whatKind_42 : decode cX6_whatKind 42 = .ok (.istore 5, 2) := by decide +kernel
theorem dX6_whatKind_44 : decode cX6_whatKind 44 = .ok (.iload 5, 2) := by decide +kernel
theorem dX6_whatKind_46 : decode cX6_whatKind 46 = .ok (.iload_n 2, 1) := by decide +kernel
theorem dX6_whatKind_47 : decode cX6_whatKind 47 = .ok (.ifCond .ne 8, 3) := by decide +kernel
theorem dX6_whatKind_50 : decode cX6_whatKind 50 = .ok (.bipush 6, 2) := by decide +kernel
theorem dX6_whatKind_52 : decode cX6_whatKind 52 = .ok (.goto 5, 3) := by decide +kernel
theorem dX6_whatKind_55 : decode cX6_whatKind 55 = .ok (.bipush 10, 2) := by decide +kernel
theorem dX6_whatKind_57 : decode cX6_whatKind 57 = .ok (.if_icmp .ge 72, 3) := by decide +kernel
theorem dX6_whatKind_60 : decode cX6_whatKind 60 = .ok (.aload_n 0, 1) := by decide +kernel
theorem dX6_whatKind_61 : decode cX6_whatKind 61 = .ok (.getfield 7, 3) := by decide +kernel
theorem dX6_whatKind_64 : decode cX6_whatKind 64 = .ok (.iload_n 1, 1) := by decide +kernel
theorem dX6_whatKind_65 : decode cX6_whatKind 65 = .ok (.iload_n 2, 1) := by decide +kernel
theorem dX6_whatKind_66 : decode cX6_whatKind 66 = .ok (.ifCond .ne 8, 3) := by decide +kernel
theorem dX6_whatKind_69 : decode cX6_whatKind 69 = .ok (.iload 5, 2) := by decide +kernel
theorem dX6_whatKind_71 : decode cX6_whatKind 71 = .ok (.goto 9, 3) := by decide +kernel
theorem dX6_whatKind_74 : decode cX6_whatKind 74 = .ok (.aload_n 0, 1) := by decide +kernel
theorem dX6_whatKind_75 : decode cX6_whatKind 75 = .ok (.getfield 7, 3) := by decide +kernel
theorem dX6_whatKind_78 : decode cX6_whatKind 78 = .ok (.iload_n 1, 1) := by decide +kernel
theorem dX6_whatKind_79 : decode cX6_whatKind 79 = .ok (.iaload, 1) := by decide +kernel
theorem dX6_whatKind_80 : decode cX6_whatKind 80 = .ok (.iastore, 1) := by decide +kernel
theorem dX6_whatKind_81 : decode cX6_whatKind 81 = .ok (.aload_n 0, 1) := by decide +kernel
theorem dX6_whatKind_82 : decode cX6_whatKind 82 = .ok (.getfield 13, 3) := by decide +kernel
theorem dX6_whatKind_85 : decode cX6_whatKind 85 = .ok (.iload_n 1, 1) := by decide +kernel
theorem dX6_whatKind_86 : decode cX6_whatKind 86 = .ok (.iload_n 2, 1) := by decide +kernel
theorem dX6_whatKind_87 : decode cX6_whatKind 87 = .ok (.iconst 1, 1) := by decide +kernel
theorem dX6_whatKind_88 : decode cX6_whatKind 88 = .ok (.if_icmp .ne 8, 3) := by decide +kernel
theorem dX6_whatKind_91 : decode cX6_whatKind 91 = .ok (.iload 5, 2) := by decide +kernel
theorem dX6_whatKind_93 : decode cX6_whatKind 93 = .ok (.goto 9, 3) := by decide +kernel
theorem dX6_whatKind_96 : decode cX6_whatKind 96 = .ok (.aload_n 0, 1) := by decide +kernel
theorem dX6_whatKind_97 : decode cX6_whatKind 97 = .ok (.getfield 13, 3) := by decide +kernel
theorem dX6_whatKind_100 : decode cX6_whatKind 100 = .ok (.iload_n 1, 1) := by decide +kernel
theorem dX6_whatKind_101 : decode cX6_whatKind 101 = .ok (.iaload, 1) := by decide +kernel
theorem dX6_whatKind_102 : decode cX6_whatKind 102 = .ok (.iastore, 1) := by decide +kernel
theorem dX6_whatKind_103 : decode cX6_whatKind 103 = .ok (.iload 4, 2) := by decide +kernel
theorem dX6_whatKind_105 : decode cX6_whatKind 105 = .ok (.aload_n 0, 1) := by decide +kernel
theorem dX6_whatKind_106 : decode cX6_whatKind 106 = .ok (.invokevirtual 237, 3) := by decide +kernel
theorem dX6_whatKind_109 : decode cX6_whatKind 109 = .ok (.ifCond .eq 10, 3) := by decide +kernel
theorem dX6_whatKind_112 : decode cX6_whatKind 112 = .ok (.iconst 1, 1) := by decide +kernel
theorem dX6_whatKind_113 : decode cX6_whatKind 113 = .ok (.iload 5, 2) := by decide +kernel
theorem dX6_whatKind_115 : decode cX6_whatKind 115 = .ok (.ishl, 1) := by decide +kernel
theorem dX6_whatKind_116 : decode cX6_whatKind 116 = .ok (.goto 4, 3) := by decide +kernel
theorem dX6_whatKind_119 : decode cX6_whatKind 119 = .ok (.iconst 0, 1) := by decide +kernel
theorem dX6_whatKind_120 : decode cX6_whatKind 120 = .ok (.ior, 1) := by decide +kernel
theorem dX6_whatKind_121 : decode cX6_whatKind 121 = .ok (.istore 4, 2) := by decide +kernel
theorem dX6_whatKind_123 : decode cX6_whatKind 123 = .ok (.iinc 5 1, 3) := by decide +kernel
theorem dX6_whatKind_126 : decode cX6_whatKind 126 = .ok (.goto (-82), 3) := by decide +kernel
theorem dX6_whatKind_129 : decode cX6_whatKind 129 = .ok (.iload 4, 2) := by decide +kernel
theorem dX6_whatKind_131 : decode cX6_whatKind 131 = .ok (.ireturn, 1) := by decide +kernel
theorem dX6_two_0 : decode cX6_two 0 = .ok (.aload_n 0, 1) := by decide +kernel
theorem dX6_two_1 : decode cX6_two 1 = .ok (.iconst 0, 1) := by decide +kernel
theorem dX6_two_2 : decode cX6_two 2 = .ok (.putfield 58, 3) := by decide +kernel
theorem dX6_two_5 : decode cX6_two 5 = .ok (.aload_n 0, 1) := by decide +kernel
theorem dX6_two_6 : decode cX6_two 6 = .ok (.iload_n 1, 1) := by decide +kernel
theorem dX6_two_7 : decode cX6_two 7 = .ok (.invokevirtual 147, 3) := by decide +kernel
theorem dX6_two_10 : decode cX6_two 10 = .ok (.ifCond .eq 26, 3) := by decide +kernel
theorem dX6_two_13 : decode cX6_two 13 = .ok (.aload_n 0, 1) := by decide +kernel
theorem dX6_two_14 : decode cX6_two 14 = .ok (.iload_n 2, 1) := by decide +kernel
theorem dX6_two_15 : decode cX6_two 15 = .ok (.invokevirtual 147, 3) := by decide +kernel
theorem dX6_two_18 : decode cX6_two 18 = .ok (.ifCond .eq 18, 3) := by decide +kernel
theorem dX6_two_21 : decode cX6_two 21 = .ok (.iload_n 1, 1) := by decide +kernel
theorem dX6_two_22 : decode cX6_two 22 = .ok (.iload_n 2, 1) := by decide +kernel
theorem dX6_two_23 : decode cX6_two 23 = .ok (.if_icmp .eq 13, 3) := by decide +kernel
theorem dX6_two_26 : decode cX6_two 26 = .ok (.iload_n 3, 1) := by decide +kernel
theorem dX6_two_27 : decode cX6_two 27 = .ok (.iconst 0, 1) := by decide +kernel
theorem dX6_two_28 : decode cX6_two 28 = .ok (.bipush 30, 2) := by decide +kernel
theorem dX6_two_30 : decode cX6_two 30 = .ok (.invokestatic 197, 3) := by decide +kernel
theorem dX6_two_33 : decode cX6_two 33 = .ok (.goto 4, 3) := by decide +kernel
theorem dX6_two_36 : decode cX6_two 36 = .ok (.iconst (-1), 1) := by decide +kernel
theorem dX6_two_37 : decode cX6_two 37 = .ok (.istore 4, 2) := by decide +kernel
theorem dX6_two_39 : decode cX6_two 39 = .ok (.iload 4, 2) := by decide +kernel
theorem dX6_two_41 : decode cX6_two 41 = .ok (.ifCond .ge 10, 3) := by decide +kernel
theorem dX6_two_44 : decode cX6_two 44 = .ok (.aload_n 0, 1) := by decide +kernel
theorem dX6_two_45 : decode cX6_two 45 = .ok (.iload 4, 2) := by decide +kernel
theorem dX6_two_47 : decode cX6_two 47 = .ok (.invokevirtual 108, 3) := by decide +kernel
theorem dX6_two_50 : decode cX6_two 50 = .ok (.ireturn, 1) := by decide +kernel
theorem dX6_two_51 : decode cX6_two 51 = .ok (.aload_n 0, 1) := by decide +kernel
theorem dX6_two_52 : decode cX6_two 52 = .ok (.invokevirtual 159, 3) := by decide +kernel
theorem dX6_two_55 : decode cX6_two 55 = .ok (.iconst 0, 1) := by decide +kernel
theorem dX6_two_56 : decode cX6_two 56 = .ok (.istore 5, 2) := by decide +kernel
theorem dX6_two_58 : decode cX6_two 58 = .ok (.iload 5, 2) := by decide +kernel
theorem dX6_two_60 : decode cX6_two 60 = .ok (.iconst 4, 1) := by decide +kernel
theorem dX6_two_61 : decode cX6_two 61 = .ok (.if_icmp .ge 86, 3) := by decide +kernel
theorem dX6_two_64 : decode cX6_two 64 = .ok (.aload_n 0, 1) := by decide +kernel
theorem dX6_two_65 : decode cX6_two 65 = .ok (.dup, 1) := by decide +kernel
theorem dX6_two_66 : decode cX6_two 66 = .ok (.getfield 83, 3) := by decide +kernel
theorem dX6_two_69 : decode cX6_two 69 = .ok (.iload 5, 2) := by decide +kernel
theorem dX6_two_71 : decode cX6_two 71 = .ok (.iconst 2, 1) := by decide +kernel
theorem dX6_two_72 : decode cX6_two 72 = .ok (.idiv, 1) := by decide +kernel
theorem dX6_two_73 : decode cX6_two 73 = .ok (.iload_n 1, 1) := by decide +kernel
theorem dX6_two_74 : decode cX6_two 74 = .ok (.ishl, 1) := by decide +kernel
theorem dX6_two_75 : decode cX6_two 75 = .ok (.iload 5, 2) := by decide +kernel
theorem dX6_two_77 : decode cX6_two 77 = .ok (.iconst 2, 1) := by decide +kernel
theorem dX6_two_78 : decode cX6_two 78 = .ok (.irem, 1) := by decide +kernel
theorem dX6_two_79 : decode cX6_two 79 = .ok (.iload_n 2, 1) := by decide +kernel
theorem dX6_two_80 : decode cX6_two 80 = .ok (.ishl, 1) := by decide +kernel
theorem dX6_two_81 : decode cX6_two 81 = .ok (.ior, 1) := by decide +kernel
theorem dX6_two_82 : decode cX6_two 82 = .ok (.ior, 1) := by decide +kernel
theorem dX6_two_83 : decode cX6_two 83 = .ok (.putfield 83, 3) := by decide +kernel
theorem dX6_two_86 : decode cX6_two 86 = .ok (.aload_n 0, 1) := by decide +kernel
theorem dX6_two_87 : decode cX6_two 87 = .ok (.iload_n 3, 1) := by decide +kernel
theorem dX6_two_88 : decode cX6_two 88 = .ok (.invokevirtual 143, 3) := by decide +kernel
theorem dX6_two_91 : decode cX6_two 91 = .ok (.aload_n 0, 1) := by decide +kernel
theorem dX6_two_92 : decode cX6_two 92 = .ok (.getfield 55, 3) := by decide +kernel
theorem dX6_two_95 : decode cX6_two 95 = .ok (.iconst 2, 1) := by decide +kernel
theorem dX6_two_96 : decode cX6_two 96 = .ok (.iload 5, 2) := by decide +kernel
theorem dX6_two_98 : decode cX6_two 98 = .ok (.imul, 1) := by decide +kernel
theorem dX6_two_99 : decode cX6_two 99 = .ok (.aload_n 0, 1) := by decide +kernel
theorem dX6_two_100 : decode cX6_two 100 = .ok (.getfield 16, 3) := by decide +kernel
theorem dX6_two_103 : decode cX6_two 103 = .ok (.iload_n 1, 1) := by decide +kernel
theorem dX6_two_104 : decode cX6_two 104 = .ok (.iaload, 1) := by decide +kernel
theorem dX6_two_105 : decode cX6_two 105 = .ok (.iconst 3, 1) := by decide +kernel
theorem dX6_two_106 : decode cX6_two 106 = .ok (.iload 5, 2) := by decide +kernel
theorem dX6_two_108 : decode cX6_two 108 = .ok (.iconst 2, 1) := by decide +kernel
theorem dX6_two_109 : decode cX6_two 109 = .ok (.idiv, 1) := by decide +kernel
theorem dX6_two_110 : decode cX6_two 110 = .ok (.imul, 1) := by decide +kernel
theorem dX6_two_111 : decode cX6_two 111 = .ok (.isub, 1) := by decide +kernel
theorem dX6_two_112 : decode cX6_two 112 = .ok (.iastore, 1) := by decide +kernel
theorem dX6_two_113 : decode cX6_two 113 = .ok (.aload_n 0, 1) := by decide +kernel
theorem dX6_two_114 : decode cX6_two 114 = .ok (.getfield 55, 3) := by decide +kernel
theorem dX6_two_117 : decode cX6_two 117 = .ok (.iconst 2, 1) := by decide +kernel
theorem dX6_two_118 : decode cX6_two 118 = .ok (.iload 5, 2) := by decide +kernel
theorem dX6_two_120 : decode cX6_two 120 = .ok (.imul, 1) := by decide +kernel
theorem dX6_two_121 : decode cX6_two 121 = .ok (.iconst 1, 1) := by decide +kernel
theorem dX6_two_122 : decode cX6_two 122 = .ok (.iadd, 1) := by decide +kernel
theorem dX6_two_123 : decode cX6_two 123 = .ok (.aload_n 0, 1) := by decide +kernel
theorem dX6_two_124 : decode cX6_two 124 = .ok (.getfield 16, 3) := by decide +kernel
theorem dX6_two_127 : decode cX6_two 127 = .ok (.iload_n 2, 1) := by decide +kernel
theorem dX6_two_128 : decode cX6_two 128 = .ok (.iaload, 1) := by decide +kernel
theorem dX6_two_129 : decode cX6_two 129 = .ok (.iconst 3, 1) := by decide +kernel
theorem dX6_two_130 : decode cX6_two 130 = .ok (.iload 5, 2) := by decide +kernel
theorem dX6_two_132 : decode cX6_two 132 = .ok (.iconst 2, 1) := by decide +kernel
theorem dX6_two_133 : decode cX6_two 133 = .ok (.irem, 1) := by decide +kernel
theorem dX6_two_134 : decode cX6_two 134 = .ok (.imul, 1) := by decide +kernel
theorem dX6_two_135 : decode cX6_two 135 = .ok (.isub, 1) := by decide +kernel
theorem dX6_two_136 : decode cX6_two 136 = .ok (.iastore, 1) := by decide +kernel
theorem dX6_two_137 : decode cX6_two 137 = .ok (.aload_n 0, 1) := by decide +kernel
theorem dX6_two_138 : decode cX6_two 138 = .ok (.invokevirtual 165, 3) := by decide +kernel
theorem dX6_two_141 : decode cX6_two 141 = .ok (.iinc 5 1, 3) := by decide +kernel
theorem dX6_two_144 : decode cX6_two 144 = .ok (.goto (-86), 3) := by decide +kernel
theorem dX6_two_147 : decode cX6_two 147 = .ok (.iconst 0, 1) := by decide +kernel
theorem dX6_two_148 : decode cX6_two 148 = .ok (.istore 5, 2) := by decide +kernel
theorem dX6_two_150 : decode cX6_two 150 = .ok (.iload 5, 2) := by decide +kernel
theorem dX6_two_152 : decode cX6_two 152 = .ok (.iconst 4, 1) := by decide +kernel
theorem dX6_two_153 : decode cX6_two 153 = .ok (.if_icmp .ge 98, 3) := by decide +kernel
theorem dX6_two_156 : decode cX6_two 156 = .ok (.iconst 2, 1) := by decide +kernel
theorem dX6_two_157 : decode cX6_two 157 = .ok (.iconst 1, 1) := by decide +kernel
theorem dX6_two_158 : decode cX6_two 158 = .ok (.iload 5, 2) := by decide +kernel
theorem dX6_two_160 : decode cX6_two 160 = .ok (.iconst 2, 1) := by decide +kernel
theorem dX6_two_161 : decode cX6_two 161 = .ok (.idiv, 1) := by decide +kernel
theorem dX6_two_162 : decode cX6_two 162 = .ok (.isub, 1) := by decide +kernel
theorem dX6_two_163 : decode cX6_two 163 = .ok (.imul, 1) := by decide +kernel
theorem dX6_two_164 : decode cX6_two 164 = .ok (.iload 5, 2) := by decide +kernel
theorem dX6_two_166 : decode cX6_two 166 = .ok (.iconst 2, 1) := by decide +kernel
theorem dX6_two_167 : decode cX6_two 167 = .ok (.irem, 1) := by decide +kernel
theorem dX6_two_168 : decode cX6_two 168 = .ok (.iadd, 1) := by decide +kernel
theorem dX6_two_169 : decode cX6_two 169 = .ok (.istore 6, 2) := by decide +kernel
theorem dX6_two_171 : decode cX6_two 171 = .ok (.iconst 2, 1) := by decide +kernel
theorem dX6_two_172 : decode cX6_two 172 = .ok (.iload 5, 2) := by decide +kernel
theorem dX6_two_174 : decode cX6_two 174 = .ok (.iconst 2, 1) := by decide +kernel
theorem dX6_two_175 : decode cX6_two 175 = .ok (.idiv, 1) := by decide +kernel
theorem dX6_two_176 : decode cX6_two 176 = .ok (.imul, 1) := by decide +kernel
theorem dX6_two_177 : decode cX6_two 177 = .ok (.iconst 1, 1) := by decide +kernel
theorem dX6_two_178 : decode cX6_two 178 = .ok (.iadd, 1) := by decide +kernel
theorem dX6_two_179 : decode cX6_two 179 = .ok (.iload 5, 2) := by decide +kernel
theorem dX6_two_181 : decode cX6_two 181 = .ok (.iconst 2, 1) := by decide +kernel
theorem dX6_two_182 : decode cX6_two 182 = .ok (.irem, 1) := by decide +kernel
theorem dX6_two_183 : decode cX6_two 183 = .ok (.isub, 1) := by decide +kernel
theorem dX6_two_184 : decode cX6_two 184 = .ok (.istore 7, 2) := by decide +kernel
theorem dX6_two_186 : decode cX6_two 186 = .ok (.aload_n 0, 1) := by decide +kernel
theorem dX6_two_187 : decode cX6_two 187 = .ok (.getfield 55, 3) := by decide +kernel
theorem dX6_two_190 : decode cX6_two 190 = .ok (.iconst 2, 1) := by decide +kernel
theorem dX6_two_191 : decode cX6_two 191 = .ok (.iload 5, 2) := by decide +kernel
theorem dX6_two_193 : decode cX6_two 193 = .ok (.imul, 1) := by decide +kernel
theorem dX6_two_194 : decode cX6_two 194 = .ok (.iaload, 1) := by decide +kernel
theorem dX6_two_195 : decode cX6_two 195 = .ok (.aload_n 0, 1) := by decide +kernel
theorem dX6_two_196 : decode cX6_two 196 = .ok (.getfield 55, 3) := by decide +kernel
theorem dX6_two_199 : decode cX6_two 199 = .ok (.iconst 2, 1) := by decide +kernel
theorem dX6_two_200 : decode cX6_two 200 = .ok (.iload 6, 2) := by decide +kernel
theorem dX6_two_202 : decode cX6_two 202 = .ok (.imul, 1) := by decide +kernel
theorem dX6_two_203 : decode cX6_two 203 = .ok (.iaload, 1) := by decide +kernel
theorem dX6_two_204 : decode cX6_two 204 = .ok (.if_icmp .lt 41, 3) := by decide +kernel
theorem dX6_two_207 : decode cX6_two 207 = .ok (.aload_n 0, 1) := by decide +kernel
theorem dX6_two_208 : decode cX6_two 208 = .ok (.getfield 55, 3) := by decide +kernel
theorem dX6_two_211 : decode cX6_two 211 = .ok (.iconst 2, 1) := by decide +kernel
theorem dX6_two_212 : decode cX6_two 212 = .ok (.iload 5, 2) := by decide +kernel
theorem dX6_two_214 : decode cX6_two 214 = .ok (.imul, 1) := by decide +kernel
theorem dX6_two_215 : decode cX6_two 215 = .ok (.iconst 1, 1) := by decide +kernel
theorem dX6_two_216 : decode cX6_two 216 = .ok (.iadd, 1) := by decide +kernel
theorem dX6_two_217 : decode cX6_two 217 = .ok (.iaload, 1) := by decide +kernel
theorem dX6_two_218 : decode cX6_two 218 = .ok (.aload_n 0, 1) := by decide +kernel
theorem dX6_two_219 : decode cX6_two 219 = .ok (.getfield 55, 3) := by decide +kernel
theorem dX6_two_222 : decode cX6_two 222 = .ok (.iconst 2, 1) := by decide +kernel
theorem dX6_two_223 : decode cX6_two 223 = .ok (.iload 7, 2) := by decide +kernel
theorem dX6_two_225 : decode cX6_two 225 = .ok (.imul, 1) := by decide +kernel
theorem dX6_two_226 : decode cX6_two 226 = .ok (.iconst 1, 1) := by decide +kernel
theorem dX6_two_227 : decode cX6_two 227 = .ok (.iadd, 1) := by decide +kernel
theorem dX6_two_228 : decode cX6_two 228 = .ok (.iaload, 1) := by decide +kernel
theorem dX6_two_229 : decode cX6_two 229 = .ok (.if_icmp .lt 16, 3) := by decide +kernel
theorem dX6_two_232 : decode cX6_two 232 = .ok (.bipush 10, 2) := by decide +kernel
theorem dX6_two_234 : decode cX6_two 234 = .ok (.iload 5, 2) := by decide +kernel
theorem dX6_two_236 : decode cX6_two 236 = .ok (.iconst 2, 1) := by decide +kernel
theorem dX6_two_237 : decode cX6_two 237 = .ok (.idiv, 1) := by decide +kernel
theorem dX6_two_238 : decode cX6_two 238 = .ok (.imul, 1) := by decide +kernel
theorem dX6_two_239 : decode cX6_two 239 = .ok (.iload 5, 2) := by decide +kernel
theorem dX6_two_241 : decode cX6_two 241 = .ok (.iconst 2, 1) := by decide +kernel
theorem dX6_two_242 : decode cX6_two 242 = .ok (.irem, 1) := by decide +kernel
theorem dX6_two_243 : decode cX6_two 243 = .ok (.iadd, 1) := by decide +kernel
theorem dX6_two_244 : decode cX6_two 244 = .ok (.ireturn, 1) := by decide +kernel
theorem dX6_two_245 : decode cX6_two 245 = .ok (.iinc 5 1, 3) := by decide +kernel
theorem dX6_two_248 : decode cX6_two 248 = .ok (.goto (-98), 3) := by decide +kernel
theorem dX6_two_251 : decode cX6_two 251 = .ok (.bipush (-9), 2) := by decide +kernel
theorem dX6_two_253 : decode cX6_two 253 = .ok (.ireturn, 1) := by decide +kernel
theorem dX6_divisor_0 : decode cX6_divisor 0 = .ok (.lload_n 0, 1) := by decide +kernel
theorem dX6_divisor_1 : decode cX6_divisor 1 = .ok (.lstore 4, 2) := by decide +kernel
theorem dX6_divisor_3 : decode cX6_divisor 3 = .ok (.lload_n 2, 1) := by decide +kernel
theorem dX6_divisor_4 : decode cX6_divisor 4 = .ok (.lstore 6, 2) := by decide +kernel
theorem dX6_divisor_6 : decode cX6_divisor 6 = .ok (.lload 6, 2) := by decide +kernel
theorem dX6_divisor_8 : decode cX6_divisor 8 = .ok (.lconst 0, 1) := by decide +kernel
theorem dX6_divisor_9 : decode cX6_divisor 9 = .ok (.lcmp, 1) := by decide +kernel
theorem dX6_divisor_10 : decode cX6_divisor 10 = .ok (.ifCond .eq 21, 3) := by decide +kernel
theorem dX6_divisor_13 : decode cX6_divisor 13 = .ok (.lload 4, 2) := by decide +kernel
theorem dX6_divisor_15 : decode cX6_divisor 15 = .ok (.lload 6, 2) := by decide +kernel
theorem dX6_divisor_17 : decode cX6_divisor 17 = .ok (.lrem, 1) := by decide +kernel
theorem dX6_divisor_18 : decode cX6_divisor 18 = .ok (.lstore 8, 2) := by decide +kernel
theorem dX6_divisor_20 : decode cX6_divisor 20 = .ok (.lload 6, 2) := by decide +kernel
theorem dX6_divisor_22 : decode cX6_divisor 22 = .ok (.lstore 4, 2) := by decide +kernel
theorem dX6_divisor_24 : decode cX6_divisor 24 = .ok (.lload 8, 2) := by decide +kernel
theorem dX6_divisor_26 : decode cX6_divisor 26 = .ok (.lstore 6, 2) := by decide +kernel
theorem dX6_divisor_28 : decode cX6_divisor 28 = .ok (.goto (-22), 3) := by decide +kernel
theorem dX6_divisor_31 : decode cX6_divisor 31 = .ok (.lload 4, 2) := by decide +kernel
theorem dX6_divisor_33 : decode cX6_divisor 33 = .ok (.lreturn, 1) := by decide +kernel
theorem dX6_partOf_0 : decode cX6_partOf 0 = .ok (.lload_n 0, 1) := by decide +kernel
theorem dX6_partOf_1 : decode cX6_partOf 1 = .ok (.lconst 0, 1) := by decide +kernel
theorem dX6_partOf_2 : decode cX6_partOf 2 = .ok (.lcmp, 1) := by decide +kernel
theorem dX6_partOf_3 : decode cX6_partOf 3 = .ok (.ifCond .ne 7, 3) := by decide +kernel
theorem dX6_partOf_6 : decode cX6_partOf 6 = .ok (.iload 4, 2) := by decide +kernel
theorem dX6_partOf_8 : decode cX6_partOf 8 = .ok (.i2l, 1) := by decide +kernel
theorem dX6_partOf_9 : decode cX6_partOf 9 = .ok (.lreturn, 1) := by decide +kernel
theorem dX6_partOf_10 : decode cX6_partOf 10 = .ok (.lload_n 0, 1) := by decide +kernel
theorem dX6_partOf_11 : decode cX6_partOf 11 = .ok (.lload_n 2, 1) := by decide +kernel
theorem dX6_partOf_12 : decode cX6_partOf 12 = .ok (.invokestatic 240, 3) := by decide +kernel
theorem dX6_partOf_15 : decode cX6_partOf 15 = .ok (.lstore 5, 2) := by decide +kernel
theorem dX6_partOf_17 : decode cX6_partOf 17 = .ok (.iload 4, 2) := by decide +kernel
theorem dX6_partOf_19 : decode cX6_partOf 19 = .ok (.ifCond .ne 10, 3) := by decide +kernel
theorem dX6_partOf_22 : decode cX6_partOf 22 = .ok (.lload_n 0, 1) := by decide +kernel
theorem dX6_partOf_23 : decode cX6_partOf 23 = .ok (.lload 5, 2) := by decide +kernel
theorem dX6_partOf_25 : decode cX6_partOf 25 = .ok (.ldiv, 1) := by decide +kernel
theorem dX6_partOf_26 : decode cX6_partOf 26 = .ok (.goto 7, 3) := by decide +kernel
theorem dX6_partOf_29 : decode cX6_partOf 29 = .ok (.lload_n 2, 1) := by decide +kernel
theorem dX6_partOf_30 : decode cX6_partOf 30 = .ok (.lload 5, 2) := by decide +kernel
theorem dX6_partOf_32 : decode cX6_partOf 32 = .ok (.ldiv, 1) := by decide +kernel
theorem dX6_partOf_33 : decode cX6_partOf 33 = .ok (.lreturn, 1) := by decide +kernel
theorem dX6_blocked_0 : decode cX6_blocked 0 = .ok (.aload_n 0, 1) := by decide +kernel
theorem dX6_blocked_1 : decode cX6_blocked 1 = .ok (.iconst 0, 1) := by decide +kernel
theorem dX6_blocked_2 : decode cX6_blocked 2 = .ok (.putfield 58, 3) := by decide +kernel
theorem dX6_blocked_5 : decode cX6_blocked 5 = .ok (.iload_n 1, 1) := by decide +kernel
theorem dX6_blocked_6 : decode cX6_blocked 6 = .ok (.ifCond .lt 12, 3) := by decide +kernel
theorem dX6_blocked_9 : decode cX6_blocked 9 = .ok (.iload_n 3, 1) := by decide +kernel
theorem dX6_blocked_10 : decode cX6_blocked 10 = .ok (.ifCond .lt 8, 3) := by decide +kernel
theorem dX6_blocked_13 : decode cX6_blocked 13 = .ok (.iload_n 2, 1) := by decide +kernel
theorem dX6_blocked_14 : decode cX6_blocked 14 = .ok (.iconst 2, 1) := by decide +kernel
theorem dX6_blocked_15 : decode cX6_blocked 15 = .ok (.if_icmp .ge 8, 3) := by decide +kernel
theorem dX6_blocked_18 : decode cX6_blocked 18 = .ok (.bipush (-4), 2) := by decide +kernel
theorem dX6_blocked_20 : decode cX6_blocked 20 = .ok (.goto 28, 3) := by decide +kernel
theorem dX6_blocked_23 : decode cX6_blocked 23 = .ok (.iload_n 1, 1) := by decide +kernel
theorem dX6_blocked_24 : decode cX6_blocked 24 = .ok (.bipush 7, 2) := by decide +kernel
theorem dX6_blocked_26 : decode cX6_blocked 26 = .ok (.if_icmp .gt 16, 3) := by decide +kernel
theorem dX6_blocked_29 : decode cX6_blocked 29 = .ok (.iload_n 2, 1) := by decide +kernel
theorem dX6_blocked_30 : decode cX6_blocked 30 = .ok (.bipush 20, 2) := by decide +kernel
theorem dX6_blocked_32 : decode cX6_blocked 32 = .ok (.if_icmp .gt 10, 3) := by decide +kernel
theorem dX6_blocked_35 : decode cX6_blocked 35 = .ok (.iload_n 3, 1) := by decide +kernel
theorem dX6_blocked_36 : decode cX6_blocked 36 = .ok (.sipush 999, 3) := by decide +kernel
theorem dX6_blocked_39 : decode cX6_blocked 39 = .ok (.if_icmp .le 8, 3) := by decide +kernel
theorem dX6_blocked_42 : decode cX6_blocked 42 = .ok (.bipush (-6), 2) := by decide +kernel
theorem dX6_blocked_44 : decode cX6_blocked 44 = .ok (.goto 4, 3) := by decide +kernel
theorem dX6_blocked_47 : decode cX6_blocked 47 = .ok (.iconst 0, 1) := by decide +kernel
theorem dX6_blocked_48 : decode cX6_blocked 48 = .ok (.istore 5, 2) := by decide +kernel
theorem dX6_blocked_50 : decode cX6_blocked 50 = .ok (.iload 5, 2) := by decide +kernel
theorem dX6_blocked_52 : decode cX6_blocked 52 = .ok (.iload 4, 2) := by decide +kernel
theorem dX6_blocked_54 : decode cX6_blocked 54 = .ok (.iconst 1, 1) := by decide +kernel
theorem dX6_blocked_55 : decode cX6_blocked 55 = .ok (.invokestatic 206, 3) := by decide +kernel
theorem dX6_blocked_58 : decode cX6_blocked 58 = .ok (.istore 5, 2) := by decide +kernel
theorem dX6_blocked_60 : decode cX6_blocked 60 = .ok (.iload 5, 2) := by decide +kernel
theorem dX6_blocked_62 : decode cX6_blocked 62 = .ok (.ifCond .ge 15, 3) := by decide +kernel
theorem dX6_blocked_65 : decode cX6_blocked 65 = .ok (.ldc2_w 244, 3) := by decide +kernel
theorem dX6_blocked_68 : decode cX6_blocked 68 = .ok (.aload_n 0, 1) := by decide +kernel
theorem dX6_blocked_69 : decode cX6_blocked 69 = .ok (.iload 5, 2) := by decide +kernel
theorem dX6_blocked_71 : decode cX6_blocked 71 = .ok (.invokevirtual 108, 3) := by decide +kernel
theorem dX6_blocked_74 : decode cX6_blocked 74 = .ok (.i2l, 1) := by decide +kernel
theorem dX6_blocked_75 : decode cX6_blocked 75 = .ok (.lsub, 1) := by decide +kernel
theorem dX6_blocked_76 : decode cX6_blocked 76 = .ok (.lreturn, 1) := by decide +kernel
theorem dX6_blocked_77 : decode cX6_blocked 77 = .ok (.lconst 0, 1) := by decide +kernel
theorem dX6_blocked_78 : decode cX6_blocked 78 = .ok (.lstore 6, 2) := by decide +kernel
theorem dX6_blocked_80 : decode cX6_blocked 80 = .ok (.lconst 1, 1) := by decide +kernel
theorem dX6_blocked_81 : decode cX6_blocked 81 = .ok (.lstore 8, 2) := by decide +kernel
theorem dX6_blocked_83 : decode cX6_blocked 83 = .ok (.iconst 0, 1) := by decide +kernel
theorem dX6_blocked_84 : decode cX6_blocked 84 = .ok (.istore 10, 2) := by decide +kernel
theorem dX6_blocked_86 : decode cX6_blocked 86 = .ok (.iload 10, 2) := by decide +kernel
theorem dX6_blocked_88 : decode cX6_blocked 88 = .ok (.iload_n 1, 1) := by decide +kernel
theorem dX6_blocked_89 : decode cX6_blocked 89 = .ok (.if_icmp .ge 16, 3) := by decide +kernel
theorem dX6_blocked_92 : decode cX6_blocked 92 = .ok (.lload 8, 2) := by decide +kernel
theorem dX6_blocked_94 : decode cX6_blocked 94 = .ok (.iload_n 2, 1) := by decide +kernel
theorem dX6_blocked_95 : decode cX6_blocked 95 = .ok (.i2l, 1) := by decide +kernel
theorem dX6_blocked_96 : decode cX6_blocked 96 = .ok (.lmul, 1) := by decide +kernel
theorem dX6_blocked_97 : decode cX6_blocked 97 = .ok (.lstore 8, 2) := by decide +kernel
theorem dX6_blocked_99 : decode cX6_blocked 99 = .ok (.iinc 10 1, 3) := by decide +kernel
theorem dX6_blocked_102 : decode cX6_blocked 102 = .ok (.goto (-16), 3) := by decide +kernel
theorem dX6_blocked_105 : decode cX6_blocked 105 = .ok (.aload_n 0, 1) := by decide +kernel
theorem dX6_blocked_106 : decode cX6_blocked 106 = .ok (.invokevirtual 159, 3) := by decide +kernel
theorem dX6_blocked_109 : decode cX6_blocked 109 = .ok (.iconst 0, 1) := by decide +kernel
theorem dX6_blocked_110 : decode cX6_blocked 110 = .ok (.istore 10, 2) := by decide +kernel
theorem dX6_blocked_112 : decode cX6_blocked 112 = .ok (.iload 10, 2) := by decide +kernel
theorem dX6_blocked_114 : decode cX6_blocked 114 = .ok (.iconst 1, 1) := by decide +kernel
theorem dX6_blocked_115 : decode cX6_blocked 115 = .ok (.iload_n 1, 1) := by decide +kernel
theorem dX6_blocked_116 : decode cX6_blocked 116 = .ok (.ishl, 1) := by decide +kernel
theorem dX6_blocked_117 : decode cX6_blocked 117 = .ok (.if_icmp .ge 84, 3) := by decide +kernel
theorem dX6_blocked_120 : decode cX6_blocked 120 = .ok (.lconst 1, 1) := by decide +kernel
theorem dX6_blocked_121 : decode cX6_blocked 121 = .ok (.lstore 11, 2) := by decide +kernel
theorem dX6_blocked_123 : decode cX6_blocked 123 = .ok (.iconst 0, 1) := by decide +kernel
theorem dX6_blocked_124 : decode cX6_blocked 124 = .ok (.istore 13, 2) := by decide +kernel
theorem dX6_blocked_126 : decode cX6_blocked 126 = .ok (.iload 13, 2) := by decide +kernel
theorem dX6_blocked_128 : decode cX6_blocked 128 = .ok (.iload_n 1, 1) := by decide +kernel
theorem dX6_blocked_129 : decode cX6_blocked 129 = .ok (.if_icmp .ge 43, 3) := by decide +kernel
theorem dX6_blocked_132 : decode cX6_blocked 132 = .ok (.lload 11, 2) := by decide +kernel
theorem dX6_blocked_134 : decode cX6_blocked 134 = .ok (.iload 10, 2) := by decide +kernel
theorem dX6_blocked_136 : decode cX6_blocked 136 = .ok (.iload 13, 2) := by decide +kernel
theorem dX6_blocked_138 : decode cX6_blocked 138 = .ok (.invokestatic 86, 3) := by decide +kernel
theorem dX6_blocked_141 : decode cX6_blocked 141 = .ok (.ifCond .eq 7, 3) := by decide +kernel
theorem dX6_blocked_144 : decode cX6_blocked 144 = .ok (.lconst 1, 1) := by decide +kernel
theorem dX6_blocked_145 : decode cX6_blocked 145 = .ok (.goto 7, 3) := by decide +kernel
theorem dX6_blocked_148 : decode cX6_blocked 148 = .ok (.iload_n 2, 1) := by decide +kernel
theorem dX6_blocked_149 : decode cX6_blocked 149 = .ok (.iconst 1, 1) := by decide +kernel
theorem dX6_blocked_150 : decode cX6_blocked 150 = .ok (.isub, 1) := by decide +kernel
theorem dX6_blocked_151 : decode cX6_blocked 151 = .ok (.i2l, 1) := by decide +kernel
theorem dX6_blocked_152 : decode cX6_blocked 152 = .ok (.lmul, 1) := by decide +kernel
theorem dX6_blocked_153 : decode cX6_blocked 153 = .ok (.lstore 11, 2) := by decide +kernel
theorem dX6_blocked_155 : decode cX6_blocked 155 = .ok (.aload_n 0, 1) := by decide +kernel
theorem dX6_blocked_156 : decode cX6_blocked 156 = .ok (.iload 10, 2) := by decide +kernel
theorem dX6_blocked_158 : decode cX6_blocked 158 = .ok (.iload 13, 2) := by decide +kernel
theorem dX6_blocked_160 : decode cX6_blocked 160 = .ok (.invokestatic 86, 3) := by decide +kernel
theorem dX6_blocked_163 : decode cX6_blocked 163 = .ok (.invokevirtual 104, 3) := by decide +kernel
theorem dX6_blocked_166 : decode cX6_blocked 166 = .ok (.iinc 13 1, 3) := by decide +kernel
theorem dX6_blocked_169 : decode cX6_blocked 169 = .ok (.goto (-43), 3) := by decide +kernel
theorem dX6_blocked_172 : decode cX6_blocked 172 = .ok (.lload 6, 2) := by decide +kernel
theorem dX6_blocked_174 : decode cX6_blocked 174 = .ok (.aload_n 0, 1) := by decide +kernel
theorem dX6_blocked_175 : decode cX6_blocked 175 = .ok (.getfield 101, 3) := by decide +kernel
theorem dX6_blocked_178 : decode cX6_blocked 178 = .ok (.iload_n 3, 1) := by decide +kernel
theorem dX6_blocked_179 : decode cX6_blocked 179 = .ok (.if_icmp .lt 8, 3) := by decide +kernel
theorem dX6_blocked_182 : decode cX6_blocked 182 = .ok (.lload 11, 2) := by decide +kernel
theorem dX6_blocked_184 : decode cX6_blocked 184 = .ok (.goto 4, 3) := by decide +kernel
theorem dX6_blocked_187 : decode cX6_blocked 187 = .ok (.lconst 0, 1) := by decide +kernel
theorem dX6_blocked_188 : decode cX6_blocked 188 = .ok (.ladd, 1) := by decide +kernel
theorem dX6_blocked_189 : decode cX6_blocked 189 = .ok (.lstore 6, 2) := by decide +kernel
theorem dX6_blocked_191 : decode cX6_blocked 191 = .ok (.aload_n 0, 1) := by decide +kernel
theorem dX6_blocked_192 : decode cX6_blocked 192 = .ok (.invokevirtual 165, 3) := by decide +kernel
theorem dX6_blocked_195 : decode cX6_blocked 195 = .ok (.iinc 10 1, 3) := by decide +kernel
theorem dX6_blocked_198 : decode cX6_blocked 198 = .ok (.goto (-86), 3) := by decide +kernel
theorem dX6_blocked_201 : decode cX6_blocked 201 = .ok (.lload 6, 2) := by decide +kernel
theorem dX6_blocked_203 : decode cX6_blocked 203 = .ok (.lload 8, 2) := by decide +kernel
theorem dX6_blocked_205 : decode cX6_blocked 205 = .ok (.iload 4, 2) := by decide +kernel
theorem dX6_blocked_207 : decode cX6_blocked 207 = .ok (.invokestatic 246, 3) := by decide +kernel
theorem dX6_blocked_210 : decode cX6_blocked 210 = .ok (.lreturn, 1) := by decide +kernel
theorem dX6_shares_0 : decode cX6_shares 0 = .ok (.aload_n 0, 1) := by decide +kernel
theorem dX6_shares_1 : decode cX6_shares 1 = .ok (.iconst 0, 1) := by decide +kernel
theorem dX6_shares_2 : decode cX6_shares 2 = .ok (.putfield 58, 3) := by decide +kernel
theorem dX6_shares_5 : decode cX6_shares 5 = .ok (.iload_n 1, 1) := by decide +kernel
theorem dX6_shares_6 : decode cX6_shares 6 = .ok (.iconst 1, 1) := by decide +kernel
theorem dX6_shares_7 : decode cX6_shares 7 = .ok (.bipush 9, 2) := by decide +kernel
theorem dX6_shares_9 : decode cX6_shares 9 = .ok (.invokestatic 197, 3) := by decide +kernel
theorem dX6_shares_12 : decode cX6_shares 12 = .ok (.iload_n 2, 1) := by decide +kernel
theorem dX6_shares_13 : decode cX6_shares 13 = .ok (.iconst 1, 1) := by decide +kernel
theorem dX6_shares_14 : decode cX6_shares 14 = .ok (.invokestatic 206, 3) := by decide +kernel
theorem dX6_shares_17 : decode cX6_shares 17 = .ok (.istore_n 3, 1) := by decide +kernel
theorem dX6_shares_18 : decode cX6_shares 18 = .ok (.iload_n 3, 1) := by decide +kernel
theorem dX6_shares_19 : decode cX6_shares 19 = .ok (.ifCond .ge 9, 3) := by decide +kernel
theorem dX6_shares_22 : decode cX6_shares 22 = .ok (.aload_n 0, 1) := by decide +kernel
theorem dX6_shares_23 : decode cX6_shares 23 = .ok (.iload_n 3, 1) := by decide +kernel
theorem dX6_shares_24 : decode cX6_shares 24 = .ok (.invokevirtual 108, 3) := by decide +kernel
theorem dX6_shares_27 : decode cX6_shares 27 = .ok (.ireturn, 1) := by decide +kernel
theorem dX6_shares_28 : decode cX6_shares 28 = .ok (.iload_n 2, 1) := by decide +kernel
theorem dX6_shares_29 : decode cX6_shares 29 = .ok (.ifCond .ne 12, 3) := by decide +kernel
theorem dX6_shares_32 : decode cX6_shares 32 = .ok (.aload_n 0, 1) := by decide +kernel
theorem dX6_shares_33 : decode cX6_shares 33 = .ok (.getfield 101, 3) := by decide +kernel
theorem dX6_shares_36 : decode cX6_shares 36 = .ok (.iload_n 1, 1) := by decide +kernel
theorem dX6_shares_37 : decode cX6_shares 37 = .ok (.idiv, 1) := by decide +kernel
theorem dX6_shares_38 : decode cX6_shares 38 = .ok (.goto 9, 3) := by decide +kernel
theorem dX6_shares_41 : decode cX6_shares 41 = .ok (.aload_n 0, 1) := by decide +kernel
theorem dX6_shares_42 : decode cX6_shares 42 = .ok (.getfield 101, 3) := by decide +kernel
theorem dX6_shares_45 : decode cX6_shares 45 = .ok (.iload_n 1, 1) := by decide +kernel
theorem dX6_shares_46 : decode cX6_shares 46 = .ok (.irem, 1) := by decide +kernel
theorem dX6_shares_47 : decode cX6_shares 47 = .ok (.ireturn, 1) := by decide +kernel
theorem dX6_fullestOne_0 : decode cX6_fullestOne 0 = .ok (.bipush (-9), 2) := by decide +kernel
theorem dX6_fullestOne_2 : decode cX6_fullestOne 2 = .ok (.istore_n 1, 1) := by decide +kernel
theorem dX6_fullestOne_3 : decode cX6_fullestOne 3 = .ok (.iconst 0, 1) := by decide +kernel
theorem dX6_fullestOne_4 : decode cX6_fullestOne 4 = .ok (.istore_n 2, 1) := by decide +kernel
theorem dX6_fullestOne_5 : decode cX6_fullestOne 5 = .ok (.iload_n 2, 1) := by decide +kernel
theorem dX6_fullestOne_6 : decode cX6_fullestOne 6 = .ok (.aload_n 0, 1) := by decide +kernel
theorem dX6_fullestOne_7 : decode cX6_fullestOne 7 = .ok (.getfield 62, 3) := by decide +kernel
theorem dX6_fullestOne_10 : decode cX6_fullestOne 10 = .ok (.if_icmp .ge 34, 3) := by decide +kernel
theorem dX6_fullestOne_13 : decode cX6_fullestOne 13 = .ok (.iload_n 1, 1) := by decide +kernel
theorem dX6_fullestOne_14 : decode cX6_fullestOne 14 = .ok (.ifCond .lt 18, 3) := by decide +kernel
theorem dX6_fullestOne_17 : decode cX6_fullestOne 17 = .ok (.aload_n 0, 1) := by decide +kernel
theorem dX6_fullestOne_18 : decode cX6_fullestOne 18 = .ok (.getfield 16, 3) := by decide +kernel
theorem dX6_fullestOne_21 : decode cX6_fullestOne 21 = .ok (.iload_n 2, 1) := by decide +kernel
theorem dX6_fullestOne_22 : decode cX6_fullestOne 22 = .ok (.iaload, 1) := by decide +kernel
theorem dX6_fullestOne_23 : decode cX6_fullestOne 23 = .ok (.aload_n 0, 1) := by decide +kernel
theorem dX6_fullestOne_24 : decode cX6_fullestOne 24 = .ok (.getfield 16, 3) := by decide +kernel
theorem dX6_fullestOne_27 : decode cX6_fullestOne 27 = .ok (.iload_n 1, 1) := by decide +kernel
theorem dX6_fullestOne_28 : decode cX6_fullestOne 28 = .ok (.iaload, 1) := by decide +kernel
theorem dX6_fullestOne_29 : decode cX6_fullestOne 29 = .ok (.if_icmp .le 7, 3) := by decide +kernel
theorem dX6_fullestOne_32 : decode cX6_fullestOne 32 = .ok (.iload_n 2, 1) := by decide +kernel
theorem dX6_fullestOne_33 : decode cX6_fullestOne 33 = .ok (.goto 4, 3) := by decide +kernel
theorem dX6_fullestOne_36 : decode cX6_fullestOne 36 = .ok (.iload_n 1, 1) := by decide +kernel
theorem dX6_fullestOne_37 : decode cX6_fullestOne 37 = .ok (.istore_n 1, 1) := by decide +kernel
theorem dX6_fullestOne_38 : decode cX6_fullestOne 38 = .ok (.iinc 2 1, 3) := by decide +kernel
theorem dX6_fullestOne_41 : decode cX6_fullestOne 41 = .ok (.goto (-36), 3) := by decide +kernel
theorem dX6_fullestOne_44 : decode cX6_fullestOne 44 = .ok (.iload_n 1, 1) := by decide +kernel
theorem dX6_fullestOne_45 : decode cX6_fullestOne 45 = .ok (.ireturn, 1) := by decide +kernel
theorem dX6_pumpBits_0 : decode cX6_pumpBits 0 = .ok (.iconst 0, 1) := by decide +kernel
theorem dX6_pumpBits_1 : decode cX6_pumpBits 1 = .ok (.istore_n 1, 1) := by decide +kernel
theorem dX6_pumpBits_2 : decode cX6_pumpBits 2 = .ok (.iconst 0, 1) := by decide +kernel
theorem dX6_pumpBits_3 : decode cX6_pumpBits 3 = .ok (.istore_n 2, 1) := by decide +kernel
theorem dX6_pumpBits_4 : decode cX6_pumpBits 4 = .ok (.iload_n 2, 1) := by decide +kernel
theorem dX6_pumpBits_5 : decode cX6_pumpBits 5 = .ok (.aload_n 0, 1) := by decide +kernel
theorem dX6_pumpBits_6 : decode cX6_pumpBits 6 = .ok (.getfield 62, 3) := by decide +kernel
theorem dX6_pumpBits_9 : decode cX6_pumpBits 9 = .ok (.if_icmp .ge 32, 3) := by decide +kernel
theorem dX6_pumpBits_12 : decode cX6_pumpBits 12 = .ok (.iload_n 1, 1) := by decide +kernel
theorem dX6_pumpBits_13 : decode cX6_pumpBits 13 = .ok (.aload_n 0, 1) := by decide +kernel
theorem dX6_pumpBits_14 : decode cX6_pumpBits 14 = .ok (.getfield 19, 3) := by decide +kernel
theorem dX6_pumpBits_17 : decode cX6_pumpBits 17 = .ok (.iload_n 2, 1) := by decide +kernel
theorem dX6_pumpBits_18 : decode cX6_pumpBits 18 = .ok (.iaload, 1) := by decide +kernel
theorem dX6_pumpBits_19 : decode cX6_pumpBits 19 = .ok (.aload_n 0, 1) := by decide +kernel
theorem dX6_pumpBits_20 : decode cX6_pumpBits 20 = .ok (.getfield 62, 3) := by decide +kernel
theorem dX6_pumpBits_23 : decode cX6_pumpBits 23 = .ok (.if_icmp .lt 9, 3) := by decide +kernel
theorem dX6_pumpBits_26 : decode cX6_pumpBits 26 = .ok (.iconst 1, 1) := by decide +kernel
theorem dX6_pumpBits_27 : decode cX6_pumpBits 27 = .ok (.iload_n 2, 1) := by decide +kernel
theorem dX6_pumpBits_28 : decode cX6_pumpBits 28 = .ok (.ishl, 1) := by decide +kernel
theorem dX6_pumpBits_29 : decode cX6_pumpBits 29 = .ok (.goto 4, 3) := by decide +kernel
theorem dX6_pumpBits_32 : decode cX6_pumpBits 32 = .ok (.iconst 0, 1) := by decide +kernel
theorem dX6_pumpBits_33 : decode cX6_pumpBits 33 = .ok (.ior, 1) := by decide +kernel
theorem dX6_pumpBits_34 : decode cX6_pumpBits 34 = .ok (.istore_n 1, 1) := by decide +kernel
theorem dX6_pumpBits_35 : decode cX6_pumpBits 35 = .ok (.iinc 2 1, 3) := by decide +kernel
theorem dX6_pumpBits_38 : decode cX6_pumpBits 38 = .ok (.goto (-34), 3) := by decide +kernel
theorem dX6_pumpBits_41 : decode cX6_pumpBits 41 = .ok (.iload_n 1, 1) := by decide +kernel
theorem dX6_pumpBits_42 : decode cX6_pumpBits 42 = .ok (.ireturn, 1) := by decide +kernel
theorem dX6_deepest_0 : decode cX6_deepest 0 = .ok (.iconst 0, 1) := by decide +kernel
theorem dX6_deepest_1 : decode cX6_deepest 1 = .ok (.istore_n 1, 1) := by decide +kernel
theorem dX6_deepest_2 : decode cX6_deepest 2 = .ok (.iconst 0, 1) := by decide +kernel
theorem dX6_deepest_3 : decode cX6_deepest 3 = .ok (.istore_n 2, 1) := by decide +kernel
theorem dX6_deepest_4 : decode cX6_deepest 4 = .ok (.iload_n 2, 1) := by decide +kernel
theorem dX6_deepest_5 : decode cX6_deepest 5 = .ok (.aload_n 0, 1) := by decide +kernel
theorem dX6_deepest_6 : decode cX6_deepest 6 = .ok (.getfield 62, 3) := by decide +kernel
theorem dX6_deepest_9 : decode cX6_deepest 9 = .ok (.if_icmp .ge 34, 3) := by decide +kernel
theorem dX6_deepest_12 : decode cX6_deepest 12 = .ok (.aload_n 0, 1) := by decide +kernel
theorem dX6_deepest_13 : decode cX6_deepest 13 = .ok (.iload_n 2, 1) := by decide +kernel
theorem dX6_deepest_14 : decode cX6_deepest 14 = .ok (.invokevirtual 231, 3) := by decide +kernel
theorem dX6_deepest_17 : decode cX6_deepest 17 = .ok (.invokestatic 228, 3) := by decide +kernel
theorem dX6_deepest_20 : decode cX6_deepest 20 = .ok (.iload_n 1, 1) := by decide +kernel
theorem dX6_deepest_21 : decode cX6_deepest 21 = .ok (.if_icmp .le 14, 3) := by decide +kernel
theorem dX6_deepest_24 : decode cX6_deepest 24 = .ok (.aload_n 0, 1) := by decide +kernel
theorem dX6_deepest_25 : decode cX6_deepest 25 = .ok (.iload_n 2, 1) := by decide +kernel
theorem dX6_deepest_26 : decode cX6_deepest 26 = .ok (.invokevirtual 231, 3) := by decide +kernel
theorem dX6_deepest_29 : decode cX6_deepest 29 = .ok (.invokestatic 228, 3) := by decide +kernel
theorem dX6_deepest_32 : decode cX6_deepest 32 = .ok (.goto 4, 3) := by decide +kernel
theorem dX6_deepest_35 : decode cX6_deepest 35 = .ok (.iload_n 1, 1) := by decide +kernel
theorem dX6_deepest_36 : decode cX6_deepest 36 = .ok (.istore_n 1, 1) := by decide +kernel
theorem dX6_deepest_37 : decode cX6_deepest 37 = .ok (.iinc 2 1, 3) := by decide +kernel
theorem dX6_deepest_40 : decode cX6_deepest 40 = .ok (.goto (-36), 3) := by decide +kernel
theorem dX6_deepest_43 : decode cX6_deepest 43 = .ok (.iload_n 1, 1) := by decide +kernel
theorem dX6_deepest_44 : decode cX6_deepest 44 = .ok (.ireturn, 1) := by decide +kernel
theorem dX6_longestStill_0 : decode cX6_longestStill 0 = .ok (.iconst 0, 1) := by decide +kernel
theorem dX6_longestStill_1 : decode cX6_longestStill 1 = .ok (.istore_n 1, 1) := by decide +kernel
theorem dX6_longestStill_2 : decode cX6_longestStill 2 = .ok (.iconst 0, 1) := by decide +kernel
theorem dX6_longestStill_3 : decode cX6_longestStill 3 = .ok (.istore_n 2, 1) := by decide +kernel
theorem dX6_longestStill_4 : decode cX6_longestStill 4 = .ok (.aload_n 0, 1) := by decide +kernel
theorem dX6_longestStill_5 : decode cX6_longestStill 5 = .ok (.invokevirtual 159, 3) := by decide +kernel
theorem dX6_longestStill_8 : decode cX6_longestStill 8 = .ok (.iconst 0, 1) := by decide +kernel
theorem dX6_longestStill_9 : decode cX6_longestStill 9 = .ok (.istore_n 3, 1) := by decide +kernel
theorem dX6_longestStill_10 : decode cX6_longestStill 10 = .ok (.iload_n 3, 1) := by decide +kernel
theorem dX6_longestStill_11 : decode cX6_longestStill 11 = .ok (.bipush 60, 2) := by decide +kernel
theorem dX6_longestStill_13 : decode cX6_longestStill 13 = .ok (.if_icmp .ge 40, 3) := by decide +kernel
theorem dX6_longestStill_16 : decode cX6_longestStill 16 = .ok (.aload_n 0, 1) := by decide +kernel
theorem dX6_longestStill_17 : decode cX6_longestStill 17 = .ok (.iconst 0, 1) := by decide +kernel
theorem dX6_longestStill_18 : decode cX6_longestStill 18 = .ok (.invokevirtual 104, 3) := by decide +kernel
theorem dX6_longestStill_21 : decode cX6_longestStill 21 = .ok (.aload_n 0, 1) := by decide +kernel
theorem dX6_longestStill_22 : decode cX6_longestStill 22 = .ok (.getfield 79, 3) := by decide +kernel
theorem dX6_longestStill_25 : decode cX6_longestStill 25 = .ok (.ifCond .eq 7, 3) := by decide +kernel
theorem dX6_longestStill_28 : decode cX6_longestStill 28 = .ok (.iconst 0, 1) := by decide +kernel
theorem dX6_longestStill_29 : decode cX6_longestStill 29 = .ok (.goto 6, 3) := by decide +kernel
theorem dX6_longestStill_32 : decode cX6_longestStill 32 = .ok (.iload_n 2, 1) := by decide +kernel
theorem dX6_longestStill_33 : decode cX6_longestStill 33 = .ok (.iconst 1, 1) := by decide +kernel
theorem dX6_longestStill_34 : decode cX6_longestStill 34 = .ok (.iadd, 1) := by decide +kernel
theorem dX6_longestStill_35 : decode cX6_longestStill 35 = .ok (.istore_n 2, 1) := by decide +kernel
theorem dX6_longestStill_36 : decode cX6_longestStill 36 = .ok (.iload_n 2, 1) := by decide +kernel
theorem dX6_longestStill_37 : decode cX6_longestStill 37 = .ok (.iload_n 1, 1) := by decide +kernel
theorem dX6_longestStill_38 : decode cX6_longestStill 38 = .ok (.if_icmp .le 7, 3) := by decide +kernel
theorem dX6_longestStill_41 : decode cX6_longestStill 41 = .ok (.iload_n 2, 1) := by decide +kernel
theorem dX6_longestStill_42 : decode cX6_longestStill 42 = .ok (.goto 4, 3) := by decide +kernel
theorem dX6_longestStill_45 : decode cX6_longestStill 45 = .ok (.iload_n 1, 1) := by decide +kernel
theorem dX6_longestStill_46 : decode cX6_longestStill 46 = .ok (.istore_n 1, 1) := by decide +kernel
theorem dX6_longestStill_47 : decode cX6_longestStill 47 = .ok (.iinc 3 1, 3) := by decide +kernel
theorem dX6_longestStill_50 : decode cX6_longestStill 50 = .ok (.goto (-40), 3) := by decide +kernel
theorem dX6_longestStill_53 : decode cX6_longestStill 53 = .ok (.aload_n 0, 1) := by decide +kernel
theorem dX6_longestStill_54 : decode cX6_longestStill 54 = .ok (.invokevirtual 165, 3) := by decide +kernel
theorem dX6_longestStill_57 : decode cX6_longestStill 57 = .ok (.iload_n 1, 1) := by decide +kernel
theorem dX6_longestStill_58 : decode cX6_longestStill 58 = .ok (.ireturn, 1) := by decide +kernel
theorem dX6_twinTwos_0 : decode cX6_twinTwos 0 = .ok (.iconst 0, 1) := by decide +kernel
theorem dX6_twinTwos_1 : decode cX6_twinTwos 1 = .ok (.istore_n 1, 1) := by decide +kernel
theorem dX6_twinTwos_2 : decode cX6_twinTwos 2 = .ok (.iconst 0, 1) := by decide +kernel
theorem dX6_twinTwos_3 : decode cX6_twinTwos 3 = .ok (.istore_n 2, 1) := by decide +kernel
theorem dX6_twinTwos_4 : decode cX6_twinTwos 4 = .ok (.iload_n 2, 1) := by decide +kernel
theorem dX6_twinTwos_5 : decode cX6_twinTwos 5 = .ok (.aload_n 0, 1) := by decide +kernel
theorem dX6_twinTwos_6 : decode cX6_twinTwos 6 = .ok (.getfield 62, 3) := by decide +kernel
theorem dX6_twinTwos_9 : decode cX6_twinTwos 9 = .ok (.if_icmp .ge 50, 3) := by decide +kernel
theorem dX6_twinTwos_12 : decode cX6_twinTwos 12 = .ok (.iload_n 2, 1) := by decide +kernel
theorem dX6_twinTwos_13 : decode cX6_twinTwos 13 = .ok (.iconst 1, 1) := by decide +kernel
theorem dX6_twinTwos_14 : decode cX6_twinTwos 14 = .ok (.iadd, 1) := by decide +kernel
theorem dX6_twinTwos_15 : decode cX6_twinTwos 15 = .ok (.istore_n 3, 1) := by decide +kernel
theorem dX6_twinTwos_16 : decode cX6_twinTwos 16 = .ok (.iload_n 3, 1) := by decide +kernel
theorem dX6_twinTwos_17 : decode cX6_twinTwos 17 = .ok (.aload_n 0, 1) := by decide +kernel
theorem dX6_twinTwos_18 : decode cX6_twinTwos 18 = .ok (.getfield 62, 3) := by decide +kernel
theorem dX6_twinTwos_21 : decode cX6_twinTwos 21 = .ok (.if_icmp .ge 32, 3) := by decide +kernel
theorem dX6_twinTwos_24 : decode cX6_twinTwos 24 = .ok (.iload_n 1, 1) := by decide +kernel
theorem dX6_twinTwos_25 : decode cX6_twinTwos 25 = .ok (.aload_n 0, 1) := by decide +kernel
theorem dX6_twinTwos_26 : decode cX6_twinTwos 26 = .ok (.getfield 16, 3) := by decide +kernel
theorem dX6_twinTwos_29 : decode cX6_twinTwos 29 = .ok (.iload_n 2, 1) := by decide +kernel
theorem dX6_twinTwos_30 : decode cX6_twinTwos 30 = .ok (.iaload, 1) := by decide +kernel
theorem dX6_twinTwos_31 : decode cX6_twinTwos 31 = .ok (.aload_n 0, 1) := by decide +kernel
theorem dX6_twinTwos_32 : decode cX6_twinTwos 32 = .ok (.getfield 16, 3) := by decide +kernel
theorem dX6_twinTwos_35 : decode cX6_twinTwos 35 = .ok (.iload_n 3, 1) := by decide +kernel
theorem dX6_twinTwos_36 : decode cX6_twinTwos 36 = .ok (.iaload, 1) := by decide +kernel
theorem dX6_twinTwos_37 : decode cX6_twinTwos 37 = .ok (.if_icmp .ne 7, 3) := by decide +kernel
theorem dX6_twinTwos_40 : decode cX6_twinTwos 40 = .ok (.iconst 1, 1) := by decide +kernel
theorem dX6_twinTwos_41 : decode cX6_twinTwos 41 = .ok (.goto 4, 3) := by decide +kernel
theorem dX6_twinTwos_44 : decode cX6_twinTwos 44 = .ok (.iconst 0, 1) := by decide +kernel
theorem dX6_twinTwos_45 : decode cX6_twinTwos 45 = .ok (.iadd, 1) := by decide +kernel
theorem dX6_twinTwos_46 : decode cX6_twinTwos 46 = .ok (.istore_n 1, 1) := by decide +kernel
theorem dX6_twinTwos_47 : decode cX6_twinTwos 47 = .ok (.iinc 3 1, 3) := by decide +kernel
theorem dX6_twinTwos_50 : decode cX6_twinTwos 50 = .ok (.goto (-34), 3) := by decide +kernel
theorem dX6_twinTwos_53 : decode cX6_twinTwos 53 = .ok (.iinc 2 1, 3) := by decide +kernel
theorem dX6_twinTwos_56 : decode cX6_twinTwos 56 = .ok (.goto (-52), 3) := by decide +kernel
theorem dX6_twinTwos_59 : decode cX6_twinTwos 59 = .ok (.iload_n 1, 1) := by decide +kernel
theorem dX6_twinTwos_60 : decode cX6_twinTwos 60 = .ok (.ireturn, 1) := by decide +kernel
theorem dX6_fullest_0 : decode cX6_fullest 0 = .ok (.aload_n 0, 1) := by decide +kernel
theorem dX6_fullest_1 : decode cX6_fullest 1 = .ok (.iconst 0, 1) := by decide +kernel
theorem dX6_fullest_2 : decode cX6_fullest 2 = .ok (.putfield 58, 3) := by decide +kernel
theorem dX6_fullest_5 : decode cX6_fullest 5 = .ok (.iload_n 1, 1) := by decide +kernel
theorem dX6_fullest_6 : decode cX6_fullest 6 = .ok (.tableswitch 79 0 5 #[38, 43, 48, 64, 69, 74], 38) := by decide +kernel
theorem dX6_fullest_44 : decode cX6_fullest 44 = .ok (.aload_n 0, 1) := by decide +kernel
theorem dX6_fullest_45 : decode cX6_fullest 45 = .ok (.invokevirtual 250, 3) := by decide +kernel
theorem dX6_fullest_48 : decode cX6_fullest 48 = .ok (.ireturn, 1) := by decide +kernel
theorem dX6_fullest_49 : decode cX6_fullest 49 = .ok (.aload_n 0, 1) := by decide +kernel
theorem dX6_fullest_50 : decode cX6_fullest 50 = .ok (.invokevirtual 253, 3) := by decide +kernel
theorem dX6_fullest_53 : decode cX6_fullest 53 = .ok (.ireturn, 1) := by decide +kernel
theorem dX6_fullest_54 : decode cX6_fullest 54 = .ok (.iconst 1, 1) := by decide +kernel
theorem dX6_fullest_55 : decode cX6_fullest 55 = .ok (.aload_n 0, 1) := by decide +kernel
theorem dX6_fullest_56 : decode cX6_fullest 56 = .ok (.getfield 62, 3) := by decide +kernel
theorem dX6_fullest_59 : decode cX6_fullest 59 = .ok (.ishl, 1) := by decide +kernel
theorem dX6_fullest_60 : decode cX6_fullest 60 = .ok (.iconst 1, 1) := by decide +kernel
theorem dX6_fullest_61 : decode cX6_fullest 61 = .ok (.isub, 1) := by decide +kernel
theorem dX6_fullest_62 : decode cX6_fullest 62 = .ok (.aload_n 0, 1) := by decide +kernel
theorem dX6_fullest_63 : decode cX6_fullest 63 = .ok (.getfield 73, 3) := by decide +kernel
theorem dX6_fullest_66 : decode cX6_fullest 66 = .ok (.iconst (-1), 1) := by decide +kernel
theorem dX6_fullest_67 : decode cX6_fullest 67 = .ok (.ixor, 1) := by decide +kernel
theorem dX6_fullest_68 : decode cX6_fullest 68 = .ok (.iand, 1) := by decide +kernel
theorem dX6_fullest_69 : decode cX6_fullest 69 = .ok (.ireturn, 1) := by decide +kernel
theorem dX6_fullest_70 : decode cX6_fullest 70 = .ok (.aload_n 0, 1) := by decide +kernel
theorem dX6_fullest_71 : decode cX6_fullest 71 = .ok (.invokevirtual 256, 3) := by decide +kernel
theorem dX6_fullest_74 : decode cX6_fullest 74 = .ok (.ireturn, 1) := by decide +kernel
theorem dX6_fullest_75 : decode cX6_fullest 75 = .ok (.aload_n 0, 1) := by decide +kernel
theorem dX6_fullest_76 : decode cX6_fullest 76 = .ok (.invokevirtual 259, 3) := by decide +kernel
theorem dX6_fullest_79 : decode cX6_fullest 79 = .ok (.ireturn, 1) := by decide +kernel
theorem dX6_fullest_80 : decode cX6_fullest 80 = .ok (.aload_n 0, 1) := by decide +kernel
theorem dX6_fullest_81 : decode cX6_fullest 81 = .ok (.invokevirtual 262, 3) := by decide +kernel
theorem dX6_fullest_84 : decode cX6_fullest 84 = .ok (.ireturn, 1) := by decide +kernel
theorem dX6_fullest_85 : decode cX6_fullest 85 = .ok (.aload_n 0, 1) := by decide +kernel
theorem dX6_fullest_86 : decode cX6_fullest 86 = .ok (.bipush (-2), 2) := by decide +kernel
theorem dX6_fullest_88 : decode cX6_fullest 88 = .ok (.invokevirtual 108, 3) := by decide +kernel
theorem dX6_fullest_91 : decode cX6_fullest 91 = .ok (.ireturn, 1) := by decide +kernel
theorem dX6_into_0 : decode cX6_into 0 = .ok (.aload_n 0, 1) := by decide +kernel
theorem dX6_into_1 : decode cX6_into 1 = .ok (.iconst 0, 1) := by decide +kernel
theorem dX6_into_2 : decode cX6_into 2 = .ok (.putfield 58, 3) := by decide +kernel
theorem dX6_into_5 : decode cX6_into 5 = .ok (.aload_n 0, 1) := by decide +kernel
theorem dX6_into_6 : decode cX6_into 6 = .ok (.iload_n 1, 1) := by decide +kernel
theorem dX6_into_7 : decode cX6_into 7 = .ok (.invokevirtual 147, 3) := by decide +kernel
theorem dX6_into_10 : decode cX6_into 10 = .ok (.ifCond .ne 9, 3) := by decide +kernel
theorem dX6_into_13 : decode cX6_into 13 = .ok (.aload_n 0, 1) := by decide +kernel
theorem dX6_into_14 : decode cX6_into 14 = .ok (.iconst (-1), 1) := by decide +kernel
theorem dX6_into_15 : decode cX6_into 15 = .ok (.invokevirtual 108, 3) := by decide +kernel
theorem dX6_into_18 : decode cX6_into 18 = .ok (.ireturn, 1) := by decide +kernel
theorem dX6_into_19 : decode cX6_into 19 = .ok (.iconst 0, 1) := by decide +kernel
theorem dX6_into_20 : decode cX6_into 20 = .ok (.istore_n 2, 1) := by decide +kernel
theorem dX6_into_21 : decode cX6_into 21 = .ok (.iconst 0, 1) := by decide +kernel
theorem dX6_into_22 : decode cX6_into 22 = .ok (.istore_n 3, 1) := by decide +kernel
theorem dX6_into_23 : decode cX6_into 23 = .ok (.iload_n 3, 1) := by decide +kernel
theorem dX6_into_24 : decode cX6_into 24 = .ok (.aload_n 0, 1) := by decide +kernel
theorem dX6_into_25 : decode cX6_into 25 = .ok (.getfield 62, 3) := by decide +kernel
theorem dX6_into_28 : decode cX6_into 28 = .ok (.if_icmp .ge 27, 3) := by decide +kernel
theorem dX6_into_31 : decode cX6_into 31 = .ok (.iload_n 2, 1) := by decide +kernel
theorem dX6_into_32 : decode cX6_into 32 = .ok (.aload_n 0, 1) := by decide +kernel
theorem dX6_into_33 : decode cX6_into 33 = .ok (.getfield 19, 3) := by decide +kernel
theorem dX6_into_36 : decode cX6_into 36 = .ok (.iload_n 3, 1) := by decide +kernel
theorem dX6_into_37 : decode cX6_into 37 = .ok (.iaload, 1) := by decide +kernel
theorem dX6_into_38 : decode cX6_into 38 = .ok (.iload_n 1, 1) := by decide +kernel
theorem dX6_into_39 : decode cX6_into 39 = .ok (.if_icmp .ne 7, 3) := by decide +kernel
theorem dX6_into_42 : decode cX6_into 42 = .ok (.iconst 1, 1) := by decide +kernel
theorem dX6_into_43 : decode cX6_into 43 = .ok (.goto 4, 3) := by decide +kernel
theorem dX6_into_46 : decode cX6_into 46 = .ok (.iconst 0, 1) := by decide +kernel
theorem dX6_into_47 : decode cX6_into 47 = .ok (.iadd, 1) := by decide +kernel
theorem dX6_into_48 : decode cX6_into 48 = .ok (.istore_n 2, 1) := by decide +kernel
theorem dX6_into_49 : decode cX6_into 49 = .ok (.iinc 3 1, 3) := by decide +kernel
theorem dX6_into_52 : decode cX6_into 52 = .ok (.goto (-29), 3) := by decide +kernel
theorem dX6_into_55 : decode cX6_into 55 = .ok (.iload_n 2, 1) := by decide +kernel
theorem dX6_into_56 : decode cX6_into 56 = .ok (.ireturn, 1) := by decide +kernel
theorem dX6_mean_0 : decode cX6_mean 0 = .ok (.aload_n 0, 1) := by decide +kernel
theorem dX6_mean_1 : decode cX6_mean 1 = .ok (.iconst 0, 1) := by decide +kernel
theorem dX6_mean_2 : decode cX6_mean 2 = .ok (.putfield 58, 3) := by decide +kernel
theorem dX6_mean_5 : decode cX6_mean 5 = .ok (.iload_n 1, 1) := by decide +kernel
theorem dX6_mean_6 : decode cX6_mean 6 = .ok (.i2l, 1) := by decide +kernel
theorem dX6_mean_7 : decode cX6_mean 7 = .ok (.lconst 0, 1) := by decide +kernel
theorem dX6_mean_8 : decode cX6_mean 8 = .ok (.lconst 1, 1) := by decide +kernel
theorem dX6_mean_9 : decode cX6_mean 9 = .ok (.invokestatic 65, 3) := by decide +kernel
theorem dX6_mean_12 : decode cX6_mean 12 = .ok (.ifCond .eq 20, 3) := by decide +kernel
theorem dX6_mean_15 : decode cX6_mean 15 = .ok (.aload_n 0, 1) := by decide +kernel
theorem dX6_mean_16 : decode cX6_mean 16 = .ok (.invokevirtual 209, 3) := by decide +kernel
theorem dX6_mean_19 : decode cX6_mean 19 = .ok (.i2l, 1) := by decide +kernel
theorem dX6_mean_20 : decode cX6_mean 20 = .ok (.aload_n 0, 1) := by decide +kernel
theorem dX6_mean_21 : decode cX6_mean 21 = .ok (.getfield 62, 3) := by decide +kernel
theorem dX6_mean_24 : decode cX6_mean 24 = .ok (.i2l, 1) := by decide +kernel
theorem dX6_mean_25 : decode cX6_mean 25 = .ok (.iload_n 1, 1) := by decide +kernel
theorem dX6_mean_26 : decode cX6_mean 26 = .ok (.invokestatic 246, 3) := by decide +kernel
theorem dX6_mean_29 : decode cX6_mean 29 = .ok (.goto 14, 3) := by decide +kernel
theorem dX6_mean_32 : decode cX6_mean 32 = .ok (.ldc2_w 244, 3) := by decide +kernel
theorem dX6_mean_35 : decode cX6_mean 35 = .ok (.aload_n 0, 1) := by decide +kernel
theorem dX6_mean_36 : decode cX6_mean 36 = .ok (.bipush (-2), 2) := by decide +kernel
theorem dX6_mean_38 : decode cX6_mean 38 = .ok (.invokevirtual 108, 3) := by decide +kernel
theorem dX6_mean_41 : decode cX6_mean 41 = .ok (.i2l, 1) := by decide +kernel
theorem dX6_mean_42 : decode cX6_mean 42 = .ok (.lsub, 1) := by decide +kernel
theorem dX6_mean_43 : decode cX6_mean 43 = .ok (.lreturn, 1) := by decide +kernel
theorem dX6_strong_0 : decode cX6_strong 0 = .ok (.aload_n 0, 1) := by decide +kernel
theorem dX6_strong_1 : decode cX6_strong 1 = .ok (.iconst 0, 1) := by decide +kernel
theorem dX6_strong_2 : decode cX6_strong 2 = .ok (.putfield 58, 3) := by decide +kernel
theorem dX6_strong_5 : decode cX6_strong 5 = .ok (.iload_n 1, 1) := by decide +kernel
theorem dX6_strong_6 : decode cX6_strong 6 = .ok (.iconst 0, 1) := by decide +kernel
theorem dX6_strong_7 : decode cX6_strong 7 = .ok (.bipush 60, 2) := by decide +kernel
theorem dX6_strong_9 : decode cX6_strong 9 = .ok (.invokestatic 197, 3) := by decide +kernel
theorem dX6_strong_12 : decode cX6_strong 12 = .ok (.istore_n 2, 1) := by decide +kernel
theorem dX6_strong_13 : decode cX6_strong 13 = .ok (.iload_n 2, 1) := by decide +kernel
theorem dX6_strong_14 : decode cX6_strong 14 = .ok (.ifCond .ge 13, 3) := by decide +kernel
theorem dX6_strong_17 : decode cX6_strong 17 = .ok (.ldc_w 265, 3) := by decide +kernel
theorem dX6_strong_20 : decode cX6_strong 20 = .ok (.aload_n 0, 1) := by decide +kernel
theorem dX6_strong_21 : decode cX6_strong 21 = .ok (.iload_n 2, 1) := by decide +kernel
theorem dX6_strong_22 : decode cX6_strong 22 = .ok (.invokevirtual 108, 3) := by decide +kernel
theorem dX6_strong_25 : decode cX6_strong 25 = .ok (.isub, 1) := by decide +kernel
theorem dX6_strong_26 : decode cX6_strong 26 = .ok (.ireturn, 1) := by decide +kernel
theorem dX6_strong_27 : decode cX6_strong 27 = .ok (.aload_n 0, 1) := by decide +kernel
theorem dX6_strong_28 : decode cX6_strong 28 = .ok (.invokevirtual 159, 3) := by decide +kernel
theorem dX6_strong_31 : decode cX6_strong 31 = .ok (.aload_n 0, 1) := by decide +kernel
theorem dX6_strong_32 : decode cX6_strong 32 = .ok (.iload_n 1, 1) := by decide +kernel
theorem dX6_strong_33 : decode cX6_strong 33 = .ok (.invokevirtual 225, 3) := by decide +kernel
theorem dX6_strong_36 : decode cX6_strong 36 = .ok (.istore_n 3, 1) := by decide +kernel
theorem dX6_strong_37 : decode cX6_strong 37 = .ok (.aload_n 0, 1) := by decide +kernel
theorem dX6_strong_38 : decode cX6_strong 38 = .ok (.iconst 0, 1) := by decide +kernel
theorem dX6_strong_39 : decode cX6_strong 39 = .ok (.putfield 83, 3) := by decide +kernel
theorem dX6_strong_42 : decode cX6_strong 42 = .ok (.aload_n 0, 1) := by decide +kernel
theorem dX6_strong_43 : decode cX6_strong 43 = .ok (.iload_n 1, 1) := by decide +kernel
theorem dX6_strong_44 : decode cX6_strong 44 = .ok (.invokevirtual 225, 3) := by decide +kernel
theorem dX6_strong_47 : decode cX6_strong 47 = .ok (.iload_n 3, 1) := by decide +kernel
theorem dX6_strong_48 : decode cX6_strong 48 = .ok (.isub, 1) := by decide +kernel
theorem dX6_strong_49 : decode cX6_strong 49 = .ok (.ireturn, 1) := by decide +kernel
theorem dX6_kinds_0 : decode cX6_kinds 0 = .ok (.aload_n 0, 1) := by decide +kernel
theorem dX6_kinds_1 : decode cX6_kinds 1 = .ok (.iconst 0, 1) := by decide +kernel
theorem dX6_kinds_2 : decode cX6_kinds 2 = .ok (.putfield 58, 3) := by decide +kernel
theorem dX6_kinds_5 : decode cX6_kinds 5 = .ok (.iload_n 1, 1) := by decide +kernel
theorem dX6_kinds_6 : decode cX6_kinds 6 = .ok (.i2l, 1) := by decide +kernel
theorem dX6_kinds_7 : decode cX6_kinds 7 = .ok (.lconst 0, 1) := by decide +kernel
theorem dX6_kinds_8 : decode cX6_kinds 8 = .ok (.ldc2_w 195, 3) := by decide +kernel
theorem dX6_kinds_11 : decode cX6_kinds 11 = .ok (.invokestatic 65, 3) := by decide +kernel
theorem dX6_kinds_14 : decode cX6_kinds 14 = .ok (.ifCond .ne 10, 3) := by decide +kernel
theorem dX6_kinds_17 : decode cX6_kinds 17 = .ok (.aload_n 0, 1) := by decide +kernel
theorem dX6_kinds_18 : decode cX6_kinds 18 = .ok (.bipush (-2), 2) := by decide +kernel
theorem dX6_kinds_20 : decode cX6_kinds 20 = .ok (.invokevirtual 108, 3) := by decide +kernel
theorem dX6_kinds_23 : decode cX6_kinds 23 = .ok (.ireturn, 1) := by decide +kernel
theorem dX6_kinds_24 : decode cX6_kinds 24 = .ok (.iconst 0, 1) := by decide +kernel
theorem dX6_kinds_25 : decode cX6_kinds 25 = .ok (.istore_n 2, 1) := by decide +kernel
theorem dX6_kinds_26 : decode cX6_kinds 26 = .ok (.iconst 0, 1) := by decide +kernel
theorem dX6_kinds_27 : decode cX6_kinds 27 = .ok (.istore_n 3, 1) := by decide +kernel
theorem dX6_kinds_28 : decode cX6_kinds 28 = .ok (.iload_n 3, 1) := by decide +kernel
theorem dX6_kinds_29 : decode cX6_kinds 29 = .ok (.aload_n 0, 1) := by decide +kernel
theorem dX6_kinds_30 : decode cX6_kinds 30 = .ok (.getfield 62, 3) := by decide +kernel
theorem dX6_kinds_33 : decode cX6_kinds 33 = .ok (.if_icmp .ge 27, 3) := by decide +kernel
theorem dX6_kinds_36 : decode cX6_kinds 36 = .ok (.iload_n 2, 1) := by decide +kernel
theorem dX6_kinds_37 : decode cX6_kinds 37 = .ok (.aload_n 0, 1) := by decide +kernel
theorem dX6_kinds_38 : decode cX6_kinds 38 = .ok (.getfield 7, 3) := by decide +kernel
theorem dX6_kinds_41 : decode cX6_kinds 41 = .ok (.iload_n 3, 1) := by decide +kernel
theorem dX6_kinds_42 : decode cX6_kinds 42 = .ok (.iaload, 1) := by decide +kernel
theorem dX6_kinds_43 : decode cX6_kinds 43 = .ok (.iload_n 1, 1) := by decide +kernel
theorem dX6_kinds_44 : decode cX6_kinds 44 = .ok (.if_icmp .ne 7, 3) := by decide +kernel
theorem dX6_kinds_47 : decode cX6_kinds 47 = .ok (.iconst 1, 1) := by decide +kernel
theorem dX6_kinds_48 : decode cX6_kinds 48 = .ok (.goto 4, 3) := by decide +kernel
theorem dX6_kinds_51 : decode cX6_kinds 51 = .ok (.iconst 0, 1) := by decide +kernel
theorem dX6_kinds_52 : decode cX6_kinds 52 = .ok (.iadd, 1) := by decide +kernel
theorem dX6_kinds_53 : decode cX6_kinds 53 = .ok (.istore_n 2, 1) := by decide +kernel
theorem dX6_kinds_54 : decode cX6_kinds 54 = .ok (.iinc 3 1, 3) := by decide +kernel
theorem dX6_kinds_57 : decode cX6_kinds 57 = .ok (.goto (-29), 3) := by decide +kernel
theorem dX6_kinds_60 : decode cX6_kinds 60 = .ok (.iload_n 2, 1) := by decide +kernel
theorem dX6_kinds_61 : decode cX6_kinds 61 = .ok (.ireturn, 1) := by decide +kernel
theorem dX6_turn_0 : decode cX6_turn 0 = .ok (.aload_n 0, 1) := by decide +kernel
theorem dX6_turn_1 : decode cX6_turn 1 = .ok (.iconst 0, 1) := by decide +kernel
theorem dX6_turn_2 : decode cX6_turn 2 = .ok (.putfield 58, 3) := by decide +kernel
theorem dX6_turn_5 : decode cX6_turn 5 = .ok (.aload_n 0, 1) := by decide +kernel
theorem dX6_turn_6 : decode cX6_turn 6 = .ok (.iload_n 1, 1) := by decide +kernel
theorem dX6_turn_7 : decode cX6_turn 7 = .ok (.invokevirtual 147, 3) := by decide +kernel
theorem dX6_turn_10 : decode cX6_turn 10 = .ok (.ifCond .eq 13, 3) := by decide +kernel
theorem dX6_turn_13 : decode cX6_turn 13 = .ok (.iload_n 2, 1) := by decide +kernel
theorem dX6_turn_14 : decode cX6_turn 14 = .ok (.iconst 0, 1) := by decide +kernel
theorem dX6_turn_15 : decode cX6_turn 15 = .ok (.bipush 60, 2) := by decide +kernel
theorem dX6_turn_17 : decode cX6_turn 17 = .ok (.invokestatic 197, 3) := by decide +kernel
theorem dX6_turn_20 : decode cX6_turn 20 = .ok (.goto 4, 3) := by decide +kernel
theorem dX6_turn_23 : decode cX6_turn 23 = .ok (.iconst (-1), 1) := by decide +kernel
theorem dX6_turn_24 : decode cX6_turn 24 = .ok (.istore_n 3, 1) := by decide +kernel
theorem dX6_turn_25 : decode cX6_turn 25 = .ok (.iload_n 3, 1) := by decide +kernel
theorem dX6_turn_26 : decode cX6_turn 26 = .ok (.ifCond .ge 9, 3) := by decide +kernel
theorem dX6_turn_29 : decode cX6_turn 29 = .ok (.aload_n 0, 1) := by decide +kernel
theorem dX6_turn_30 : decode cX6_turn 30 = .ok (.iload_n 3, 1) := by decide +kernel
theorem dX6_turn_31 : decode cX6_turn 31 = .ok (.invokevirtual 108, 3) := by decide +kernel
theorem dX6_turn_34 : decode cX6_turn 34 = .ok (.ireturn, 1) := by decide +kernel
theorem dX6_turn_35 : decode cX6_turn 35 = .ok (.iconst 0, 1) := by decide +kernel
theorem dX6_turn_36 : decode cX6_turn 36 = .ok (.istore 4, 2) := by decide +kernel
theorem dX6_turn_38 : decode cX6_turn 38 = .ok (.iconst (-1), 1) := by decide +kernel
theorem dX6_turn_39 : decode cX6_turn 39 = .ok (.istore 5, 2) := by decide +kernel
theorem dX6_turn_41 : decode cX6_turn 41 = .ok (.aload_n 0, 1) := by decide +kernel
theorem dX6_turn_42 : decode cX6_turn 42 = .ok (.invokevirtual 159, 3) := by decide +kernel
theorem dX6_turn_45 : decode cX6_turn 45 = .ok (.iconst 0, 1) := by decide +kernel
theorem dX6_turn_46 : decode cX6_turn 46 = .ok (.istore 6, 2) := by decide +kernel
theorem dX6_turn_48 : decode cX6_turn 48 = .ok (.iload 6, 2) := by decide +kernel
theorem dX6_turn_50 : decode cX6_turn 50 = .ok (.bipush 6, 2) := by decide +kernel
theorem dX6_turn_52 : decode cX6_turn 52 = .ok (.if_icmp .ge 56, 3) := by decide +kernel
theorem dX6_turn_55 : decode cX6_turn 55 = .ok (.aload_n 0, 1) := by decide +kernel
theorem dX6_turn_56 : decode cX6_turn 56 = .ok (.getfield 7, 3) := by decide +kernel
theorem dX6_turn_59 : decode cX6_turn 59 = .ok (.iload_n 1, 1) := by decide +kernel
theorem dX6_turn_60 : decode cX6_turn 60 = .ok (.iload 6, 2) := by decide +kernel
theorem dX6_turn_62 : decode cX6_turn 62 = .ok (.iastore, 1) := by decide +kernel
theorem dX6_turn_63 : decode cX6_turn 63 = .ok (.aload_n 0, 1) := by decide +kernel
theorem dX6_turn_64 : decode cX6_turn 64 = .ok (.iload_n 2, 1) := by decide +kernel
theorem dX6_turn_65 : decode cX6_turn 65 = .ok (.invokevirtual 225, 3) := by decide +kernel
theorem dX6_turn_68 : decode cX6_turn 68 = .ok (.istore 7, 2) := by decide +kernel
theorem dX6_turn_70 : decode cX6_turn 70 = .ok (.iload 7, 2) := by decide +kernel
theorem dX6_turn_72 : decode cX6_turn 72 = .ok (.iload 5, 2) := by decide +kernel
theorem dX6_turn_74 : decode cX6_turn 74 = .ok (.if_icmp .le 8, 3) := by decide +kernel
theorem dX6_turn_77 : decode cX6_turn 77 = .ok (.iload 6, 2) := by decide +kernel
theorem dX6_turn_79 : decode cX6_turn 79 = .ok (.goto 5, 3) := by decide +kernel
theorem dX6_turn_82 : decode cX6_turn 82 = .ok (.iload 4, 2) := by decide +kernel
theorem dX6_turn_84 : decode cX6_turn 84 = .ok (.istore 4, 2) := by decide +kernel
theorem dX6_turn_86 : decode cX6_turn 86 = .ok (.iload 7, 2) := by decide +kernel
theorem dX6_turn_88 : decode cX6_turn 88 = .ok (.iload 5, 2) := by decide +kernel
theorem dX6_turn_90 : decode cX6_turn 90 = .ok (.if_icmp .le 8, 3) := by decide +kernel
theorem dX6_turn_93 : decode cX6_turn 93 = .ok (.iload 7, 2) := by decide +kernel
theorem dX6_turn_95 : decode cX6_turn 95 = .ok (.goto 5, 3) := by decide +kernel
theorem dX6_turn_98 : decode cX6_turn 98 = .ok (.iload 5, 2) := by decide +kernel
theorem dX6_turn_100 : decode cX6_turn 100 = .ok (.istore 5, 2) := by decide +kernel
theorem dX6_turn_102 : decode cX6_turn 102 = .ok (.iinc 6 1, 3) := by decide +kernel
theorem dX6_turn_105 : decode cX6_turn 105 = .ok (.goto (-57), 3) := by decide +kernel
theorem dX6_turn_108 : decode cX6_turn 108 = .ok (.iload 4, 2) := by decide +kernel
theorem dX6_turn_110 : decode cX6_turn 110 = .ok (.ireturn, 1) := by decide +kernel
theorem dX6_row_0 : decode cX6_row 0 = .ok (.aload_n 0, 1) := by decide +kernel
theorem dX6_row_1 : decode cX6_row 1 = .ok (.iconst 0, 1) := by decide +kernel
theorem dX6_row_2 : decode cX6_row 2 = .ok (.putfield 58, 3) := by decide +kernel
theorem dX6_row_5 : decode cX6_row 5 = .ok (.iload_n 1, 1) := by decide +kernel
theorem dX6_row_6 : decode cX6_row 6 = .ok (.ifCond .ge 10, 3) := by decide +kernel
theorem dX6_row_9 : decode cX6_row 9 = .ok (.aload_n 0, 1) := by decide +kernel
theorem dX6_row_10 : decode cX6_row 10 = .ok (.bipush (-4), 2) := by decide +kernel
theorem dX6_row_12 : decode cX6_row 12 = .ok (.invokevirtual 108, 3) := by decide +kernel
theorem dX6_row_15 : decode cX6_row 15 = .ok (.ireturn, 1) := by decide +kernel
theorem dX6_row_16 : decode cX6_row 16 = .ok (.iload_n 1, 1) := by decide +kernel
theorem dX6_row_17 : decode cX6_row 17 = .ok (.bipush 99, 2) := by decide +kernel
theorem dX6_row_19 : decode cX6_row 19 = .ok (.if_icmp .gt 12, 3) := by decide +kernel
theorem dX6_row_22 : decode cX6_row 22 = .ok (.aload_n 0, 1) := by decide +kernel
theorem dX6_row_23 : decode cX6_row 23 = .ok (.getfield 234, 3) := by decide +kernel
theorem dX6_row_26 : decode cX6_row 26 = .ok (.bipush 12, 2) := by decide +kernel
theorem dX6_row_28 : decode cX6_row 28 = .ok (.if_icmp .ne 10, 3) := by decide +kernel
theorem dX6_row_31 : decode cX6_row 31 = .ok (.aload_n 0, 1) := by decide +kernel
theorem dX6_row_32 : decode cX6_row 32 = .ok (.bipush (-6), 2) := by decide +kernel
theorem dX6_row_34 : decode cX6_row 34 = .ok (.invokevirtual 108, 3) := by decide +kernel
theorem dX6_row_37 : decode cX6_row 37 = .ok (.ireturn, 1) := by decide +kernel
theorem dX6_row_38 : decode cX6_row 38 = .ok (.aload_n 0, 1) := by decide +kernel
theorem dX6_row_39 : decode cX6_row 39 = .ok (.getfield 52, 3) := by decide +kernel
theorem dX6_row_42 : decode cX6_row 42 = .ok (.aload_n 0, 1) := by decide +kernel
theorem dX6_row_43 : decode cX6_row 43 = .ok (.getfield 234, 3) := by decide +kernel
theorem dX6_row_46 : decode cX6_row 46 = .ok (.iload_n 1, 1) := by decide +kernel
theorem dX6_row_47 : decode cX6_row 47 = .ok (.iastore, 1) := by decide +kernel
theorem dX6_row_48 : decode cX6_row 48 = .ok (.aload_n 0, 1) := by decide +kernel
theorem dX6_row_49 : decode cX6_row 49 = .ok (.dup, 1) := by decide +kernel
theorem dX6_row_50 : decode cX6_row 50 = .ok (.getfield 234, 3) := by decide +kernel
theorem dX6_row_53 : decode cX6_row 53 = .ok (.iconst 1, 1) := by decide +kernel
theorem dX6_row_54 : decode cX6_row 54 = .ok (.iadd, 1) := by decide +kernel
theorem dX6_row_55 : decode cX6_row 55 = .ok (.putfield 234, 3) := by decide +kernel
theorem dX6_row_58 : decode cX6_row 58 = .ok (.aload_n 0, 1) := by decide +kernel
theorem dX6_row_59 : decode cX6_row 59 = .ok (.getfield 234, 3) := by decide +kernel
theorem dX6_row_62 : decode cX6_row 62 = .ok (.ireturn, 1) := by decide +kernel
theorem dX6_judge_0 : decode cX6_judge 0 = .ok (.aload_n 0, 1) := by decide +kernel
theorem dX6_judge_1 : decode cX6_judge 1 = .ok (.iconst 0, 1) := by decide +kernel
theorem dX6_judge_2 : decode cX6_judge 2 = .ok (.putfield 58, 3) := by decide +kernel
theorem dX6_judge_5 : decode cX6_judge 5 = .ok (.aload_n 0, 1) := by decide +kernel
theorem dX6_judge_6 : decode cX6_judge 6 = .ok (.getfield 234, 3) := by decide +kernel
theorem dX6_judge_9 : decode cX6_judge 9 = .ok (.istore_n 1, 1) := by decide +kernel
theorem dX6_judge_10 : decode cX6_judge 10 = .ok (.aload_n 0, 1) := by decide +kernel
theorem dX6_judge_11 : decode cX6_judge 11 = .ok (.iconst 0, 1) := by decide +kernel
theorem dX6_judge_12 : decode cX6_judge 12 = .ok (.putfield 234, 3) := by decide +kernel
theorem dX6_judge_15 : decode cX6_judge 15 = .ok (.iconst 0, 1) := by decide +kernel
theorem dX6_judge_16 : decode cX6_judge 16 = .ok (.istore_n 2, 1) := by decide +kernel
theorem dX6_judge_17 : decode cX6_judge 17 = .ok (.iload_n 2, 1) := by decide +kernel
theorem dX6_judge_18 : decode cX6_judge 18 = .ok (.iload_n 1, 1) := by decide +kernel
theorem dX6_judge_19 : decode cX6_judge 19 = .ok (.if_icmp .ge 34, 3) := by decide +kernel
theorem dX6_judge_22 : decode cX6_judge 22 = .ok (.iload_n 2, 1) := by decide +kernel
theorem dX6_judge_23 : decode cX6_judge 23 = .ok (.aload_n 0, 1) := by decide +kernel
theorem dX6_judge_24 : decode cX6_judge 24 = .ok (.getfield 62, 3) := by decide +kernel
theorem dX6_judge_27 : decode cX6_judge 27 = .ok (.if_icmp .ge 18, 3) := by decide +kernel
theorem dX6_judge_30 : decode cX6_judge 30 = .ok (.aload_n 0, 1) := by decide +kernel
theorem dX6_judge_31 : decode cX6_judge 31 = .ok (.getfield 52, 3) := by decide +kernel
theorem dX6_judge_34 : decode cX6_judge 34 = .ok (.iload_n 2, 1) := by decide +kernel
theorem dX6_judge_35 : decode cX6_judge 35 = .ok (.iaload, 1) := by decide +kernel
theorem dX6_judge_36 : decode cX6_judge 36 = .ok (.aload_n 0, 1) := by decide +kernel
theorem dX6_judge_37 : decode cX6_judge 37 = .ok (.getfield 16, 3) := by decide +kernel
theorem dX6_judge_40 : decode cX6_judge 40 = .ok (.iload_n 2, 1) := by decide +kernel
theorem dX6_judge_41 : decode cX6_judge 41 = .ok (.iaload, 1) := by decide +kernel
theorem dX6_judge_42 : decode cX6_judge 42 = .ok (.if_icmp .eq 5, 3) := by decide +kernel
theorem dX6_judge_45 : decode cX6_judge 45 = .ok (.iload_n 2, 1) := by decide +kernel
theorem dX6_judge_46 : decode cX6_judge 46 = .ok (.ireturn, 1) := by decide +kernel
theorem dX6_judge_47 : decode cX6_judge 47 = .ok (.iinc 2 1, 3) := by decide +kernel
theorem dX6_judge_50 : decode cX6_judge 50 = .ok (.goto (-33), 3) := by decide +kernel
theorem dX6_judge_53 : decode cX6_judge 53 = .ok (.bipush (-9), 2) := by decide +kernel
theorem dX6_judge_55 : decode cX6_judge 55 = .ok (.ireturn, 1) := by decide +kernel
theorem dX6_clear_0 : decode cX6_clear 0 = .ok (.aload_n 0, 1) := by decide +kernel
theorem dX6_clear_1 : decode cX6_clear 1 = .ok (.iconst 0, 1) := by decide +kernel
theorem dX6_clear_2 : decode cX6_clear 2 = .ok (.putfield 58, 3) := by decide +kernel
theorem dX6_clear_5 : decode cX6_clear 5 = .ok (.aload_n 0, 1) := by decide +kernel
theorem dX6_clear_6 : decode cX6_clear 6 = .ok (.getfield 234, 3) := by decide +kernel
theorem dX6_clear_9 : decode cX6_clear 9 = .ok (.istore_n 1, 1) := by decide +kernel
theorem dX6_clear_10 : decode cX6_clear 10 = .ok (.aload_n 0, 1) := by decide +kernel
theorem dX6_clear_11 : decode cX6_clear 11 = .ok (.iconst 0, 1) := by decide +kernel
theorem dX6_clear_12 : decode cX6_clear 12 = .ok (.putfield 234, 3) := by decide +kernel
theorem dX6_clear_15 : decode cX6_clear 15 = .ok (.iload_n 1, 1) := by decide +kernel
theorem dX6_clear_16 : decode cX6_clear 16 = .ok (.ireturn, 1) := by decide +kernel
theorem dX6_drawBelow_0 : decode cX6_drawBelow 0 = .ok (.aload_n 0, 1) := by decide +kernel
theorem dX6_drawBelow_1 : decode cX6_drawBelow 1 = .ok (.aload_n 0, 1) := by decide +kernel
theorem dX6_drawBelow_2 : decode cX6_drawBelow 2 = .ok (.getfield 266, 3) := by decide +kernel
theorem dX6_drawBelow_5 : decode cX6_drawBelow 5 = .ok (.ldc_w 269, 3) := by decide +kernel
theorem dX6_drawBelow_8 : decode cX6_drawBelow 8 = .ok (.imul, 1) := by decide +kernel
theorem dX6_drawBelow_9 : decode cX6_drawBelow 9 = .ok (.sipush 12345, 3) := by decide +kernel
theorem dX6_drawBelow_12 : decode cX6_drawBelow 12 = .ok (.iadd, 1) := by decide +kernel
theorem dX6_drawBelow_13 : decode cX6_drawBelow 13 = .ok (.putfield 266, 3) := by decide +kernel
theorem dX6_drawBelow_16 : decode cX6_drawBelow 16 = .ok (.aload_n 0, 1) := by decide +kernel
theorem dX6_drawBelow_17 : decode cX6_drawBelow 17 = .ok (.getfield 266, 3) := by decide +kernel
theorem dX6_drawBelow_20 : decode cX6_drawBelow 20 = .ok (.ldc_w 270, 3) := by decide +kernel
theorem dX6_drawBelow_23 : decode cX6_drawBelow 23 = .ok (.iand, 1) := by decide +kernel
theorem dX6_drawBelow_24 : decode cX6_drawBelow 24 = .ok (.ldc_w 271, 3) := by decide +kernel
theorem dX6_drawBelow_27 : decode cX6_drawBelow 27 = .ok (.idiv, 1) := by decide +kernel
theorem dX6_drawBelow_28 : decode cX6_drawBelow 28 = .ok (.iload_n 1, 1) := by decide +kernel
theorem dX6_drawBelow_29 : decode cX6_drawBelow 29 = .ok (.irem, 1) := by decide +kernel
theorem dX6_drawBelow_30 : decode cX6_drawBelow 30 = .ok (.ireturn, 1) := by decide +kernel
theorem dX6_lots_0 : decode cX6_lots 0 = .ok (.aload_n 0, 1) := by decide +kernel
theorem dX6_lots_1 : decode cX6_lots 1 = .ok (.iconst 0, 1) := by decide +kernel
theorem dX6_lots_2 : decode cX6_lots 2 = .ok (.putfield 58, 3) := by decide +kernel
theorem dX6_lots_5 : decode cX6_lots 5 = .ok (.iload_n 1, 1) := by decide +kernel
theorem dX6_lots_6 : decode cX6_lots 6 = .ok (.iconst 1, 1) := by decide +kernel
theorem dX6_lots_7 : decode cX6_lots 7 = .ok (.bipush 20, 2) := by decide +kernel
theorem dX6_lots_9 : decode cX6_lots 9 = .ok (.invokestatic 197, 3) := by decide +kernel
theorem dX6_lots_12 : decode cX6_lots 12 = .ok (.iload_n 3, 1) := by decide +kernel
theorem dX6_lots_13 : decode cX6_lots 13 = .ok (.iconst 1, 1) := by decide +kernel
theorem dX6_lots_14 : decode cX6_lots 14 = .ok (.invokestatic 206, 3) := by decide +kernel
theorem dX6_lots_17 : decode cX6_lots 17 = .ok (.istore 4, 2) := by decide +kernel
theorem dX6_lots_19 : decode cX6_lots 19 = .ok (.iload 4, 2) := by decide +kernel
theorem dX6_lots_21 : decode cX6_lots 21 = .ok (.ifCond .ge 10, 3) := by decide +kernel
theorem dX6_lots_24 : decode cX6_lots 24 = .ok (.aload_n 0, 1) := by decide +kernel
theorem dX6_lots_25 : decode cX6_lots 25 = .ok (.iload 4, 2) := by decide +kernel
theorem dX6_lots_27 : decode cX6_lots 27 = .ok (.invokevirtual 108, 3) := by decide +kernel
theorem dX6_lots_30 : decode cX6_lots 30 = .ok (.ireturn, 1) := by decide +kernel
theorem dX6_lots_31 : decode cX6_lots 31 = .ok (.aload_n 0, 1) := by decide +kernel
theorem dX6_lots_32 : decode cX6_lots 32 = .ok (.iload_n 2, 1) := by decide +kernel
theorem dX6_lots_33 : decode cX6_lots 33 = .ok (.putfield 266, 3) := by decide +kernel
theorem dX6_lots_36 : decode cX6_lots 36 = .ok (.iconst 0, 1) := by decide +kernel
theorem dX6_lots_37 : decode cX6_lots 37 = .ok (.istore 5, 2) := by decide +kernel
theorem dX6_lots_39 : decode cX6_lots 39 = .ok (.aload_n 0, 1) := by decide +kernel
theorem dX6_lots_40 : decode cX6_lots 40 = .ok (.getfield 101, 3) := by decide +kernel
theorem dX6_lots_43 : decode cX6_lots 43 = .ok (.istore 6, 2) := by decide +kernel
theorem dX6_lots_45 : decode cX6_lots 45 = .ok (.aload_n 0, 1) := by decide +kernel
theorem dX6_lots_46 : decode cX6_lots 46 = .ok (.invokevirtual 159, 3) := by decide +kernel
theorem dX6_lots_49 : decode cX6_lots 49 = .ok (.iconst 0, 1) := by decide +kernel
theorem dX6_lots_50 : decode cX6_lots 50 = .ok (.istore 7, 2) := by decide +kernel
theorem dX6_lots_52 : decode cX6_lots 52 = .ok (.iload 7, 2) := by decide +kernel
theorem dX6_lots_54 : decode cX6_lots 54 = .ok (.iload_n 1, 1) := by decide +kernel
theorem dX6_lots_55 : decode cX6_lots 55 = .ok (.if_icmp .ge 86, 3) := by decide +kernel
theorem dX6_lots_58 : decode cX6_lots 58 = .ok (.iconst 0, 1) := by decide +kernel
theorem dX6_lots_59 : decode cX6_lots 59 = .ok (.istore 8, 2) := by decide +kernel
theorem dX6_lots_61 : decode cX6_lots 61 = .ok (.iload 8, 2) := by decide +kernel
theorem dX6_lots_63 : decode cX6_lots 63 = .ok (.iconst 3, 1) := by decide +kernel
theorem dX6_lots_64 : decode cX6_lots 64 = .ok (.if_icmp .ge 38, 3) := by decide +kernel
theorem dX6_lots_67 : decode cX6_lots 67 = .ok (.aload_n 0, 1) := by decide +kernel
theorem dX6_lots_68 : decode cX6_lots 68 = .ok (.getfield 62, 3) := by decide +kernel
theorem dX6_lots_71 : decode cX6_lots 71 = .ok (.ifCond .le 31, 3) := by decide +kernel
theorem dX6_lots_74 : decode cX6_lots 74 = .ok (.aload_n 0, 1) := by decide +kernel
theorem dX6_lots_75 : decode cX6_lots 75 = .ok (.aload_n 0, 1) := by decide +kernel
theorem dX6_lots_76 : decode cX6_lots 76 = .ok (.getfield 62, 3) := by decide +kernel
theorem dX6_lots_79 : decode cX6_lots 79 = .ok (.invokevirtual 272, 3) := by decide +kernel
theorem dX6_lots_82 : decode cX6_lots 82 = .ok (.istore 9, 2) := by decide +kernel
theorem dX6_lots_84 : decode cX6_lots 84 = .ok (.aload_n 0, 1) := by decide +kernel
theorem dX6_lots_85 : decode cX6_lots 85 = .ok (.iload 9, 2) := by decide +kernel
theorem dX6_lots_87 : decode cX6_lots 87 = .ok (.aload_n 0, 1) := by decide +kernel
theorem dX6_lots_88 : decode cX6_lots 88 = .ok (.bipush 40, 2) := by decide +kernel
theorem dX6_lots_90 : decode cX6_lots 90 = .ok (.invokevirtual 272, 3) := by decide +kernel
theorem dX6_lots_93 : decode cX6_lots 93 = .ok (.invokevirtual 97, 3) := by decide +kernel
theorem dX6_lots_96 : decode cX6_lots 96 = .ok (.iinc 8 1, 3) := by decide +kernel
theorem dX6_lots_99 : decode cX6_lots 99 = .ok (.goto (-38), 3) := by decide +kernel
theorem dX6_lots_102 : decode cX6_lots 102 = .ok (.aload_n 0, 1) := by decide +kernel
theorem dX6_lots_103 : decode cX6_lots 103 = .ok (.bipush 12, 2) := by decide +kernel
theorem dX6_lots_105 : decode cX6_lots 105 = .ok (.invokevirtual 143, 3) := by decide +kernel
theorem dX6_lots_108 : decode cX6_lots 108 = .ok (.iload 5, 2) := by decide +kernel
theorem dX6_lots_110 : decode cX6_lots 110 = .ok (.iload_n 3, 1) := by decide +kernel
theorem dX6_lots_111 : decode cX6_lots 111 = .ok (.ifCond .ne 13, 3) := by decide +kernel
theorem dX6_lots_114 : decode cX6_lots 114 = .ok (.aload_n 0, 1) := by decide +kernel
theorem dX6_lots_115 : decode cX6_lots 115 = .ok (.getfield 101, 3) := by decide +kernel
theorem dX6_lots_118 : decode cX6_lots 118 = .ok (.iload 6, 2) := by decide +kernel
theorem dX6_lots_120 : decode cX6_lots 120 = .ok (.isub, 1) := by decide +kernel
theorem dX6_lots_121 : decode cX6_lots 121 = .ok (.goto 7, 3) := by decide +kernel
theorem dX6_lots_124 : decode cX6_lots 124 = .ok (.aload_n 0, 1) := by decide +kernel
theorem dX6_lots_125 : decode cX6_lots 125 = .ok (.invokevirtual 209, 3) := by decide +kernel
theorem dX6_lots_128 : decode cX6_lots 128 = .ok (.iadd, 1) := by decide +kernel
theorem dX6_lots_129 : decode cX6_lots 129 = .ok (.istore 5, 2) := by decide +kernel
theorem dX6_lots_131 : decode cX6_lots 131 = .ok (.aload_n 0, 1) := by decide +kernel
theorem dX6_lots_132 : decode cX6_lots 132 = .ok (.invokevirtual 165, 3) := by decide +kernel
theorem dX6_lots_135 : decode cX6_lots 135 = .ok (.iinc 7 1, 3) := by decide +kernel
theorem dX6_lots_138 : decode cX6_lots 138 = .ok (.goto (-86), 3) := by decide +kernel
theorem dX6_lots_141 : decode cX6_lots 141 = .ok (.iload 5, 2) := by decide +kernel
theorem dX6_lots_143 : decode cX6_lots 143 = .ok (.ireturn, 1) := by decide +kernel
theorem dX6_count_0 : decode cX6_count 0 = .ok (.aload_n 0, 1) := by decide +kernel
theorem dX6_count_1 : decode cX6_count 1 = .ok (.iconst 0, 1) := by decide +kernel
theorem dX6_count_2 : decode cX6_count 2 = .ok (.putfield 58, 3) := by decide +kernel
theorem dX6_count_5 : decode cX6_count 5 = .ok (.iload_n 1, 1) := by decide +kernel
theorem dX6_count_6 : decode cX6_count 6 = .ok (.tableswitch 95 0 8 #[50, 55, 60, 65, 70, 75, 80, 85, 90], 50) := by decide +kernel
theorem dX6_count_56 : decode cX6_count 56 = .ok (.aload_n 0, 1) := by decide +kernel
theorem dX6_count_57 : decode cX6_count 57 = .ok (.getfield 62, 3) := by decide +kernel
theorem dX6_count_60 : decode cX6_count 60 = .ok (.ireturn, 1) := by decide +kernel
theorem dX6_count_61 : decode cX6_count 61 = .ok (.aload_n 0, 1) := by decide +kernel
theorem dX6_count_62 : decode cX6_count 62 = .ok (.getfield 76, 3) := by decide +kernel
theorem dX6_count_65 : decode cX6_count 65 = .ok (.ireturn, 1) := by decide +kernel
theorem dX6_count_66 : decode cX6_count 66 = .ok (.aload_n 0, 1) := by decide +kernel
theorem dX6_count_67 : decode cX6_count 67 = .ok (.getfield 101, 3) := by decide +kernel
theorem dX6_count_70 : decode cX6_count 70 = .ok (.ireturn, 1) := by decide +kernel
theorem dX6_count_71 : decode cX6_count 71 = .ok (.aload_n 0, 1) := by decide +kernel
theorem dX6_count_72 : decode cX6_count 72 = .ok (.getfield 83, 3) := by decide +kernel
theorem dX6_count_75 : decode cX6_count 75 = .ok (.ireturn, 1) := by decide +kernel
theorem dX6_count_76 : decode cX6_count 76 = .ok (.aload_n 0, 1) := by decide +kernel
theorem dX6_count_77 : decode cX6_count 77 = .ok (.getfield 73, 3) := by decide +kernel
theorem dX6_count_80 : decode cX6_count 80 = .ok (.ireturn, 1) := by decide +kernel
theorem dX6_count_81 : decode cX6_count 81 = .ok (.aload_n 0, 1) := by decide +kernel
theorem dX6_count_82 : decode cX6_count 82 = .ok (.invokevirtual 209, 3) := by decide +kernel
theorem dX6_count_85 : decode cX6_count 85 = .ok (.ireturn, 1) := by decide +kernel
theorem dX6_count_86 : decode cX6_count 86 = .ok (.aload_n 0, 1) := by decide +kernel
theorem dX6_count_87 : decode cX6_count 87 = .ok (.getfield 111, 3) := by decide +kernel
theorem dX6_count_90 : decode cX6_count 90 = .ok (.ireturn, 1) := by decide +kernel
theorem dX6_count_91 : decode cX6_count 91 = .ok (.aload_n 0, 1) := by decide +kernel
theorem dX6_count_92 : decode cX6_count 92 = .ok (.getfield 234, 3) := by decide +kernel
theorem dX6_count_95 : decode cX6_count 95 = .ok (.ireturn, 1) := by decide +kernel
theorem dX6_count_96 : decode cX6_count 96 = .ok (.aload_n 0, 1) := by decide +kernel
theorem dX6_count_97 : decode cX6_count 97 = .ok (.getfield 168, 3) := by decide +kernel
theorem dX6_count_100 : decode cX6_count 100 = .ok (.ireturn, 1) := by decide +kernel
theorem dX6_count_101 : decode cX6_count 101 = .ok (.iload_n 1, 1) := by decide +kernel
theorem dX6_count_102 : decode cX6_count 102 = .ok (.i2l, 1) := by decide +kernel
theorem dX6_count_103 : decode cX6_count 103 = .ok (.ldc2_w 275, 3) := by decide +kernel
theorem dX6_count_106 : decode cX6_count 106 = .ok (.ldc2_w 277, 3) := by decide +kernel
theorem dX6_count_109 : decode cX6_count 109 = .ok (.invokestatic 65, 3) := by decide +kernel
theorem dX6_count_112 : decode cX6_count 112 = .ok (.ifCond .eq 15, 3) := by decide +kernel
theorem dX6_count_115 : decode cX6_count 115 = .ok (.aload_n 0, 1) := by decide +kernel
theorem dX6_count_116 : decode cX6_count 116 = .ok (.getfield 22, 3) := by decide +kernel
theorem dX6_count_119 : decode cX6_count 119 = .ok (.iload_n 1, 1) := by decide +kernel
theorem dX6_count_120 : decode cX6_count 120 = .ok (.bipush 10, 2) := by decide +kernel
theorem dX6_count_122 : decode cX6_count 122 = .ok (.isub, 1) := by decide +kernel
theorem dX6_count_123 : decode cX6_count 123 = .ok (.iaload, 1) := by decide +kernel
theorem dX6_count_124 : decode cX6_count 124 = .ok (.goto 5, 3) := by decide +kernel
theorem dX6_count_127 : decode cX6_count 127 = .ok (.bipush (-9), 2) := by decide +kernel
theorem dX6_count_129 : decode cX6_count 129 = .ok (.ireturn, 1) := by decide +kernel
end
section
/-! worlds in groups: a world is a list of groups of cells, and what a method needs is some of the groups -/
abbrev tyL (cI cQ : ClassId) : List (ClassId × FieldType) := [(cI, .int), (cQ, .object "Percolated$Parish")]
def wsY (y : MethodName) (cc : ByteArray) (n : Nat) (r : Option FieldType) : List Cond := .code y cc n r :: gTbl
abbrev rmL (f k n lo : Nat) : Room := { frames := f, cells := k, slots := n, locals := lo }
theorem goodY {y : MethodName} {cc : ByteArray} {n : Nat} {r : Option FieldType} (h : Cond.code y cc n r ∈ gTbl) : GoodIn gTbl (wsY y cc n r) := fun w hw => by
  rcases List.mem_cons.mp hw with rfl | hw
  · exact ⟨h, good_of_word (gTbl_good _ h)⟩
  · exact ⟨hw, good_of_word (gTbl_good _ hw)⟩
theorem vP_mem {D : va_G} {cl : List vw_C} {ws : va_W} {H : Heap} (h : va_P D cl ws H) {q : Nat × va_E} (hq : q ∈ ws) : va_at D cl q H := by
  obtain ⟨i, hi⟩ := List.getElem?_of_mem hq
  exact h i q hi
theorem vP_of {D : va_G} {cl : List vw_C} {ws : va_W} {H : Heap} (h : ∀ q, q ∈ ws → va_at D cl q H) : va_P D cl ws H := fun _ q hk => h q (List.mem_of_getElem? hk)
theorem vP_perm {D : va_G} {cl : List vw_C} {ws ws' : va_W} {H : Heap} (hp : ws.Perm ws') (h : va_P D cl ws H) : va_P D cl ws' H := vP_of fun _ hq => vP_mem h (hp.mem_iff.mpr hq)
theorem vD_iff {A : Nat → Prop} {ws : va_W} : va_D A ws ↔ ws.Pairwise (fun a b => a.1 ≠ b.1) ∧ ∀ q, q ∈ ws → A q.1 := by
  constructor
  · intro h
    refine ⟨List.pairwise_iff_getElem.mpr fun i j hi hj hij e => ?_, fun q hq => ?_⟩
    · have := h.1 i j ws[i] ws[j] (List.getElem?_eq_getElem hi) (List.getElem?_eq_getElem hj) e
      omega
    · obtain ⟨i, hi⟩ := List.getElem?_of_mem hq
      exact h.2 i q hi
  · intro h
    refine ⟨fun i j p q hi hj e => ?_, fun k q hk => h.2 q (List.mem_of_getElem? hk)⟩
    obtain ⟨hi1, rfl⟩ := List.getElem?_eq_some_iff.mp hi
    obtain ⟨hj1, rfl⟩ := List.getElem?_eq_some_iff.mp hj
    have h1 := List.pairwise_iff_getElem.mp h.1
    rcases Nat.lt_trichotomy i j with z | z | z
    · exact absurd e (h1 i j hi1 hj1 z)
    · exact z
    · exact absurd e.symm (h1 j i hj1 hi1 z)
theorem vD_perm {A : Nat → Prop} {ws ws' : va_W} (hp : ws.Perm ws') (h : va_D A ws) : va_D A ws' := by
  obtain ⟨h1, h2⟩ := vD_iff.mp h
  exact vD_iff.mpr ⟨(hp.pairwise_iff (fun h e => h e.symm)).mp h1, fun q hq => h2 q (hp.mem_iff.mpr hq)⟩
theorem vD_left {A : Nat → Prop} {w1 w2 : va_W} (h : va_D A (w1 ++ w2)) : va_D A w1 := by
  obtain ⟨h1, h2⟩ := vD_iff.mp h
  exact vD_iff.mpr ⟨(List.pairwise_append.mp h1).1, fun q hq => h2 q (List.mem_append_left _ hq)⟩
theorem vP_left {D : va_G} {cl : List vw_C} {w1 w2 : va_W} {H : Heap} (h : va_P D cl (w1 ++ w2) H) : va_P D cl w1 H := vP_of fun _ hq => vP_mem h (List.mem_append_left _ hq)
/-- the callee's cells beside the rest, which is unchanged -/
theorem vJoin {A0 : Nat → Prop} {D : va_G} {cl : List vw_C} {wc wr w1 : va_W} {H H1 : Heap} (hP : va_P D cl (wc ++ wr) H) (hD : va_D A0 (wc ++ wr)) (hk : ∀ q : Nat, q < H.size → ¬ va_A wc H.size q → H1[q]? = H[q]?) (hF : ∀ q, va_A wc H.size q → A0 q) (hP1 : va_P D cl w1 H1) (hD1 : va_D (va_A wc H.size) w1) : va_P D cl (w1 ++ wr) H1 ∧ va_D A0 (w1 ++ wr) := by
  obtain ⟨d1, d2⟩ := vD_iff.mp hD
  obtain ⟨e1, e2⟩ := vD_iff.mp hD1
  obtain ⟨p1, p2, p3⟩ := List.pairwise_append.mp d1
  have apart : ∀ q, q ∈ wr → q.1 < H.size ∧ ¬ va_A wc H.size q.1 := by
    intro q hq
    have hl := (vP_mem hP (List.mem_append_right _ hq)).lt
    refine ⟨hl, fun h => ?_⟩
    rcases h with ⟨k, e, h⟩ | h
    · exact p3 _ (List.mem_of_getElem? h) _ hq rfl
    · omega
  refine ⟨vP_of fun q hq => ?_, vD_iff.mpr ⟨List.pairwise_append.mpr ⟨e1, p2, fun a ha b hb e => ?_⟩, fun q hq => ?_⟩⟩
  · rcases List.mem_append.mp hq with h | h
    · exact vP_mem hP1 h
    · exact (vP_mem hP (List.mem_append_right _ h)).kept (hk q.1 (apart q h).1 (apart q h).2)
  · exact (apart b hb).2 (by rw [← e]; exact e2 a ha)
  · rcases List.mem_append.mp hq with h | h
    · exact hF _ (e2 q h)
    · exact d2 q (List.mem_append_right _ h)
theorem range_eq {n : Nat} {α : Type} (l : List α) (h : l.length = n) : (List.range n).filterMap (fun i => l[i]?) = l := by
  subst h
  induction l with
  | nil => rfl
  | cons a l ih =>
    rw [List.length_cons, List.range_succ_eq_map, List.filterMap_cons]
    simp only [List.getElem?_cons_zero, List.filterMap_map]
    exact congrArg (a :: ·) ih
theorem perm_idx {α : Type} {l l' : List α} (is : List Nat) (hp : is.isPerm (List.range l.length) = true) (hs : is.filterMap (fun i => l[i]?) = l') : l.Perm l' := by
  have h1 := (List.isPerm_iff.mp hp).filterMap (fun i => l[i]?)
  rw [hs, range_eq l rfl] at h1
  exact h1.symm
theorem flat_perm {gs gc gr : List va_W} (is : List Nat) (hp : is.isPerm (List.range gs.length) = true) (hs : is.filterMap (fun i => gs[i]?) = gc ++ gr) : gs.flatten.Perm (gc.flatten ++ gr.flatten) := by
  rw [← List.flatten_append]
  exact (perm_idx is hp hs).flatten
theorem flat_at {x : Nat × va_E} : ∀ (gs : List va_W) (i j : Nat) (g : va_W), gs[i]? = some g → g[j]? = some x → ∃ k : Nat, gs.flatten[k]? = some x ∧ ∀ y, (gs.set i (g.set j y)).flatten = gs.flatten.set k y
  | [], i, j, g, h, _ => by simp at h
  | g0 :: gs, 0, j, g, h, hj => by
    rw [List.getElem?_cons_zero] at h
    cases h
    have hl := (List.getElem?_eq_some_iff.mp hj).1
    refine ⟨j, by rw [List.flatten_cons, List.getElem?_append_left hl]; exact hj, fun y => ?_⟩
    rw [List.set_cons_zero, List.flatten_cons, List.flatten_cons, List.set_append, if_pos hl]
  | g0 :: gs, i + 1, j, g, h, hj => by
    rw [List.getElem?_cons_succ] at h
    obtain ⟨k, h1, h2⟩ := flat_at gs i j g h hj
    refine ⟨g0.length + k, ?_, fun y => ?_⟩
    · rw [List.flatten_cons, List.getElem?_append_right (by omega), Nat.add_sub_cancel_left]
      exact h1
    · rw [List.set_cons_succ, List.flatten_cons, List.flatten_cons, h2 y, List.set_append, if_neg (by omega), Nat.add_sub_cancel_left]
theorem va_A_perm {w w' : va_W} {sz q : Nat} (hp : w.Perm w') (h : va_A w sz q) : va_A w' sz q := by
  rcases h with ⟨k, e, h⟩ | h
  · obtain ⟨i, hi⟩ := List.getElem?_of_mem (hp.mem_iff.mp (List.mem_of_getElem? h))
    exact Or.inl ⟨i, e, hi⟩
  · exact Or.inr h
theorem va_A_D {A : Nat → Prop} {w : va_W} {sz : Nat} (hD : va_D A w) (hA : ∀ q, sz ≤ q → A q) {q : Nat} (h : va_A w sz q) : A q := by
  rcases h with ⟨k, e, h⟩ | h
  · exact hD.2 k _ h
  · exact hA q h
/-! the words of the answer: a method's start and end over groups -/
def xB (D : va_G) (tys : List (ClassId × FieldType)) (A : Nat → Prop) (gs : List va_W) (t : State) : Prop := va_P D vwCl gs.flatten t.heap ∧ va_K D vwCl tys t ∧ va_D A gs.flatten
def xP (D : va_G) (tys : List (ClassId × FieldType)) (av : List Value) (gs : List va_W) (sz : Nat) (P : Prop) : Array Value → State → Prop := va_Pc av (fun U => U.heap.size = sz ∧ xB D tys (fun _ => True) gs U ∧ P)
theorem xB_moved {D : va_G} {tys : List (ClassId × FieldType)} {A : Nat → Prop} {gs : List va_W} {u U : State} (hvm : u.vm.Alike U.vm) (hh : U.heap = u.heap) (h : xB D tys A gs u) : xB D tys A gs U := ⟨by rw [hh]; exact h.1, va_K.moved hvm h.2.1, h.2.2⟩
theorem xP_blind {D : va_G} {tys : List (ClassId × FieldType)} {av : List Value} {gs : List va_W} {sz : Nat} {P : Prop} : FrameBlind (xP D tys av gs sz P) := fun a U g mk q => by
  obtain ⟨q0, q1, qB, qP⟩ := q
  exact ⟨q0, q1, xB_moved (u := U) (U := U.calling g mk a) (Vm.Alike.refl U.vm) rfl qB, qP⟩
/-- loops, joins -/
def lpN {σ : Type} (F : (σ → Prop) → σ → Prop) : Nat → σ → Prop
  | 0, _ => False
  | n + 1, s => F (lpN F n) s
theorem lpN_ind {σ : Type} {F : (σ → Prop) → σ → Prop} {G : σ → Prop} (h : ∀ (K : σ → Prop) (s : σ), (∀ s', K s' → G s') → F K s → G s) : ∀ (n : Nat) (s : σ), lpN F n s → G s
  | 0, _, hw => hw.elim
  | n + 1, s, hw => h (lpN F n) s (lpN_ind h n) hw
/-- a loop's end by a measure and an invariant -/
theorem lpN_ok {σ : Type} {F : (σ → Prop) → σ → Prop} (I : Nat → σ → Prop) (h : ∀ (K : σ → Prop) (m : Nat) (s : σ), I m s → (∀ m' s', m' < m → I m' s' → K s') → F K s) : ∀ (n m : Nat) (s : σ), m < n → I m s → lpN F n s
  | 0, _, _, hm, _ => absurd hm (Nat.not_lt_zero _)
  | n + 1, m, s, hm, hi => h (lpN F n) m s hi (fun m' s' h1 h2 => lpN_ok I h n m' s' (by omega) h2)
def jn {α : Type} (r : α → Prop) (F : (α → Prop) → Prop) : Prop := F r
theorem jn_el {α : Type} {r : α → Prop} {F : (α → Prop) → Prop} {Goal : Prop} (h : jn r F) (G : α → Prop) (h1 : ∀ x, r x → G x) (h2 : ∀ J : α → Prop, (∀ x, J x → G x) → F J → Goal) : Goal := h2 r h1 h
def nm {α : Type} (e : α) (F : α → Prop) : Prop := F e
theorem nm_el {α : Type} {e : α} {F : α → Prop} {Goal : Prop} (h : nm e F) (k : ∀ v, v = e → F v → Goal) : Goal := k e rfl h
theorem nm_in {α : Type} {e : α} {F : α → Prop} (k : ∀ v, v = e → F v) : nm e F := k e rfl
end
section
def xC (p : Program) (s : State) (m : MethodId) (args : Array Value) (c : Code) (cc : ByteArray) (own : String) (nL : Nat) (D : va_G) (tys : List (ClassId × FieldType)) (A : Nat → Prop) : Prop :=
  CallFix p m c cc nL s args gTbl own ∧ va_K D vwCl tys s ∧ ∀ q, s.heap.size ≤ q → A q
def xG (p : Program) (l : Launch) (e : Env) (R : Room) (s : State) (m : MethodId) (args : Array Value) (below : List Frame) (meth : Method) (c : Code) (D : va_G) (A : Nat → Prop) (nL : Nat) (Q : State → Prop) (kc ks pc : Nat) (st : List Value) (gs : List va_W) (lv : List (Nat × Value)) : Prop :=
  ∀ (H : Heap) (locs : List Loc), va_P D vwCl gs.flatten H → va_D A gs.flatten → va_S A s.heap H locs → ∀ ls : Array Slot, lv_has ls nL lv → W p l e R s m args below meth c H locs kc ks Q (F0 m pc ls st)
section XL
variable {p : Program} {l : Launch} {e : Env} {R : Room} {s : State} {m : MethodId} {args : Array Value} {below : List Frame} {meth : Method} {c : Code} {cc : ByteArray} {own : String} {nL : Nat} {D : va_G} {tys : List (ClassId × FieldType)} {A : Nat → Prop} {Q : State → Prop} {kc ks pc pc' : Nat} {st : List Value} {gs : List va_W} {lv lv' : List (Nat × Value)}
theorem g_iconst {n : Int} {v : Int32} (C : xC p s m args c cc own nL D tys A) (d : decode cc pc = .ok (.iconst n, 1)) (hv : Int32.ofInt n = v) (hp : pc + 1 = pc') (k : xG p l e R s m args below meth c D A nL Q kc ks pc' (.int v :: st) gs lv) : xG p l e R s m args below meth c D A nL Q kc ks pc (st) gs lv := by
  subst hp
  intro H locs hP hD hS ls hl
  exact lv_iconst C.1.1 C.1.2.1 d hv (k H locs hP hD hS ls hl)
theorem g_bipush {n : Int} {v : Int32} (C : xC p s m args c cc own nL D tys A) (d : decode cc pc = .ok (.bipush n, 2)) (hv : (Int8.ofInt n).toInt32 = v) (hp : pc + 2 = pc') (k : xG p l e R s m args below meth c D A nL Q kc ks pc' (.int v :: st) gs lv) : xG p l e R s m args below meth c D A nL Q kc ks pc (st) gs lv := by
  subst hp
  intro H locs hP hD hS ls hl
  exact lv_bipush C.1.1 C.1.2.1 d hv (k H locs hP hD hS ls hl)
theorem g_sipush {n : Int} {v : Int32} (C : xC p s m args c cc own nL D tys A) (d : decode cc pc = .ok (.sipush n, 3)) (hv : (Int16.ofInt n).toInt32 = v) (hp : pc + 3 = pc') (k : xG p l e R s m args below meth c D A nL Q kc ks pc' (.int v :: st) gs lv) : xG p l e R s m args below meth c D A nL Q kc ks pc (st) gs lv := by
  subst hp
  intro H locs hP hD hS ls hl
  exact lv_sipush C.1.1 C.1.2.1 d hv (k H locs hP hD hS ls hl)
theorem g_lconst {n : Fin 2} {v : Int64} (C : xC p s m args c cc own nL D tys A) (d : decode cc pc = .ok (.lconst n, 1)) (hv : Int64.ofNat (n : Nat) = v) (hp : pc + 1 = pc') (k : xG p l e R s m args below meth c D A nL Q kc ks pc' (.long v :: st) gs lv) : xG p l e R s m args below meth c D A nL Q kc ks pc (st) gs lv := by
  subst hp
  intro H locs hP hD hS ls hl
  exact lv_lconst C.1.1 C.1.2.1 d hv (k H locs hP hD hS ls hl)
theorem g_ldc {ix : Nat} {v : Int32} (C : xC p s m args c cc own nL D tys A) (d : decode cc pc = .ok (.ldc ix, 2)) (hm : Cond.constant own ix v ∈ gTbl) (hp : pc + 2 = pc') (k : xG p l e R s m args below meth c D A nL Q kc ks pc' (.int v :: st) gs lv) : xG p l e R s m args below meth c D A nL Q kc ks pc (st) gs lv := by
  subst hp
  intro H locs hP hD hS ls hl
  exact lv_ldc C.1.1 C.1.2.1 C.1.2.2.2.1 (C.1.2.2.2.2 _ hm) d (k H locs hP hD hS ls hl)
theorem g_ldcw {ix : Nat} {v : Int32} (C : xC p s m args c cc own nL D tys A) (d : decode cc pc = .ok (.ldc_w ix, 3)) (hm : Cond.constant own ix v ∈ gTbl) (hp : pc + 3 = pc') (k : xG p l e R s m args below meth c D A nL Q kc ks pc' (.int v :: st) gs lv) : xG p l e R s m args below meth c D A nL Q kc ks pc (st) gs lv := by
  subst hp
  intro H locs hP hD hS ls hl
  exact lv_ldcw C.1.1 C.1.2.1 C.1.2.2.2.1 (C.1.2.2.2.2 _ hm) d (k H locs hP hD hS ls hl)
theorem g_ldc2 {ix : Nat} {v : Int64} (C : xC p s m args c cc own nL D tys A) (d : decode cc pc = .ok (.ldc2_w ix, 3)) (hm : Cond.constantLong own ix v ∈ gTbl) (hp : pc + 3 = pc') (k : xG p l e R s m args below meth c D A nL Q kc ks pc' (.long v :: st) gs lv) : xG p l e R s m args below meth c D A nL Q kc ks pc (st) gs lv := by
  subst hp
  intro H locs hP hD hS ls hl
  exact lv_ldc2 C.1.1 C.1.2.1 C.1.2.2.2.1 (C.1.2.2.2.2 _ hm) d (k H locs hP hD hS ls hl)
theorem g_iload_n {k0 : Fin 4} {x : Int32} (C : xC p s m args c cc own nL D tys A) (d : decode cc pc = .ok (.iload_n k0, 1)) (j : Nat) (hj : lv[j]? = some ((k0 : Nat), .int x)) (hp : pc + 1 = pc') (k : xG p l e R s m args below meth c D A nL Q kc ks pc' (.int x :: st) gs lv) : xG p l e R s m args below meth c D A nL Q kc ks pc (st) gs lv := by
  subst hp
  intro H locs hP hD hS ls hl
  exact lv_iload_n C.1.1 C.1.2.1 d rfl (lv_at hl j hj) (k H locs hP hD hS ls hl)
theorem g_iload {i : Nat} {x : Int32} (C : xC p s m args c cc own nL D tys A) (d : decode cc pc = .ok (.iload i, 2)) (j : Nat) (hj : lv[j]? = some (i, .int x)) (hp : pc + 2 = pc') (k : xG p l e R s m args below meth c D A nL Q kc ks pc' (.int x :: st) gs lv) : xG p l e R s m args below meth c D A nL Q kc ks pc (st) gs lv := by
  subst hp
  intro H locs hP hD hS ls hl
  exact lv_iload C.1.1 C.1.2.1 d (lv_at hl j hj) (k H locs hP hD hS ls hl)
theorem g_istore_n {k0 : Fin 4} {x v : Int32} (C : xC p s m args c cc own nL D tys A) (d : decode cc pc = .ok (.istore_n k0, 1)) (hv : x = v) (hn : (k0 : Nat) < nL) (hl1 : ((k0 : Nat), Value.int v) :: lv.filter (fun q => !(q.1 == (k0 : Nat)) && !(q.1 + 1 == (k0 : Nat) && q.2.category == 2)) = lv') (hp : pc + 1 = pc') (k : xG p l e R s m args below meth c D A nL Q kc ks pc' (st) gs lv') : xG p l e R s m args below meth c D A nL Q kc ks pc (.int x :: st) gs lv := by
  subst hp
  intro H locs hP hD hS ls hl
  subst hv
  exact lv_istore_n C.1.1 C.1.2.1 d rfl hl hn hl1 (fun ls hl => k H locs hP hD hS ls hl)
theorem g_istore {i : Nat} {x v : Int32} (C : xC p s m args c cc own nL D tys A) (d : decode cc pc = .ok (.istore i, 2)) (hv : x = v) (hn : i < nL) (hl1 : (i, Value.int v) :: lv.filter (fun q => !(q.1 == i) && !(q.1 + 1 == i && q.2.category == 2)) = lv') (hp : pc + 2 = pc') (k : xG p l e R s m args below meth c D A nL Q kc ks pc' (st) gs lv') : xG p l e R s m args below meth c D A nL Q kc ks pc (.int x :: st) gs lv := by
  subst hp
  intro H locs hP hD hS ls hl
  subst hv
  exact lv_istore C.1.1 C.1.2.1 d hl hn hl1 (fun ls hl => k H locs hP hD hS ls hl)
theorem g_lload_n {k0 : Fin 4} {x : Int64} (C : xC p s m args c cc own nL D tys A) (d : decode cc pc = .ok (.lload_n k0, 1)) (j : Nat) (hj : lv[j]? = some ((k0 : Nat), .long x)) (hp : pc + 1 = pc') (k : xG p l e R s m args below meth c D A nL Q kc ks pc' (.long x :: st) gs lv) : xG p l e R s m args below meth c D A nL Q kc ks pc (st) gs lv := by
  subst hp
  intro H locs hP hD hS ls hl
  exact lv_lload_n C.1.1 C.1.2.1 d rfl (lv_at hl j hj) (k H locs hP hD hS ls hl)
theorem g_lload {i : Nat} {x : Int64} (C : xC p s m args c cc own nL D tys A) (d : decode cc pc = .ok (.lload i, 2)) (j : Nat) (hj : lv[j]? = some (i, .long x)) (hp : pc + 2 = pc') (k : xG p l e R s m args below meth c D A nL Q kc ks pc' (.long x :: st) gs lv) : xG p l e R s m args below meth c D A nL Q kc ks pc (st) gs lv := by
  subst hp
  intro H locs hP hD hS ls hl
  exact lv_lload C.1.1 C.1.2.1 d (lv_at hl j hj) (k H locs hP hD hS ls hl)
theorem g_lstore_n {k0 : Fin 4} {x v : Int64} (C : xC p s m args c cc own nL D tys A) (d : decode cc pc = .ok (.lstore_n k0, 1)) (hv : x = v) (hn : (k0 : Nat) + 1 < nL) (hl1 : ((k0 : Nat), Value.long v) :: lv.filter (fun q => !(q.1 == (k0 : Nat)) && (!(q.1 == (k0 : Nat) + 1) && !(q.1 + 1 == (k0 : Nat) && q.2.category == 2))) = lv') (hp : pc + 1 = pc') (k : xG p l e R s m args below meth c D A nL Q kc ks pc' (st) gs lv') : xG p l e R s m args below meth c D A nL Q kc ks pc (.long x :: st) gs lv := by
  subst hp
  intro H locs hP hD hS ls hl
  subst hv
  exact lv_lstore_n C.1.1 C.1.2.1 d rfl hl hn hl1 (fun ls hl => k H locs hP hD hS ls hl)
theorem g_lstore {i : Nat} {x v : Int64} (C : xC p s m args c cc own nL D tys A) (d : decode cc pc = .ok (.lstore i, 2)) (hv : x = v) (hn : i + 1 < nL) (hl1 : (i, Value.long v) :: lv.filter (fun q => !(q.1 == i) && (!(q.1 == i + 1) && !(q.1 + 1 == i && q.2.category == 2))) = lv') (hp : pc + 2 = pc') (k : xG p l e R s m args below meth c D A nL Q kc ks pc' (st) gs lv') : xG p l e R s m args below meth c D A nL Q kc ks pc (.long x :: st) gs lv := by
  subst hp
  intro H locs hP hD hS ls hl
  subst hv
  exact lv_lstore C.1.1 C.1.2.1 d hl hn hl1 (fun ls hl => k H locs hP hD hS ls hl)
theorem g_aload_n {k0 : Fin 4} {x : Nat} (C : xC p s m args c cc own nL D tys A) (d : decode cc pc = .ok (.aload_n k0, 1)) (j : Nat) (hj : lv[j]? = some ((k0 : Nat), .ref x)) (hp : pc + 1 = pc') (k : xG p l e R s m args below meth c D A nL Q kc ks pc' (.ref x :: st) gs lv) : xG p l e R s m args below meth c D A nL Q kc ks pc (st) gs lv := by
  subst hp
  intro H locs hP hD hS ls hl
  exact lv_aload_n C.1.1 C.1.2.1 d rfl (lv_at hl j hj) (k H locs hP hD hS ls hl)
theorem g_astore_n {k0 : Fin 4} {x : Nat} (C : xC p s m args c cc own nL D tys A) (d : decode cc pc = .ok (.astore_n k0, 1)) (hn : (k0 : Nat) < nL) (hl1 : ((k0 : Nat), Value.ref x) :: lv.filter (fun q => !(q.1 == (k0 : Nat)) && !(q.1 + 1 == (k0 : Nat) && q.2.category == 2)) = lv') (hp : pc + 1 = pc') (k : xG p l e R s m args below meth c D A nL Q kc ks pc' (st) gs lv') : xG p l e R s m args below meth c D A nL Q kc ks pc (.ref x :: st) gs lv := by
  subst hp
  intro H locs hP hD hS ls hl
  exact lv_astore_n C.1.1 C.1.2.1 d rfl hl hn hl1 (fun ls hl => k H locs hP hD hS ls hl)
theorem g_iinc {i j : Nat} {n : Int} {x v : Int32} (C : xC p s m args c cc own nL D tys A) (d : decode cc pc = .ok (.iinc i n, 3)) (hj : lv[j]? = some (i, .int x)) (hv : x + Int32.ofInt n = v) (hn : i < nL) (hl1 : (i, Value.int v) :: lv.filter (fun q => !(q.1 == i) && !(q.1 + 1 == i && q.2.category == 2)) = lv') (hp : pc + 3 = pc') (k : xG p l e R s m args below meth c D A nL Q kc ks pc' (st) gs lv') : xG p l e R s m args below meth c D A nL Q kc ks pc (st) gs lv := by
  subst hp
  intro H locs hP hD hS ls hl
  exact lv_iinc C.1.1 C.1.2.1 d hl hj hv hn hl1 (fun ls hl => k H locs hP hD hS ls hl)
theorem g_iadd {x y : Int32} (C : xC p s m args c cc own nL D tys A) (d : decode cc pc = .ok (.iadd, 1)) (hp : pc + 1 = pc') (k : xG p l e R s m args below meth c D A nL Q kc ks pc' (.int (x + y) :: st) gs lv) : xG p l e R s m args below meth c D A nL Q kc ks pc (.int y :: .int x :: st) gs lv := by
  subst hp
  intro H locs hP hD hS ls hl
  exact lv_iadd C.1.1 C.1.2.1 d (k H locs hP hD hS ls hl)
theorem g_isub {x y : Int32} (C : xC p s m args c cc own nL D tys A) (d : decode cc pc = .ok (.isub, 1)) (hp : pc + 1 = pc') (k : xG p l e R s m args below meth c D A nL Q kc ks pc' (.int (x - y) :: st) gs lv) : xG p l e R s m args below meth c D A nL Q kc ks pc (.int y :: .int x :: st) gs lv := by
  subst hp
  intro H locs hP hD hS ls hl
  exact lv_isub C.1.1 C.1.2.1 d (k H locs hP hD hS ls hl)
theorem g_imul {x y : Int32} (C : xC p s m args c cc own nL D tys A) (d : decode cc pc = .ok (.imul, 1)) (hp : pc + 1 = pc') (k : xG p l e R s m args below meth c D A nL Q kc ks pc' (.int (x * y) :: st) gs lv) : xG p l e R s m args below meth c D A nL Q kc ks pc (.int y :: .int x :: st) gs lv := by
  subst hp
  intro H locs hP hD hS ls hl
  exact lv_imul C.1.1 C.1.2.1 d (k H locs hP hD hS ls hl)
theorem g_iand {x y : Int32} (C : xC p s m args c cc own nL D tys A) (d : decode cc pc = .ok (.iand, 1)) (hp : pc + 1 = pc') (k : xG p l e R s m args below meth c D A nL Q kc ks pc' (.int (x &&& y) :: st) gs lv) : xG p l e R s m args below meth c D A nL Q kc ks pc (.int y :: .int x :: st) gs lv := by
  subst hp
  intro H locs hP hD hS ls hl
  exact lv_iand C.1.1 C.1.2.1 d (k H locs hP hD hS ls hl)
theorem g_ior {x y : Int32} (C : xC p s m args c cc own nL D tys A) (d : decode cc pc = .ok (.ior, 1)) (hp : pc + 1 = pc') (k : xG p l e R s m args below meth c D A nL Q kc ks pc' (.int (x ||| y) :: st) gs lv) : xG p l e R s m args below meth c D A nL Q kc ks pc (.int y :: .int x :: st) gs lv := by
  subst hp
  intro H locs hP hD hS ls hl
  exact lv_ior C.1.1 C.1.2.1 d (k H locs hP hD hS ls hl)
theorem g_ixor {x y : Int32} (C : xC p s m args c cc own nL D tys A) (d : decode cc pc = .ok (.ixor, 1)) (hp : pc + 1 = pc') (k : xG p l e R s m args below meth c D A nL Q kc ks pc' (.int (x ^^^ y) :: st) gs lv) : xG p l e R s m args below meth c D A nL Q kc ks pc (.int y :: .int x :: st) gs lv := by
  subst hp
  intro H locs hP hD hS ls hl
  exact lv_ixor C.1.1 C.1.2.1 d (k H locs hP hD hS ls hl)
theorem g_ishl {x y : Int32} (C : xC p s m args c cc own nL D tys A) (d : decode cc pc = .ok (.ishl, 1)) (hp : pc + 1 = pc') (k : xG p l e R s m args below meth c D A nL Q kc ks pc' (.int (x <<< (y &&& 31)) :: st) gs lv) : xG p l e R s m args below meth c D A nL Q kc ks pc (.int y :: .int x :: st) gs lv := by
  subst hp
  intro H locs hP hD hS ls hl
  exact lv_ishl C.1.1 C.1.2.1 d (k H locs hP hD hS ls hl)
theorem g_ishr {x y : Int32} (C : xC p s m args c cc own nL D tys A) (d : decode cc pc = .ok (.ishr, 1)) (hp : pc + 1 = pc') (k : xG p l e R s m args below meth c D A nL Q kc ks pc' (.int (x >>> (y &&& 31)) :: st) gs lv) : xG p l e R s m args below meth c D A nL Q kc ks pc (.int y :: .int x :: st) gs lv := by
  subst hp
  intro H locs hP hD hS ls hl
  exact lv_ishr C.1.1 C.1.2.1 d (k H locs hP hD hS ls hl)
theorem g_iushr {x y : Int32} (C : xC p s m args c cc own nL D tys A) (d : decode cc pc = .ok (.iushr, 1)) (hp : pc + 1 = pc') (k : xG p l e R s m args below meth c D A nL Q kc ks pc' (.int (x.toUInt32 >>> (y.toUInt32 &&& Int32.toUInt32 31)).toInt32 :: st) gs lv) : xG p l e R s m args below meth c D A nL Q kc ks pc (.int y :: .int x :: st) gs lv := by
  subst hp
  intro H locs hP hD hS ls hl
  exact lv_iushr C.1.1 C.1.2.1 d rfl (k H locs hP hD hS ls hl)
theorem g_idiv {x y : Int32} (C : xC p s m args c cc own nL D tys A) (d : decode cc pc = .ok (.idiv, 1)) (hne : ¬ y = 0) (hp : pc + 1 = pc') (k : xG p l e R s m args below meth c D A nL Q kc ks pc' (.int (x / y) :: st) gs lv) : xG p l e R s m args below meth c D A nL Q kc ks pc (.int y :: .int x :: st) gs lv := by
  subst hp
  intro H locs hP hD hS ls hl
  exact lv_idiv C.1.1 C.1.2.1 d hne (k H locs hP hD hS ls hl)
theorem g_irem {x y : Int32} (C : xC p s m args c cc own nL D tys A) (d : decode cc pc = .ok (.irem, 1)) (hne : ¬ y = 0) (hp : pc + 1 = pc') (k : xG p l e R s m args below meth c D A nL Q kc ks pc' (.int (x - x / y * y) :: st) gs lv) : xG p l e R s m args below meth c D A nL Q kc ks pc (.int y :: .int x :: st) gs lv := by
  subst hp
  intro H locs hP hD hS ls hl
  exact lv_irem C.1.1 C.1.2.1 d hne (k H locs hP hD hS ls hl)
theorem g_ineg {x : Int32} (C : xC p s m args c cc own nL D tys A) (d : decode cc pc = .ok (.ineg, 1)) (hp : pc + 1 = pc') (k : xG p l e R s m args below meth c D A nL Q kc ks pc' (.int (-x) :: st) gs lv) : xG p l e R s m args below meth c D A nL Q kc ks pc (.int x :: st) gs lv := by
  subst hp
  intro H locs hP hD hS ls hl
  exact lv_ineg C.1.1 C.1.2.1 d (k H locs hP hD hS ls hl)
theorem g_ladd {x y : Int64} (C : xC p s m args c cc own nL D tys A) (d : decode cc pc = .ok (.ladd, 1)) (hp : pc + 1 = pc') (k : xG p l e R s m args below meth c D A nL Q kc ks pc' (.long (x + y) :: st) gs lv) : xG p l e R s m args below meth c D A nL Q kc ks pc (.long y :: .long x :: st) gs lv := by
  subst hp
  intro H locs hP hD hS ls hl
  exact lv_ladd C.1.1 C.1.2.1 d (k H locs hP hD hS ls hl)
theorem g_lsub {x y : Int64} (C : xC p s m args c cc own nL D tys A) (d : decode cc pc = .ok (.lsub, 1)) (hp : pc + 1 = pc') (k : xG p l e R s m args below meth c D A nL Q kc ks pc' (.long (x - y) :: st) gs lv) : xG p l e R s m args below meth c D A nL Q kc ks pc (.long y :: .long x :: st) gs lv := by
  subst hp
  intro H locs hP hD hS ls hl
  exact lv_lsub C.1.1 C.1.2.1 d (k H locs hP hD hS ls hl)
theorem g_lmul {x y : Int64} (C : xC p s m args c cc own nL D tys A) (d : decode cc pc = .ok (.lmul, 1)) (hp : pc + 1 = pc') (k : xG p l e R s m args below meth c D A nL Q kc ks pc' (.long (x * y) :: st) gs lv) : xG p l e R s m args below meth c D A nL Q kc ks pc (.long y :: .long x :: st) gs lv := by
  subst hp
  intro H locs hP hD hS ls hl
  exact lv_lmul C.1.1 C.1.2.1 d (k H locs hP hD hS ls hl)
theorem g_ldiv {x y : Int64} (C : xC p s m args c cc own nL D tys A) (d : decode cc pc = .ok (.ldiv, 1)) (hne : ¬ y = 0) (hp : pc + 1 = pc') (k : xG p l e R s m args below meth c D A nL Q kc ks pc' (.long (x / y) :: st) gs lv) : xG p l e R s m args below meth c D A nL Q kc ks pc (.long y :: .long x :: st) gs lv := by
  subst hp
  intro H locs hP hD hS ls hl
  exact lv_ldiv C.1.1 C.1.2.1 d hne (k H locs hP hD hS ls hl)
theorem g_lrem {x y : Int64} (C : xC p s m args c cc own nL D tys A) (d : decode cc pc = .ok (.lrem, 1)) (hne : ¬ y = 0) (hp : pc + 1 = pc') (k : xG p l e R s m args below meth c D A nL Q kc ks pc' (.long (x - x / y * y) :: st) gs lv) : xG p l e R s m args below meth c D A nL Q kc ks pc (.long y :: .long x :: st) gs lv := by
  subst hp
  intro H locs hP hD hS ls hl
  exact lv_lrem C.1.1 C.1.2.1 d hne (k H locs hP hD hS ls hl)
theorem g_lcmp {x y : Int64} (C : xC p s m args c cc own nL D tys A) (d : decode cc pc = .ok (.lcmp, 1)) (hp : pc + 1 = pc') (k : xG p l e R s m args below meth c D A nL Q kc ks pc' (.int (lg_cmp x y) :: st) gs lv) : xG p l e R s m args below meth c D A nL Q kc ks pc (.long y :: .long x :: st) gs lv := by
  subst hp
  intro H locs hP hD hS ls hl
  exact W.lcmp C.1.1 C.1.2.1 d (k H locs hP hD hS ls hl)
theorem g_i2l {x : Int32} (C : xC p s m args c cc own nL D tys A) (d : decode cc pc = .ok (.i2l, 1)) (hp : pc + 1 = pc') (k : xG p l e R s m args below meth c D A nL Q kc ks pc' (.long x.toInt64 :: st) gs lv) : xG p l e R s m args below meth c D A nL Q kc ks pc (.int x :: st) gs lv := by
  subst hp
  intro H locs hP hD hS ls hl
  exact lv_i2l C.1.1 C.1.2.1 d rfl (k H locs hP hD hS ls hl)
theorem g_dup {va : Value} (C : xC p s m args c cc own nL D tys A) (d : decode cc pc = .ok (.dup, 1)) (ha : va.category = 1) (hp : pc + 1 = pc') (k : xG p l e R s m args below meth c D A nL Q kc ks pc' (va :: va :: st) gs lv) : xG p l e R s m args below meth c D A nL Q kc ks pc (va :: st) gs lv := by
  subst hp
  intro H locs hP hD hS ls hl
  exact lv_dup C.1.1 C.1.2.1 d ha (k H locs hP hD hS ls hl)
theorem g_pop {va : Value} (C : xC p s m args c cc own nL D tys A) (d : decode cc pc = .ok (.pop, 1)) (ha : va.category = 1) (hp : pc + 1 = pc') (k : xG p l e R s m args below meth c D A nL Q kc ks pc' (st) gs lv) : xG p l e R s m args below meth c D A nL Q kc ks pc (va :: st) gs lv := by
  subst hp
  intro H locs hP hD hS ls hl
  exact lv_pop C.1.1 C.1.2.1 d ha (k H locs hP hD hS ls hl)
theorem g_dup2 {va vb : Value} (C : xC p s m args c cc own nL D tys A) (d : decode cc pc = .ok (.dup2, 1)) (ha : va.category = 1) (hb : vb.category = 1) (hp : pc + 1 = pc') (k : xG p l e R s m args below meth c D A nL Q kc ks pc' (va :: vb :: va :: vb :: st) gs lv) : xG p l e R s m args below meth c D A nL Q kc ks pc (va :: vb :: st) gs lv := by
  subst hp
  intro H locs hP hD hS ls hl
  exact lv_dup2_11 C.1.1 C.1.2.1 d ha hb (k H locs hP hD hS ls hl)
theorem g_goto {off : Int} (C : xC p s m args c cc own nL D tys A) (d : decode cc pc = .ok (.goto off, 3)) (ht : (pc : Int) + off = (pc' : Int)) (hp : pc' = pc') (k : xG p l e R s m args below meth c D A nL Q kc ks pc' (st) gs lv) : xG p l e R s m args below meth c D A nL Q kc ks pc (st) gs lv := by
  skip
  intro H locs hP hD hS ls hl
  exact lv_goto C.1.1 C.1.2.1 d ht (k H locs hP hD hS ls hl)
theorem g_ifnonnull {x : Nat} {off : Int} (C : xC p s m args c cc own nL D tys A) (d : decode cc pc = .ok (.ifnonnull off, 3)) (ht : (pc : Int) + off = (pc' : Int)) (hp : pc' = pc') (k : xG p l e R s m args below meth c D A nL Q kc ks pc' (st) gs lv) : xG p l e R s m args below meth c D A nL Q kc ks pc (.ref x :: st) gs lv := by
  skip
  intro H locs hP hD hS ls hl
  exact lv_ifnonnull C.1.1 C.1.2.1 d ht (k H locs hP hD hS ls hl)
theorem g_ifnull {x : Nat} {off : Int} (C : xC p s m args c cc own nL D tys A) (d : decode cc pc = .ok (.ifnull off, 3)) (hp : pc + 3 = pc') (k : xG p l e R s m args below meth c D A nL Q kc ks pc' (st) gs lv) : xG p l e R s m args below meth c D A nL Q kc ks pc (.ref x :: st) gs lv := by
  subst hp
  intro H locs hP hD hS ls hl
  exact lv_ifnull C.1.1 C.1.2.1 d (k H locs hP hD hS ls hl)
theorem g_if_eq {x : Int32} {off : Int} {tgt : Nat} {A1 B1 : Prop} (C : xC p s m args c cc own nL D tys A) (d : decode cc pc = .ok (.ifCond .eq off, 3)) (ht : (pc : Int) + off = (tgt : Int)) (hp : pc + 3 = pc') (hw : (x = 0 → A1) ∧ (¬ x = 0 → B1)) (kt : x = 0 → A1 → xG p l e R s m args below meth c D A nL Q kc ks tgt st gs lv) (kf : ¬ x = 0 → B1 → xG p l e R s m args below meth c D A nL Q kc ks pc' st gs lv) : xG p l e R s m args below meth c D A nL Q kc ks pc (.int x :: st) gs lv := by
  subst hp
  intro H locs hP hD hS ls hl
  exact lv_if_eq C.1.1 C.1.2.1 d ht (fun h => kt h (hw.1 h) H locs hP hD hS ls hl) (fun h => kf h (hw.2 h) H locs hP hD hS ls hl)
theorem g_if_ne {x : Int32} {off : Int} {tgt : Nat} {A1 B1 : Prop} (C : xC p s m args c cc own nL D tys A) (d : decode cc pc = .ok (.ifCond .ne off, 3)) (ht : (pc : Int) + off = (tgt : Int)) (hp : pc + 3 = pc') (hw : (x = 0 → A1) ∧ (¬ x = 0 → B1)) (kt : ¬ x = 0 → B1 → xG p l e R s m args below meth c D A nL Q kc ks tgt st gs lv) (kf : x = 0 → A1 → xG p l e R s m args below meth c D A nL Q kc ks pc' st gs lv) : xG p l e R s m args below meth c D A nL Q kc ks pc (.int x :: st) gs lv := by
  subst hp
  intro H locs hP hD hS ls hl
  exact lv_if_ne C.1.1 C.1.2.1 d ht (fun h => kt h (hw.2 h) H locs hP hD hS ls hl) (fun h => kf h (hw.1 h) H locs hP hD hS ls hl)
theorem g_if_lt {x : Int32} {off : Int} {tgt : Nat} {A1 B1 : Prop} (C : xC p s m args c cc own nL D tys A) (d : decode cc pc = .ok (.ifCond .lt off, 3)) (ht : (pc : Int) + off = (tgt : Int)) (hp : pc + 3 = pc') (hw : (x < 0 → A1) ∧ (¬ x < 0 → B1)) (kt : x < 0 → A1 → xG p l e R s m args below meth c D A nL Q kc ks tgt st gs lv) (kf : ¬ x < 0 → B1 → xG p l e R s m args below meth c D A nL Q kc ks pc' st gs lv) : xG p l e R s m args below meth c D A nL Q kc ks pc (.int x :: st) gs lv := by
  subst hp
  intro H locs hP hD hS ls hl
  exact lv_if_lt C.1.1 C.1.2.1 d ht (fun h => kt h (hw.1 h) H locs hP hD hS ls hl) (fun h => kf h (hw.2 h) H locs hP hD hS ls hl)
theorem g_if_ge {x : Int32} {off : Int} {tgt : Nat} {A1 B1 : Prop} (C : xC p s m args c cc own nL D tys A) (d : decode cc pc = .ok (.ifCond .ge off, 3)) (ht : (pc : Int) + off = (tgt : Int)) (hp : pc + 3 = pc') (hw : (0 ≤ x → A1) ∧ (¬ 0 ≤ x → B1)) (kt : 0 ≤ x → A1 → xG p l e R s m args below meth c D A nL Q kc ks tgt st gs lv) (kf : ¬ 0 ≤ x → B1 → xG p l e R s m args below meth c D A nL Q kc ks pc' st gs lv) : xG p l e R s m args below meth c D A nL Q kc ks pc (.int x :: st) gs lv := by
  subst hp
  intro H locs hP hD hS ls hl
  exact lv_if_ge C.1.1 C.1.2.1 d ht (fun h => kt h (hw.1 h) H locs hP hD hS ls hl) (fun h => kf h (hw.2 h) H locs hP hD hS ls hl)
theorem g_if_gt {x : Int32} {off : Int} {tgt : Nat} {A1 B1 : Prop} (C : xC p s m args c cc own nL D tys A) (d : decode cc pc = .ok (.ifCond .gt off, 3)) (ht : (pc : Int) + off = (tgt : Int)) (hp : pc + 3 = pc') (hw : (0 < x → A1) ∧ (¬ 0 < x → B1)) (kt : 0 < x → A1 → xG p l e R s m args below meth c D A nL Q kc ks tgt st gs lv) (kf : ¬ 0 < x → B1 → xG p l e R s m args below meth c D A nL Q kc ks pc' st gs lv) : xG p l e R s m args below meth c D A nL Q kc ks pc (.int x :: st) gs lv := by
  subst hp
  intro H locs hP hD hS ls hl
  exact lv_if_gt C.1.1 C.1.2.1 d ht (fun h => kt h (hw.1 h) H locs hP hD hS ls hl) (fun h => kf h (hw.2 h) H locs hP hD hS ls hl)
theorem g_if_le {x : Int32} {off : Int} {tgt : Nat} {A1 B1 : Prop} (C : xC p s m args c cc own nL D tys A) (d : decode cc pc = .ok (.ifCond .le off, 3)) (ht : (pc : Int) + off = (tgt : Int)) (hp : pc + 3 = pc') (hw : (x ≤ 0 → A1) ∧ (¬ x ≤ 0 → B1)) (kt : x ≤ 0 → A1 → xG p l e R s m args below meth c D A nL Q kc ks tgt st gs lv) (kf : ¬ x ≤ 0 → B1 → xG p l e R s m args below meth c D A nL Q kc ks pc' st gs lv) : xG p l e R s m args below meth c D A nL Q kc ks pc (.int x :: st) gs lv := by
  subst hp
  intro H locs hP hD hS ls hl
  exact lv_if_le C.1.1 C.1.2.1 d ht (fun h => kt h (hw.1 h) H locs hP hD hS ls hl) (fun h => kf h (hw.2 h) H locs hP hD hS ls hl)
theorem g_icmp_eq {x y : Int32} {off : Int} {tgt : Nat} {A1 B1 : Prop} (C : xC p s m args c cc own nL D tys A) (d : decode cc pc = .ok (.if_icmp .eq off, 3)) (ht : (pc : Int) + off = (tgt : Int)) (hp : pc + 3 = pc') (hw : (x = y → A1) ∧ (¬ x = y → B1)) (kt : x = y → A1 → xG p l e R s m args below meth c D A nL Q kc ks tgt st gs lv) (kf : ¬ x = y → B1 → xG p l e R s m args below meth c D A nL Q kc ks pc' st gs lv) : xG p l e R s m args below meth c D A nL Q kc ks pc (.int y :: .int x :: st) gs lv := by
  subst hp
  intro H locs hP hD hS ls hl
  exact lv_icmp_eq C.1.1 C.1.2.1 d ht (fun h => kt h (hw.1 h) H locs hP hD hS ls hl) (fun h => kf h (hw.2 h) H locs hP hD hS ls hl)
theorem g_icmp_ne {x y : Int32} {off : Int} {tgt : Nat} {A1 B1 : Prop} (C : xC p s m args c cc own nL D tys A) (d : decode cc pc = .ok (.if_icmp .ne off, 3)) (ht : (pc : Int) + off = (tgt : Int)) (hp : pc + 3 = pc') (hw : (x = y → A1) ∧ (¬ x = y → B1)) (kt : ¬ x = y → B1 → xG p l e R s m args below meth c D A nL Q kc ks tgt st gs lv) (kf : x = y → A1 → xG p l e R s m args below meth c D A nL Q kc ks pc' st gs lv) : xG p l e R s m args below meth c D A nL Q kc ks pc (.int y :: .int x :: st) gs lv := by
  subst hp
  intro H locs hP hD hS ls hl
  exact lv_icmp_ne C.1.1 C.1.2.1 d ht (fun h => kt h (hw.2 h) H locs hP hD hS ls hl) (fun h => kf h (hw.1 h) H locs hP hD hS ls hl)
theorem g_icmp_lt {x y : Int32} {off : Int} {tgt : Nat} {A1 B1 : Prop} (C : xC p s m args c cc own nL D tys A) (d : decode cc pc = .ok (.if_icmp .lt off, 3)) (ht : (pc : Int) + off = (tgt : Int)) (hp : pc + 3 = pc') (hw : (x < y → A1) ∧ (¬ x < y → B1)) (kt : x < y → A1 → xG p l e R s m args below meth c D A nL Q kc ks tgt st gs lv) (kf : ¬ x < y → B1 → xG p l e R s m args below meth c D A nL Q kc ks pc' st gs lv) : xG p l e R s m args below meth c D A nL Q kc ks pc (.int y :: .int x :: st) gs lv := by
  subst hp
  intro H locs hP hD hS ls hl
  exact lv_icmp_lt C.1.1 C.1.2.1 d ht (fun h => kt h (hw.1 h) H locs hP hD hS ls hl) (fun h => kf h (hw.2 h) H locs hP hD hS ls hl)
theorem g_icmp_ge {x y : Int32} {off : Int} {tgt : Nat} {A1 B1 : Prop} (C : xC p s m args c cc own nL D tys A) (d : decode cc pc = .ok (.if_icmp .ge off, 3)) (ht : (pc : Int) + off = (tgt : Int)) (hp : pc + 3 = pc') (hw : (y ≤ x → A1) ∧ (¬ y ≤ x → B1)) (kt : y ≤ x → A1 → xG p l e R s m args below meth c D A nL Q kc ks tgt st gs lv) (kf : ¬ y ≤ x → B1 → xG p l e R s m args below meth c D A nL Q kc ks pc' st gs lv) : xG p l e R s m args below meth c D A nL Q kc ks pc (.int y :: .int x :: st) gs lv := by
  subst hp
  intro H locs hP hD hS ls hl
  exact lv_icmp_ge C.1.1 C.1.2.1 d ht (fun h => kt h (hw.1 h) H locs hP hD hS ls hl) (fun h => kf h (hw.2 h) H locs hP hD hS ls hl)
theorem g_icmp_gt {x y : Int32} {off : Int} {tgt : Nat} {A1 B1 : Prop} (C : xC p s m args c cc own nL D tys A) (d : decode cc pc = .ok (.if_icmp .gt off, 3)) (ht : (pc : Int) + off = (tgt : Int)) (hp : pc + 3 = pc') (hw : (y < x → A1) ∧ (¬ y < x → B1)) (kt : y < x → A1 → xG p l e R s m args below meth c D A nL Q kc ks tgt st gs lv) (kf : ¬ y < x → B1 → xG p l e R s m args below meth c D A nL Q kc ks pc' st gs lv) : xG p l e R s m args below meth c D A nL Q kc ks pc (.int y :: .int x :: st) gs lv := by
  subst hp
  intro H locs hP hD hS ls hl
  exact lv_icmp_gt C.1.1 C.1.2.1 d ht (fun h => kt h (hw.1 h) H locs hP hD hS ls hl) (fun h => kf h (hw.2 h) H locs hP hD hS ls hl)
theorem g_icmp_le {x y : Int32} {off : Int} {tgt : Nat} {A1 B1 : Prop} (C : xC p s m args c cc own nL D tys A) (d : decode cc pc = .ok (.if_icmp .le off, 3)) (ht : (pc : Int) + off = (tgt : Int)) (hp : pc + 3 = pc') (hw : (x ≤ y → A1) ∧ (¬ x ≤ y → B1)) (kt : x ≤ y → A1 → xG p l e R s m args below meth c D A nL Q kc ks tgt st gs lv) (kf : ¬ x ≤ y → B1 → xG p l e R s m args below meth c D A nL Q kc ks pc' st gs lv) : xG p l e R s m args below meth c D A nL Q kc ks pc (.int y :: .int x :: st) gs lv := by
  subst hp
  intro H locs hP hD hS ls hl
  exact lv_icmp_le C.1.1 C.1.2.1 d ht (fun h => kt h (hw.1 h) H locs hP hD hS ls hl) (fun h => kf h (hw.2 h) H locs hP hD hS ls hl)
theorem g_tswIn {lo hi dflt : Int} {offs : Array Int} {len : Nat} {x : Int32} {off : Int} (C : xC p s m args c cc own nL D tys A) (d : decode cc pc = .ok (.tableswitch dflt lo hi offs, len)) (v : Int32) (hx : x = v) (h1 : decide (lo ≤ v.toInt) = true) (h2 : decide (v.toInt ≤ hi) = true) (ho : offs[(v.toInt - lo).toNat]? = some off) (ht : (pc : Int) + off = (pc' : Int)) (k : xG p l e R s m args below meth c D A nL Q kc ks pc' st gs lv) : xG p l e R s m args below meth c D A nL Q kc ks pc (.int x :: st) gs lv := by
  subst hx
  intro H locs hP hD hS ls hl
  exact lv_tableIn C.1.1 C.1.2.1 d (Int.not_lt.mpr (of_decide_eq_true h1)) (Int.not_lt.mpr (of_decide_eq_true h2)) ho ht (k H locs hP hD hS ls hl)
theorem g_tswOut {lo hi dflt : Int} {offs : Array Int} {len : Nat} {x : Int32} (C : xC p s m args c cc own nL D tys A) (d : decode cc pc = .ok (.tableswitch dflt lo hi offs, len)) (h : x.toInt < lo ∨ hi < x.toInt) (ht : (pc : Int) + dflt = (pc' : Int)) (k : xG p l e R s m args below meth c D A nL Q kc ks pc' st gs lv) : xG p l e R s m args below meth c D A nL Q kc ks pc (.int x :: st) gs lv := by
  intro H locs hP hD hS ls hl
  exact lv_tableOut C.1.1 C.1.2.1 d h ht (k H locs hP hD hS ls hl)
theorem g_lsw {dflt : Int} {ps : Array (Int × Int)} {len : Nat} {x : Int32} {off : Int} (C : xC p s m args c cc own nL D tys A) (d : decode cc pc = .ok (.lookupswitch dflt ps, len)) (hs : (ps.toList.zip (ps.toList.drop 1)).all (fun (a, next) => a.1 < next.1) = true) (ho : Op.lookupswitch.offset ps.toList dflt x.toInt = off) (ht : (pc : Int) + off = (pc' : Int)) (k : xG p l e R s m args below meth c D A nL Q kc ks pc' st gs lv) : xG p l e R s m args below meth c D A nL Q kc ks pc (.int x :: st) gs lv := by
  intro H locs hP hD hS ls hl
  exact lv_lookup C.1.1 C.1.2.1 d hs ho ht (k H locs hP hD hS ls hl)
theorem g_get {ref Cl : String} {T : u_T} {N ci ix : Nat} {a : Nat} {fs : List Value} {g : va_W} {v : Value} (C : xC p s m args c cc own nL D tys A) (d : decode cc pc = .ok (.getfield ix, 3)) (hin : ∀ w ∈ u_ws Cl T N, w ∈ gTbl) (hc : vwCl[ci]? = some (Cl, T, N)) (i j f : Nat) (hg : gs[i]? = some g) (hj : g[j]? = some (a, .inr (ci, fs))) (hf : f < N) (hr : (T f).1 = ref) (hm : Cond.fieldLink own ix ref (T f).2.1 (T f).2.2.1 ∈ gTbl) (hv : fs[f]? = some v) (hp : pc + 3 = pc') (k : xG p l e R s m args below meth c D A nL Q kc ks pc' (v :: st) gs lv) : xG p l e R s m args below meth c D A nL Q kc ks pc (.ref a :: st) gs lv := by
  subst hp; subst hr
  intro H locs hP hD hS ls hl
  obtain ⟨q, hq, -⟩ := flat_at gs i j g hg hj
  exact va_get C.1.1 C.1.2.1 C.1.2.2.2.2 hin C.1.2.2.2.1 C.2.1 hP q hq hc f hf (C.1.2.2.2.2 _ hm) (fun _ h => h) hv d (k H locs hP hD hS ls hl)
theorem g_put {ref Cl : String} {T : u_T} {N ci ix : Nat} {a : Nat} {fs : List Value} {g : va_W} {gs' : List va_W} {v v' : Value} {ty : FieldType} (C : xC p s m args c cc own nL D tys A) (d : decode cc pc = .ok (.putfield ix, 3)) (hin : ∀ w ∈ u_ws Cl T N, w ∈ gTbl) (ty0 : Nat → FieldType) (hty : ∀ k, k < N → parseFieldDescriptor (T k).2.2.1 = some (ty0 k)) (hnm : ∀ a, a < N → ∀ b, b < N → a ≠ b → (T a).2.1 ≠ (T b).2.1) (hc : vwCl[ci]? = some (Cl, T, N)) (i j f : Nat) (hg : gs[i]? = some g) (hj : g[j]? = some (a, .inr (ci, fs))) (hf : f < N) (hr : (T f).1 = ref) (hm : Cond.fieldLink own ix ref (T f).2.1 (T f).2.2.1 ∈ gTbl) (hfin : (T f).2.2.2 = false) (hd : parseFieldDescriptor (T f).2.2.1 = some ty) (hv : v = v') (hn : narrow ty v' = v') (hfit : fits ty v' = true) (hlen : f < fs.length) (hgs : gs.set i (g.set j (a, .inr (ci, fs.set f v'))) = gs') (hp : pc + 3 = pc') (k : xG p l e R s m args below meth c D A nL Q kc ks pc' st gs' lv) : xG p l e R s m args below meth c D A nL Q kc ks pc (v :: .ref a :: st) gs lv := by
  subst hp; subst hr; subst hv; subst hgs
  intro H locs hP hD hS ls hl
  obtain ⟨q, hq, hset⟩ := flat_at gs i j g hg hj
  refine va_put C.1.1 C.1.2.1 C.1.2.2.2.2 hin ty0 hty hnm C.1.2.2.2.1 C.2.1 hP hD hS q hq hc f hf (C.1.2.2.2.2 _ hm) (fun _ h => h) hfin hd hn hfit hlen d (fun H1 locs1 hP hD hS => ?_)
  rw [← hset] at hP hD
  exact k H1 locs1 hP hD hS ls hl
theorem g_iald {a : Nat} {cA : ClassId} {n : Nat} {f : Nat → Int32} {g : va_W} {x : Int32} (C : xC p s m args c cc own nL D tys A) (d : decode cc pc = .ok (.iaload, 1)) (i j : Nat) (hg : gs[i]? = some g) (hj : g[j]? = some (a, .inl (cA, n, .inl f))) (t0 : Nat) (ht : tys[t0]? = some (cA, .int)) (hin : vp_in x n) (hp : pc + 1 = pc') (k : xG p l e R s m args below meth c D A nL Q kc ks pc' (.int (f x.toNatClampNeg) :: st) gs lv) : xG p l e R s m args below meth c D A nL Q kc ks pc (.int x :: .ref a :: st) gs lv := by
  subst hp
  intro H locs hP hD hS ls hl
  obtain ⟨q, hq, -⟩ := flat_at gs i j g hg hj
  exact va_iald C.1.1 C.1.2.1 C.2.1 hP q t0 hq ht hin d (k H locs hP hD hS ls hl)
theorem g_iast {a : Nat} {cA : ClassId} {n : Nat} {f f' : Nat → Int32} {g : va_W} {gs' : List va_W} {x y : Int32} (C : xC p s m args c cc own nL D tys A) (d : decode cc pc = .ok (.iastore, 1)) (i j : Nat) (hg : gs[i]? = some g) (hj : g[j]? = some (a, .inl (cA, n, .inl f))) (t0 : Nat) (ht : tys[t0]? = some (cA, .int)) (hin : vp_in x n) (hf : upd f x.toNatClampNeg y = f') (hgs : gs.set i (g.set j (a, .inl (cA, n, .inl f'))) = gs') (hp : pc + 1 = pc') (k : xG p l e R s m args below meth c D A nL Q kc ks pc' st gs' lv) : xG p l e R s m args below meth c D A nL Q kc ks pc (.int y :: .int x :: .ref a :: st) gs lv := by
  subst hp; subst hf; subst hgs
  intro H locs hP hD hS ls hl
  obtain ⟨q, hq, hset⟩ := flat_at gs i j g hg hj
  refine va_iast C.1.1 C.1.2.1 C.2.1 hP hD hS q t0 hq ht hin d (fun H1 locs1 hP hD hS => ?_)
  rw [← hset] at hP hD
  exact k H1 locs1 hP hD hS ls hl
theorem g_aald {a : Nat} {cA : ClassId} {Cl : String} {n : Nat} {f : Nat → Option Nat} {g : va_W} {x : Int32} {b : Nat} (C : xC p s m args c cc own nL D tys A) (d : decode cc pc = .ok (.aaload, 1)) (i j : Nat) (hg : gs[i]? = some g) (hj : g[j]? = some (a, .inl (cA, n, .inr (.inr (.inr (.inr f)))))) (t0 : Nat) (ht : tys[t0]? = some (cA, .object Cl)) (hin : vp_in x n) (hb : f x.toNatClampNeg = some b) (hp : pc + 1 = pc') (k : xG p l e R s m args below meth c D A nL Q kc ks pc' (.ref b :: st) gs lv) : xG p l e R s m args below meth c D A nL Q kc ks pc (.int x :: .ref a :: st) gs lv := by
  subst hp
  intro H locs hP hD hS ls hl
  obtain ⟨q, hq, -⟩ := flat_at gs i j g hg hj
  refine va_aldq C.1.1 C.1.2.1 C.2.1 hP q t0 hq ht hin d ?_
  rw [hb]
  exact (k H locs hP hD hS ls hl)
theorem g_alen {a : Nat} {cA : ClassId} {x : vp_A} {ty : FieldType} {g : va_W} {v : Int32} (C : xC p s m args c cc own nL D tys A) (d : decode cc pc = .ok (.arraylength, 1)) (i j : Nat) (hg : gs[i]? = some g) (hj : g[j]? = some (a, .inl (cA, x))) (t0 : Nat) (ht : tys[t0]? = some (cA, ty)) (hv : Int32.ofNat x.1 = v) (hp : pc + 1 = pc') (k : xG p l e R s m args below meth c D A nL Q kc ks pc' (.int v :: st) gs lv) : xG p l e R s m args below meth c D A nL Q kc ks pc (.ref a :: st) gs lv := by
  subst hp
  intro H locs hP hD hS ls hl
  obtain ⟨q, hq, -⟩ := flat_at gs i j g hg hj
  exact va_alen C.1.1 C.1.2.1 C.2.1 hP q t0 hq ht hv d (k H locs hP hD hS ls hl)
theorem g_mmin {x y : Int32} {ix : Nat} (C : xC p s m args c cc own nL D tys A) (d : decode cc pc = .ok (.invokestatic ix, 3)) (h1 : Cond.methodLink own ix Lib.Math.min.name ∈ gTbl) (h2 : Cond.static Lib.Math.min.name ∈ gTbl) (h3 : Cond.initialized "java/lang/Math" ∈ gTbl) (h4 : Cond.code Lib.Math.min.name Lib.Math.min.code 2 (some .int) ∈ gTbl) (hR : 1 ≤ R.frames ∧ (st.map fun v => v.category).sum + 13 ≤ R.locals) (hr : kc ≤ R.cells ∧ ks ≤ R.slots) (hp : pc + 3 = pc') (k : xG p l e R s m args below meth c D A nL Q kc ks pc' (.int (if y < x then y else x) :: st) gs lv) : xG p l e R s m args below meth c D A nL Q kc ks pc (.int y :: .int x :: st) gs lv := by
  subst hp
  intro H locs hP hD hS ls hl
  exact va_mmin C.1.1 C.1.2.1 (C.1.2.2.1.trans hl.1.symm) C.1.2.2.2.1 (C.1.2.2.2.2 _ h1) (C.1.2.2.2.2 _ h2) (C.1.2.2.2.2 _ h3) (C.1.2.2.2.2 _ h4) hR.1 hR.2 hr.1 hr.2 d (k H locs hP hD hS ls hl)
theorem g_mmax {x y : Int32} {ix : Nat} (C : xC p s m args c cc own nL D tys A) (d : decode cc pc = .ok (.invokestatic ix, 3)) (h1 : Cond.methodLink own ix Lib.Math.max.name ∈ gTbl) (h2 : Cond.static Lib.Math.max.name ∈ gTbl) (h3 : Cond.initialized "java/lang/Math" ∈ gTbl) (h4 : Cond.code Lib.Math.max.name Lib.Math.max.code 2 (some .int) ∈ gTbl) (hR : 1 ≤ R.frames ∧ (st.map fun v => v.category).sum + 13 ≤ R.locals) (hr : kc ≤ R.cells ∧ ks ≤ R.slots) (hp : pc + 3 = pc') (k : xG p l e R s m args below meth c D A nL Q kc ks pc' (.int (if x < y then y else x) :: st) gs lv) : xG p l e R s m args below meth c D A nL Q kc ks pc (.int y :: .int x :: st) gs lv := by
  subst hp
  intro H locs hP hD hS ls hl
  exact va_mmax C.1.1 C.1.2.1 (C.1.2.2.1.trans hl.1.symm) C.1.2.2.2.1 (C.1.2.2.2.2 _ h1) (C.1.2.2.2.2 _ h2) (C.1.2.2.2.2 _ h3) (C.1.2.2.2.2 _ h4) hR.1 hR.2 hr.1 hr.2 d (k H locs hP hD hS ls hl)
theorem g_copy {ix : Nat} {a0 a : Nat} {c0 c1 : ClassId} {n0 n1 : Nat} {f g f' : Nat → Int32} {g0 g1 : va_W} {gs' : List va_W} {sp dp n : Int32} (C : xC p s m args c cc own nL D tys A) (d : decode cc pc = .ok (.invokestatic ix, 3)) (h1 : Cond.methodLink own ix arraycopyName ∈ gTbl) (h2 : Cond.native arraycopyName ∈ gTbl) (h3 : Cond.static arraycopyName ∈ gTbl) (h4 : Cond.initialized "java/lang/System" ∈ gTbl) (i0 j0 i j : Nat) (hg0 : gs[i0]? = some g0) (hj0 : g0[j0]? = some (a0, .inl (c0, n0, .inl f))) (hg1 : gs[i]? = some g1) (hj1 : g1[j]? = some (a, .inl (c1, n1, .inl g))) (t0 t1 : Nat) (ht0 : tys[t0]? = some (c0, .int)) (ht1 : tys[t1]? = some (c1, .int)) (z1 : ¬ sp < 0) (z2 : ¬ dp < 0) (z3 : ¬ n < 0) (z4 : sp.toNatClampNeg + n.toNatClampNeg ≤ n0) (z5 : dp.toNatClampNeg + n.toNatClampNeg ≤ n1) (hR : 1 ≤ R.frames ∧ (st.map fun v => v.category).sum + (nativeFrameWords "java/lang/System" "arraycopy" 5 + 11) ≤ R.locals) (hf : va_cpy f g sp.toNatClampNeg dp.toNatClampNeg n.toNatClampNeg = f') (hgs : gs.set i (g1.set j (a, .inl (c1, n1, .inl f'))) = gs') (hp : pc + 3 = pc') (k : xG p l e R s m args below meth c D A nL Q kc ks pc' st gs' lv) : xG p l e R s m args below meth c D A nL Q kc ks pc (.int n :: .int dp :: .ref a :: .int sp :: .ref a0 :: st) gs lv := by
  subst hp; subst hf; subst hgs
  intro H locs hP hD hS ls hl
  obtain ⟨q0, hq0, -⟩ := flat_at gs i0 j0 g0 hg0 hj0
  obtain ⟨q, hq, hset⟩ := flat_at gs i j g1 hg1 hj1
  refine va_copyi C.1.1 C.1.2.1 (C.1.2.2.1.trans hl.1.symm) C.1.2.2.2.1 (C.1.2.2.2.2 _ h1) (C.1.2.2.2.2 _ h2) (C.1.2.2.2.2 _ h3) (C.1.2.2.2.2 _ h4) C.2.1 hP hD hS q0 q t0 t1 hq0 hq ht0 ht1 rfl z1 z2 z3 z4 z5 (fun _ _ => rfl) hR.1 hR.2 d (fun H1 locs1 hP hD hS => ?_)
  rw [← hset] at hP hD
  exact k H1 locs1 hP hD hS ls hl
/-- fewer, or other, locals in another order; groups in another order -/
theorem g_lv (ks0 : List Nat) (h : lv_pick lv ks0 = lv') (k : xG p l e R s m args below meth c D A nL Q kc ks pc st gs lv') : xG p l e R s m args below meth c D A nL Q kc ks pc st gs lv := fun H locs hP hD hS ls hl => k H locs hP hD hS ls (lv_sub hl ks0 h)
theorem g_gs {gs' : List va_W} (is : List Nat) (hi : is.isPerm (List.range gs.length) = true) (h : is.filterMap (fun i => gs[i]?) = gs') (k : xG p l e R s m args below meth c D A nL Q kc ks pc st gs' lv) : xG p l e R s m args below meth c D A nL Q kc ks pc st gs lv := fun H locs hP hD hS ls hl =>
  have hp := (perm_idx is hi h).flatten
  k H locs (vP_perm hp hP) (vD_perm hp hD) hS ls hl
/-- what has been written lies in cells that the walk made -/
theorem g_eq {st' : List Value} {gs' : List va_W} (h1 : st = st') (h2 : gs = gs') (h3 : lv = lv') (k : xG p l e R s m args below meth c D A nL Q kc ks pc st' gs' lv') : xG p l e R s m args below meth c D A nL Q kc ks pc st gs lv := by subst h1; subst h2; subst h3; exact k
end XL
end
section
theorem in_1 {w : Cond} (h : w ∈ tables_1_1) : w ∈ lw_tbl := List.mem_append_right _ (List.mem_append_left _ h)
theorem in_2 {w : Cond} (h : w ∈ tables_1_2) : w ∈ lw_tbl := List.mem_append_right _ (List.mem_append_right _ (List.mem_append_left _ h))
theorem in_3 {w : Cond} (h : w ∈ tables_1_3) : w ∈ lw_tbl := List.mem_append_right _ (List.mem_append_right _ (List.mem_append_right _ (List.mem_append_left _ h)))
theorem in_4 {w : Cond} (h : w ∈ tables_1_4) : w ∈ lw_tbl := List.mem_append_right _ (List.mem_append_right _ (List.mem_append_right _ (List.mem_append_right _ (List.mem_append_left _ h))))
theorem in_5 {w : Cond} (h : w ∈ tables_1_5) : w ∈ lw_tbl := List.mem_append_right _ (List.mem_append_right _ (List.mem_append_right _ (List.mem_append_right _ (List.mem_append_right _ h))))
theorem in_p {w : Cond} (h : w ∈ k2_sels lw_privs) : w ∈ lw_tbl := List.mem_append_left _ h
theorem in_L : Cond.initialized RL ∈ gTbl := gTbl_of (in_1 (List.mem_of_getElem? (i := 0) (by decide +kernel))) rfl
theorem in_X5 : Cond.initialized RX5 ∈ gTbl := gTbl_of (in_1 (List.mem_of_getElem? (i := 1) (by decide +kernel))) rfl
theorem in_X3 : Cond.initialized RX3 ∈ gTbl := gTbl_of (in_1 (List.mem_of_getElem? (i := 2) (by decide +kernel))) rfl
theorem in_X4 : Cond.initialized RX4 ∈ gTbl := gTbl_of (in_1 (List.mem_of_getElem? (i := 3) (by decide +kernel))) rfl
theorem in_X1 : Cond.initialized RX1 ∈ gTbl := gTbl_of (in_1 (List.mem_of_getElem? (i := 4) (by decide +kernel))) rfl
theorem in_X2 : Cond.initialized RX2 ∈ gTbl := gTbl_of (in_1 (List.mem_of_getElem? (i := 5) (by decide +kernel))) rfl
theorem in_X6 : Cond.initialized RX6 ∈ gTbl := gTbl_of (in_1 (List.mem_of_getElem? (i := 6) (by decide +kernel))) rfl
theorem in_J10 : Cond.initialized RJ10 ∈ gTbl := gTbl_of (in_1 (List.mem_of_getElem? (i := 7) (by decide +kernel))) rfl
theorem in_J9 : Cond.initialized RJ9 ∈ gTbl := gTbl_of (in_1 (List.mem_of_getElem? (i := 8) (by decide +kernel))) rfl
theorem in_X0 : Cond.initialized RX0 ∈ gTbl := gTbl_of (in_1 (List.mem_of_getElem? (i := 9) (by decide +kernel))) rfl
theorem in_J6 : Cond.initialized RJ6 ∈ gTbl := gTbl_of (in_1 (List.mem_of_getElem? (i := 10) (by decide +kernel))) rfl
theorem cl_L_7 : Cond.classLink RL 7 RX5 ∈ gTbl := gTbl_of (in_1 (List.mem_of_getElem? (i := 11) (by decide +kernel))) rfl
theorem ia_X5 : Cond.instantiable RX5 8 ∈ gTbl := gTbl_of (in_1 (List.mem_of_getElem? (i := 12) (by decide +kernel))) rfl
theorem ml_L_9 : Cond.methodLink RL 9 yX5_init ∈ gTbl := gTbl_of (in_1 (List.mem_of_getElem? (i := 13) (by decide +kernel))) rfl
theorem im_X5_init : Cond.instanceMethod yX5_init ∈ gTbl := gTbl_of (in_1 (List.mem_of_getElem? (i := 14) (by decide +kernel))) rfl
theorem cd_X5_init : Cond.code yX5_init cX5_init 1 none ∈ gTbl := gTbl_of (in_1 (List.mem_of_getElem? (i := 15) rfl)) rfl
theorem ml_X5_1 : Cond.methodLink RX5 1 objectInit ∈ gTbl := gTbl_of (in_1 (List.mem_of_getElem? (i := 16) (by decide +kernel))) rfl
theorem im_objectInit : Cond.instanceMethod objectInit ∈ gTbl := gTbl_of (in_1 (List.mem_of_getElem? (i := 17) (by decide +kernel))) rfl
theorem cd_objectInit : Cond.code objectInit ⟨#[0xb1]⟩ 1 none ∈ gTbl := gTbl_of (in_1 (List.mem_of_getElem? (i := 18) rfl)) rfl
theorem cl_X5_7 : Cond.classLink RX5 7 RX3 ∈ gTbl := gTbl_of (in_1 (List.mem_of_getElem? (i := 19) (by decide +kernel))) rfl
theorem ia_X3 : Cond.instantiable RX3 10 ∈ gTbl := gTbl_of (in_1 (List.mem_of_getElem? (i := 20) (by decide +kernel))) rfl
theorem ml_X5_9 : Cond.methodLink RX5 9 yX3_init ∈ gTbl := gTbl_of (in_1 (List.mem_of_getElem? (i := 21) (by decide +kernel))) rfl
theorem im_X3_init : Cond.instanceMethod yX3_init ∈ gTbl := gTbl_of (in_1 (List.mem_of_getElem? (i := 22) (by decide +kernel))) rfl
theorem cd_X3_init : Cond.code yX3_init cX3_init 1 none ∈ gTbl := gTbl_of (in_1 (List.mem_of_getElem? (i := 23) rfl)) rfl
theorem ml_X3_3 : Cond.methodLink RX3 3 objectInit ∈ gTbl := gTbl_of (in_1 (List.mem_of_getElem? (i := 24) (by decide +kernel))) rfl
theorem fl_X3_9 : Cond.fieldLink RX3 9 "Percolated$Parish" "kind" "[I" ∈ gTbl := gTbl_of (in_1 (List.mem_of_getElem? (i := 25) (by decide +kernel))) rfl
theorem fl_X3_15 : Cond.fieldLink RX3 15 "Percolated$Parish" "figure" "[I" ∈ gTbl := gTbl_of (in_1 (List.mem_of_getElem? (i := 26) (by decide +kernel))) rfl
theorem fl_X3_18 : Cond.fieldLink RX3 18 "Percolated$Parish" "held" "[I" ∈ gTbl := gTbl_of (in_1 (List.mem_of_getElem? (i := 27) (by decide +kernel))) rfl
theorem fl_X3_21 : Cond.fieldLink RX3 21 "Percolated$Parish" "next" "[I" ∈ gTbl := gTbl_of (in_1 (List.mem_of_getElem? (i := 28) (by decide +kernel))) rfl
theorem fl_X3_30 : Cond.fieldLink RX3 30 "Percolated$Parish" "built" "I" ∈ gTbl := gTbl_of (in_1 (List.mem_of_getElem? (i := 29) (by decide +kernel))) rfl
theorem fl_X3_34 : Cond.fieldLink RX3 34 "Percolated$Parish" "stopped" "I" ∈ gTbl := gTbl_of (in_1 (List.mem_of_getElem? (i := 30) (by decide +kernel))) rfl
theorem fl_X3_37 : Cond.fieldLink RX3 37 "Percolated$Parish" "wet" "I" ∈ gTbl := gTbl_of (in_1 (List.mem_of_getElem? (i := 31) (by decide +kernel))) rfl
theorem fl_X3_40 : Cond.fieldLink RX3 40 "Percolated$Parish" "cup" "I" ∈ gTbl := gTbl_of (in_1 (List.mem_of_getElem? (i := 32) (by decide +kernel))) rfl
theorem fl_X3_43 : Cond.fieldLink RX3 43 "Percolated$Parish" "hour" "I" ∈ gTbl := gTbl_of (in_1 (List.mem_of_getElem? (i := 33) (by decide +kernel))) rfl
theorem fl_X3_56 : Cond.fieldLink RX3 56 "Percolated$Parish" "dripped" "Z" ∈ gTbl := gTbl_of (in_1 (List.mem_of_getElem? (i := 34) (by decide +kernel))) rfl
theorem ac_int : Cond.arrayClass .int ∈ gTbl := gTbl_of (in_1 (List.mem_of_getElem? (i := 56) (by decide +kernel))) rfl
theorem cl_X5_22 : Cond.classLink RX5 22 RX4 ∈ gTbl := gTbl_of (in_1 (List.mem_of_getElem? (i := 57) (by decide +kernel))) rfl
theorem ia_X4 : Cond.instantiable RX4 3 ∈ gTbl := gTbl_of (in_1 (List.mem_of_getElem? (i := 58) (by decide +kernel))) rfl
theorem ml_X5_24 : Cond.methodLink RX5 24 yX4_init ∈ gTbl := gTbl_of (in_1 (List.mem_of_getElem? (i := 59) (by decide +kernel))) rfl
theorem im_X4_init : Cond.instanceMethod yX4_init ∈ gTbl := gTbl_of (in_1 (List.mem_of_getElem? (i := 60) (by decide +kernel))) rfl
theorem cd_X4_init : Cond.code yX4_init cX4_init 2 none ∈ gTbl := gTbl_of (in_1 (List.mem_of_getElem? (i := 61) rfl)) rfl
theorem ml_X4_3 : Cond.methodLink RX4 3 objectInit ∈ gTbl := gTbl_of (in_1 (List.mem_of_getElem? (i := 62) (by decide +kernel))) rfl
theorem cl_X4_9 : Cond.classLink RX4 9 RX3 ∈ gTbl := gTbl_of (in_1 (List.mem_of_getElem? (i := 63) (by decide +kernel))) rfl
theorem ml_X4_17 : Cond.methodLink RX4 17 yX3_init ∈ gTbl := gTbl_of (in_1 (List.mem_of_getElem? (i := 65) (by decide +kernel))) rfl
theorem fl_X4_11 : Cond.fieldLink RX4 11 "Percolated$Past" "kept" "[LPercolated$Parish;" ∈ gTbl := gTbl_of (in_1 (List.mem_of_getElem? (i := 66) (by decide +kernel))) rfl
theorem fl_X4_22 : Cond.fieldLink RX4 22 "Percolated$Past" "latest" "I" ∈ gTbl := gTbl_of (in_1 (List.mem_of_getElem? (i := 67) (by decide +kernel))) rfl
theorem fl_X4_18 : Cond.fieldLink RX4 18 "Percolated$Past" "size" "I" ∈ gTbl := gTbl_of (in_1 (List.mem_of_getElem? (i := 68) (by decide +kernel))) rfl
theorem cl_X5_29 : Cond.classLink RX5 29 RX1 ∈ gTbl := gTbl_of (in_1 (List.mem_of_getElem? (i := 76) (by decide +kernel))) rfl
theorem ia_X1 : Cond.instantiable RX1 2 ∈ gTbl := gTbl_of (in_1 (List.mem_of_getElem? (i := 77) (by decide +kernel))) rfl
theorem ml_X5_31 : Cond.methodLink RX5 31 yX1_init ∈ gTbl := gTbl_of (in_1 (List.mem_of_getElem? (i := 78) (by decide +kernel))) rfl
theorem im_X1_init : Cond.instanceMethod yX1_init ∈ gTbl := gTbl_of (in_1 (List.mem_of_getElem? (i := 79) (by decide +kernel))) rfl
theorem cd_X1_init : Cond.code yX1_init cX1_init 1 none ∈ gTbl := gTbl_of (in_1 (List.mem_of_getElem? (i := 80) rfl)) rfl
theorem ml_X1_3 : Cond.methodLink RX1 3 objectInit ∈ gTbl := gTbl_of (in_1 (List.mem_of_getElem? (i := 81) (by decide +kernel))) rfl
theorem fl_X1_9 : Cond.fieldLink RX1 9 "Percolated$Letters" "told" "[I" ∈ gTbl := gTbl_of (in_1 (List.mem_of_getElem? (i := 82) (by decide +kernel))) rfl
theorem fl_X1_15 : Cond.fieldLink RX1 15 "Percolated$Letters" "size" "I" ∈ gTbl := gTbl_of (in_1 (List.mem_of_getElem? (i := 83) (by decide +kernel))) rfl
theorem cl_X5_36 : Cond.classLink RX5 36 RX2 ∈ gTbl := gTbl_of (in_1 (List.mem_of_getElem? (i := 89) (by decide +kernel))) rfl
theorem ia_X2 : Cond.instantiable RX2 2 ∈ gTbl := gTbl_of (in_1 (List.mem_of_getElem? (i := 90) (by decide +kernel))) rfl
theorem ml_X5_38 : Cond.methodLink RX5 38 yX2_init ∈ gTbl := gTbl_of (in_1 (List.mem_of_getElem? (i := 91) (by decide +kernel))) rfl
theorem im_X2_init : Cond.instanceMethod yX2_init ∈ gTbl := gTbl_of (in_1 (List.mem_of_getElem? (i := 92) (by decide +kernel))) rfl
theorem cd_X2_init : Cond.code yX2_init cX2_init 1 none ∈ gTbl := gTbl_of (in_1 (List.mem_of_getElem? (i := 93) rfl)) rfl
theorem ml_X2_3 : Cond.methodLink RX2 3 objectInit ∈ gTbl := gTbl_of (in_1 (List.mem_of_getElem? (i := 94) (by decide +kernel))) rfl
theorem fl_X2_9 : Cond.fieldLink RX2 9 "Percolated$Numbers" "told" "[I" ∈ gTbl := gTbl_of (in_1 (List.mem_of_getElem? (i := 95) (by decide +kernel))) rfl
theorem fl_X2_15 : Cond.fieldLink RX2 15 "Percolated$Numbers" "size" "I" ∈ gTbl := gTbl_of (in_1 (List.mem_of_getElem? (i := 96) (by decide +kernel))) rfl
theorem fl_X5_10 : Cond.fieldLink RX5 10 "Percolated" "now" "LPercolated$Parish;" ∈ gTbl := gTbl_of (in_1 (List.mem_of_getElem? (i := 102) (by decide +kernel))) rfl
theorem fl_X5_16 : Cond.fieldLink RX5 16 "Percolated" "mind" "LPercolated$Parish;" ∈ gTbl := gTbl_of (in_1 (List.mem_of_getElem? (i := 103) (by decide +kernel))) rfl
theorem fl_X5_19 : Cond.fieldLink RX5 19 "Percolated" "picture" "LPercolated$Parish;" ∈ gTbl := gTbl_of (in_1 (List.mem_of_getElem? (i := 104) (by decide +kernel))) rfl
theorem fl_X5_25 : Cond.fieldLink RX5 25 "Percolated" "past" "LPercolated$Past;" ∈ gTbl := gTbl_of (in_1 (List.mem_of_getElem? (i := 105) (by decide +kernel))) rfl
theorem fl_X5_32 : Cond.fieldLink RX5 32 "Percolated" "letters" "LPercolated$Letters;" ∈ gTbl := gTbl_of (in_1 (List.mem_of_getElem? (i := 106) (by decide +kernel))) rfl
theorem fl_X5_39 : Cond.fieldLink RX5 39 "Percolated" "numbers" "LPercolated$Numbers;" ∈ gTbl := gTbl_of (in_1 (List.mem_of_getElem? (i := 107) (by decide +kernel))) rfl
theorem fl_X5_43 : Cond.fieldLink RX5 43 "Percolated" "refusals" "[I" ∈ gTbl := gTbl_of (in_1 (List.mem_of_getElem? (i := 108) (by decide +kernel))) rfl
theorem fl_X5_235 : Cond.fieldLink RX5 235 "Percolated" "pictured" "Z" ∈ gTbl := gTbl_of (in_1 (List.mem_of_getElem? (i := 109) (by decide +kernel))) rfl
theorem ml_L_13 : Cond.methodLink RL 13 yX5_feed ∈ gTbl := gTbl_of (in_1 (List.mem_of_getElem? (i := 127) (by decide +kernel))) rfl
theorem im_X5_feed : Cond.instanceMethod yX5_feed ∈ gTbl := gTbl_of (in_1 (List.mem_of_getElem? (i := 128) (by decide +kernel))) rfl
theorem sl_X5_feed : Cond.selects RX5 yX5_feed yX5_feed ∈ gTbl := gTbl_of (in_1 (List.mem_of_getElem? (i := 129) (by decide +kernel))) rfl
theorem cd_X5_feed : Cond.code yX5_feed cX5_feed 3 (some .int) ∈ gTbl := gTbl_of (in_1 (List.mem_of_getElem? (i := 130) rfl)) rfl
theorem ml_X5_47 : Cond.methodLink RX5 47 yX5_outside ∈ gTbl := gTbl_of (in_1 (List.mem_of_getElem? (i := 131) (by decide +kernel))) rfl
theorem sm_X5_outside : Cond.static yX5_outside ∈ gTbl := gTbl_of (in_1 (List.mem_of_getElem? (i := 132) (by decide +kernel))) rfl
theorem cd_X5_outside : Cond.code yX5_outside cX5_outside 3 (some .int) ∈ gTbl := gTbl_of (in_1 (List.mem_of_getElem? (i := 133) rfl)) rfl
theorem ml_X5_51 : Cond.methodLink RX5 51 yX5_refuse ∈ gTbl := gTbl_of (in_1 (List.mem_of_getElem? (i := 134) (by decide +kernel))) rfl
theorem im_X5_refuse : Cond.instanceMethod yX5_refuse ∈ gTbl := gTbl_of (in_1 (List.mem_of_getElem? (i := 136) (by decide +kernel))) rfl
theorem cd_X5_refuse : Cond.code yX5_refuse cX5_refuse 2 (some .int) ∈ gTbl := gTbl_of (in_1 (List.mem_of_getElem? (i := 137) rfl)) rfl
theorem ml_X5_55 : Cond.methodLink RX5 55 yX1_add ∈ gTbl := gTbl_of (in_1 (List.mem_of_getElem? (i := 138) (by decide +kernel))) rfl
theorem im_X1_add : Cond.instanceMethod yX1_add ∈ gTbl := gTbl_of (in_1 (List.mem_of_getElem? (i := 139) (by decide +kernel))) rfl
theorem sl_X1_add : Cond.selects RX1 yX1_add yX1_add ∈ gTbl := gTbl_of (in_1 (List.mem_of_getElem? (i := 140) (by decide +kernel))) rfl
theorem cd_X1_add : Cond.code yX1_add cX1_add 2 (some .boolean) ∈ gTbl := gTbl_of (in_1 (List.mem_of_getElem? (i := 141) rfl)) rfl
theorem ml_X5_59 : Cond.methodLink RX5 59 yX1_size ∈ gTbl := gTbl_of (in_1 (List.mem_of_getElem? (i := 142) (by decide +kernel))) rfl
theorem im_X1_size : Cond.instanceMethod yX1_size ∈ gTbl := gTbl_of (in_1 (List.mem_of_getElem? (i := 143) (by decide +kernel))) rfl
theorem sl_X1_size : Cond.selects RX1 yX1_size yX1_size ∈ gTbl := gTbl_of (in_1 (List.mem_of_getElem? (i := 144) (by decide +kernel))) rfl
theorem cd_X1_size : Cond.code yX1_size cX1_size 1 (some .int) ∈ gTbl := gTbl_of (in_1 (List.mem_of_getElem? (i := 145) rfl)) rfl
theorem ml_L_18 : Cond.methodLink RL 18 yX5_parish ∈ gTbl := gTbl_of (in_1 (List.mem_of_getElem? (i := 146) (by decide +kernel))) rfl
theorem im_X5_parish : Cond.instanceMethod yX5_parish ∈ gTbl := gTbl_of (in_1 (List.mem_of_getElem? (i := 147) (by decide +kernel))) rfl
theorem sl_X5_parish : Cond.selects RX5 yX5_parish yX5_parish ∈ gTbl := gTbl_of (in_1 (List.mem_of_getElem? (i := 148) (by decide +kernel))) rfl
theorem cd_X5_parish : Cond.code yX5_parish cX5_parish 3 (some .int) ∈ gTbl := gTbl_of (in_1 (List.mem_of_getElem? (i := 149) rfl)) rfl
theorem ml_X5_63 : Cond.methodLink RX5 63 yX1_firstFault ∈ gTbl := gTbl_of (in_1 (List.mem_of_getElem? (i := 150) (by decide +kernel))) rfl
theorem im_X1_firstFault : Cond.instanceMethod yX1_firstFault ∈ gTbl := gTbl_of (in_1 (List.mem_of_getElem? (i := 151) (by decide +kernel))) rfl
theorem sl_X1_firstFault : Cond.selects RX1 yX1_firstFault yX1_firstFault ∈ gTbl := gTbl_of (in_1 (List.mem_of_getElem? (i := 152) (by decide +kernel))) rfl
theorem cd_X1_firstFault : Cond.code yX1_firstFault cX1_firstFault 4 (some .int) ∈ gTbl := gTbl_of (in_1 (List.mem_of_getElem? (i := 153) rfl)) rfl
theorem ml_X1_27 : Cond.methodLink RX1 27 yX1_digitsBehind ∈ gTbl := gTbl_of (in_1 (List.mem_of_getElem? (i := 154) (by decide +kernel))) rfl
theorem sm_X1_digitsBehind : Cond.static yX1_digitsBehind ∈ gTbl := gTbl_of (in_1 (List.mem_of_getElem? (i := 155) (by decide +kernel))) rfl
theorem cd_X1_digitsBehind : Cond.code yX1_digitsBehind cX1_digitsBehind 1 (some .int) ∈ gTbl := gTbl_of (in_1 (List.mem_of_getElem? (i := 156) rfl)) rfl
theorem ml_X1_23 : Cond.methodLink RX1 23 yX1_isDigit ∈ gTbl := gTbl_of (in_1 (List.mem_of_getElem? (i := 157) (by decide +kernel))) rfl
theorem sm_X1_isDigit : Cond.static yX1_isDigit ∈ gTbl := gTbl_of (in_1 (List.mem_of_getElem? (i := 158) (by decide +kernel))) rfl
theorem cd_X1_isDigit : Cond.code yX1_isDigit cX1_isDigit 1 (some .boolean) ∈ gTbl := gTbl_of (in_1 (List.mem_of_getElem? (i := 159) rfl)) rfl
theorem ml_X5_66 : Cond.methodLink RX5 66 yX5_tellAll ∈ gTbl := gTbl_of (in_1 (List.mem_of_getElem? (i := 160) (by decide +kernel))) rfl
theorem im_X5_tellAll : Cond.instanceMethod yX5_tellAll ∈ gTbl := gTbl_of (in_1 (List.mem_of_getElem? (i := 162) (by decide +kernel))) rfl
theorem cd_X5_tellAll : Cond.code yX5_tellAll cX5_tellAll 3 (some .int) ∈ gTbl := gTbl_of (in_1 (List.mem_of_getElem? (i := 163) rfl)) rfl
theorem ml_X5_137 : Cond.methodLink RX5 137 yX5_think ∈ gTbl := gTbl_of (in_1 (List.mem_of_getElem? (i := 164) (by decide +kernel))) rfl
theorem im_X5_think : Cond.instanceMethod yX5_think ∈ gTbl := gTbl_of (in_1 (List.mem_of_getElem? (i := 166) (by decide +kernel))) rfl
theorem cd_X5_think : Cond.code yX5_think cX5_think 1 none ∈ gTbl := gTbl_of (in_1 (List.mem_of_getElem? (i := 167) rfl)) rfl
theorem ml_X5_232 : Cond.methodLink RX5 232 yX3_become ∈ gTbl := gTbl_of (in_1 (List.mem_of_getElem? (i := 168) (by decide +kernel))) rfl
theorem im_X3_become : Cond.instanceMethod yX3_become ∈ gTbl := gTbl_of (in_1 (List.mem_of_getElem? (i := 169) (by decide +kernel))) rfl
theorem sl_X3_become : Cond.selects RX3 yX3_become yX3_become ∈ gTbl := gTbl_of (in_1 (List.mem_of_getElem? (i := 170) (by decide +kernel))) rfl
theorem cd_X3_become : Cond.code yX3_become cX3_become 2 none ∈ gTbl := gTbl_of (in_1 (List.mem_of_getElem? (i := 171) rfl)) rfl
theorem ml_X3_24 : Cond.methodLink RX3 24 arraycopyName ∈ gTbl := gTbl_of (in_1 (List.mem_of_getElem? (i := 172) (by decide +kernel))) rfl
theorem sm_arraycopy : Cond.static arraycopyName ∈ gTbl := gTbl_of (in_1 (List.mem_of_getElem? (i := 173) (by decide +kernel))) rfl
theorem nv_arraycopy : Cond.native arraycopyName ∈ gTbl := gTbl_of (in_1 (List.mem_of_getElem? (i := 174) (by decide +kernel))) rfl
theorem ml_X5_247 : Cond.methodLink RX5 247 yX1_beginsAt ∈ gTbl := gTbl_of (in_1 (List.mem_of_getElem? (i := 175) (by decide +kernel))) rfl
theorem im_X1_beginsAt : Cond.instanceMethod yX1_beginsAt ∈ gTbl := gTbl_of (in_1 (List.mem_of_getElem? (i := 176) (by decide +kernel))) rfl
theorem sl_X1_beginsAt : Cond.selects RX1 yX1_beginsAt yX1_beginsAt ∈ gTbl := gTbl_of (in_1 (List.mem_of_getElem? (i := 177) (by decide +kernel))) rfl
theorem cd_X1_beginsAt : Cond.code yX1_beginsAt cX1_beginsAt 2 (some .boolean) ∈ gTbl := gTbl_of (in_1 (List.mem_of_getElem? (i := 178) rfl)) rfl
theorem ml_X1_19 : Cond.methodLink RX1 19 yX1_at ∈ gTbl := gTbl_of (in_1 (List.mem_of_getElem? (i := 179) (by decide +kernel))) rfl
theorem im_X1_at : Cond.instanceMethod yX1_at ∈ gTbl := gTbl_of (in_1 (List.mem_of_getElem? (i := 180) (by decide +kernel))) rfl
theorem sl_X1_at : Cond.selects RX1 yX1_at yX1_at ∈ gTbl := gTbl_of (in_1 (List.mem_of_getElem? (i := 181) (by decide +kernel))) rfl
theorem cd_X1_at : Cond.code yX1_at cX1_at 2 (some .int) ∈ gTbl := gTbl_of (in_1 (List.mem_of_getElem? (i := 182) rfl)) rfl
theorem ml_X5_250 : Cond.methodLink RX5 250 yX5_tell ∈ gTbl := gTbl_of (in_1 (List.mem_of_getElem? (i := 183) (by decide +kernel))) rfl
theorem im_X5_tell : Cond.instanceMethod yX5_tell ∈ gTbl := gTbl_of (in_1 (List.mem_of_getElem? (i := 185) (by decide +kernel))) rfl
theorem cd_X5_tell : Cond.code yX5_tell cX5_tell 4 (some .boolean) ∈ gTbl := gTbl_of (in_1 (List.mem_of_getElem? (i := 186) rfl)) rfl
theorem ml_X5_253 : Cond.methodLink RX5 253 yX1_digitAt ∈ gTbl := gTbl_of (in_1 (List.mem_of_getElem? (i := 187) (by decide +kernel))) rfl
theorem im_X1_digitAt : Cond.instanceMethod yX1_digitAt ∈ gTbl := gTbl_of (in_1 (List.mem_of_getElem? (i := 188) (by decide +kernel))) rfl
theorem sl_X1_digitAt : Cond.selects RX1 yX1_digitAt yX1_digitAt ∈ gTbl := gTbl_of (in_1 (List.mem_of_getElem? (i := 189) (by decide +kernel))) rfl
theorem cd_X1_digitAt : Cond.code yX1_digitAt cX1_digitAt 3 (some .int) ∈ gTbl := gTbl_of (in_1 (List.mem_of_getElem? (i := 190) rfl)) rfl
theorem ml_X5_256 : Cond.methodLink RX5 256 yX1_at ∈ gTbl := gTbl_of (in_1 (List.mem_of_getElem? (i := 191) (by decide +kernel))) rfl
theorem ml_X5_96 : Cond.methodLink RX5 96 yX3_build ∈ gTbl := gTbl_of (in_1 (List.mem_of_getElem? (i := 192) (by decide +kernel))) rfl
theorem im_X3_build : Cond.instanceMethod yX3_build ∈ gTbl := gTbl_of (in_1 (List.mem_of_getElem? (i := 193) (by decide +kernel))) rfl
theorem sl_X3_build : Cond.selects RX3 yX3_build yX3_build ∈ gTbl := gTbl_of (in_1 (List.mem_of_getElem? (i := 194) (by decide +kernel))) rfl
theorem cd_X3_build : Cond.code yX3_build cX3_build 3 (some .boolean) ∈ gTbl := gTbl_of (in_1 (List.mem_of_getElem? (i := 195) rfl)) rfl
theorem ml_X5_110 : Cond.methodLink RX5 110 yX3_lead ∈ gTbl := gTbl_of (in_1 (List.mem_of_getElem? (i := 196) (by decide +kernel))) rfl
theorem im_X3_lead : Cond.instanceMethod yX3_lead ∈ gTbl := gTbl_of (in_1 (List.mem_of_getElem? (i := 197) (by decide +kernel))) rfl
theorem sl_X3_lead : Cond.selects RX3 yX3_lead yX3_lead ∈ gTbl := gTbl_of (in_1 (List.mem_of_getElem? (i := 198) (by decide +kernel))) rfl
theorem cd_X3_lead : Cond.code yX3_lead cX3_lead 3 (some .boolean) ∈ gTbl := gTbl_of (in_1 (List.mem_of_getElem? (i := 199) rfl)) rfl
theorem ml_X3_46 : Cond.methodLink RX3 46 yX3_there ∈ gTbl := gTbl_of (in_1 (List.mem_of_getElem? (i := 200) (by decide +kernel))) rfl
theorem im_X3_there : Cond.instanceMethod yX3_there ∈ gTbl := gTbl_of (in_1 (List.mem_of_getElem? (i := 201) (by decide +kernel))) rfl
theorem sl_X3_there : Cond.selects RX3 yX3_there yX3_there ∈ gTbl := gTbl_of (in_1 (List.mem_of_getElem? (i := 202) (by decide +kernel))) rfl
theorem cd_X3_there : Cond.code yX3_there cX3_there 2 (some .boolean) ∈ gTbl := gTbl_of (in_1 (List.mem_of_getElem? (i := 203) rfl)) rfl
theorem ml_X5_113 : Cond.methodLink RX5 113 yX3_blockOrFree ∈ gTbl := gTbl_of (in_1 (List.mem_of_getElem? (i := 204) (by decide +kernel))) rfl
theorem im_X3_blockOrFree : Cond.instanceMethod yX3_blockOrFree ∈ gTbl := gTbl_of (in_1 (List.mem_of_getElem? (i := 205) (by decide +kernel))) rfl
theorem sl_X3_blockOrFree : Cond.selects RX3 yX3_blockOrFree yX3_blockOrFree ∈ gTbl := gTbl_of (in_1 (List.mem_of_getElem? (i := 206) (by decide +kernel))) rfl
theorem cd_X3_blockOrFree : Cond.code yX3_blockOrFree cX3_blockOrFree 2 (some .boolean) ∈ gTbl := gTbl_of (in_1 (List.mem_of_getElem? (i := 207) rfl)) rfl
theorem ml_X5_116 : Cond.methodLink RX5 116 yX3_fill ∈ gTbl := gTbl_of (in_1 (List.mem_of_getElem? (i := 208) (by decide +kernel))) rfl
theorem im_X3_fill : Cond.instanceMethod yX3_fill ∈ gTbl := gTbl_of (in_1 (List.mem_of_getElem? (i := 209) (by decide +kernel))) rfl
theorem sl_X3_fill : Cond.selects RX3 yX3_fill yX3_fill ∈ gTbl := gTbl_of (in_1 (List.mem_of_getElem? (i := 210) (by decide +kernel))) rfl
theorem cd_X3_fill : Cond.code yX3_fill cX3_fill 3 (some .boolean) ∈ gTbl := gTbl_of (in_1 (List.mem_of_getElem? (i := 211) rfl)) rfl
theorem ml_X3_60 : Cond.methodLink RX3 60 Lib.Math.min.name ∈ gTbl := gTbl_of (in_1 (List.mem_of_getElem? (i := 212) (by decide +kernel))) rfl
theorem sm_J9_min_7cf53 : Cond.static Lib.Math.min.name ∈ gTbl := gTbl_of (in_1 (List.mem_of_getElem? (i := 213) (by decide +kernel))) rfl
theorem cd_min : Cond.code Lib.Math.min.name Lib.Math.min.code 2 (some .int) ∈ gTbl := gTbl_of (in_1 (List.mem_of_getElem? (i := 214) rfl)) rfl
theorem ml_X5_122 : Cond.methodLink RX5 122 yX3_emptyCup ∈ gTbl := gTbl_of (in_1 (List.mem_of_getElem? (i := 215) (by decide +kernel))) rfl
theorem im_X3_emptyCup : Cond.instanceMethod yX3_emptyCup ∈ gTbl := gTbl_of (in_1 (List.mem_of_getElem? (i := 216) (by decide +kernel))) rfl
theorem sl_X3_emptyCup : Cond.selects RX3 yX3_emptyCup yX3_emptyCup ∈ gTbl := gTbl_of (in_1 (List.mem_of_getElem? (i := 217) (by decide +kernel))) rfl
theorem cd_X3_emptyCup : Cond.code yX3_emptyCup cX3_emptyCup 1 none ∈ gTbl := gTbl_of (in_1 (List.mem_of_getElem? (i := 218) rfl)) rfl
theorem ml_X5_125 : Cond.methodLink RX5 125 yX3_hasTimeFor ∈ gTbl := gTbl_of (in_1 (List.mem_of_getElem? (i := 219) (by decide +kernel))) rfl
theorem im_X3_hasTimeFor : Cond.instanceMethod yX3_hasTimeFor ∈ gTbl := gTbl_of (in_1 (List.mem_of_getElem? (i := 220) (by decide +kernel))) rfl
theorem sl_X3_hasTimeFor : Cond.selects RX3 yX3_hasTimeFor yX3_hasTimeFor ∈ gTbl := gTbl_of (in_1 (List.mem_of_getElem? (i := 221) (by decide +kernel))) rfl
theorem cd_X3_hasTimeFor : Cond.code yX3_hasTimeFor cX3_hasTimeFor 2 (some .boolean) ∈ gTbl := gTbl_of (in_1 (List.mem_of_getElem? (i := 222) rfl)) rfl
theorem ml_X5_128 : Cond.methodLink RX5 128 yX3_pass ∈ gTbl := gTbl_of (in_1 (List.mem_of_getElem? (i := 223) (by decide +kernel))) rfl
theorem im_X3_pass : Cond.instanceMethod yX3_pass ∈ gTbl := gTbl_of (in_1 (List.mem_of_getElem? (i := 224) (by decide +kernel))) rfl
theorem sl_X3_pass : Cond.selects RX3 yX3_pass yX3_pass ∈ gTbl := gTbl_of (in_1 (List.mem_of_getElem? (i := 225) (by decide +kernel))) rfl
theorem cd_X3_pass : Cond.code yX3_pass cX3_pass 3 none ∈ gTbl := gTbl_of (in_1 (List.mem_of_getElem? (i := 226) rfl)) rfl
theorem ml_X3_76 : Cond.methodLink RX3 76 yX3_flow ∈ gTbl := gTbl_of (in_1 (List.mem_of_getElem? (i := 227) (by decide +kernel))) rfl
theorem im_X3_flow : Cond.instanceMethod yX3_flow ∈ gTbl := gTbl_of (in_1 (List.mem_of_getElem? (i := 228) (by decide +kernel))) rfl
theorem sl_X3_flow : Cond.selects RX3 yX3_flow yX3_flow ∈ gTbl := gTbl_of (in_1 (List.mem_of_getElem? (i := 229) (by decide +kernel))) rfl
theorem cd_X3_flow : Cond.code yX3_flow cX3_flow 5 (some .boolean) ∈ gTbl := gTbl_of (in_1 (List.mem_of_getElem? (i := 230) rfl)) rfl
theorem ml_X3_66 : Cond.methodLink RX3 66 yX3_isBlocked ∈ gTbl := gTbl_of (in_1 (List.mem_of_getElem? (i := 231) (by decide +kernel))) rfl
theorem im_X3_isBlocked : Cond.instanceMethod yX3_isBlocked ∈ gTbl := gTbl_of (in_1 (List.mem_of_getElem? (i := 232) (by decide +kernel))) rfl
theorem sl_X3_isBlocked : Cond.selects RX3 yX3_isBlocked yX3_isBlocked ∈ gTbl := gTbl_of (in_1 (List.mem_of_getElem? (i := 233) (by decide +kernel))) rfl
theorem cd_X3_isBlocked : Cond.code yX3_isBlocked cX3_isBlocked 2 (some .boolean) ∈ gTbl := gTbl_of (in_1 (List.mem_of_getElem? (i := 234) rfl)) rfl
theorem ml_X3_50 : Cond.methodLink RX3 50 yX0_letsThrough ∈ gTbl := gTbl_of (in_1 (List.mem_of_getElem? (i := 235) (by decide +kernel))) rfl
theorem sm_X0_letsThrough : Cond.static yX0_letsThrough ∈ gTbl := gTbl_of (in_1 (List.mem_of_getElem? (i := 236) (by decide +kernel))) rfl
theorem cd_X0_letsThrough : Cond.code yX0_letsThrough cX0_letsThrough 5 (some .int) ∈ gTbl := gTbl_of (in_1 (List.mem_of_getElem? (i := 237) rfl)) rfl
theorem ml_X0_7 : Cond.methodLink RX0 7 yX0_stands ∈ gTbl := gTbl_of (in_1 (List.mem_of_getElem? (i := 238) (by decide +kernel))) rfl
theorem sm_X0_stands : Cond.static yX0_stands ∈ gTbl := gTbl_of (in_1 (List.mem_of_getElem? (i := 239) (by decide +kernel))) rfl
theorem cd_X0_stands : Cond.code yX0_stands cX0_stands 1 (some .int) ∈ gTbl := gTbl_of (in_2 (List.mem_of_getElem? (i := 0) rfl)) rfl
theorem ml_X0_13 : Cond.methodLink RX0 13 yX0_wouldLet ∈ gTbl := gTbl_of (in_2 (List.mem_of_getElem? (i := 1) (by decide +kernel))) rfl
theorem sm_X0_wouldLet : Cond.static yX0_wouldLet ∈ gTbl := gTbl_of (in_2 (List.mem_of_getElem? (i := 2) (by decide +kernel))) rfl
theorem cd_X0_wouldLet : Cond.code yX0_wouldLet cX0_wouldLet 3 (some .int) ∈ gTbl := gTbl_of (in_2 (List.mem_of_getElem? (i := 3) rfl)) rfl
theorem ml_X3_69 : Cond.methodLink RX3 69 yX0_adds ∈ gTbl := gTbl_of (in_2 (List.mem_of_getElem? (i := 4) (by decide +kernel))) rfl
theorem sm_X0_adds : Cond.static yX0_adds ∈ gTbl := gTbl_of (in_2 (List.mem_of_getElem? (i := 5) (by decide +kernel))) rfl
theorem cd_X0_adds : Cond.code yX0_adds cX0_adds 2 (some .int) ∈ gTbl := gTbl_of (in_2 (List.mem_of_getElem? (i := 6) rfl)) rfl
theorem ml_X3_72 : Cond.methodLink RX3 72 yX3_fill ∈ gTbl := gTbl_of (in_2 (List.mem_of_getElem? (i := 7) (by decide +kernel))) rfl
theorem ml_X5_100 : Cond.methodLink RX5 100 yX4_forget ∈ gTbl := gTbl_of (in_2 (List.mem_of_getElem? (i := 8) (by decide +kernel))) rfl
theorem im_X4_forget : Cond.instanceMethod yX4_forget ∈ gTbl := gTbl_of (in_2 (List.mem_of_getElem? (i := 9) (by decide +kernel))) rfl
theorem sl_X4_forget : Cond.selects RX4 yX4_forget yX4_forget ∈ gTbl := gTbl_of (in_2 (List.mem_of_getElem? (i := 10) (by decide +kernel))) rfl
theorem cd_X4_forget : Cond.code yX4_forget cX4_forget 1 none ∈ gTbl := gTbl_of (in_2 (List.mem_of_getElem? (i := 11) rfl)) rfl
theorem ml_X5_69 : Cond.methodLink RX5 69 yX1_drop ∈ gTbl := gTbl_of (in_2 (List.mem_of_getElem? (i := 12) (by decide +kernel))) rfl
theorem im_X1_drop : Cond.instanceMethod yX1_drop ∈ gTbl := gTbl_of (in_2 (List.mem_of_getElem? (i := 13) (by decide +kernel))) rfl
theorem sl_X1_drop : Cond.selects RX1 yX1_drop yX1_drop ∈ gTbl := gTbl_of (in_2 (List.mem_of_getElem? (i := 14) (by decide +kernel))) rfl
theorem cd_X1_drop : Cond.code yX1_drop cX1_drop 1 none ∈ gTbl := gTbl_of (in_2 (List.mem_of_getElem? (i := 15) rfl)) rfl
theorem ml_L_23 : Cond.methodLink RL 23 yX5_houseOf ∈ gTbl := gTbl_of (in_2 (List.mem_of_getElem? (i := 16) (by decide +kernel))) rfl
theorem im_X5_houseOf : Cond.instanceMethod yX5_houseOf ∈ gTbl := gTbl_of (in_2 (List.mem_of_getElem? (i := 17) (by decide +kernel))) rfl
theorem sl_X5_houseOf : Cond.selects RX5 yX5_houseOf yX5_houseOf ∈ gTbl := gTbl_of (in_2 (List.mem_of_getElem? (i := 18) (by decide +kernel))) rfl
theorem cd_X5_houseOf : Cond.code yX5_houseOf cX5_houseOf 3 (some .int) ∈ gTbl := gTbl_of (in_2 (List.mem_of_getElem? (i := 19) rfl)) rfl
theorem ml_X5_72 : Cond.methodLink RX5 72 yX3_there ∈ gTbl := gTbl_of (in_2 (List.mem_of_getElem? (i := 20) (by decide +kernel))) rfl
theorem ml_X5_75 : Cond.methodLink RX5 75 yX3_kindOf ∈ gTbl := gTbl_of (in_2 (List.mem_of_getElem? (i := 21) (by decide +kernel))) rfl
theorem im_X3_kindOf : Cond.instanceMethod yX3_kindOf ∈ gTbl := gTbl_of (in_2 (List.mem_of_getElem? (i := 22) (by decide +kernel))) rfl
theorem sl_X3_kindOf : Cond.selects RX3 yX3_kindOf yX3_kindOf ∈ gTbl := gTbl_of (in_2 (List.mem_of_getElem? (i := 23) (by decide +kernel))) rfl
theorem cd_X3_kindOf : Cond.code yX3_kindOf cX3_kindOf 2 (some .int) ∈ gTbl := gTbl_of (in_2 (List.mem_of_getElem? (i := 24) rfl)) rfl
theorem ml_X5_78 : Cond.methodLink RX5 78 yX3_figureOf ∈ gTbl := gTbl_of (in_2 (List.mem_of_getElem? (i := 25) (by decide +kernel))) rfl
theorem im_X3_figureOf : Cond.instanceMethod yX3_figureOf ∈ gTbl := gTbl_of (in_2 (List.mem_of_getElem? (i := 26) (by decide +kernel))) rfl
theorem sl_X3_figureOf : Cond.selects RX3 yX3_figureOf yX3_figureOf ∈ gTbl := gTbl_of (in_2 (List.mem_of_getElem? (i := 27) (by decide +kernel))) rfl
theorem cd_X3_figureOf : Cond.code yX3_figureOf cX3_figureOf 2 (some .int) ∈ gTbl := gTbl_of (in_2 (List.mem_of_getElem? (i := 28) rfl)) rfl
theorem ml_X5_81 : Cond.methodLink RX5 81 yX3_holdsOf ∈ gTbl := gTbl_of (in_2 (List.mem_of_getElem? (i := 29) (by decide +kernel))) rfl
theorem im_X3_holdsOf : Cond.instanceMethod yX3_holdsOf ∈ gTbl := gTbl_of (in_2 (List.mem_of_getElem? (i := 30) (by decide +kernel))) rfl
theorem sl_X3_holdsOf : Cond.selects RX3 yX3_holdsOf yX3_holdsOf ∈ gTbl := gTbl_of (in_2 (List.mem_of_getElem? (i := 31) (by decide +kernel))) rfl
theorem cd_X3_holdsOf : Cond.code yX3_holdsOf cX3_holdsOf 2 (some .int) ∈ gTbl := gTbl_of (in_2 (List.mem_of_getElem? (i := 32) rfl)) rfl
theorem ml_X5_84 : Cond.methodLink RX5 84 yX3_nextOf ∈ gTbl := gTbl_of (in_2 (List.mem_of_getElem? (i := 33) (by decide +kernel))) rfl
theorem im_X3_nextOf : Cond.instanceMethod yX3_nextOf ∈ gTbl := gTbl_of (in_2 (List.mem_of_getElem? (i := 34) (by decide +kernel))) rfl
theorem sl_X3_nextOf : Cond.selects RX3 yX3_nextOf yX3_nextOf ∈ gTbl := gTbl_of (in_2 (List.mem_of_getElem? (i := 35) (by decide +kernel))) rfl
theorem cd_X3_nextOf : Cond.code yX3_nextOf cX3_nextOf 2 (some .int) ∈ gTbl := gTbl_of (in_2 (List.mem_of_getElem? (i := 36) rfl)) rfl
theorem ml_X5_87 : Cond.methodLink RX5 87 yX3_isBlocked ∈ gTbl := gTbl_of (in_2 (List.mem_of_getElem? (i := 37) (by decide +kernel))) rfl
theorem ml_X5_90 : Cond.methodLink RX5 90 yX3_isWet ∈ gTbl := gTbl_of (in_2 (List.mem_of_getElem? (i := 38) (by decide +kernel))) rfl
theorem im_X3_isWet : Cond.instanceMethod yX3_isWet ∈ gTbl := gTbl_of (in_2 (List.mem_of_getElem? (i := 39) (by decide +kernel))) rfl
theorem sl_X3_isWet : Cond.selects RX3 yX3_isWet yX3_isWet ∈ gTbl := gTbl_of (in_2 (List.mem_of_getElem? (i := 40) (by decide +kernel))) rfl
theorem cd_X3_isWet : Cond.code yX3_isWet cX3_isWet 2 (some .boolean) ∈ gTbl := gTbl_of (in_2 (List.mem_of_getElem? (i := 41) rfl)) rfl
theorem ml_X5_93 : Cond.methodLink RX5 93 yX3_letsThrough ∈ gTbl := gTbl_of (in_2 (List.mem_of_getElem? (i := 42) (by decide +kernel))) rfl
theorem im_X3_letsThrough : Cond.instanceMethod yX3_letsThrough ∈ gTbl := gTbl_of (in_2 (List.mem_of_getElem? (i := 43) (by decide +kernel))) rfl
theorem sl_X3_letsThrough : Cond.selects RX3 yX3_letsThrough yX3_letsThrough ∈ gTbl := gTbl_of (in_2 (List.mem_of_getElem? (i := 44) (by decide +kernel))) rfl
theorem cd_X3_letsThrough : Cond.code yX3_letsThrough cX3_letsThrough 2 (some .int) ∈ gTbl := gTbl_of (in_2 (List.mem_of_getElem? (i := 45) rfl)) rfl
theorem ml_L_28 : Cond.methodLink RL 28 yX5_house ∈ gTbl := gTbl_of (in_2 (List.mem_of_getElem? (i := 46) (by decide +kernel))) rfl
theorem im_X5_house : Cond.instanceMethod yX5_house ∈ gTbl := gTbl_of (in_2 (List.mem_of_getElem? (i := 47) (by decide +kernel))) rfl
theorem sl_X5_house : Cond.selects RX5 yX5_house yX5_house ∈ gTbl := gTbl_of (in_2 (List.mem_of_getElem? (i := 48) (by decide +kernel))) rfl
theorem cd_X5_house : Cond.code yX5_house cX5_house 4 (some .int) ∈ gTbl := gTbl_of (in_2 (List.mem_of_getElem? (i := 49) rfl)) rfl
theorem ml_X5_103 : Cond.methodLink RX5 103 yX3_houses ∈ gTbl := gTbl_of (in_2 (List.mem_of_getElem? (i := 50) (by decide +kernel))) rfl
theorem im_X3_houses : Cond.instanceMethod yX3_houses ∈ gTbl := gTbl_of (in_2 (List.mem_of_getElem? (i := 51) (by decide +kernel))) rfl
theorem sl_X3_houses : Cond.selects RX3 yX3_houses yX3_houses ∈ gTbl := gTbl_of (in_2 (List.mem_of_getElem? (i := 52) (by decide +kernel))) rfl
theorem cd_X3_houses : Cond.code yX3_houses cX3_houses 1 (some .int) ∈ gTbl := gTbl_of (in_2 (List.mem_of_getElem? (i := 53) rfl)) rfl
theorem ml_L_32 : Cond.methodLink RL 32 yX5_joins ∈ gTbl := gTbl_of (in_2 (List.mem_of_getElem? (i := 54) (by decide +kernel))) rfl
theorem im_X5_joins : Cond.instanceMethod yX5_joins ∈ gTbl := gTbl_of (in_2 (List.mem_of_getElem? (i := 55) (by decide +kernel))) rfl
theorem sl_X5_joins : Cond.selects RX5 yX5_joins yX5_joins ∈ gTbl := gTbl_of (in_2 (List.mem_of_getElem? (i := 56) (by decide +kernel))) rfl
theorem cd_X5_joins : Cond.code yX5_joins cX5_joins 4 (some .int) ∈ gTbl := gTbl_of (in_2 (List.mem_of_getElem? (i := 57) rfl)) rfl
theorem ml_X5_106 : Cond.methodLink RX5 106 yX4_keep ∈ gTbl := gTbl_of (in_2 (List.mem_of_getElem? (i := 58) (by decide +kernel))) rfl
theorem im_X4_keep : Cond.instanceMethod yX4_keep ∈ gTbl := gTbl_of (in_2 (List.mem_of_getElem? (i := 59) (by decide +kernel))) rfl
theorem sl_X4_keep : Cond.selects RX4 yX4_keep yX4_keep ∈ gTbl := gTbl_of (in_2 (List.mem_of_getElem? (i := 60) (by decide +kernel))) rfl
theorem cd_X4_keep : Cond.code yX4_keep cX4_keep 3 none ∈ gTbl := gTbl_of (in_2 (List.mem_of_getElem? (i := 61) rfl)) rfl
theorem ml_X4_25 : Cond.methodLink RX4 25 Lib.Math.min.name ∈ gTbl := gTbl_of (in_2 (List.mem_of_getElem? (i := 62) (by decide +kernel))) rfl
theorem ml_X4_31 : Cond.methodLink RX4 31 yX3_become ∈ gTbl := gTbl_of (in_2 (List.mem_of_getElem? (i := 63) (by decide +kernel))) rfl
theorem ml_L_36 : Cond.methodLink RL 36 yX5_blocks ∈ gTbl := gTbl_of (in_2 (List.mem_of_getElem? (i := 64) (by decide +kernel))) rfl
theorem im_X5_blocks : Cond.instanceMethod yX5_blocks ∈ gTbl := gTbl_of (in_2 (List.mem_of_getElem? (i := 65) (by decide +kernel))) rfl
theorem sl_X5_blocks : Cond.selects RX5 yX5_blocks yX5_blocks ∈ gTbl := gTbl_of (in_2 (List.mem_of_getElem? (i := 66) (by decide +kernel))) rfl
theorem cd_X5_blocks : Cond.code yX5_blocks cX5_blocks 2 (some .int) ∈ gTbl := gTbl_of (in_2 (List.mem_of_getElem? (i := 67) rfl)) rfl
theorem ml_L_40 : Cond.methodLink RL 40 yX5_pours ∈ gTbl := gTbl_of (in_2 (List.mem_of_getElem? (i := 68) (by decide +kernel))) rfl
theorem im_X5_pours : Cond.instanceMethod yX5_pours ∈ gTbl := gTbl_of (in_2 (List.mem_of_getElem? (i := 69) (by decide +kernel))) rfl
theorem sl_X5_pours : Cond.selects RX5 yX5_pours yX5_pours ∈ gTbl := gTbl_of (in_2 (List.mem_of_getElem? (i := 70) (by decide +kernel))) rfl
theorem cd_X5_pours : Cond.code yX5_pours cX5_pours 4 (some .int) ∈ gTbl := gTbl_of (in_2 (List.mem_of_getElem? (i := 71) rfl)) rfl
theorem ml_L_44 : Cond.methodLink RL 44 yX5_empties ∈ gTbl := gTbl_of (in_2 (List.mem_of_getElem? (i := 72) (by decide +kernel))) rfl
theorem im_X5_empties : Cond.instanceMethod yX5_empties ∈ gTbl := gTbl_of (in_2 (List.mem_of_getElem? (i := 73) (by decide +kernel))) rfl
theorem sl_X5_empties : Cond.selects RX5 yX5_empties yX5_empties ∈ gTbl := gTbl_of (in_2 (List.mem_of_getElem? (i := 74) (by decide +kernel))) rfl
theorem cd_X5_empties : Cond.code yX5_empties cX5_empties 2 (some .int) ∈ gTbl := gTbl_of (in_2 (List.mem_of_getElem? (i := 75) rfl)) rfl
theorem ml_X5_119 : Cond.methodLink RX5 119 yX3_inCup ∈ gTbl := gTbl_of (in_2 (List.mem_of_getElem? (i := 76) (by decide +kernel))) rfl
theorem im_X3_inCup : Cond.instanceMethod yX3_inCup ∈ gTbl := gTbl_of (in_2 (List.mem_of_getElem? (i := 77) (by decide +kernel))) rfl
theorem sl_X3_inCup : Cond.selects RX3 yX3_inCup yX3_inCup ∈ gTbl := gTbl_of (in_2 (List.mem_of_getElem? (i := 78) (by decide +kernel))) rfl
theorem cd_X3_inCup : Cond.code yX3_inCup cX3_inCup 1 (some .int) ∈ gTbl := gTbl_of (in_2 (List.mem_of_getElem? (i := 79) rfl)) rfl
theorem ml_L_48 : Cond.methodLink RL 48 yX5_hours ∈ gTbl := gTbl_of (in_2 (List.mem_of_getElem? (i := 80) (by decide +kernel))) rfl
theorem im_X5_hours : Cond.instanceMethod yX5_hours ∈ gTbl := gTbl_of (in_2 (List.mem_of_getElem? (i := 81) (by decide +kernel))) rfl
theorem sl_X5_hours : Cond.selects RX5 yX5_hours yX5_hours ∈ gTbl := gTbl_of (in_2 (List.mem_of_getElem? (i := 82) (by decide +kernel))) rfl
theorem cd_X5_hours : Cond.code yX5_hours cX5_hours 3 (some .int) ∈ gTbl := gTbl_of (in_2 (List.mem_of_getElem? (i := 83) rfl)) rfl
theorem ml_L_52 : Cond.methodLink RL 52 yX5_back ∈ gTbl := gTbl_of (in_2 (List.mem_of_getElem? (i := 84) (by decide +kernel))) rfl
theorem im_X5_back : Cond.instanceMethod yX5_back ∈ gTbl := gTbl_of (in_2 (List.mem_of_getElem? (i := 85) (by decide +kernel))) rfl
theorem sl_X5_back : Cond.selects RX5 yX5_back yX5_back ∈ gTbl := gTbl_of (in_2 (List.mem_of_getElem? (i := 86) (by decide +kernel))) rfl
theorem cd_X5_back : Cond.code yX5_back cX5_back 1 (some .int) ∈ gTbl := gTbl_of (in_2 (List.mem_of_getElem? (i := 87) rfl)) rfl
theorem ml_X5_132 : Cond.methodLink RX5 132 yX4_giveLatest ∈ gTbl := gTbl_of (in_2 (List.mem_of_getElem? (i := 88) (by decide +kernel))) rfl
theorem im_X4_giveLatest : Cond.instanceMethod yX4_giveLatest ∈ gTbl := gTbl_of (in_2 (List.mem_of_getElem? (i := 89) (by decide +kernel))) rfl
theorem sl_X4_giveLatest : Cond.selects RX4 yX4_giveLatest yX4_giveLatest ∈ gTbl := gTbl_of (in_2 (List.mem_of_getElem? (i := 90) (by decide +kernel))) rfl
theorem cd_X4_giveLatest : Cond.code yX4_giveLatest cX4_giveLatest 2 (some .boolean) ∈ gTbl := gTbl_of (in_2 (List.mem_of_getElem? (i := 91) rfl)) rfl
theorem ml_X5_136 : Cond.methodLink RX5 136 yX4_size ∈ gTbl := gTbl_of (in_2 (List.mem_of_getElem? (i := 92) (by decide +kernel))) rfl
theorem im_X4_size : Cond.instanceMethod yX4_size ∈ gTbl := gTbl_of (in_2 (List.mem_of_getElem? (i := 93) (by decide +kernel))) rfl
theorem sl_X4_size : Cond.selects RX4 yX4_size yX4_size ∈ gTbl := gTbl_of (in_2 (List.mem_of_getElem? (i := 94) (by decide +kernel))) rfl
theorem cd_X4_size : Cond.code yX4_size cX4_size 1 (some .int) ∈ gTbl := gTbl_of (in_2 (List.mem_of_getElem? (i := 95) rfl)) rfl
theorem ml_L_56 : Cond.methodLink RL 56 yX5_holdsIn ∈ gTbl := gTbl_of (in_2 (List.mem_of_getElem? (i := 96) (by decide +kernel))) rfl
theorem im_X5_holdsIn : Cond.instanceMethod yX5_holdsIn ∈ gTbl := gTbl_of (in_2 (List.mem_of_getElem? (i := 97) (by decide +kernel))) rfl
theorem sl_X5_holdsIn : Cond.selects RX5 yX5_holdsIn yX5_holdsIn ∈ gTbl := gTbl_of (in_2 (List.mem_of_getElem? (i := 98) (by decide +kernel))) rfl
theorem cd_X5_holdsIn : Cond.code yX5_holdsIn cX5_holdsIn 4 (some .int) ∈ gTbl := gTbl_of (in_2 (List.mem_of_getElem? (i := 99) rfl)) rfl
theorem ml_L_60 : Cond.methodLink RL 60 yX5_then ∈ gTbl := gTbl_of (in_2 (List.mem_of_getElem? (i := 100) (by decide +kernel))) rfl
theorem im_X5_then : Cond.instanceMethod yX5_then ∈ gTbl := gTbl_of (in_2 (List.mem_of_getElem? (i := 101) (by decide +kernel))) rfl
theorem sl_X5_then : Cond.selects RX5 yX5_then yX5_then ∈ gTbl := gTbl_of (in_2 (List.mem_of_getElem? (i := 102) (by decide +kernel))) rfl
theorem cd_X5_then : Cond.code yX5_then cX5_then 4 (some .int) ∈ gTbl := gTbl_of (in_2 (List.mem_of_getElem? (i := 103) rfl)) rfl
theorem ml_X5_140 : Cond.methodLink RX5 140 yX3_holdsInAll ∈ gTbl := gTbl_of (in_2 (List.mem_of_getElem? (i := 104) (by decide +kernel))) rfl
theorem im_X3_holdsInAll : Cond.instanceMethod yX3_holdsInAll ∈ gTbl := gTbl_of (in_2 (List.mem_of_getElem? (i := 105) (by decide +kernel))) rfl
theorem sl_X3_holdsInAll : Cond.selects RX3 yX3_holdsInAll yX3_holdsInAll ∈ gTbl := gTbl_of (in_2 (List.mem_of_getElem? (i := 106) (by decide +kernel))) rfl
theorem cd_X3_holdsInAll : Cond.code yX3_holdsInAll cX3_holdsInAll 3 (some .int) ∈ gTbl := gTbl_of (in_2 (List.mem_of_getElem? (i := 107) rfl)) rfl
theorem ml_L_64 : Cond.methodLink RL 64 yX5_drip ∈ gTbl := gTbl_of (in_2 (List.mem_of_getElem? (i := 108) (by decide +kernel))) rfl
theorem im_X5_drip : Cond.instanceMethod yX5_drip ∈ gTbl := gTbl_of (in_2 (List.mem_of_getElem? (i := 109) (by decide +kernel))) rfl
theorem sl_X5_drip : Cond.selects RX5 yX5_drip yX5_drip ∈ gTbl := gTbl_of (in_2 (List.mem_of_getElem? (i := 110) (by decide +kernel))) rfl
theorem cd_X5_drip : Cond.code yX5_drip cX5_drip 2 (some .int) ∈ gTbl := gTbl_of (in_2 (List.mem_of_getElem? (i := 111) rfl)) rfl
theorem ml_X5_143 : Cond.methodLink RX5 143 yX5_firstDrip ∈ gTbl := gTbl_of (in_2 (List.mem_of_getElem? (i := 112) (by decide +kernel))) rfl
theorem im_X5_firstDrip : Cond.instanceMethod yX5_firstDrip ∈ gTbl := gTbl_of (in_2 (List.mem_of_getElem? (i := 114) (by decide +kernel))) rfl
theorem cd_X5_firstDrip : Cond.code yX5_firstDrip cX5_firstDrip 2 (some .int) ∈ gTbl := gTbl_of (in_2 (List.mem_of_getElem? (i := 115) rfl)) rfl
theorem ml_X5_152 : Cond.methodLink RX5 152 yX3_flow ∈ gTbl := gTbl_of (in_2 (List.mem_of_getElem? (i := 116) (by decide +kernel))) rfl
theorem ml_X5_146 : Cond.methodLink RX5 146 yX5_driedAfter ∈ gTbl := gTbl_of (in_2 (List.mem_of_getElem? (i := 117) (by decide +kernel))) rfl
theorem im_X5_driedAfter : Cond.instanceMethod yX5_driedAfter ∈ gTbl := gTbl_of (in_2 (List.mem_of_getElem? (i := 119) (by decide +kernel))) rfl
theorem cd_X5_driedAfter : Cond.code yX5_driedAfter cX5_driedAfter 2 (some .int) ∈ gTbl := gTbl_of (in_2 (List.mem_of_getElem? (i := 120) rfl)) rfl
theorem ml_X5_149 : Cond.methodLink RX5 149 yX5_settledAfter ∈ gTbl := gTbl_of (in_2 (List.mem_of_getElem? (i := 121) (by decide +kernel))) rfl
theorem im_X5_settledAfter : Cond.instanceMethod yX5_settledAfter ∈ gTbl := gTbl_of (in_2 (List.mem_of_getElem? (i := 123) (by decide +kernel))) rfl
theorem cd_X5_settledAfter : Cond.code yX5_settledAfter cX5_settledAfter 2 (some .int) ∈ gTbl := gTbl_of (in_2 (List.mem_of_getElem? (i := 124) rfl)) rfl
theorem ml_L_68 : Cond.methodLink RL 68 yX5_reaches ∈ gTbl := gTbl_of (in_2 (List.mem_of_getElem? (i := 125) (by decide +kernel))) rfl
theorem im_X5_reaches : Cond.instanceMethod yX5_reaches ∈ gTbl := gTbl_of (in_2 (List.mem_of_getElem? (i := 126) (by decide +kernel))) rfl
theorem sl_X5_reaches : Cond.selects RX5 yX5_reaches yX5_reaches ∈ gTbl := gTbl_of (in_2 (List.mem_of_getElem? (i := 127) (by decide +kernel))) rfl
theorem cd_X5_reaches : Cond.code yX5_reaches cX5_reaches 5 (some .int) ∈ gTbl := gTbl_of (in_2 (List.mem_of_getElem? (i := 128) rfl)) rfl
theorem ml_L_72 : Cond.methodLink RL 72 yX5_pour ∈ gTbl := gTbl_of (in_2 (List.mem_of_getElem? (i := 129) (by decide +kernel))) rfl
theorem im_X5_pour : Cond.instanceMethod yX5_pour ∈ gTbl := gTbl_of (in_2 (List.mem_of_getElem? (i := 130) (by decide +kernel))) rfl
theorem sl_X5_pour : Cond.selects RX5 yX5_pour yX5_pour ∈ gTbl := gTbl_of (in_2 (List.mem_of_getElem? (i := 131) (by decide +kernel))) rfl
theorem cd_X5_pour : Cond.code yX5_pour cX5_pour 8 (some .int) ∈ gTbl := gTbl_of (in_2 (List.mem_of_getElem? (i := 132) rfl)) rfl
theorem ml_X5_156 : Cond.methodLink RX5 156 yX5_cupBehind ∈ gTbl := gTbl_of (in_2 (List.mem_of_getElem? (i := 133) (by decide +kernel))) rfl
theorem im_X5_cupBehind : Cond.instanceMethod yX5_cupBehind ∈ gTbl := gTbl_of (in_2 (List.mem_of_getElem? (i := 135) (by decide +kernel))) rfl
theorem cd_X5_cupBehind : Cond.code yX5_cupBehind cX5_cupBehind 2 (some .int) ∈ gTbl := gTbl_of (in_2 (List.mem_of_getElem? (i := 136) rfl)) rfl
theorem ml_L_77 : Cond.methodLink RL 77 yX5_least ∈ gTbl := gTbl_of (in_2 (List.mem_of_getElem? (i := 137) (by decide +kernel))) rfl
theorem im_X5_least : Cond.instanceMethod yX5_least ∈ gTbl := gTbl_of (in_2 (List.mem_of_getElem? (i := 138) (by decide +kernel))) rfl
theorem sl_X5_least : Cond.selects RX5 yX5_least yX5_least ∈ gTbl := gTbl_of (in_2 (List.mem_of_getElem? (i := 139) (by decide +kernel))) rfl
theorem cd_X5_least : Cond.code yX5_least cX5_least 4 (some .int) ∈ gTbl := gTbl_of (in_2 (List.mem_of_getElem? (i := 140) rfl)) rfl
theorem ml_L_81 : Cond.methodLink RL 81 yX5_clearing ∈ gTbl := gTbl_of (in_2 (List.mem_of_getElem? (i := 141) (by decide +kernel))) rfl
theorem im_X5_clearing : Cond.instanceMethod yX5_clearing ∈ gTbl := gTbl_of (in_2 (List.mem_of_getElem? (i := 142) (by decide +kernel))) rfl
theorem sl_X5_clearing : Cond.selects RX5 yX5_clearing yX5_clearing ∈ gTbl := gTbl_of (in_2 (List.mem_of_getElem? (i := 143) (by decide +kernel))) rfl
theorem cd_X5_clearing : Cond.code yX5_clearing cX5_clearing 9 (some .int) ∈ gTbl := gTbl_of (in_2 (List.mem_of_getElem? (i := 144) rfl)) rfl
theorem ml_X5_159 : Cond.methodLink RX5 159 yX3_blockedBits ∈ gTbl := gTbl_of (in_2 (List.mem_of_getElem? (i := 145) (by decide +kernel))) rfl
theorem im_X3_blockedBits : Cond.instanceMethod yX3_blockedBits ∈ gTbl := gTbl_of (in_2 (List.mem_of_getElem? (i := 146) (by decide +kernel))) rfl
theorem sl_X3_blockedBits : Cond.selects RX3 yX3_blockedBits yX3_blockedBits ∈ gTbl := gTbl_of (in_2 (List.mem_of_getElem? (i := 147) (by decide +kernel))) rfl
theorem cd_X3_blockedBits : Cond.code yX3_blockedBits cX3_blockedBits 1 (some .int) ∈ gTbl := gTbl_of (in_2 (List.mem_of_getElem? (i := 148) rfl)) rfl
theorem ml_X5_162 : Cond.methodLink RX5 162 yX3_free ∈ gTbl := gTbl_of (in_2 (List.mem_of_getElem? (i := 149) (by decide +kernel))) rfl
theorem im_X3_free : Cond.instanceMethod yX3_free ∈ gTbl := gTbl_of (in_2 (List.mem_of_getElem? (i := 150) (by decide +kernel))) rfl
theorem sl_X3_free : Cond.selects RX3 yX3_free yX3_free ∈ gTbl := gTbl_of (in_2 (List.mem_of_getElem? (i := 151) (by decide +kernel))) rfl
theorem cd_X3_free : Cond.code yX3_free cX3_free 2 none ∈ gTbl := gTbl_of (in_2 (List.mem_of_getElem? (i := 152) rfl)) rfl
theorem ml_X5_165 : Cond.methodLink RX5 165 yJ6_bitCount_0f7a4 ∈ gTbl := gTbl_of (in_2 (List.mem_of_getElem? (i := 153) (by decide +kernel))) rfl
theorem sm_J6_bitCount_0f7a4 : Cond.static yJ6_bitCount_0f7a4 ∈ gTbl := gTbl_of (in_2 (List.mem_of_getElem? (i := 154) (by decide +kernel))) rfl
theorem cd_J6_bitCount_0f7a4 : Cond.code yJ6_bitCount_0f7a4 cJ6_bitCount_0f7a4 1 (some .int) ∈ gTbl := gTbl_of (in_2 (List.mem_of_getElem? (i := 155) rfl)) rfl
theorem ct_J6_265 : Cond.constant RJ6 265 (1431655765) ∈ gTbl := gTbl_of (in_2 (List.mem_of_getElem? (i := 156) (by decide +kernel))) rfl
theorem ct_J6_266 : Cond.constant RJ6 266 (858993459) ∈ gTbl := gTbl_of (in_2 (List.mem_of_getElem? (i := 157) (by decide +kernel))) rfl
theorem ct_J6_267 : Cond.constant RJ6 267 (252645135) ∈ gTbl := gTbl_of (in_2 (List.mem_of_getElem? (i := 158) (by decide +kernel))) rfl
theorem ml_L_85 : Cond.methodLink RL 85 yX5_stop ∈ gTbl := gTbl_of (in_2 (List.mem_of_getElem? (i := 159) (by decide +kernel))) rfl
theorem im_X5_stop : Cond.instanceMethod yX5_stop ∈ gTbl := gTbl_of (in_2 (List.mem_of_getElem? (i := 160) (by decide +kernel))) rfl
theorem sl_X5_stop : Cond.selects RX5 yX5_stop yX5_stop ∈ gTbl := gTbl_of (in_2 (List.mem_of_getElem? (i := 161) (by decide +kernel))) rfl
theorem cd_X5_stop : Cond.code yX5_stop cX5_stop 7 (some .int) ∈ gTbl := gTbl_of (in_2 (List.mem_of_getElem? (i := 162) rfl)) rfl
theorem ml_X5_170 : Cond.methodLink RX5 170 yX3_block ∈ gTbl := gTbl_of (in_2 (List.mem_of_getElem? (i := 163) (by decide +kernel))) rfl
theorem im_X3_block : Cond.instanceMethod yX3_block ∈ gTbl := gTbl_of (in_2 (List.mem_of_getElem? (i := 164) (by decide +kernel))) rfl
theorem sl_X3_block : Cond.selects RX3 yX3_block yX3_block ∈ gTbl := gTbl_of (in_2 (List.mem_of_getElem? (i := 165) (by decide +kernel))) rfl
theorem cd_X3_block : Cond.code yX3_block cX3_block 2 none ∈ gTbl := gTbl_of (in_2 (List.mem_of_getElem? (i := 166) rfl)) rfl
theorem ml_L_89 : Cond.methodLink RL 89 yX5_join ∈ gTbl := gTbl_of (in_2 (List.mem_of_getElem? (i := 167) (by decide +kernel))) rfl
theorem im_X5_join : Cond.instanceMethod yX5_join ∈ gTbl := gTbl_of (in_2 (List.mem_of_getElem? (i := 168) (by decide +kernel))) rfl
theorem sl_X5_join : Cond.selects RX5 yX5_join yX5_join ∈ gTbl := gTbl_of (in_2 (List.mem_of_getElem? (i := 169) (by decide +kernel))) rfl
theorem cd_X5_join : Cond.code yX5_join cX5_join 8 (some .int) ∈ gTbl := gTbl_of (in_2 (List.mem_of_getElem? (i := 170) rfl)) rfl
theorem ml_L_93 : Cond.methodLink RL 93 yX5_way ∈ gTbl := gTbl_of (in_2 (List.mem_of_getElem? (i := 171) (by decide +kernel))) rfl
theorem im_X5_way : Cond.instanceMethod yX5_way ∈ gTbl := gTbl_of (in_2 (List.mem_of_getElem? (i := 172) (by decide +kernel))) rfl
theorem sl_X5_way : Cond.selects RX5 yX5_way yX5_way ∈ gTbl := gTbl_of (in_2 (List.mem_of_getElem? (i := 173) (by decide +kernel))) rfl
theorem cd_X5_way : Cond.code yX5_way cX5_way 4 (some .int) ∈ gTbl := gTbl_of (in_2 (List.mem_of_getElem? (i := 174) rfl)) rfl
theorem ml_X5_173 : Cond.methodLink RX5 173 yX3_wayBits ∈ gTbl := gTbl_of (in_2 (List.mem_of_getElem? (i := 175) (by decide +kernel))) rfl
theorem im_X3_wayBits : Cond.instanceMethod yX3_wayBits ∈ gTbl := gTbl_of (in_2 (List.mem_of_getElem? (i := 176) (by decide +kernel))) rfl
theorem sl_X3_wayBits : Cond.selects RX3 yX3_wayBits yX3_wayBits ∈ gTbl := gTbl_of (in_2 (List.mem_of_getElem? (i := 177) (by decide +kernel))) rfl
theorem cd_X3_wayBits : Cond.code yX3_wayBits cX3_wayBits 5 (some .int) ∈ gTbl := gTbl_of (in_2 (List.mem_of_getElem? (i := 178) rfl)) rfl
theorem ml_L_97 : Cond.methodLink RL 97 yX5_whichBlocked ∈ gTbl := gTbl_of (in_2 (List.mem_of_getElem? (i := 179) (by decide +kernel))) rfl
theorem im_X5_whichBlocked : Cond.instanceMethod yX5_whichBlocked ∈ gTbl := gTbl_of (in_2 (List.mem_of_getElem? (i := 180) (by decide +kernel))) rfl
theorem sl_X5_whichBlocked : Cond.selects RX5 yX5_whichBlocked yX5_whichBlocked ∈ gTbl := gTbl_of (in_2 (List.mem_of_getElem? (i := 181) (by decide +kernel))) rfl
theorem cd_X5_whichBlocked : Cond.code yX5_whichBlocked cX5_whichBlocked 3 (some .int) ∈ gTbl := gTbl_of (in_2 (List.mem_of_getElem? (i := 182) rfl)) rfl
theorem ml_X5_176 : Cond.methodLink RX5 176 yX5_rowTellsCup ∈ gTbl := gTbl_of (in_2 (List.mem_of_getElem? (i := 183) (by decide +kernel))) rfl
theorem im_X5_rowTellsCup : Cond.instanceMethod yX5_rowTellsCup ∈ gTbl := gTbl_of (in_2 (List.mem_of_getElem? (i := 185) (by decide +kernel))) rfl
theorem cd_X5_rowTellsCup : Cond.code yX5_rowTellsCup cX5_rowTellsCup 2 (some .boolean) ∈ gTbl := gTbl_of (in_2 (List.mem_of_getElem? (i := 186) rfl)) rfl
theorem ml_X5_224 : Cond.methodLink RX5 224 yX2_size ∈ gTbl := gTbl_of (in_2 (List.mem_of_getElem? (i := 187) (by decide +kernel))) rfl
theorem im_X2_size : Cond.instanceMethod yX2_size ∈ gTbl := gTbl_of (in_2 (List.mem_of_getElem? (i := 188) (by decide +kernel))) rfl
theorem sl_X2_size : Cond.selects RX2 yX2_size yX2_size ∈ gTbl := gTbl_of (in_2 (List.mem_of_getElem? (i := 189) (by decide +kernel))) rfl
theorem cd_X2_size : Cond.code yX2_size cX2_size 1 (some .int) ∈ gTbl := gTbl_of (in_2 (List.mem_of_getElem? (i := 190) rfl)) rfl
theorem ml_X5_225 : Cond.methodLink RX5 225 yX2_at ∈ gTbl := gTbl_of (in_2 (List.mem_of_getElem? (i := 191) (by decide +kernel))) rfl
theorem im_X2_at : Cond.instanceMethod yX2_at ∈ gTbl := gTbl_of (in_2 (List.mem_of_getElem? (i := 192) (by decide +kernel))) rfl
theorem sl_X2_at : Cond.selects RX2 yX2_at yX2_at ∈ gTbl := gTbl_of (in_2 (List.mem_of_getElem? (i := 193) (by decide +kernel))) rfl
theorem cd_X2_at : Cond.code yX2_at cX2_at 2 (some .int) ∈ gTbl := gTbl_of (in_2 (List.mem_of_getElem? (i := 194) rfl)) rfl
theorem ml_L_101 : Cond.methodLink RL 101 yX5_wasPoured ∈ gTbl := gTbl_of (in_2 (List.mem_of_getElem? (i := 195) (by decide +kernel))) rfl
theorem im_X5_wasPoured : Cond.instanceMethod yX5_wasPoured ∈ gTbl := gTbl_of (in_2 (List.mem_of_getElem? (i := 196) (by decide +kernel))) rfl
theorem sl_X5_wasPoured : Cond.selects RX5 yX5_wasPoured yX5_wasPoured ∈ gTbl := gTbl_of (in_2 (List.mem_of_getElem? (i := 197) (by decide +kernel))) rfl
theorem cd_X5_wasPoured : Cond.code yX5_wasPoured cX5_wasPoured 7 (some .int) ∈ gTbl := gTbl_of (in_2 (List.mem_of_getElem? (i := 198) rfl)) rfl
theorem ml_L_105 : Cond.methodLink RL 105 yX5_whatKind ∈ gTbl := gTbl_of (in_2 (List.mem_of_getElem? (i := 199) (by decide +kernel))) rfl
theorem im_X5_whatKind : Cond.instanceMethod yX5_whatKind ∈ gTbl := gTbl_of (in_2 (List.mem_of_getElem? (i := 200) (by decide +kernel))) rfl
theorem sl_X5_whatKind : Cond.selects RX5 yX5_whatKind yX5_whatKind ∈ gTbl := gTbl_of (in_2 (List.mem_of_getElem? (i := 201) (by decide +kernel))) rfl
theorem cd_X5_whatKind : Cond.code yX5_whatKind cX5_whatKind 3 (some .int) ∈ gTbl := gTbl_of (in_2 (List.mem_of_getElem? (i := 202) rfl)) rfl
theorem ml_X5_179 : Cond.methodLink RX5 179 yX5_kindsTold ∈ gTbl := gTbl_of (in_2 (List.mem_of_getElem? (i := 203) (by decide +kernel))) rfl
theorem im_X5_kindsTold : Cond.instanceMethod yX5_kindsTold ∈ gTbl := gTbl_of (in_2 (List.mem_of_getElem? (i := 205) (by decide +kernel))) rfl
theorem cd_X5_kindsTold : Cond.code yX5_kindsTold cX5_kindsTold 4 (some .int) ∈ gTbl := gTbl_of (in_2 (List.mem_of_getElem? (i := 206) rfl)) rfl
theorem ml_X5_219 : Cond.methodLink RX5 219 yX3_remake ∈ gTbl := gTbl_of (in_2 (List.mem_of_getElem? (i := 207) (by decide +kernel))) rfl
theorem im_X3_remake : Cond.instanceMethod yX3_remake ∈ gTbl := gTbl_of (in_2 (List.mem_of_getElem? (i := 208) (by decide +kernel))) rfl
theorem sl_X3_remake : Cond.selects RX3 yX3_remake yX3_remake ∈ gTbl := gTbl_of (in_2 (List.mem_of_getElem? (i := 209) (by decide +kernel))) rfl
theorem cd_X3_remake : Cond.code yX3_remake cX3_remake 4 none ∈ gTbl := gTbl_of (in_2 (List.mem_of_getElem? (i := 210) rfl)) rfl
theorem ml_X5_182 : Cond.methodLink RX5 182 yX5_figuresTold ∈ gTbl := gTbl_of (in_2 (List.mem_of_getElem? (i := 211) (by decide +kernel))) rfl
theorem im_X5_figuresTold : Cond.instanceMethod yX5_figuresTold ∈ gTbl := gTbl_of (in_2 (List.mem_of_getElem? (i := 213) (by decide +kernel))) rfl
theorem cd_X5_figuresTold : Cond.code yX5_figuresTold cX5_figuresTold 4 (some .int) ∈ gTbl := gTbl_of (in_2 (List.mem_of_getElem? (i := 214) rfl)) rfl
theorem ml_L_109 : Cond.methodLink RL 109 yX5_two ∈ gTbl := gTbl_of (in_2 (List.mem_of_getElem? (i := 215) (by decide +kernel))) rfl
theorem im_X5_two : Cond.instanceMethod yX5_two ∈ gTbl := gTbl_of (in_2 (List.mem_of_getElem? (i := 216) (by decide +kernel))) rfl
theorem sl_X5_two : Cond.selects RX5 yX5_two yX5_two ∈ gTbl := gTbl_of (in_2 (List.mem_of_getElem? (i := 217) (by decide +kernel))) rfl
theorem cd_X5_two : Cond.code yX5_two cX5_two 7 (some .int) ∈ gTbl := gTbl_of (in_2 (List.mem_of_getElem? (i := 218) rfl)) rfl
theorem ml_X5_185 : Cond.methodLink RX5 185 yX5_isContent ∈ gTbl := gTbl_of (in_2 (List.mem_of_getElem? (i := 219) (by decide +kernel))) rfl
theorem im_X5_isContent : Cond.instanceMethod yX5_isContent ∈ gTbl := gTbl_of (in_2 (List.mem_of_getElem? (i := 221) (by decide +kernel))) rfl
theorem cd_X5_isContent : Cond.code yX5_isContent cX5_isContent 7 (some .boolean) ∈ gTbl := gTbl_of (in_2 (List.mem_of_getElem? (i := 222) rfl)) rfl
theorem ml_X5_257 : Cond.methodLink RX5 257 yX5_gain ∈ gTbl := gTbl_of (in_2 (List.mem_of_getElem? (i := 223) (by decide +kernel))) rfl
theorem im_X5_gain : Cond.instanceMethod yX5_gain ∈ gTbl := gTbl_of (in_2 (List.mem_of_getElem? (i := 225) (by decide +kernel))) rfl
theorem cd_X5_gain : Cond.code yX5_gain cX5_gain 6 (some .int) ∈ gTbl := gTbl_of (in_2 (List.mem_of_getElem? (i := 226) rfl)) rfl
theorem ml_L_113 : Cond.methodLink RL 113 yX5_blocked ∈ gTbl := gTbl_of (in_2 (List.mem_of_getElem? (i := 227) (by decide +kernel))) rfl
theorem im_X5_blocked : Cond.instanceMethod yX5_blocked ∈ gTbl := gTbl_of (in_2 (List.mem_of_getElem? (i := 228) (by decide +kernel))) rfl
theorem sl_X5_blocked : Cond.selects RX5 yX5_blocked yX5_blocked ∈ gTbl := gTbl_of (in_2 (List.mem_of_getElem? (i := 229) (by decide +kernel))) rfl
theorem cd_X5_blocked : Cond.code yX5_blocked cX5_blocked 14 (some .long) ∈ gTbl := gTbl_of (in_2 (List.mem_of_getElem? (i := 230) rfl)) rfl
theorem ml_X5_189 : Cond.methodLink RX5 189 yX5_refuseLong ∈ gTbl := gTbl_of (in_2 (List.mem_of_getElem? (i := 231) (by decide +kernel))) rfl
theorem im_X5_refuseLong : Cond.instanceMethod yX5_refuseLong ∈ gTbl := gTbl_of (in_2 (List.mem_of_getElem? (i := 233) (by decide +kernel))) rfl
theorem cd_X5_refuseLong : Cond.code yX5_refuseLong cX5_refuseLong 2 (some .long) ∈ gTbl := gTbl_of (in_2 (List.mem_of_getElem? (i := 234) rfl)) rfl
theorem ct_X5_245 : Cond.constantLong RX5 245 (4000000000000000000) ∈ gTbl := gTbl_of (in_2 (List.mem_of_getElem? (i := 235) (by decide +kernel))) rfl
theorem ml_X5_193 : Cond.methodLink RX5 193 yX5_partOf ∈ gTbl := gTbl_of (in_2 (List.mem_of_getElem? (i := 236) (by decide +kernel))) rfl
theorem sm_X5_partOf : Cond.static yX5_partOf ∈ gTbl := gTbl_of (in_2 (List.mem_of_getElem? (i := 237) (by decide +kernel))) rfl
theorem cd_X5_partOf : Cond.code yX5_partOf cX5_partOf 9 (some .long) ∈ gTbl := gTbl_of (in_2 (List.mem_of_getElem? (i := 238) rfl)) rfl
theorem ml_X5_279 : Cond.methodLink RX5 279 yX5_commonDivisor ∈ gTbl := gTbl_of (in_2 (List.mem_of_getElem? (i := 239) (by decide +kernel))) rfl
theorem sm_X5_commonDivisor : Cond.static yX5_commonDivisor ∈ gTbl := gTbl_of (in_3 (List.mem_of_getElem? (i := 0) (by decide +kernel))) rfl
theorem cd_X5_commonDivisor : Cond.code yX5_commonDivisor cX5_commonDivisor 11 (some .long) ∈ gTbl := gTbl_of (in_3 (List.mem_of_getElem? (i := 1) rfl)) rfl
theorem ml_L_118 : Cond.methodLink RL 118 yX5_shares ∈ gTbl := gTbl_of (in_3 (List.mem_of_getElem? (i := 2) (by decide +kernel))) rfl
theorem im_X5_shares : Cond.instanceMethod yX5_shares ∈ gTbl := gTbl_of (in_3 (List.mem_of_getElem? (i := 3) (by decide +kernel))) rfl
theorem sl_X5_shares : Cond.selects RX5 yX5_shares yX5_shares ∈ gTbl := gTbl_of (in_3 (List.mem_of_getElem? (i := 4) (by decide +kernel))) rfl
theorem cd_X5_shares : Cond.code yX5_shares cX5_shares 4 (some .int) ∈ gTbl := gTbl_of (in_3 (List.mem_of_getElem? (i := 5) rfl)) rfl
theorem ml_L_122 : Cond.methodLink RL 122 yX5_fullest ∈ gTbl := gTbl_of (in_3 (List.mem_of_getElem? (i := 6) (by decide +kernel))) rfl
theorem im_X5_fullest : Cond.instanceMethod yX5_fullest ∈ gTbl := gTbl_of (in_3 (List.mem_of_getElem? (i := 7) (by decide +kernel))) rfl
theorem sl_X5_fullest : Cond.selects RX5 yX5_fullest yX5_fullest ∈ gTbl := gTbl_of (in_3 (List.mem_of_getElem? (i := 8) (by decide +kernel))) rfl
theorem cd_X5_fullest : Cond.code yX5_fullest cX5_fullest 2 (some .int) ∈ gTbl := gTbl_of (in_3 (List.mem_of_getElem? (i := 9) rfl)) rfl
theorem ml_X5_197 : Cond.methodLink RX5 197 yX5_houseHoldingMost ∈ gTbl := gTbl_of (in_3 (List.mem_of_getElem? (i := 10) (by decide +kernel))) rfl
theorem im_X5_houseHoldingMost : Cond.instanceMethod yX5_houseHoldingMost ∈ gTbl := gTbl_of (in_3 (List.mem_of_getElem? (i := 12) (by decide +kernel))) rfl
theorem cd_X5_houseHoldingMost : Cond.code yX5_houseHoldingMost cX5_houseHoldingMost 4 (some .int) ∈ gTbl := gTbl_of (in_3 (List.mem_of_getElem? (i := 13) rfl)) rfl
theorem ml_X5_200 : Cond.methodLink RX5 200 yX5_housesAtCup ∈ gTbl := gTbl_of (in_3 (List.mem_of_getElem? (i := 14) (by decide +kernel))) rfl
theorem im_X5_housesAtCup : Cond.instanceMethod yX5_housesAtCup ∈ gTbl := gTbl_of (in_3 (List.mem_of_getElem? (i := 16) (by decide +kernel))) rfl
theorem cd_X5_housesAtCup : Cond.code yX5_housesAtCup cX5_housesAtCup 3 (some .int) ∈ gTbl := gTbl_of (in_3 (List.mem_of_getElem? (i := 17) rfl)) rfl
theorem ml_X5_203 : Cond.methodLink RX5 203 yX3_allBits ∈ gTbl := gTbl_of (in_3 (List.mem_of_getElem? (i := 18) (by decide +kernel))) rfl
theorem im_X3_allBits : Cond.instanceMethod yX3_allBits ∈ gTbl := gTbl_of (in_3 (List.mem_of_getElem? (i := 19) (by decide +kernel))) rfl
theorem sl_X3_allBits : Cond.selects RX3 yX3_allBits yX3_allBits ∈ gTbl := gTbl_of (in_3 (List.mem_of_getElem? (i := 20) (by decide +kernel))) rfl
theorem cd_X3_allBits : Cond.code yX3_allBits cX3_allBits 1 (some .int) ∈ gTbl := gTbl_of (in_3 (List.mem_of_getElem? (i := 21) rfl)) rfl
theorem ml_X5_206 : Cond.methodLink RX5 206 yX3_wetBits ∈ gTbl := gTbl_of (in_3 (List.mem_of_getElem? (i := 22) (by decide +kernel))) rfl
theorem im_X3_wetBits : Cond.instanceMethod yX3_wetBits ∈ gTbl := gTbl_of (in_3 (List.mem_of_getElem? (i := 23) (by decide +kernel))) rfl
theorem sl_X3_wetBits : Cond.selects RX3 yX3_wetBits yX3_wetBits ∈ gTbl := gTbl_of (in_3 (List.mem_of_getElem? (i := 24) (by decide +kernel))) rfl
theorem cd_X3_wetBits : Cond.code yX3_wetBits cX3_wetBits 1 (some .int) ∈ gTbl := gTbl_of (in_3 (List.mem_of_getElem? (i := 25) rfl)) rfl
theorem ml_X5_209 : Cond.methodLink RX5 209 yX5_longestWay ∈ gTbl := gTbl_of (in_3 (List.mem_of_getElem? (i := 26) (by decide +kernel))) rfl
theorem im_X5_longestWay : Cond.instanceMethod yX5_longestWay ∈ gTbl := gTbl_of (in_3 (List.mem_of_getElem? (i := 28) (by decide +kernel))) rfl
theorem cd_X5_longestWay : Cond.code yX5_longestWay cX5_longestWay 3 (some .int) ∈ gTbl := gTbl_of (in_3 (List.mem_of_getElem? (i := 29) rfl)) rfl
theorem ml_X5_261 : Cond.methodLink RX5 261 Lib.Math.max.name ∈ gTbl := gTbl_of (in_3 (List.mem_of_getElem? (i := 30) (by decide +kernel))) rfl
theorem sm_J9_max_7cf53 : Cond.static Lib.Math.max.name ∈ gTbl := gTbl_of (in_3 (List.mem_of_getElem? (i := 31) (by decide +kernel))) rfl
theorem cd_max : Cond.code Lib.Math.max.name Lib.Math.max.code 2 (some .int) ∈ gTbl := gTbl_of (in_3 (List.mem_of_getElem? (i := 32) rfl)) rfl
theorem ml_X5_212 : Cond.methodLink RX5 212 yX5_longestStill ∈ gTbl := gTbl_of (in_3 (List.mem_of_getElem? (i := 33) (by decide +kernel))) rfl
theorem im_X5_longestStill : Cond.instanceMethod yX5_longestStill ∈ gTbl := gTbl_of (in_3 (List.mem_of_getElem? (i := 35) (by decide +kernel))) rfl
theorem cd_X5_longestStill : Cond.code yX5_longestStill cX5_longestStill 4 (some .int) ∈ gTbl := gTbl_of (in_3 (List.mem_of_getElem? (i := 36) rfl)) rfl
theorem ml_X5_267 : Cond.methodLink RX5 267 yX3_hasDripped ∈ gTbl := gTbl_of (in_3 (List.mem_of_getElem? (i := 37) (by decide +kernel))) rfl
theorem im_X3_hasDripped : Cond.instanceMethod yX3_hasDripped ∈ gTbl := gTbl_of (in_3 (List.mem_of_getElem? (i := 38) (by decide +kernel))) rfl
theorem sl_X3_hasDripped : Cond.selects RX3 yX3_hasDripped yX3_hasDripped ∈ gTbl := gTbl_of (in_3 (List.mem_of_getElem? (i := 39) (by decide +kernel))) rfl
theorem cd_X3_hasDripped : Cond.code yX3_hasDripped cX3_hasDripped 1 (some .boolean) ∈ gTbl := gTbl_of (in_3 (List.mem_of_getElem? (i := 40) rfl)) rfl
theorem ml_X5_215 : Cond.methodLink RX5 215 yX5_twins ∈ gTbl := gTbl_of (in_3 (List.mem_of_getElem? (i := 41) (by decide +kernel))) rfl
theorem im_X5_twins : Cond.instanceMethod yX5_twins ∈ gTbl := gTbl_of (in_3 (List.mem_of_getElem? (i := 43) (by decide +kernel))) rfl
theorem cd_X5_twins : Cond.code yX5_twins cX5_twins 4 (some .int) ∈ gTbl := gTbl_of (in_3 (List.mem_of_getElem? (i := 44) rfl)) rfl
theorem ml_L_126 : Cond.methodLink RL 126 yX5_into ∈ gTbl := gTbl_of (in_3 (List.mem_of_getElem? (i := 45) (by decide +kernel))) rfl
theorem im_X5_into : Cond.instanceMethod yX5_into ∈ gTbl := gTbl_of (in_3 (List.mem_of_getElem? (i := 46) (by decide +kernel))) rfl
theorem sl_X5_into : Cond.selects RX5 yX5_into yX5_into ∈ gTbl := gTbl_of (in_3 (List.mem_of_getElem? (i := 47) (by decide +kernel))) rfl
theorem cd_X5_into : Cond.code yX5_into cX5_into 4 (some .int) ∈ gTbl := gTbl_of (in_3 (List.mem_of_getElem? (i := 48) rfl)) rfl
theorem ml_L_130 : Cond.methodLink RL 130 yX5_mean ∈ gTbl := gTbl_of (in_3 (List.mem_of_getElem? (i := 49) (by decide +kernel))) rfl
theorem im_X5_mean : Cond.instanceMethod yX5_mean ∈ gTbl := gTbl_of (in_3 (List.mem_of_getElem? (i := 50) (by decide +kernel))) rfl
theorem sl_X5_mean : Cond.selects RX5 yX5_mean yX5_mean ∈ gTbl := gTbl_of (in_3 (List.mem_of_getElem? (i := 51) (by decide +kernel))) rfl
theorem cd_X5_mean : Cond.code yX5_mean cX5_mean 2 (some .long) ∈ gTbl := gTbl_of (in_3 (List.mem_of_getElem? (i := 52) rfl)) rfl
theorem ml_L_135 : Cond.methodLink RL 135 yX5_strong ∈ gTbl := gTbl_of (in_3 (List.mem_of_getElem? (i := 53) (by decide +kernel))) rfl
theorem im_X5_strong : Cond.instanceMethod yX5_strong ∈ gTbl := gTbl_of (in_3 (List.mem_of_getElem? (i := 54) (by decide +kernel))) rfl
theorem sl_X5_strong : Cond.selects RX5 yX5_strong yX5_strong ∈ gTbl := gTbl_of (in_3 (List.mem_of_getElem? (i := 55) (by decide +kernel))) rfl
theorem cd_X5_strong : Cond.code yX5_strong cX5_strong 4 (some .int) ∈ gTbl := gTbl_of (in_3 (List.mem_of_getElem? (i := 56) rfl)) rfl
theorem ct_X5_218 : Cond.constant RX5 218 (1000000000) ∈ gTbl := gTbl_of (in_3 (List.mem_of_getElem? (i := 57) (by decide +kernel))) rfl
theorem ml_L_139 : Cond.methodLink RL 139 yX5_kinds ∈ gTbl := gTbl_of (in_3 (List.mem_of_getElem? (i := 58) (by decide +kernel))) rfl
theorem im_X5_kinds : Cond.instanceMethod yX5_kinds ∈ gTbl := gTbl_of (in_3 (List.mem_of_getElem? (i := 59) (by decide +kernel))) rfl
theorem sl_X5_kinds : Cond.selects RX5 yX5_kinds yX5_kinds ∈ gTbl := gTbl_of (in_3 (List.mem_of_getElem? (i := 60) (by decide +kernel))) rfl
theorem cd_X5_kinds : Cond.code yX5_kinds cX5_kinds 4 (some .int) ∈ gTbl := gTbl_of (in_3 (List.mem_of_getElem? (i := 61) rfl)) rfl
theorem ml_L_143 : Cond.methodLink RL 143 yX5_turn ∈ gTbl := gTbl_of (in_3 (List.mem_of_getElem? (i := 62) (by decide +kernel))) rfl
theorem im_X5_turn : Cond.instanceMethod yX5_turn ∈ gTbl := gTbl_of (in_3 (List.mem_of_getElem? (i := 63) (by decide +kernel))) rfl
theorem sl_X5_turn : Cond.selects RX5 yX5_turn yX5_turn ∈ gTbl := gTbl_of (in_3 (List.mem_of_getElem? (i := 64) (by decide +kernel))) rfl
theorem cd_X5_turn : Cond.code yX5_turn cX5_turn 8 (some .int) ∈ gTbl := gTbl_of (in_3 (List.mem_of_getElem? (i := 65) rfl)) rfl
theorem ml_L_147 : Cond.methodLink RL 147 yX5_row ∈ gTbl := gTbl_of (in_3 (List.mem_of_getElem? (i := 66) (by decide +kernel))) rfl
theorem im_X5_row : Cond.instanceMethod yX5_row ∈ gTbl := gTbl_of (in_3 (List.mem_of_getElem? (i := 67) (by decide +kernel))) rfl
theorem sl_X5_row : Cond.selects RX5 yX5_row yX5_row ∈ gTbl := gTbl_of (in_3 (List.mem_of_getElem? (i := 68) (by decide +kernel))) rfl
theorem cd_X5_row : Cond.code yX5_row cX5_row 3 (some .int) ∈ gTbl := gTbl_of (in_3 (List.mem_of_getElem? (i := 69) rfl)) rfl
theorem ml_X5_223 : Cond.methodLink RX5 223 yX2_add ∈ gTbl := gTbl_of (in_3 (List.mem_of_getElem? (i := 70) (by decide +kernel))) rfl
theorem im_X2_add : Cond.instanceMethod yX2_add ∈ gTbl := gTbl_of (in_3 (List.mem_of_getElem? (i := 71) (by decide +kernel))) rfl
theorem sl_X2_add : Cond.selects RX2 yX2_add yX2_add ∈ gTbl := gTbl_of (in_3 (List.mem_of_getElem? (i := 72) (by decide +kernel))) rfl
theorem cd_X2_add : Cond.code yX2_add cX2_add 2 (some .boolean) ∈ gTbl := gTbl_of (in_3 (List.mem_of_getElem? (i := 73) rfl)) rfl
theorem ml_L_151 : Cond.methodLink RL 151 yX5_judge ∈ gTbl := gTbl_of (in_3 (List.mem_of_getElem? (i := 74) (by decide +kernel))) rfl
theorem im_X5_judge : Cond.instanceMethod yX5_judge ∈ gTbl := gTbl_of (in_3 (List.mem_of_getElem? (i := 75) (by decide +kernel))) rfl
theorem sl_X5_judge : Cond.selects RX5 yX5_judge yX5_judge ∈ gTbl := gTbl_of (in_3 (List.mem_of_getElem? (i := 76) (by decide +kernel))) rfl
theorem cd_X5_judge : Cond.code yX5_judge cX5_judge 3 (some .int) ∈ gTbl := gTbl_of (in_3 (List.mem_of_getElem? (i := 77) rfl)) rfl
theorem ml_X5_228 : Cond.methodLink RX5 228 yX2_drop ∈ gTbl := gTbl_of (in_3 (List.mem_of_getElem? (i := 78) (by decide +kernel))) rfl
theorem im_X2_drop : Cond.instanceMethod yX2_drop ∈ gTbl := gTbl_of (in_3 (List.mem_of_getElem? (i := 79) (by decide +kernel))) rfl
theorem sl_X2_drop : Cond.selects RX2 yX2_drop yX2_drop ∈ gTbl := gTbl_of (in_3 (List.mem_of_getElem? (i := 80) (by decide +kernel))) rfl
theorem cd_X2_drop : Cond.code yX2_drop cX2_drop 1 none ∈ gTbl := gTbl_of (in_3 (List.mem_of_getElem? (i := 81) rfl)) rfl
theorem ml_L_155 : Cond.methodLink RL 155 yX5_clear ∈ gTbl := gTbl_of (in_3 (List.mem_of_getElem? (i := 82) (by decide +kernel))) rfl
theorem im_X5_clear : Cond.instanceMethod yX5_clear ∈ gTbl := gTbl_of (in_3 (List.mem_of_getElem? (i := 83) (by decide +kernel))) rfl
theorem sl_X5_clear : Cond.selects RX5 yX5_clear yX5_clear ∈ gTbl := gTbl_of (in_3 (List.mem_of_getElem? (i := 84) (by decide +kernel))) rfl
theorem cd_X5_clear : Cond.code yX5_clear cX5_clear 2 (some .int) ∈ gTbl := gTbl_of (in_3 (List.mem_of_getElem? (i := 85) rfl)) rfl
theorem ml_L_159 : Cond.methodLink RL 159 yX5_lots ∈ gTbl := gTbl_of (in_3 (List.mem_of_getElem? (i := 86) (by decide +kernel))) rfl
theorem im_X5_lots : Cond.instanceMethod yX5_lots ∈ gTbl := gTbl_of (in_3 (List.mem_of_getElem? (i := 87) (by decide +kernel))) rfl
theorem sl_X5_lots : Cond.selects RX5 yX5_lots yX5_lots ∈ gTbl := gTbl_of (in_3 (List.mem_of_getElem? (i := 88) (by decide +kernel))) rfl
theorem cd_X5_lots : Cond.code yX5_lots cX5_lots 8 (some .int) ∈ gTbl := gTbl_of (in_3 (List.mem_of_getElem? (i := 89) rfl)) rfl
theorem ml_X5_229 : Cond.methodLink RX5 229 yX5_liveWeek ∈ gTbl := gTbl_of (in_3 (List.mem_of_getElem? (i := 90) (by decide +kernel))) rfl
theorem im_X5_liveWeek : Cond.instanceMethod yX5_liveWeek ∈ gTbl := gTbl_of (in_3 (List.mem_of_getElem? (i := 92) (by decide +kernel))) rfl
theorem cd_X5_liveWeek : Cond.code yX5_liveWeek cX5_liveWeek 5 (some .int) ∈ gTbl := gTbl_of (in_3 (List.mem_of_getElem? (i := 93) rfl)) rfl
theorem ml_X5_270 : Cond.methodLink RX5 270 yX5_nextSeed ∈ gTbl := gTbl_of (in_3 (List.mem_of_getElem? (i := 94) (by decide +kernel))) rfl
theorem sm_X5_nextSeed : Cond.static yX5_nextSeed ∈ gTbl := gTbl_of (in_3 (List.mem_of_getElem? (i := 95) (by decide +kernel))) rfl
theorem cd_X5_nextSeed : Cond.code yX5_nextSeed cX5_nextSeed 1 (some .int) ∈ gTbl := gTbl_of (in_3 (List.mem_of_getElem? (i := 96) rfl)) rfl
theorem ct_X5_276 : Cond.constant RX5 276 (1103515245) ∈ gTbl := gTbl_of (in_3 (List.mem_of_getElem? (i := 97) (by decide +kernel))) rfl
theorem ml_X5_273 : Cond.methodLink RX5 273 yX5_drawn ∈ gTbl := gTbl_of (in_3 (List.mem_of_getElem? (i := 98) (by decide +kernel))) rfl
theorem sm_X5_drawn : Cond.static yX5_drawn ∈ gTbl := gTbl_of (in_3 (List.mem_of_getElem? (i := 99) (by decide +kernel))) rfl
theorem cd_X5_drawn : Cond.code yX5_drawn cX5_drawn 2 (some .int) ∈ gTbl := gTbl_of (in_3 (List.mem_of_getElem? (i := 100) rfl)) rfl
theorem ct_X5_277 : Cond.constant RX5 277 (2147483647) ∈ gTbl := gTbl_of (in_3 (List.mem_of_getElem? (i := 101) (by decide +kernel))) rfl
theorem ct_X5_278 : Cond.constant RX5 278 (65536) ∈ gTbl := gTbl_of (in_3 (List.mem_of_getElem? (i := 102) (by decide +kernel))) rfl
theorem ml_L_163 : Cond.methodLink RL 163 yX5_image ∈ gTbl := gTbl_of (in_3 (List.mem_of_getElem? (i := 103) (by decide +kernel))) rfl
theorem im_X5_image : Cond.instanceMethod yX5_image ∈ gTbl := gTbl_of (in_3 (List.mem_of_getElem? (i := 104) (by decide +kernel))) rfl
theorem sl_X5_image : Cond.selects RX5 yX5_image yX5_image ∈ gTbl := gTbl_of (in_3 (List.mem_of_getElem? (i := 105) (by decide +kernel))) rfl
theorem cd_X5_image : Cond.code yX5_image cX5_image 1 (some .int) ∈ gTbl := gTbl_of (in_3 (List.mem_of_getElem? (i := 106) rfl)) rfl
theorem ml_X5_239 : Cond.methodLink RX5 239 yX3_hour ∈ gTbl := gTbl_of (in_3 (List.mem_of_getElem? (i := 107) (by decide +kernel))) rfl
theorem im_X3_hour : Cond.instanceMethod yX3_hour ∈ gTbl := gTbl_of (in_3 (List.mem_of_getElem? (i := 108) (by decide +kernel))) rfl
theorem sl_X3_hour : Cond.selects RX3 yX3_hour yX3_hour ∈ gTbl := gTbl_of (in_3 (List.mem_of_getElem? (i := 109) (by decide +kernel))) rfl
theorem cd_X3_hour : Cond.code yX3_hour cX3_hour 1 (some .int) ∈ gTbl := gTbl_of (in_3 (List.mem_of_getElem? (i := 110) rfl)) rfl
theorem ml_L_167 : Cond.methodLink RL 167 yX5_restore ∈ gTbl := gTbl_of (in_3 (List.mem_of_getElem? (i := 111) (by decide +kernel))) rfl
theorem im_X5_restore : Cond.instanceMethod yX5_restore ∈ gTbl := gTbl_of (in_3 (List.mem_of_getElem? (i := 112) (by decide +kernel))) rfl
theorem sl_X5_restore : Cond.selects RX5 yX5_restore yX5_restore ∈ gTbl := gTbl_of (in_3 (List.mem_of_getElem? (i := 113) (by decide +kernel))) rfl
theorem cd_X5_restore : Cond.code yX5_restore cX5_restore 1 (some .int) ∈ gTbl := gTbl_of (in_3 (List.mem_of_getElem? (i := 114) rfl)) rfl
theorem ml_L_171 : Cond.methodLink RL 171 yX5_count ∈ gTbl := gTbl_of (in_3 (List.mem_of_getElem? (i := 115) (by decide +kernel))) rfl
theorem im_X5_count : Cond.instanceMethod yX5_count ∈ gTbl := gTbl_of (in_3 (List.mem_of_getElem? (i := 116) (by decide +kernel))) rfl
theorem sl_X5_count : Cond.selects RX5 yX5_count yX5_count ∈ gTbl := gTbl_of (in_3 (List.mem_of_getElem? (i := 117) (by decide +kernel))) rfl
theorem cd_X5_count : Cond.code yX5_count cX5_count 2 (some .int) ∈ gTbl := gTbl_of (in_3 (List.mem_of_getElem? (i := 118) rfl)) rfl
theorem ml_X5_242 : Cond.methodLink RX5 242 yX5_refusalsCounted ∈ gTbl := gTbl_of (in_3 (List.mem_of_getElem? (i := 119) (by decide +kernel))) rfl
theorem im_X5_refusalsCounted : Cond.instanceMethod yX5_refusalsCounted ∈ gTbl := gTbl_of (in_3 (List.mem_of_getElem? (i := 121) (by decide +kernel))) rfl
theorem cd_X5_refusalsCounted : Cond.code yX5_refusalsCounted cX5_refusalsCounted 2 (some .int) ∈ gTbl := gTbl_of (in_3 (List.mem_of_getElem? (i := 122) rfl)) rfl
theorem cl_L_10 : Cond.classLink RL 10 RX6 ∈ gTbl := gTbl_of (in_3 (List.mem_of_getElem? (i := 123) (by decide +kernel))) rfl
theorem ia_X6 : Cond.instantiable RX6 34 ∈ gTbl := gTbl_of (in_3 (List.mem_of_getElem? (i := 124) (by decide +kernel))) rfl
theorem ml_L_12 : Cond.methodLink RL 12 yX6_init ∈ gTbl := gTbl_of (in_3 (List.mem_of_getElem? (i := 125) (by decide +kernel))) rfl
theorem im_X6_init : Cond.instanceMethod yX6_init ∈ gTbl := gTbl_of (in_3 (List.mem_of_getElem? (i := 126) (by decide +kernel))) rfl
theorem cd_X6_init : Cond.code yX6_init cX6_init 1 none ∈ gTbl := gTbl_of (in_3 (List.mem_of_getElem? (i := 127) rfl)) rfl
theorem ml_X6_1 : Cond.methodLink RX6 1 objectInit ∈ gTbl := gTbl_of (in_3 (List.mem_of_getElem? (i := 128) (by decide +kernel))) rfl
theorem fl_X6_62 : Cond.fieldLink RX6 62 "PercolatedModel" "many" "I" ∈ gTbl := gTbl_of (in_3 (List.mem_of_getElem? (i := 129) (by decide +kernel))) rfl
theorem fl_X6_7 : Cond.fieldLink RX6 7 "PercolatedModel" "kinds0" "[I" ∈ gTbl := gTbl_of (in_3 (List.mem_of_getElem? (i := 130) (by decide +kernel))) rfl
theorem fl_X6_13 : Cond.fieldLink RX6 13 "PercolatedModel" "figures" "[I" ∈ gTbl := gTbl_of (in_3 (List.mem_of_getElem? (i := 131) (by decide +kernel))) rfl
theorem fl_X6_16 : Cond.fieldLink RX6 16 "PercolatedModel" "holds" "[I" ∈ gTbl := gTbl_of (in_3 (List.mem_of_getElem? (i := 132) (by decide +kernel))) rfl
theorem fl_X6_19 : Cond.fieldLink RX6 19 "PercolatedModel" "nexts" "[I" ∈ gTbl := gTbl_of (in_3 (List.mem_of_getElem? (i := 133) (by decide +kernel))) rfl
theorem fl_X6_83 : Cond.fieldLink RX6 83 "PercolatedModel" "shut" "I" ∈ gTbl := gTbl_of (in_3 (List.mem_of_getElem? (i := 134) (by decide +kernel))) rfl
theorem fl_X6_73 : Cond.fieldLink RX6 73 "PercolatedModel" "wet" "I" ∈ gTbl := gTbl_of (in_3 (List.mem_of_getElem? (i := 135) (by decide +kernel))) rfl
theorem fl_X6_101 : Cond.fieldLink RX6 101 "PercolatedModel" "cup" "I" ∈ gTbl := gTbl_of (in_3 (List.mem_of_getElem? (i := 136) (by decide +kernel))) rfl
theorem fl_X6_76 : Cond.fieldLink RX6 76 "PercolatedModel" "today" "I" ∈ gTbl := gTbl_of (in_3 (List.mem_of_getElem? (i := 137) (by decide +kernel))) rfl
theorem fl_X6_58 : Cond.fieldLink RX6 58 "PercolatedModel" "thrown" "I" ∈ gTbl := gTbl_of (in_3 (List.mem_of_getElem? (i := 138) (by decide +kernel))) rfl
theorem fl_X6_22 : Cond.fieldLink RX6 22 "PercolatedModel" "refusals" "[I" ∈ gTbl := gTbl_of (in_3 (List.mem_of_getElem? (i := 139) (by decide +kernel))) rfl
theorem fl_X6_79 : Cond.fieldLink RX6 79 "PercolatedModel" "isDripping" "Z" ∈ gTbl := gTbl_of (in_3 (List.mem_of_getElem? (i := 140) (by decide +kernel))) rfl
theorem fl_X6_25 : Cond.fieldLink RX6 25 "PercolatedModel" "letters" "[I" ∈ gTbl := gTbl_of (in_3 (List.mem_of_getElem? (i := 141) (by decide +kernel))) rfl
theorem fl_X6_111 : Cond.fieldLink RX6 111 "PercolatedModel" "letterMany" "I" ∈ gTbl := gTbl_of (in_3 (List.mem_of_getElem? (i := 142) (by decide +kernel))) rfl
theorem fl_X6_114 : Cond.fieldLink RX6 114 "PercolatedModel" "at0" "I" ∈ gTbl := gTbl_of (in_3 (List.mem_of_getElem? (i := 143) (by decide +kernel))) rfl
theorem fl_X6_117 : Cond.fieldLink RX6 117 "PercolatedModel" "isBad" "Z" ∈ gTbl := gTbl_of (in_3 (List.mem_of_getElem? (i := 144) (by decide +kernel))) rfl
theorem fl_X6_131 : Cond.fieldLink RX6 131 "PercolatedModel" "statements" "I" ∈ gTbl := gTbl_of (in_3 (List.mem_of_getElem? (i := 145) (by decide +kernel))) rfl
theorem fl_X6_28 : Cond.fieldLink RX6 28 "PercolatedModel" "placeIn" "[I" ∈ gTbl := gTbl_of (in_3 (List.mem_of_getElem? (i := 146) (by decide +kernel))) rfl
theorem fl_X6_31 : Cond.fieldLink RX6 31 "PercolatedModel" "letterOf" "[I" ∈ gTbl := gTbl_of (in_3 (List.mem_of_getElem? (i := 147) (by decide +kernel))) rfl
theorem fl_X6_34 : Cond.fieldLink RX6 34 "PercolatedModel" "numbers" "[I" ∈ gTbl := gTbl_of (in_3 (List.mem_of_getElem? (i := 148) (by decide +kernel))) rfl
theorem fl_X6_37 : Cond.fieldLink RX6 37 "PercolatedModel" "kept" "[I" ∈ gTbl := gTbl_of (in_3 (List.mem_of_getElem? (i := 149) (by decide +kernel))) rfl
theorem fl_X6_40 : Cond.fieldLink RX6 40 "PercolatedModel" "imaged" "[I" ∈ gTbl := gTbl_of (in_3 (List.mem_of_getElem? (i := 150) (by decide +kernel))) rfl
theorem fl_X6_187 : Cond.fieldLink RX6 187 "PercolatedModel" "hasImage" "Z" ∈ gTbl := gTbl_of (in_3 (List.mem_of_getElem? (i := 151) (by decide +kernel))) rfl
theorem fl_X6_177 : Cond.fieldLink RX6 177 "PercolatedModel" "place0" "I" ∈ gTbl := gTbl_of (in_3 (List.mem_of_getElem? (i := 152) (by decide +kernel))) rfl
theorem fl_X6_171 : Cond.fieldLink RX6 171 "PercolatedModel" "isTaking" "Z" ∈ gTbl := gTbl_of (in_3 (List.mem_of_getElem? (i := 153) (by decide +kernel))) rfl
theorem fl_X6_174 : Cond.fieldLink RX6 174 "PercolatedModel" "keptIn" "[I" ∈ gTbl := gTbl_of (in_3 (List.mem_of_getElem? (i := 154) (by decide +kernel))) rfl
theorem fl_X6_43 : Cond.fieldLink RX6 43 "PercolatedModel" "turns0" "[I" ∈ gTbl := gTbl_of (in_3 (List.mem_of_getElem? (i := 155) (by decide +kernel))) rfl
theorem fl_X6_46 : Cond.fieldLink RX6 46 "PercolatedModel" "turnOf" "[I" ∈ gTbl := gTbl_of (in_3 (List.mem_of_getElem? (i := 156) (by decide +kernel))) rfl
theorem fl_X6_168 : Cond.fieldLink RX6 168 "PercolatedModel" "turned" "I" ∈ gTbl := gTbl_of (in_3 (List.mem_of_getElem? (i := 157) (by decide +kernel))) rfl
theorem fl_X6_49 : Cond.fieldLink RX6 49 "PercolatedModel" "had" "[I" ∈ gTbl := gTbl_of (in_3 (List.mem_of_getElem? (i := 158) (by decide +kernel))) rfl
theorem fl_X6_52 : Cond.fieldLink RX6 52 "PercolatedModel" "row" "[I" ∈ gTbl := gTbl_of (in_3 (List.mem_of_getElem? (i := 159) (by decide +kernel))) rfl
theorem fl_X6_234 : Cond.fieldLink RX6 234 "PercolatedModel" "rowMany" "I" ∈ gTbl := gTbl_of (in_3 (List.mem_of_getElem? (i := 160) (by decide +kernel))) rfl
theorem fl_X6_55 : Cond.fieldLink RX6 55 "PercolatedModel" "gains" "[I" ∈ gTbl := gTbl_of (in_3 (List.mem_of_getElem? (i := 161) (by decide +kernel))) rfl
theorem fl_X6_266 : Cond.fieldLink RX6 266 "PercolatedModel" "seed" "I" ∈ gTbl := gTbl_of (in_3 (List.mem_of_getElem? (i := 162) (by decide +kernel))) rfl
theorem ml_L_17 : Cond.methodLink RL 17 yX6_feed ∈ gTbl := gTbl_of (in_3 (List.mem_of_getElem? (i := 232) (by decide +kernel))) rfl
theorem im_X6_feed : Cond.instanceMethod yX6_feed ∈ gTbl := gTbl_of (in_3 (List.mem_of_getElem? (i := 233) (by decide +kernel))) rfl
theorem sl_X6_feed : Cond.selects RX6 yX6_feed yX6_feed ∈ gTbl := gTbl_of (in_3 (List.mem_of_getElem? (i := 234) (by decide +kernel))) rfl
theorem cd_X6_feed : Cond.code yX6_feed cX6_feed 2 (some .int) ∈ gTbl := gTbl_of (in_3 (List.mem_of_getElem? (i := 235) rfl)) rfl
theorem ml_X6_108 : Cond.methodLink RX6 108 yX6_refuse ∈ gTbl := gTbl_of (in_3 (List.mem_of_getElem? (i := 236) (by decide +kernel))) rfl
theorem im_X6_refuse : Cond.instanceMethod yX6_refuse ∈ gTbl := gTbl_of (in_3 (List.mem_of_getElem? (i := 238) (by decide +kernel))) rfl
theorem cd_X6_refuse : Cond.code yX6_refuse cX6_refuse 2 (some .int) ∈ gTbl := gTbl_of (in_3 (List.mem_of_getElem? (i := 239) rfl)) rfl
theorem ml_L_22 : Cond.methodLink RL 22 yX6_parish ∈ gTbl := gTbl_of (in_4 (List.mem_of_getElem? (i := 0) (by decide +kernel))) rfl
theorem im_X6_parish : Cond.instanceMethod yX6_parish ∈ gTbl := gTbl_of (in_4 (List.mem_of_getElem? (i := 1) (by decide +kernel))) rfl
theorem sl_X6_parish : Cond.selects RX6 yX6_parish yX6_parish ∈ gTbl := gTbl_of (in_4 (List.mem_of_getElem? (i := 2) (by decide +kernel))) rfl
theorem cd_X6_parish : Cond.code yX6_parish cX6_parish 2 (some .int) ∈ gTbl := gTbl_of (in_4 (List.mem_of_getElem? (i := 3) rfl)) rfl
theorem ml_X6_156 : Cond.methodLink RX6 156 yX6_readStatement ∈ gTbl := gTbl_of (in_4 (List.mem_of_getElem? (i := 4) (by decide +kernel))) rfl
theorem im_X6_readStatement : Cond.instanceMethod yX6_readStatement ∈ gTbl := gTbl_of (in_4 (List.mem_of_getElem? (i := 6) (by decide +kernel))) rfl
theorem cd_X6_readStatement : Cond.code yX6_readStatement cX6_readStatement 3 none ∈ gTbl := gTbl_of (in_4 (List.mem_of_getElem? (i := 7) rfl)) rfl
theorem ml_X6_120 : Cond.methodLink RX6 120 yX6_here ∈ gTbl := gTbl_of (in_4 (List.mem_of_getElem? (i := 8) (by decide +kernel))) rfl
theorem im_X6_here : Cond.instanceMethod yX6_here ∈ gTbl := gTbl_of (in_4 (List.mem_of_getElem? (i := 10) (by decide +kernel))) rfl
theorem cd_X6_here : Cond.code yX6_here cX6_here 1 (some .int) ∈ gTbl := gTbl_of (in_4 (List.mem_of_getElem? (i := 11) rfl)) rfl
theorem ml_X6_134 : Cond.methodLink RX6 134 yX6_isLetter ∈ gTbl := gTbl_of (in_4 (List.mem_of_getElem? (i := 12) (by decide +kernel))) rfl
theorem sm_X6_isLetter : Cond.static yX6_isLetter ∈ gTbl := gTbl_of (in_4 (List.mem_of_getElem? (i := 13) (by decide +kernel))) rfl
theorem cd_X6_isLetter : Cond.code yX6_isLetter cX6_isLetter 1 (some .boolean) ∈ gTbl := gTbl_of (in_4 (List.mem_of_getElem? (i := 14) rfl)) rfl
theorem ml_X6_138 : Cond.methodLink RX6 138 yX6_readNumbers ∈ gTbl := gTbl_of (in_4 (List.mem_of_getElem? (i := 15) (by decide +kernel))) rfl
theorem im_X6_readNumbers : Cond.instanceMethod yX6_readNumbers ∈ gTbl := gTbl_of (in_4 (List.mem_of_getElem? (i := 17) (by decide +kernel))) rfl
theorem cd_X6_readNumbers : Cond.code yX6_readNumbers cX6_readNumbers 3 none ∈ gTbl := gTbl_of (in_4 (List.mem_of_getElem? (i := 18) rfl)) rfl
theorem ml_X6_128 : Cond.methodLink RX6 128 yX6_readDigits ∈ gTbl := gTbl_of (in_4 (List.mem_of_getElem? (i := 19) (by decide +kernel))) rfl
theorem im_X6_readDigits : Cond.instanceMethod yX6_readDigits ∈ gTbl := gTbl_of (in_4 (List.mem_of_getElem? (i := 21) (by decide +kernel))) rfl
theorem cd_X6_readDigits : Cond.code yX6_readDigits cX6_readDigits 4 (some .int) ∈ gTbl := gTbl_of (in_4 (List.mem_of_getElem? (i := 22) rfl)) rfl
theorem ct_X6_124 : Cond.constantLong RX6 124 (48) ∈ gTbl := gTbl_of (in_4 (List.mem_of_getElem? (i := 23) (by decide +kernel))) rfl
theorem ct_X6_126 : Cond.constantLong RX6 126 (57) ∈ gTbl := gTbl_of (in_4 (List.mem_of_getElem? (i := 24) (by decide +kernel))) rfl
theorem ml_X6_65 : Cond.methodLink RX6 65 yX6_in ∈ gTbl := gTbl_of (in_4 (List.mem_of_getElem? (i := 25) (by decide +kernel))) rfl
theorem sm_X6_in : Cond.static yX6_in ∈ gTbl := gTbl_of (in_4 (List.mem_of_getElem? (i := 26) (by decide +kernel))) rfl
theorem cd_X6_in : Cond.code yX6_in cX6_in 6 (some .boolean) ∈ gTbl := gTbl_of (in_4 (List.mem_of_getElem? (i := 27) rfl)) rfl
theorem ml_X6_159 : Cond.methodLink RX6 159 yX6_think ∈ gTbl := gTbl_of (in_4 (List.mem_of_getElem? (i := 28) (by decide +kernel))) rfl
theorem im_X6_think : Cond.instanceMethod yX6_think ∈ gTbl := gTbl_of (in_4 (List.mem_of_getElem? (i := 30) (by decide +kernel))) rfl
theorem cd_X6_think : Cond.code yX6_think cX6_think 1 none ∈ gTbl := gTbl_of (in_4 (List.mem_of_getElem? (i := 31) rfl)) rfl
theorem ml_X6_183 : Cond.methodLink RX6 183 yX6_carryAll ∈ gTbl := gTbl_of (in_4 (List.mem_of_getElem? (i := 32) (by decide +kernel))) rfl
theorem im_X6_carryAll : Cond.instanceMethod yX6_carryAll ∈ gTbl := gTbl_of (in_4 (List.mem_of_getElem? (i := 34) (by decide +kernel))) rfl
theorem cd_X6_carryAll : Cond.code yX6_carryAll cX6_carryAll 4 none ∈ gTbl := gTbl_of (in_4 (List.mem_of_getElem? (i := 35) rfl)) rfl
theorem ml_X6_180 : Cond.methodLink RX6 180 yX6_carry ∈ gTbl := gTbl_of (in_4 (List.mem_of_getElem? (i := 36) (by decide +kernel))) rfl
theorem im_X6_carry : Cond.instanceMethod yX6_carry ∈ gTbl := gTbl_of (in_4 (List.mem_of_getElem? (i := 38) (by decide +kernel))) rfl
theorem cd_X6_carry : Cond.code yX6_carry cX6_carry 2 (some .int) ∈ gTbl := gTbl_of (in_4 (List.mem_of_getElem? (i := 39) rfl)) rfl
theorem ml_X6_162 : Cond.methodLink RX6 162 yX6_comesTold ∈ gTbl := gTbl_of (in_4 (List.mem_of_getElem? (i := 40) (by decide +kernel))) rfl
theorem im_X6_comesTold : Cond.instanceMethod yX6_comesTold ∈ gTbl := gTbl_of (in_4 (List.mem_of_getElem? (i := 42) (by decide +kernel))) rfl
theorem cd_X6_comesTold : Cond.code yX6_comesTold cX6_comesTold 5 (some .boolean) ∈ gTbl := gTbl_of (in_4 (List.mem_of_getElem? (i := 43) rfl)) rfl
theorem ml_X6_147 : Cond.methodLink RX6 147 yX6_isHouse ∈ gTbl := gTbl_of (in_4 (List.mem_of_getElem? (i := 44) (by decide +kernel))) rfl
theorem im_X6_isHouse : Cond.instanceMethod yX6_isHouse ∈ gTbl := gTbl_of (in_4 (List.mem_of_getElem? (i := 46) (by decide +kernel))) rfl
theorem cd_X6_isHouse : Cond.code yX6_isHouse cX6_isHouse 2 (some .boolean) ∈ gTbl := gTbl_of (in_4 (List.mem_of_getElem? (i := 47) rfl)) rfl
theorem ml_X6_150 : Cond.methodLink RX6 150 yX6_houseComes ∈ gTbl := gTbl_of (in_4 (List.mem_of_getElem? (i := 48) (by decide +kernel))) rfl
theorem im_X6_houseComes : Cond.instanceMethod yX6_houseComes ∈ gTbl := gTbl_of (in_4 (List.mem_of_getElem? (i := 50) (by decide +kernel))) rfl
theorem cd_X6_houseComes : Cond.code yX6_houseComes cX6_houseComes 4 (some .boolean) ∈ gTbl := gTbl_of (in_4 (List.mem_of_getElem? (i := 51) rfl)) rfl
theorem ml_X6_97 : Cond.methodLink RX6 97 yX6_pourIn ∈ gTbl := gTbl_of (in_4 (List.mem_of_getElem? (i := 52) (by decide +kernel))) rfl
theorem im_X6_pourIn : Cond.instanceMethod yX6_pourIn ∈ gTbl := gTbl_of (in_4 (List.mem_of_getElem? (i := 54) (by decide +kernel))) rfl
theorem cd_X6_pourIn : Cond.code yX6_pourIn cX6_pourIn 3 none ∈ gTbl := gTbl_of (in_4 (List.mem_of_getElem? (i := 55) rfl)) rfl
theorem ml_X6_69 : Cond.methodLink RX6 69 yX6_held ∈ gTbl := gTbl_of (in_4 (List.mem_of_getElem? (i := 56) (by decide +kernel))) rfl
theorem sm_X6_held : Cond.static yX6_held ∈ gTbl := gTbl_of (in_4 (List.mem_of_getElem? (i := 57) (by decide +kernel))) rfl
theorem cd_X6_held : Cond.code yX6_held cX6_held 2 (some .int) ∈ gTbl := gTbl_of (in_4 (List.mem_of_getElem? (i := 58) rfl)) rfl
theorem ml_X6_153 : Cond.methodLink RX6 153 yX6_hoursTold ∈ gTbl := gTbl_of (in_4 (List.mem_of_getElem? (i := 59) (by decide +kernel))) rfl
theorem im_X6_hoursTold : Cond.instanceMethod yX6_hoursTold ∈ gTbl := gTbl_of (in_4 (List.mem_of_getElem? (i := 61) (by decide +kernel))) rfl
theorem cd_X6_hoursTold : Cond.code yX6_hoursTold cX6_hoursTold 3 (some .boolean) ∈ gTbl := gTbl_of (in_4 (List.mem_of_getElem? (i := 62) rfl)) rfl
theorem ct_X6_141 : Cond.constantLong RX6 141 (60) ∈ gTbl := gTbl_of (in_4 (List.mem_of_getElem? (i := 63) (by decide +kernel))) rfl
theorem ml_X6_143 : Cond.methodLink RX6 143 yX6_goHours ∈ gTbl := gTbl_of (in_4 (List.mem_of_getElem? (i := 64) (by decide +kernel))) rfl
theorem im_X6_goHours : Cond.instanceMethod yX6_goHours ∈ gTbl := gTbl_of (in_4 (List.mem_of_getElem? (i := 66) (by decide +kernel))) rfl
theorem cd_X6_goHours : Cond.code yX6_goHours cX6_goHours 3 none ∈ gTbl := gTbl_of (in_4 (List.mem_of_getElem? (i := 67) rfl)) rfl
theorem ml_X6_104 : Cond.methodLink RX6 104 yX6_hourBy ∈ gTbl := gTbl_of (in_4 (List.mem_of_getElem? (i := 68) (by decide +kernel))) rfl
theorem im_X6_hourBy : Cond.instanceMethod yX6_hourBy ∈ gTbl := gTbl_of (in_4 (List.mem_of_getElem? (i := 70) (by decide +kernel))) rfl
theorem cd_X6_hourBy : Cond.code yX6_hourBy cX6_hourBy 5 none ∈ gTbl := gTbl_of (in_4 (List.mem_of_getElem? (i := 71) rfl)) rfl
theorem ml_X6_86 : Cond.methodLink RX6 86 yX6_hasBit ∈ gTbl := gTbl_of (in_4 (List.mem_of_getElem? (i := 72) (by decide +kernel))) rfl
theorem sm_X6_hasBit : Cond.static yX6_hasBit ∈ gTbl := gTbl_of (in_4 (List.mem_of_getElem? (i := 73) (by decide +kernel))) rfl
theorem cd_X6_hasBit : Cond.code yX6_hasBit cX6_hasBit 2 (some .boolean) ∈ gTbl := gTbl_of (in_4 (List.mem_of_getElem? (i := 74) rfl)) rfl
theorem ml_X6_90 : Cond.methodLink RX6 90 yX6_letsOf ∈ gTbl := gTbl_of (in_4 (List.mem_of_getElem? (i := 75) (by decide +kernel))) rfl
theorem im_X6_letsOf : Cond.instanceMethod yX6_letsOf ∈ gTbl := gTbl_of (in_4 (List.mem_of_getElem? (i := 77) (by decide +kernel))) rfl
theorem cd_X6_letsOf : Cond.code yX6_letsOf cX6_letsOf 3 (some .int) ∈ gTbl := gTbl_of (in_4 (List.mem_of_getElem? (i := 78) rfl)) rfl
theorem ml_X6_94 : Cond.methodLink RX6 94 yX6_addsOf ∈ gTbl := gTbl_of (in_4 (List.mem_of_getElem? (i := 79) (by decide +kernel))) rfl
theorem im_X6_addsOf : Cond.instanceMethod yX6_addsOf ∈ gTbl := gTbl_of (in_4 (List.mem_of_getElem? (i := 81) (by decide +kernel))) rfl
theorem cd_X6_addsOf : Cond.code yX6_addsOf cX6_addsOf 2 (some .int) ∈ gTbl := gTbl_of (in_4 (List.mem_of_getElem? (i := 82) rfl)) rfl
theorem ml_X6_165 : Cond.methodLink RX6 165 yX6_again ∈ gTbl := gTbl_of (in_4 (List.mem_of_getElem? (i := 83) (by decide +kernel))) rfl
theorem im_X6_again : Cond.instanceMethod yX6_again ∈ gTbl := gTbl_of (in_4 (List.mem_of_getElem? (i := 85) (by decide +kernel))) rfl
theorem cd_X6_again : Cond.code yX6_again cX6_again 1 none ∈ gTbl := gTbl_of (in_4 (List.mem_of_getElem? (i := 86) rfl)) rfl
theorem ml_L_166 : Cond.methodLink RL 166 yX6_image ∈ gTbl := gTbl_of (in_4 (List.mem_of_getElem? (i := 87) (by decide +kernel))) rfl
theorem im_X6_image : Cond.instanceMethod yX6_image ∈ gTbl := gTbl_of (in_4 (List.mem_of_getElem? (i := 88) (by decide +kernel))) rfl
theorem sl_X6_image : Cond.selects RX6 yX6_image yX6_image ∈ gTbl := gTbl_of (in_4 (List.mem_of_getElem? (i := 89) (by decide +kernel))) rfl
theorem cd_X6_image : Cond.code yX6_image cX6_image 1 (some .int) ∈ gTbl := gTbl_of (in_4 (List.mem_of_getElem? (i := 90) rfl)) rfl
theorem ml_L_170 : Cond.methodLink RL 170 yX6_restore ∈ gTbl := gTbl_of (in_4 (List.mem_of_getElem? (i := 91) (by decide +kernel))) rfl
theorem im_X6_restore : Cond.instanceMethod yX6_restore ∈ gTbl := gTbl_of (in_4 (List.mem_of_getElem? (i := 92) (by decide +kernel))) rfl
theorem sl_X6_restore : Cond.selects RX6 yX6_restore yX6_restore ∈ gTbl := gTbl_of (in_4 (List.mem_of_getElem? (i := 93) (by decide +kernel))) rfl
theorem cd_X6_restore : Cond.code yX6_restore cX6_restore 1 (some .int) ∈ gTbl := gTbl_of (in_4 (List.mem_of_getElem? (i := 94) rfl)) rfl
theorem ml_L_55 : Cond.methodLink RL 55 yX6_back ∈ gTbl := gTbl_of (in_4 (List.mem_of_getElem? (i := 95) (by decide +kernel))) rfl
theorem im_X6_back : Cond.instanceMethod yX6_back ∈ gTbl := gTbl_of (in_4 (List.mem_of_getElem? (i := 96) (by decide +kernel))) rfl
theorem sl_X6_back : Cond.selects RX6 yX6_back yX6_back ∈ gTbl := gTbl_of (in_4 (List.mem_of_getElem? (i := 97) (by decide +kernel))) rfl
theorem cd_X6_back : Cond.code yX6_back cX6_back 2 (some .int) ∈ gTbl := gTbl_of (in_4 (List.mem_of_getElem? (i := 98) rfl)) rfl
theorem ml_L_27 : Cond.methodLink RL 27 yX6_houseOf ∈ gTbl := gTbl_of (in_4 (List.mem_of_getElem? (i := 99) (by decide +kernel))) rfl
theorem im_X6_houseOf : Cond.instanceMethod yX6_houseOf ∈ gTbl := gTbl_of (in_4 (List.mem_of_getElem? (i := 100) (by decide +kernel))) rfl
theorem sl_X6_houseOf : Cond.selects RX6 yX6_houseOf yX6_houseOf ∈ gTbl := gTbl_of (in_4 (List.mem_of_getElem? (i := 101) (by decide +kernel))) rfl
theorem cd_X6_houseOf : Cond.code yX6_houseOf cX6_houseOf 3 (some .int) ∈ gTbl := gTbl_of (in_4 (List.mem_of_getElem? (i := 102) rfl)) rfl
theorem ct_X6_190 : Cond.constantLong RX6 190 (6) ∈ gTbl := gTbl_of (in_4 (List.mem_of_getElem? (i := 103) (by decide +kernel))) rfl
theorem ml_X6_192 : Cond.methodLink RX6 192 yX6_letNext ∈ gTbl := gTbl_of (in_4 (List.mem_of_getElem? (i := 104) (by decide +kernel))) rfl
theorem im_X6_letNext : Cond.instanceMethod yX6_letNext ∈ gTbl := gTbl_of (in_4 (List.mem_of_getElem? (i := 106) (by decide +kernel))) rfl
theorem cd_X6_letNext : Cond.code yX6_letNext cX6_letNext 2 (some .int) ∈ gTbl := gTbl_of (in_4 (List.mem_of_getElem? (i := 107) rfl)) rfl
theorem ml_L_31 : Cond.methodLink RL 31 yX6_house ∈ gTbl := gTbl_of (in_4 (List.mem_of_getElem? (i := 108) (by decide +kernel))) rfl
theorem im_X6_house : Cond.instanceMethod yX6_house ∈ gTbl := gTbl_of (in_4 (List.mem_of_getElem? (i := 109) (by decide +kernel))) rfl
theorem sl_X6_house : Cond.selects RX6 yX6_house yX6_house ∈ gTbl := gTbl_of (in_4 (List.mem_of_getElem? (i := 110) (by decide +kernel))) rfl
theorem cd_X6_house : Cond.code yX6_house cX6_house 4 (some .int) ∈ gTbl := gTbl_of (in_4 (List.mem_of_getElem? (i := 111) rfl)) rfl
theorem ct_X6_195 : Cond.constantLong RX6 195 (5) ∈ gTbl := gTbl_of (in_4 (List.mem_of_getElem? (i := 112) (by decide +kernel))) rfl
theorem ml_X6_197 : Cond.methodLink RX6 197 yX6_wrongNumber ∈ gTbl := gTbl_of (in_4 (List.mem_of_getElem? (i := 113) (by decide +kernel))) rfl
theorem sm_X6_wrongNumber : Cond.static yX6_wrongNumber ∈ gTbl := gTbl_of (in_4 (List.mem_of_getElem? (i := 114) (by decide +kernel))) rfl
theorem cd_X6_wrongNumber : Cond.code yX6_wrongNumber cX6_wrongNumber 3 (some .int) ∈ gTbl := gTbl_of (in_4 (List.mem_of_getElem? (i := 115) rfl)) rfl
theorem ml_L_35 : Cond.methodLink RL 35 yX6_joins ∈ gTbl := gTbl_of (in_4 (List.mem_of_getElem? (i := 116) (by decide +kernel))) rfl
theorem im_X6_joins : Cond.instanceMethod yX6_joins ∈ gTbl := gTbl_of (in_4 (List.mem_of_getElem? (i := 117) (by decide +kernel))) rfl
theorem sl_X6_joins : Cond.selects RX6 yX6_joins yX6_joins ∈ gTbl := gTbl_of (in_4 (List.mem_of_getElem? (i := 118) (by decide +kernel))) rfl
theorem cd_X6_joins : Cond.code yX6_joins cX6_joins 4 (some .int) ∈ gTbl := gTbl_of (in_4 (List.mem_of_getElem? (i := 119) rfl)) rfl
theorem ct_X6_201 : Cond.constantLong RX6 201 (9) ∈ gTbl := gTbl_of (in_4 (List.mem_of_getElem? (i := 120) (by decide +kernel))) rfl
theorem ml_X6_203 : Cond.methodLink RX6 203 yX6_keepTurn ∈ gTbl := gTbl_of (in_4 (List.mem_of_getElem? (i := 121) (by decide +kernel))) rfl
theorem im_X6_keepTurn : Cond.instanceMethod yX6_keepTurn ∈ gTbl := gTbl_of (in_4 (List.mem_of_getElem? (i := 123) (by decide +kernel))) rfl
theorem cd_X6_keepTurn : Cond.code yX6_keepTurn cX6_keepTurn 2 none ∈ gTbl := gTbl_of (in_4 (List.mem_of_getElem? (i := 124) rfl)) rfl
theorem ml_L_39 : Cond.methodLink RL 39 yX6_blocks ∈ gTbl := gTbl_of (in_4 (List.mem_of_getElem? (i := 125) (by decide +kernel))) rfl
theorem im_X6_blocks : Cond.instanceMethod yX6_blocks ∈ gTbl := gTbl_of (in_4 (List.mem_of_getElem? (i := 126) (by decide +kernel))) rfl
theorem sl_X6_blocks : Cond.selects RX6 yX6_blocks yX6_blocks ∈ gTbl := gTbl_of (in_4 (List.mem_of_getElem? (i := 127) (by decide +kernel))) rfl
theorem cd_X6_blocks : Cond.code yX6_blocks cX6_blocks 2 (some .int) ∈ gTbl := gTbl_of (in_4 (List.mem_of_getElem? (i := 128) rfl)) rfl
theorem ml_L_43 : Cond.methodLink RL 43 yX6_pours ∈ gTbl := gTbl_of (in_4 (List.mem_of_getElem? (i := 129) (by decide +kernel))) rfl
theorem im_X6_pours : Cond.instanceMethod yX6_pours ∈ gTbl := gTbl_of (in_4 (List.mem_of_getElem? (i := 130) (by decide +kernel))) rfl
theorem sl_X6_pours : Cond.selects RX6 yX6_pours yX6_pours ∈ gTbl := gTbl_of (in_4 (List.mem_of_getElem? (i := 131) (by decide +kernel))) rfl
theorem cd_X6_pours : Cond.code yX6_pours cX6_pours 4 (some .int) ∈ gTbl := gTbl_of (in_4 (List.mem_of_getElem? (i := 132) rfl)) rfl
theorem ml_L_47 : Cond.methodLink RL 47 yX6_empties ∈ gTbl := gTbl_of (in_4 (List.mem_of_getElem? (i := 133) (by decide +kernel))) rfl
theorem im_X6_empties : Cond.instanceMethod yX6_empties ∈ gTbl := gTbl_of (in_4 (List.mem_of_getElem? (i := 134) (by decide +kernel))) rfl
theorem sl_X6_empties : Cond.selects RX6 yX6_empties yX6_empties ∈ gTbl := gTbl_of (in_4 (List.mem_of_getElem? (i := 135) (by decide +kernel))) rfl
theorem cd_X6_empties : Cond.code yX6_empties cX6_empties 2 (some .int) ∈ gTbl := gTbl_of (in_4 (List.mem_of_getElem? (i := 136) rfl)) rfl
theorem ml_L_51 : Cond.methodLink RL 51 yX6_hours ∈ gTbl := gTbl_of (in_4 (List.mem_of_getElem? (i := 137) (by decide +kernel))) rfl
theorem im_X6_hours : Cond.instanceMethod yX6_hours ∈ gTbl := gTbl_of (in_4 (List.mem_of_getElem? (i := 138) (by decide +kernel))) rfl
theorem sl_X6_hours : Cond.selects RX6 yX6_hours yX6_hours ∈ gTbl := gTbl_of (in_4 (List.mem_of_getElem? (i := 139) (by decide +kernel))) rfl
theorem cd_X6_hours : Cond.code yX6_hours cX6_hours 3 (some .int) ∈ gTbl := gTbl_of (in_4 (List.mem_of_getElem? (i := 140) rfl)) rfl
theorem ml_L_59 : Cond.methodLink RL 59 yX6_holdsIn ∈ gTbl := gTbl_of (in_4 (List.mem_of_getElem? (i := 141) (by decide +kernel))) rfl
theorem im_X6_holdsIn : Cond.instanceMethod yX6_holdsIn ∈ gTbl := gTbl_of (in_4 (List.mem_of_getElem? (i := 142) (by decide +kernel))) rfl
theorem sl_X6_holdsIn : Cond.selects RX6 yX6_holdsIn yX6_holdsIn ∈ gTbl := gTbl_of (in_4 (List.mem_of_getElem? (i := 143) (by decide +kernel))) rfl
theorem cd_X6_holdsIn : Cond.code yX6_holdsIn cX6_holdsIn 5 (some .int) ∈ gTbl := gTbl_of (in_4 (List.mem_of_getElem? (i := 144) rfl)) rfl
theorem ml_L_63 : Cond.methodLink RL 63 yX6_then ∈ gTbl := gTbl_of (in_4 (List.mem_of_getElem? (i := 145) (by decide +kernel))) rfl
theorem im_X6_then : Cond.instanceMethod yX6_then ∈ gTbl := gTbl_of (in_4 (List.mem_of_getElem? (i := 146) (by decide +kernel))) rfl
theorem sl_X6_then : Cond.selects RX6 yX6_then yX6_then ∈ gTbl := gTbl_of (in_4 (List.mem_of_getElem? (i := 147) (by decide +kernel))) rfl
theorem cd_X6_then : Cond.code yX6_then cX6_then 5 (some .int) ∈ gTbl := gTbl_of (in_4 (List.mem_of_getElem? (i := 148) rfl)) rfl
theorem ml_X6_206 : Cond.methodLink RX6 206 yX6_wrongBit ∈ gTbl := gTbl_of (in_4 (List.mem_of_getElem? (i := 149) (by decide +kernel))) rfl
theorem sm_X6_wrongBit : Cond.static yX6_wrongBit ∈ gTbl := gTbl_of (in_4 (List.mem_of_getElem? (i := 150) (by decide +kernel))) rfl
theorem cd_X6_wrongBit : Cond.code yX6_wrongBit cX6_wrongBit 3 (some .int) ∈ gTbl := gTbl_of (in_4 (List.mem_of_getElem? (i := 151) rfl)) rfl
theorem ml_X6_209 : Cond.methodLink RX6 209 yX6_allHold ∈ gTbl := gTbl_of (in_4 (List.mem_of_getElem? (i := 152) (by decide +kernel))) rfl
theorem im_X6_allHold : Cond.instanceMethod yX6_allHold ∈ gTbl := gTbl_of (in_4 (List.mem_of_getElem? (i := 154) (by decide +kernel))) rfl
theorem cd_X6_allHold : Cond.code yX6_allHold cX6_allHold 3 (some .int) ∈ gTbl := gTbl_of (in_4 (List.mem_of_getElem? (i := 155) rfl)) rfl
theorem ml_L_67 : Cond.methodLink RL 67 yX6_drip ∈ gTbl := gTbl_of (in_4 (List.mem_of_getElem? (i := 156) (by decide +kernel))) rfl
theorem im_X6_drip : Cond.instanceMethod yX6_drip ∈ gTbl := gTbl_of (in_4 (List.mem_of_getElem? (i := 157) (by decide +kernel))) rfl
theorem sl_X6_drip : Cond.selects RX6 yX6_drip yX6_drip ∈ gTbl := gTbl_of (in_4 (List.mem_of_getElem? (i := 158) (by decide +kernel))) rfl
theorem cd_X6_drip : Cond.code yX6_drip cX6_drip 2 (some .int) ∈ gTbl := gTbl_of (in_4 (List.mem_of_getElem? (i := 159) rfl)) rfl
theorem ml_X6_216 : Cond.methodLink RX6 216 yX6_firstDrip ∈ gTbl := gTbl_of (in_4 (List.mem_of_getElem? (i := 160) (by decide +kernel))) rfl
theorem im_X6_firstDrip : Cond.instanceMethod yX6_firstDrip ∈ gTbl := gTbl_of (in_4 (List.mem_of_getElem? (i := 162) (by decide +kernel))) rfl
theorem cd_X6_firstDrip : Cond.code yX6_firstDrip cX6_firstDrip 4 (some .int) ∈ gTbl := gTbl_of (in_4 (List.mem_of_getElem? (i := 163) rfl)) rfl
theorem ml_X6_219 : Cond.methodLink RX6 219 yX6_dryIn ∈ gTbl := gTbl_of (in_4 (List.mem_of_getElem? (i := 164) (by decide +kernel))) rfl
theorem im_X6_dryIn : Cond.instanceMethod yX6_dryIn ∈ gTbl := gTbl_of (in_4 (List.mem_of_getElem? (i := 166) (by decide +kernel))) rfl
theorem cd_X6_dryIn : Cond.code yX6_dryIn cX6_dryIn 3 (some .int) ∈ gTbl := gTbl_of (in_4 (List.mem_of_getElem? (i := 167) rfl)) rfl
theorem ml_X6_222 : Cond.methodLink RX6 222 yX6_settledIn ∈ gTbl := gTbl_of (in_4 (List.mem_of_getElem? (i := 168) (by decide +kernel))) rfl
theorem im_X6_settledIn : Cond.instanceMethod yX6_settledIn ∈ gTbl := gTbl_of (in_4 (List.mem_of_getElem? (i := 170) (by decide +kernel))) rfl
theorem cd_X6_settledIn : Cond.code yX6_settledIn cX6_settledIn 5 (some .int) ∈ gTbl := gTbl_of (in_4 (List.mem_of_getElem? (i := 171) rfl)) rfl
theorem ml_X6_212 : Cond.methodLink RX6 212 yX6_isAsHad ∈ gTbl := gTbl_of (in_4 (List.mem_of_getElem? (i := 172) (by decide +kernel))) rfl
theorem im_X6_isAsHad : Cond.instanceMethod yX6_isAsHad ∈ gTbl := gTbl_of (in_4 (List.mem_of_getElem? (i := 174) (by decide +kernel))) rfl
theorem cd_X6_isAsHad : Cond.code yX6_isAsHad cX6_isAsHad 3 (some .boolean) ∈ gTbl := gTbl_of (in_4 (List.mem_of_getElem? (i := 175) rfl)) rfl
theorem ml_L_71 : Cond.methodLink RL 71 yX6_reaches ∈ gTbl := gTbl_of (in_4 (List.mem_of_getElem? (i := 176) (by decide +kernel))) rfl
theorem im_X6_reaches : Cond.instanceMethod yX6_reaches ∈ gTbl := gTbl_of (in_4 (List.mem_of_getElem? (i := 177) (by decide +kernel))) rfl
theorem sl_X6_reaches : Cond.selects RX6 yX6_reaches yX6_reaches ∈ gTbl := gTbl_of (in_4 (List.mem_of_getElem? (i := 178) (by decide +kernel))) rfl
theorem cd_X6_reaches : Cond.code yX6_reaches cX6_reaches 6 (some .int) ∈ gTbl := gTbl_of (in_4 (List.mem_of_getElem? (i := 179) rfl)) rfl
theorem ml_L_76 : Cond.methodLink RL 76 yX6_pour ∈ gTbl := gTbl_of (in_4 (List.mem_of_getElem? (i := 180) (by decide +kernel))) rfl
theorem im_X6_pour : Cond.instanceMethod yX6_pour ∈ gTbl := gTbl_of (in_4 (List.mem_of_getElem? (i := 181) (by decide +kernel))) rfl
theorem sl_X6_pour : Cond.selects RX6 yX6_pour yX6_pour ∈ gTbl := gTbl_of (in_4 (List.mem_of_getElem? (i := 182) (by decide +kernel))) rfl
theorem cd_X6_pour : Cond.code yX6_pour cX6_pour 9 (some .int) ∈ gTbl := gTbl_of (in_4 (List.mem_of_getElem? (i := 183) rfl)) rfl
theorem ml_X6_225 : Cond.methodLink RX6 225 yX6_cupThen ∈ gTbl := gTbl_of (in_4 (List.mem_of_getElem? (i := 184) (by decide +kernel))) rfl
theorem im_X6_cupThen : Cond.instanceMethod yX6_cupThen ∈ gTbl := gTbl_of (in_4 (List.mem_of_getElem? (i := 186) (by decide +kernel))) rfl
theorem cd_X6_cupThen : Cond.code yX6_cupThen cX6_cupThen 3 (some .int) ∈ gTbl := gTbl_of (in_4 (List.mem_of_getElem? (i := 187) rfl)) rfl
theorem ml_L_80 : Cond.methodLink RL 80 yX6_least ∈ gTbl := gTbl_of (in_4 (List.mem_of_getElem? (i := 188) (by decide +kernel))) rfl
theorem im_X6_least : Cond.instanceMethod yX6_least ∈ gTbl := gTbl_of (in_4 (List.mem_of_getElem? (i := 189) (by decide +kernel))) rfl
theorem sl_X6_least : Cond.selects RX6 yX6_least yX6_least ∈ gTbl := gTbl_of (in_4 (List.mem_of_getElem? (i := 190) (by decide +kernel))) rfl
theorem cd_X6_least : Cond.code yX6_least cX6_least 6 (some .int) ∈ gTbl := gTbl_of (in_4 (List.mem_of_getElem? (i := 191) rfl)) rfl
theorem ml_L_84 : Cond.methodLink RL 84 yX6_clearing ∈ gTbl := gTbl_of (in_4 (List.mem_of_getElem? (i := 192) (by decide +kernel))) rfl
theorem im_X6_clearing : Cond.instanceMethod yX6_clearing ∈ gTbl := gTbl_of (in_4 (List.mem_of_getElem? (i := 193) (by decide +kernel))) rfl
theorem sl_X6_clearing : Cond.selects RX6 yX6_clearing yX6_clearing ∈ gTbl := gTbl_of (in_4 (List.mem_of_getElem? (i := 194) (by decide +kernel))) rfl
theorem cd_X6_clearing : Cond.code yX6_clearing cX6_clearing 7 (some .int) ∈ gTbl := gTbl_of (in_4 (List.mem_of_getElem? (i := 195) rfl)) rfl
theorem ml_X6_228 : Cond.methodLink RX6 228 yX6_onesOf ∈ gTbl := gTbl_of (in_4 (List.mem_of_getElem? (i := 196) (by decide +kernel))) rfl
theorem sm_X6_onesOf : Cond.static yX6_onesOf ∈ gTbl := gTbl_of (in_4 (List.mem_of_getElem? (i := 197) (by decide +kernel))) rfl
theorem cd_X6_onesOf : Cond.code yX6_onesOf cX6_onesOf 3 (some .int) ∈ gTbl := gTbl_of (in_4 (List.mem_of_getElem? (i := 198) rfl)) rfl
theorem ml_L_88 : Cond.methodLink RL 88 yX6_stop ∈ gTbl := gTbl_of (in_4 (List.mem_of_getElem? (i := 199) (by decide +kernel))) rfl
theorem im_X6_stop : Cond.instanceMethod yX6_stop ∈ gTbl := gTbl_of (in_4 (List.mem_of_getElem? (i := 200) (by decide +kernel))) rfl
theorem sl_X6_stop : Cond.selects RX6 yX6_stop yX6_stop ∈ gTbl := gTbl_of (in_4 (List.mem_of_getElem? (i := 201) (by decide +kernel))) rfl
theorem cd_X6_stop : Cond.code yX6_stop cX6_stop 7 (some .int) ∈ gTbl := gTbl_of (in_4 (List.mem_of_getElem? (i := 202) rfl)) rfl
theorem ml_L_92 : Cond.methodLink RL 92 yX6_join ∈ gTbl := gTbl_of (in_4 (List.mem_of_getElem? (i := 203) (by decide +kernel))) rfl
theorem im_X6_join : Cond.instanceMethod yX6_join ∈ gTbl := gTbl_of (in_4 (List.mem_of_getElem? (i := 204) (by decide +kernel))) rfl
theorem sl_X6_join : Cond.selects RX6 yX6_join yX6_join ∈ gTbl := gTbl_of (in_4 (List.mem_of_getElem? (i := 205) (by decide +kernel))) rfl
theorem cd_X6_join : Cond.code yX6_join cX6_join 8 (some .int) ∈ gTbl := gTbl_of (in_4 (List.mem_of_getElem? (i := 206) rfl)) rfl
theorem ml_L_96 : Cond.methodLink RL 96 yX6_way ∈ gTbl := gTbl_of (in_4 (List.mem_of_getElem? (i := 207) (by decide +kernel))) rfl
theorem im_X6_way : Cond.instanceMethod yX6_way ∈ gTbl := gTbl_of (in_4 (List.mem_of_getElem? (i := 208) (by decide +kernel))) rfl
theorem sl_X6_way : Cond.selects RX6 yX6_way yX6_way ∈ gTbl := gTbl_of (in_4 (List.mem_of_getElem? (i := 209) (by decide +kernel))) rfl
theorem cd_X6_way : Cond.code yX6_way cX6_way 5 (some .int) ∈ gTbl := gTbl_of (in_4 (List.mem_of_getElem? (i := 210) rfl)) rfl
theorem ml_X6_231 : Cond.methodLink RX6 231 yX6_wayBits ∈ gTbl := gTbl_of (in_4 (List.mem_of_getElem? (i := 211) (by decide +kernel))) rfl
theorem im_X6_wayBits : Cond.instanceMethod yX6_wayBits ∈ gTbl := gTbl_of (in_4 (List.mem_of_getElem? (i := 213) (by decide +kernel))) rfl
theorem cd_X6_wayBits : Cond.code yX6_wayBits cX6_wayBits 4 (some .int) ∈ gTbl := gTbl_of (in_4 (List.mem_of_getElem? (i := 214) rfl)) rfl
theorem ml_L_100 : Cond.methodLink RL 100 yX6_whichBlocked ∈ gTbl := gTbl_of (in_4 (List.mem_of_getElem? (i := 215) (by decide +kernel))) rfl
theorem im_X6_whichBlocked : Cond.instanceMethod yX6_whichBlocked ∈ gTbl := gTbl_of (in_4 (List.mem_of_getElem? (i := 216) (by decide +kernel))) rfl
theorem sl_X6_whichBlocked : Cond.selects RX6 yX6_whichBlocked yX6_whichBlocked ∈ gTbl := gTbl_of (in_4 (List.mem_of_getElem? (i := 217) (by decide +kernel))) rfl
theorem cd_X6_whichBlocked : Cond.code yX6_whichBlocked cX6_whichBlocked 3 (some .int) ∈ gTbl := gTbl_of (in_4 (List.mem_of_getElem? (i := 218) rfl)) rfl
theorem ml_X6_237 : Cond.methodLink RX6 237 yX6_isRow ∈ gTbl := gTbl_of (in_4 (List.mem_of_getElem? (i := 219) (by decide +kernel))) rfl
theorem im_X6_isRow : Cond.instanceMethod yX6_isRow ∈ gTbl := gTbl_of (in_4 (List.mem_of_getElem? (i := 221) (by decide +kernel))) rfl
theorem cd_X6_isRow : Cond.code yX6_isRow cX6_isRow 3 (some .boolean) ∈ gTbl := gTbl_of (in_4 (List.mem_of_getElem? (i := 222) rfl)) rfl
theorem ml_L_104 : Cond.methodLink RL 104 yX6_wasPoured ∈ gTbl := gTbl_of (in_4 (List.mem_of_getElem? (i := 223) (by decide +kernel))) rfl
theorem im_X6_wasPoured : Cond.instanceMethod yX6_wasPoured ∈ gTbl := gTbl_of (in_4 (List.mem_of_getElem? (i := 224) (by decide +kernel))) rfl
theorem sl_X6_wasPoured : Cond.selects RX6 yX6_wasPoured yX6_wasPoured ∈ gTbl := gTbl_of (in_4 (List.mem_of_getElem? (i := 225) (by decide +kernel))) rfl
theorem cd_X6_wasPoured : Cond.code yX6_wasPoured cX6_wasPoured 8 (some .int) ∈ gTbl := gTbl_of (in_4 (List.mem_of_getElem? (i := 226) rfl)) rfl
theorem ml_L_108 : Cond.methodLink RL 108 yX6_whatKind ∈ gTbl := gTbl_of (in_4 (List.mem_of_getElem? (i := 227) (by decide +kernel))) rfl
theorem im_X6_whatKind : Cond.instanceMethod yX6_whatKind ∈ gTbl := gTbl_of (in_4 (List.mem_of_getElem? (i := 228) (by decide +kernel))) rfl
theorem sl_X6_whatKind : Cond.selects RX6 yX6_whatKind yX6_whatKind ∈ gTbl := gTbl_of (in_4 (List.mem_of_getElem? (i := 229) (by decide +kernel))) rfl
theorem cd_X6_whatKind : Cond.code yX6_whatKind cX6_whatKind 6 (some .int) ∈ gTbl := gTbl_of (in_4 (List.mem_of_getElem? (i := 230) rfl)) rfl
theorem ml_L_112 : Cond.methodLink RL 112 yX6_two ∈ gTbl := gTbl_of (in_4 (List.mem_of_getElem? (i := 231) (by decide +kernel))) rfl
theorem im_X6_two : Cond.instanceMethod yX6_two ∈ gTbl := gTbl_of (in_4 (List.mem_of_getElem? (i := 232) (by decide +kernel))) rfl
theorem sl_X6_two : Cond.selects RX6 yX6_two yX6_two ∈ gTbl := gTbl_of (in_4 (List.mem_of_getElem? (i := 233) (by decide +kernel))) rfl
theorem cd_X6_two : Cond.code yX6_two cX6_two 8 (some .int) ∈ gTbl := gTbl_of (in_4 (List.mem_of_getElem? (i := 234) rfl)) rfl
theorem ml_L_117 : Cond.methodLink RL 117 yX6_blocked ∈ gTbl := gTbl_of (in_4 (List.mem_of_getElem? (i := 235) (by decide +kernel))) rfl
theorem im_X6_blocked : Cond.instanceMethod yX6_blocked ∈ gTbl := gTbl_of (in_4 (List.mem_of_getElem? (i := 236) (by decide +kernel))) rfl
theorem sl_X6_blocked : Cond.selects RX6 yX6_blocked yX6_blocked ∈ gTbl := gTbl_of (in_4 (List.mem_of_getElem? (i := 237) (by decide +kernel))) rfl
theorem cd_X6_blocked : Cond.code yX6_blocked cX6_blocked 14 (some .long) ∈ gTbl := gTbl_of (in_4 (List.mem_of_getElem? (i := 238) rfl)) rfl
theorem ct_X6_244 : Cond.constantLong RX6 244 (4000000000000000000) ∈ gTbl := gTbl_of (in_4 (List.mem_of_getElem? (i := 239) (by decide +kernel))) rfl
theorem ml_X6_246 : Cond.methodLink RX6 246 yX6_partOf ∈ gTbl := gTbl_of (in_5 (List.mem_of_getElem? (i := 0) (by decide +kernel))) rfl
theorem sm_X6_partOf : Cond.static yX6_partOf ∈ gTbl := gTbl_of (in_5 (List.mem_of_getElem? (i := 1) (by decide +kernel))) rfl
theorem cd_X6_partOf : Cond.code yX6_partOf cX6_partOf 7 (some .long) ∈ gTbl := gTbl_of (in_5 (List.mem_of_getElem? (i := 2) rfl)) rfl
theorem ml_X6_240 : Cond.methodLink RX6 240 yX6_divisor ∈ gTbl := gTbl_of (in_5 (List.mem_of_getElem? (i := 3) (by decide +kernel))) rfl
theorem sm_X6_divisor : Cond.static yX6_divisor ∈ gTbl := gTbl_of (in_5 (List.mem_of_getElem? (i := 4) (by decide +kernel))) rfl
theorem cd_X6_divisor : Cond.code yX6_divisor cX6_divisor 10 (some .long) ∈ gTbl := gTbl_of (in_5 (List.mem_of_getElem? (i := 5) rfl)) rfl
theorem ml_L_121 : Cond.methodLink RL 121 yX6_shares ∈ gTbl := gTbl_of (in_5 (List.mem_of_getElem? (i := 6) (by decide +kernel))) rfl
theorem im_X6_shares : Cond.instanceMethod yX6_shares ∈ gTbl := gTbl_of (in_5 (List.mem_of_getElem? (i := 7) (by decide +kernel))) rfl
theorem sl_X6_shares : Cond.selects RX6 yX6_shares yX6_shares ∈ gTbl := gTbl_of (in_5 (List.mem_of_getElem? (i := 8) (by decide +kernel))) rfl
theorem cd_X6_shares : Cond.code yX6_shares cX6_shares 4 (some .int) ∈ gTbl := gTbl_of (in_5 (List.mem_of_getElem? (i := 9) rfl)) rfl
theorem ml_L_125 : Cond.methodLink RL 125 yX6_fullest ∈ gTbl := gTbl_of (in_5 (List.mem_of_getElem? (i := 10) (by decide +kernel))) rfl
theorem im_X6_fullest : Cond.instanceMethod yX6_fullest ∈ gTbl := gTbl_of (in_5 (List.mem_of_getElem? (i := 11) (by decide +kernel))) rfl
theorem sl_X6_fullest : Cond.selects RX6 yX6_fullest yX6_fullest ∈ gTbl := gTbl_of (in_5 (List.mem_of_getElem? (i := 12) (by decide +kernel))) rfl
theorem cd_X6_fullest : Cond.code yX6_fullest cX6_fullest 2 (some .int) ∈ gTbl := gTbl_of (in_5 (List.mem_of_getElem? (i := 13) rfl)) rfl
theorem ml_X6_250 : Cond.methodLink RX6 250 yX6_fullestOne ∈ gTbl := gTbl_of (in_5 (List.mem_of_getElem? (i := 14) (by decide +kernel))) rfl
theorem im_X6_fullestOne : Cond.instanceMethod yX6_fullestOne ∈ gTbl := gTbl_of (in_5 (List.mem_of_getElem? (i := 16) (by decide +kernel))) rfl
theorem cd_X6_fullestOne : Cond.code yX6_fullestOne cX6_fullestOne 3 (some .int) ∈ gTbl := gTbl_of (in_5 (List.mem_of_getElem? (i := 17) rfl)) rfl
theorem ml_X6_253 : Cond.methodLink RX6 253 yX6_pumpBits ∈ gTbl := gTbl_of (in_5 (List.mem_of_getElem? (i := 18) (by decide +kernel))) rfl
theorem im_X6_pumpBits : Cond.instanceMethod yX6_pumpBits ∈ gTbl := gTbl_of (in_5 (List.mem_of_getElem? (i := 20) (by decide +kernel))) rfl
theorem cd_X6_pumpBits : Cond.code yX6_pumpBits cX6_pumpBits 3 (some .int) ∈ gTbl := gTbl_of (in_5 (List.mem_of_getElem? (i := 21) rfl)) rfl
theorem ml_X6_256 : Cond.methodLink RX6 256 yX6_deepest ∈ gTbl := gTbl_of (in_5 (List.mem_of_getElem? (i := 22) (by decide +kernel))) rfl
theorem im_X6_deepest : Cond.instanceMethod yX6_deepest ∈ gTbl := gTbl_of (in_5 (List.mem_of_getElem? (i := 24) (by decide +kernel))) rfl
theorem cd_X6_deepest : Cond.code yX6_deepest cX6_deepest 3 (some .int) ∈ gTbl := gTbl_of (in_5 (List.mem_of_getElem? (i := 25) rfl)) rfl
theorem ml_X6_259 : Cond.methodLink RX6 259 yX6_longestStill ∈ gTbl := gTbl_of (in_5 (List.mem_of_getElem? (i := 26) (by decide +kernel))) rfl
theorem im_X6_longestStill : Cond.instanceMethod yX6_longestStill ∈ gTbl := gTbl_of (in_5 (List.mem_of_getElem? (i := 28) (by decide +kernel))) rfl
theorem cd_X6_longestStill : Cond.code yX6_longestStill cX6_longestStill 4 (some .int) ∈ gTbl := gTbl_of (in_5 (List.mem_of_getElem? (i := 29) rfl)) rfl
theorem ml_X6_262 : Cond.methodLink RX6 262 yX6_twinTwos ∈ gTbl := gTbl_of (in_5 (List.mem_of_getElem? (i := 30) (by decide +kernel))) rfl
theorem im_X6_twinTwos : Cond.instanceMethod yX6_twinTwos ∈ gTbl := gTbl_of (in_5 (List.mem_of_getElem? (i := 32) (by decide +kernel))) rfl
theorem cd_X6_twinTwos : Cond.code yX6_twinTwos cX6_twinTwos 4 (some .int) ∈ gTbl := gTbl_of (in_5 (List.mem_of_getElem? (i := 33) rfl)) rfl
theorem ml_L_129 : Cond.methodLink RL 129 yX6_into ∈ gTbl := gTbl_of (in_5 (List.mem_of_getElem? (i := 34) (by decide +kernel))) rfl
theorem im_X6_into : Cond.instanceMethod yX6_into ∈ gTbl := gTbl_of (in_5 (List.mem_of_getElem? (i := 35) (by decide +kernel))) rfl
theorem sl_X6_into : Cond.selects RX6 yX6_into yX6_into ∈ gTbl := gTbl_of (in_5 (List.mem_of_getElem? (i := 36) (by decide +kernel))) rfl
theorem cd_X6_into : Cond.code yX6_into cX6_into 4 (some .int) ∈ gTbl := gTbl_of (in_5 (List.mem_of_getElem? (i := 37) rfl)) rfl
theorem ml_L_134 : Cond.methodLink RL 134 yX6_mean ∈ gTbl := gTbl_of (in_5 (List.mem_of_getElem? (i := 38) (by decide +kernel))) rfl
theorem im_X6_mean : Cond.instanceMethod yX6_mean ∈ gTbl := gTbl_of (in_5 (List.mem_of_getElem? (i := 39) (by decide +kernel))) rfl
theorem sl_X6_mean : Cond.selects RX6 yX6_mean yX6_mean ∈ gTbl := gTbl_of (in_5 (List.mem_of_getElem? (i := 40) (by decide +kernel))) rfl
theorem cd_X6_mean : Cond.code yX6_mean cX6_mean 2 (some .long) ∈ gTbl := gTbl_of (in_5 (List.mem_of_getElem? (i := 41) rfl)) rfl
theorem ml_L_138 : Cond.methodLink RL 138 yX6_strong ∈ gTbl := gTbl_of (in_5 (List.mem_of_getElem? (i := 42) (by decide +kernel))) rfl
theorem im_X6_strong : Cond.instanceMethod yX6_strong ∈ gTbl := gTbl_of (in_5 (List.mem_of_getElem? (i := 43) (by decide +kernel))) rfl
theorem sl_X6_strong : Cond.selects RX6 yX6_strong yX6_strong ∈ gTbl := gTbl_of (in_5 (List.mem_of_getElem? (i := 44) (by decide +kernel))) rfl
theorem cd_X6_strong : Cond.code yX6_strong cX6_strong 4 (some .int) ∈ gTbl := gTbl_of (in_5 (List.mem_of_getElem? (i := 45) rfl)) rfl
theorem ct_X6_265 : Cond.constant RX6 265 (1000000000) ∈ gTbl := gTbl_of (in_5 (List.mem_of_getElem? (i := 46) (by decide +kernel))) rfl
theorem ml_L_142 : Cond.methodLink RL 142 yX6_kinds ∈ gTbl := gTbl_of (in_5 (List.mem_of_getElem? (i := 47) (by decide +kernel))) rfl
theorem im_X6_kinds : Cond.instanceMethod yX6_kinds ∈ gTbl := gTbl_of (in_5 (List.mem_of_getElem? (i := 48) (by decide +kernel))) rfl
theorem sl_X6_kinds : Cond.selects RX6 yX6_kinds yX6_kinds ∈ gTbl := gTbl_of (in_5 (List.mem_of_getElem? (i := 49) (by decide +kernel))) rfl
theorem cd_X6_kinds : Cond.code yX6_kinds cX6_kinds 4 (some .int) ∈ gTbl := gTbl_of (in_5 (List.mem_of_getElem? (i := 50) rfl)) rfl
theorem ml_L_146 : Cond.methodLink RL 146 yX6_turn ∈ gTbl := gTbl_of (in_5 (List.mem_of_getElem? (i := 51) (by decide +kernel))) rfl
theorem im_X6_turn : Cond.instanceMethod yX6_turn ∈ gTbl := gTbl_of (in_5 (List.mem_of_getElem? (i := 52) (by decide +kernel))) rfl
theorem sl_X6_turn : Cond.selects RX6 yX6_turn yX6_turn ∈ gTbl := gTbl_of (in_5 (List.mem_of_getElem? (i := 53) (by decide +kernel))) rfl
theorem cd_X6_turn : Cond.code yX6_turn cX6_turn 8 (some .int) ∈ gTbl := gTbl_of (in_5 (List.mem_of_getElem? (i := 54) rfl)) rfl
theorem ml_L_150 : Cond.methodLink RL 150 yX6_row ∈ gTbl := gTbl_of (in_5 (List.mem_of_getElem? (i := 55) (by decide +kernel))) rfl
theorem im_X6_row : Cond.instanceMethod yX6_row ∈ gTbl := gTbl_of (in_5 (List.mem_of_getElem? (i := 56) (by decide +kernel))) rfl
theorem sl_X6_row : Cond.selects RX6 yX6_row yX6_row ∈ gTbl := gTbl_of (in_5 (List.mem_of_getElem? (i := 57) (by decide +kernel))) rfl
theorem cd_X6_row : Cond.code yX6_row cX6_row 2 (some .int) ∈ gTbl := gTbl_of (in_5 (List.mem_of_getElem? (i := 58) rfl)) rfl
theorem ml_L_154 : Cond.methodLink RL 154 yX6_judge ∈ gTbl := gTbl_of (in_5 (List.mem_of_getElem? (i := 59) (by decide +kernel))) rfl
theorem im_X6_judge : Cond.instanceMethod yX6_judge ∈ gTbl := gTbl_of (in_5 (List.mem_of_getElem? (i := 60) (by decide +kernel))) rfl
theorem sl_X6_judge : Cond.selects RX6 yX6_judge yX6_judge ∈ gTbl := gTbl_of (in_5 (List.mem_of_getElem? (i := 61) (by decide +kernel))) rfl
theorem cd_X6_judge : Cond.code yX6_judge cX6_judge 3 (some .int) ∈ gTbl := gTbl_of (in_5 (List.mem_of_getElem? (i := 62) rfl)) rfl
theorem ml_L_158 : Cond.methodLink RL 158 yX6_clear ∈ gTbl := gTbl_of (in_5 (List.mem_of_getElem? (i := 63) (by decide +kernel))) rfl
theorem im_X6_clear : Cond.instanceMethod yX6_clear ∈ gTbl := gTbl_of (in_5 (List.mem_of_getElem? (i := 64) (by decide +kernel))) rfl
theorem sl_X6_clear : Cond.selects RX6 yX6_clear yX6_clear ∈ gTbl := gTbl_of (in_5 (List.mem_of_getElem? (i := 65) (by decide +kernel))) rfl
theorem cd_X6_clear : Cond.code yX6_clear cX6_clear 2 (some .int) ∈ gTbl := gTbl_of (in_5 (List.mem_of_getElem? (i := 66) rfl)) rfl
theorem ml_L_162 : Cond.methodLink RL 162 yX6_lots ∈ gTbl := gTbl_of (in_5 (List.mem_of_getElem? (i := 67) (by decide +kernel))) rfl
theorem im_X6_lots : Cond.instanceMethod yX6_lots ∈ gTbl := gTbl_of (in_5 (List.mem_of_getElem? (i := 68) (by decide +kernel))) rfl
theorem sl_X6_lots : Cond.selects RX6 yX6_lots yX6_lots ∈ gTbl := gTbl_of (in_5 (List.mem_of_getElem? (i := 69) (by decide +kernel))) rfl
theorem cd_X6_lots : Cond.code yX6_lots cX6_lots 10 (some .int) ∈ gTbl := gTbl_of (in_5 (List.mem_of_getElem? (i := 70) rfl)) rfl
theorem ml_X6_272 : Cond.methodLink RX6 272 yX6_drawBelow ∈ gTbl := gTbl_of (in_5 (List.mem_of_getElem? (i := 71) (by decide +kernel))) rfl
theorem im_X6_drawBelow : Cond.instanceMethod yX6_drawBelow ∈ gTbl := gTbl_of (in_5 (List.mem_of_getElem? (i := 73) (by decide +kernel))) rfl
theorem cd_X6_drawBelow : Cond.code yX6_drawBelow cX6_drawBelow 2 (some .int) ∈ gTbl := gTbl_of (in_5 (List.mem_of_getElem? (i := 74) rfl)) rfl
theorem ct_X6_269 : Cond.constant RX6 269 (1103515245) ∈ gTbl := gTbl_of (in_5 (List.mem_of_getElem? (i := 75) (by decide +kernel))) rfl
theorem ct_X6_270 : Cond.constant RX6 270 (2147483647) ∈ gTbl := gTbl_of (in_5 (List.mem_of_getElem? (i := 76) (by decide +kernel))) rfl
theorem ct_X6_271 : Cond.constant RX6 271 (65536) ∈ gTbl := gTbl_of (in_5 (List.mem_of_getElem? (i := 77) (by decide +kernel))) rfl
theorem ml_L_174 : Cond.methodLink RL 174 yX6_count ∈ gTbl := gTbl_of (in_5 (List.mem_of_getElem? (i := 78) (by decide +kernel))) rfl
theorem im_X6_count : Cond.instanceMethod yX6_count ∈ gTbl := gTbl_of (in_5 (List.mem_of_getElem? (i := 79) (by decide +kernel))) rfl
theorem sl_X6_count : Cond.selects RX6 yX6_count yX6_count ∈ gTbl := gTbl_of (in_5 (List.mem_of_getElem? (i := 80) (by decide +kernel))) rfl
theorem cd_X6_count : Cond.code yX6_count cX6_count 2 (some .int) ∈ gTbl := gTbl_of (in_5 (List.mem_of_getElem? (i := 81) rfl)) rfl
theorem ct_X6_275 : Cond.constantLong RX6 275 (11) ∈ gTbl := gTbl_of (in_5 (List.mem_of_getElem? (i := 82) (by decide +kernel))) rfl
theorem ct_X6_277 : Cond.constantLong RX6 277 (16) ∈ gTbl := gTbl_of (in_5 (List.mem_of_getElem? (i := 83) (by decide +kernel))) rfl
theorem sl_X5_refuse : Cond.selects RX5 yX5_refuse yX5_refuse ∈ gTbl := gTbl_of (in_p (List.mem_of_getElem? (i := 0) (by decide +kernel))) rfl
theorem sl_X5_tellAll : Cond.selects RX5 yX5_tellAll yX5_tellAll ∈ gTbl := gTbl_of (in_p (List.mem_of_getElem? (i := 1) (by decide +kernel))) rfl
theorem sl_X5_think : Cond.selects RX5 yX5_think yX5_think ∈ gTbl := gTbl_of (in_p (List.mem_of_getElem? (i := 2) (by decide +kernel))) rfl
theorem sl_X5_tell : Cond.selects RX5 yX5_tell yX5_tell ∈ gTbl := gTbl_of (in_p (List.mem_of_getElem? (i := 3) (by decide +kernel))) rfl
theorem sl_X5_firstDrip : Cond.selects RX5 yX5_firstDrip yX5_firstDrip ∈ gTbl := gTbl_of (in_p (List.mem_of_getElem? (i := 4) (by decide +kernel))) rfl
theorem sl_X5_driedAfter : Cond.selects RX5 yX5_driedAfter yX5_driedAfter ∈ gTbl := gTbl_of (in_p (List.mem_of_getElem? (i := 5) (by decide +kernel))) rfl
theorem sl_X5_settledAfter : Cond.selects RX5 yX5_settledAfter yX5_settledAfter ∈ gTbl := gTbl_of (in_p (List.mem_of_getElem? (i := 6) (by decide +kernel))) rfl
theorem sl_X5_cupBehind : Cond.selects RX5 yX5_cupBehind yX5_cupBehind ∈ gTbl := gTbl_of (in_p (List.mem_of_getElem? (i := 7) (by decide +kernel))) rfl
theorem sl_X5_rowTellsCup : Cond.selects RX5 yX5_rowTellsCup yX5_rowTellsCup ∈ gTbl := gTbl_of (in_p (List.mem_of_getElem? (i := 8) (by decide +kernel))) rfl
theorem sl_X5_kindsTold : Cond.selects RX5 yX5_kindsTold yX5_kindsTold ∈ gTbl := gTbl_of (in_p (List.mem_of_getElem? (i := 9) (by decide +kernel))) rfl
theorem sl_X5_figuresTold : Cond.selects RX5 yX5_figuresTold yX5_figuresTold ∈ gTbl := gTbl_of (in_p (List.mem_of_getElem? (i := 10) (by decide +kernel))) rfl
theorem sl_X5_isContent : Cond.selects RX5 yX5_isContent yX5_isContent ∈ gTbl := gTbl_of (in_p (List.mem_of_getElem? (i := 11) (by decide +kernel))) rfl
theorem sl_X5_gain : Cond.selects RX5 yX5_gain yX5_gain ∈ gTbl := gTbl_of (in_p (List.mem_of_getElem? (i := 12) (by decide +kernel))) rfl
theorem sl_X5_refuseLong : Cond.selects RX5 yX5_refuseLong yX5_refuseLong ∈ gTbl := gTbl_of (in_p (List.mem_of_getElem? (i := 13) (by decide +kernel))) rfl
theorem sl_X5_houseHoldingMost : Cond.selects RX5 yX5_houseHoldingMost yX5_houseHoldingMost ∈ gTbl := gTbl_of (in_p (List.mem_of_getElem? (i := 14) (by decide +kernel))) rfl
theorem sl_X5_housesAtCup : Cond.selects RX5 yX5_housesAtCup yX5_housesAtCup ∈ gTbl := gTbl_of (in_p (List.mem_of_getElem? (i := 15) (by decide +kernel))) rfl
theorem sl_X5_longestWay : Cond.selects RX5 yX5_longestWay yX5_longestWay ∈ gTbl := gTbl_of (in_p (List.mem_of_getElem? (i := 16) (by decide +kernel))) rfl
theorem sl_X5_longestStill : Cond.selects RX5 yX5_longestStill yX5_longestStill ∈ gTbl := gTbl_of (in_p (List.mem_of_getElem? (i := 17) (by decide +kernel))) rfl
theorem sl_X5_twins : Cond.selects RX5 yX5_twins yX5_twins ∈ gTbl := gTbl_of (in_p (List.mem_of_getElem? (i := 18) (by decide +kernel))) rfl
theorem sl_X5_liveWeek : Cond.selects RX5 yX5_liveWeek yX5_liveWeek ∈ gTbl := gTbl_of (in_p (List.mem_of_getElem? (i := 19) (by decide +kernel))) rfl
theorem sl_X5_refusalsCounted : Cond.selects RX5 yX5_refusalsCounted yX5_refusalsCounted ∈ gTbl := gTbl_of (in_p (List.mem_of_getElem? (i := 20) (by decide +kernel))) rfl
theorem sl_X6_refuse : Cond.selects RX6 yX6_refuse yX6_refuse ∈ gTbl := gTbl_of (in_p (List.mem_of_getElem? (i := 21) (by decide +kernel))) rfl
theorem sl_X6_readStatement : Cond.selects RX6 yX6_readStatement yX6_readStatement ∈ gTbl := gTbl_of (in_p (List.mem_of_getElem? (i := 22) (by decide +kernel))) rfl
theorem sl_X6_here : Cond.selects RX6 yX6_here yX6_here ∈ gTbl := gTbl_of (in_p (List.mem_of_getElem? (i := 23) (by decide +kernel))) rfl
theorem sl_X6_readNumbers : Cond.selects RX6 yX6_readNumbers yX6_readNumbers ∈ gTbl := gTbl_of (in_p (List.mem_of_getElem? (i := 24) (by decide +kernel))) rfl
theorem sl_X6_readDigits : Cond.selects RX6 yX6_readDigits yX6_readDigits ∈ gTbl := gTbl_of (in_p (List.mem_of_getElem? (i := 25) (by decide +kernel))) rfl
theorem sl_X6_think : Cond.selects RX6 yX6_think yX6_think ∈ gTbl := gTbl_of (in_p (List.mem_of_getElem? (i := 26) (by decide +kernel))) rfl
theorem sl_X6_carryAll : Cond.selects RX6 yX6_carryAll yX6_carryAll ∈ gTbl := gTbl_of (in_p (List.mem_of_getElem? (i := 27) (by decide +kernel))) rfl
theorem sl_X6_carry : Cond.selects RX6 yX6_carry yX6_carry ∈ gTbl := gTbl_of (in_p (List.mem_of_getElem? (i := 28) (by decide +kernel))) rfl
theorem sl_X6_comesTold : Cond.selects RX6 yX6_comesTold yX6_comesTold ∈ gTbl := gTbl_of (in_p (List.mem_of_getElem? (i := 29) (by decide +kernel))) rfl
theorem sl_X6_isHouse : Cond.selects RX6 yX6_isHouse yX6_isHouse ∈ gTbl := gTbl_of (in_p (List.mem_of_getElem? (i := 30) (by decide +kernel))) rfl
theorem sl_X6_houseComes : Cond.selects RX6 yX6_houseComes yX6_houseComes ∈ gTbl := gTbl_of (in_p (List.mem_of_getElem? (i := 31) (by decide +kernel))) rfl
theorem sl_X6_pourIn : Cond.selects RX6 yX6_pourIn yX6_pourIn ∈ gTbl := gTbl_of (in_p (List.mem_of_getElem? (i := 32) (by decide +kernel))) rfl
theorem sl_X6_hoursTold : Cond.selects RX6 yX6_hoursTold yX6_hoursTold ∈ gTbl := gTbl_of (in_p (List.mem_of_getElem? (i := 33) (by decide +kernel))) rfl
theorem sl_X6_goHours : Cond.selects RX6 yX6_goHours yX6_goHours ∈ gTbl := gTbl_of (in_p (List.mem_of_getElem? (i := 34) (by decide +kernel))) rfl
theorem sl_X6_hourBy : Cond.selects RX6 yX6_hourBy yX6_hourBy ∈ gTbl := gTbl_of (in_p (List.mem_of_getElem? (i := 35) (by decide +kernel))) rfl
theorem sl_X6_letsOf : Cond.selects RX6 yX6_letsOf yX6_letsOf ∈ gTbl := gTbl_of (in_p (List.mem_of_getElem? (i := 36) (by decide +kernel))) rfl
theorem sl_X6_addsOf : Cond.selects RX6 yX6_addsOf yX6_addsOf ∈ gTbl := gTbl_of (in_p (List.mem_of_getElem? (i := 37) (by decide +kernel))) rfl
theorem sl_X6_again : Cond.selects RX6 yX6_again yX6_again ∈ gTbl := gTbl_of (in_p (List.mem_of_getElem? (i := 38) (by decide +kernel))) rfl
theorem sl_X6_letNext : Cond.selects RX6 yX6_letNext yX6_letNext ∈ gTbl := gTbl_of (in_p (List.mem_of_getElem? (i := 39) (by decide +kernel))) rfl
theorem sl_X6_keepTurn : Cond.selects RX6 yX6_keepTurn yX6_keepTurn ∈ gTbl := gTbl_of (in_p (List.mem_of_getElem? (i := 40) (by decide +kernel))) rfl
theorem sl_X6_allHold : Cond.selects RX6 yX6_allHold yX6_allHold ∈ gTbl := gTbl_of (in_p (List.mem_of_getElem? (i := 41) (by decide +kernel))) rfl
theorem sl_X6_firstDrip : Cond.selects RX6 yX6_firstDrip yX6_firstDrip ∈ gTbl := gTbl_of (in_p (List.mem_of_getElem? (i := 42) (by decide +kernel))) rfl
theorem sl_X6_dryIn : Cond.selects RX6 yX6_dryIn yX6_dryIn ∈ gTbl := gTbl_of (in_p (List.mem_of_getElem? (i := 43) (by decide +kernel))) rfl
theorem sl_X6_settledIn : Cond.selects RX6 yX6_settledIn yX6_settledIn ∈ gTbl := gTbl_of (in_p (List.mem_of_getElem? (i := 44) (by decide +kernel))) rfl
theorem sl_X6_isAsHad : Cond.selects RX6 yX6_isAsHad yX6_isAsHad ∈ gTbl := gTbl_of (in_p (List.mem_of_getElem? (i := 45) (by decide +kernel))) rfl
theorem sl_X6_cupThen : Cond.selects RX6 yX6_cupThen yX6_cupThen ∈ gTbl := gTbl_of (in_p (List.mem_of_getElem? (i := 46) (by decide +kernel))) rfl
theorem sl_X6_wayBits : Cond.selects RX6 yX6_wayBits yX6_wayBits ∈ gTbl := gTbl_of (in_p (List.mem_of_getElem? (i := 47) (by decide +kernel))) rfl
theorem sl_X6_isRow : Cond.selects RX6 yX6_isRow yX6_isRow ∈ gTbl := gTbl_of (in_p (List.mem_of_getElem? (i := 48) (by decide +kernel))) rfl
theorem sl_X6_fullestOne : Cond.selects RX6 yX6_fullestOne yX6_fullestOne ∈ gTbl := gTbl_of (in_p (List.mem_of_getElem? (i := 49) (by decide +kernel))) rfl
theorem sl_X6_pumpBits : Cond.selects RX6 yX6_pumpBits yX6_pumpBits ∈ gTbl := gTbl_of (in_p (List.mem_of_getElem? (i := 50) (by decide +kernel))) rfl
theorem sl_X6_deepest : Cond.selects RX6 yX6_deepest yX6_deepest ∈ gTbl := gTbl_of (in_p (List.mem_of_getElem? (i := 51) (by decide +kernel))) rfl
theorem sl_X6_longestStill : Cond.selects RX6 yX6_longestStill yX6_longestStill ∈ gTbl := gTbl_of (in_p (List.mem_of_getElem? (i := 52) (by decide +kernel))) rfl
theorem sl_X6_twinTwos : Cond.selects RX6 yX6_twinTwos yX6_twinTwos ∈ gTbl := gTbl_of (in_p (List.mem_of_getElem? (i := 53) (by decide +kernel))) rfl
theorem sl_X6_drawBelow : Cond.selects RX6 yX6_drawBelow yX6_drawBelow ∈ gTbl := gTbl_of (in_p (List.mem_of_getElem? (i := 54) (by decide +kernel))) rfl
theorem inw_X1 : ∀ w ∈ u_ws RX1 TX1 2, w ∈ gTbl := fun w h => by
  have h1 : ∀ w ∈ u_ws RX1 TX1 2, w ∈ lw_tbl ∧ goodWord w = true := by decide +kernel
  exact gTbl_of (h1 w h).1 (h1 w h).2
theorem inw_X2 : ∀ w ∈ u_ws RX2 TX2 2, w ∈ gTbl := fun w h => by
  have h1 : ∀ w ∈ u_ws RX2 TX2 2, w ∈ lw_tbl ∧ goodWord w = true := by decide +kernel
  exact gTbl_of (h1 w h).1 (h1 w h).2
theorem inw_X3 : ∀ w ∈ u_ws RX3 TX3 10, w ∈ gTbl := fun w h => by
  have h1 : ∀ w ∈ u_ws RX3 TX3 10, w ∈ lw_tbl ∧ goodWord w = true := by decide +kernel
  exact gTbl_of (h1 w h).1 (h1 w h).2
theorem inw_X4 : ∀ w ∈ u_ws RX4 TX4 3, w ∈ gTbl := fun w h => by
  have h1 : ∀ w ∈ u_ws RX4 TX4 3, w ∈ lw_tbl ∧ goodWord w = true := by decide +kernel
  exact gTbl_of (h1 w h).1 (h1 w h).2
theorem inw_X5 : ∀ w ∈ u_ws RX5 TX5 8, w ∈ gTbl := fun w h => by
  have h1 : ∀ w ∈ u_ws RX5 TX5 8, w ∈ lw_tbl ∧ goodWord w = true := by decide +kernel
  exact gTbl_of (h1 w h).1 (h1 w h).2
theorem inw_X6 : ∀ w ∈ u_ws RX6 TX6 34, w ∈ gTbl := fun w h => by
  have h1 : ∀ w ∈ u_ws RX6 TX6 34, w ∈ lw_tbl ∧ goodWord w = true := by decide +kernel
  exact gTbl_of (h1 w h).1 (h1 w h).2
end
section
def ckV (own : String) (ix : Nat) (y : MethodName) (cc : ByteArray) (maxL : Nat) (ret : Option FieldType) (n : Nat) : Prop :=
  Cond.methodLink own ix y ∈ gTbl ∧ Cond.instanceMethod y ∈ gTbl ∧ Cond.selects y.cls y y ∈ gTbl ∧ Cond.initialized y.cls ∈ gTbl ∧ Cond.code y cc maxL ret ∈ gTbl ∧ (y.cls ≠ "java/lang/invoke/MethodHandle" ∧ y.cls ≠ "java/lang/invoke/VarHandle" ∧ (parseMethodDescriptor y.desc).map (fun d => d.parameters.length) = some n)
def ckS (own : String) (ix : Nat) (y : MethodName) (cc : ByteArray) (maxL : Nat) (ret : Option FieldType) (n : Nat) : Prop :=
  Cond.methodLink own ix y ∈ gTbl ∧ Cond.static y ∈ gTbl ∧ Cond.initialized y.cls ∈ gTbl ∧ Cond.code y cc maxL ret ∈ gTbl ∧ (y.cls ≠ "java/lang/invoke/MethodHandle" ∧ y.cls ≠ "java/lang/invoke/VarHandle" ∧ (parseMethodDescriptor y.desc).map (fun d => d.parameters.length) = some n)
def ckI (own : String) (ix : Nat) (y : MethodName) (cc : ByteArray) (maxL : Nat) (n : Nat) : Prop :=
  Cond.methodLink own ix y ∈ gTbl ∧ Cond.instanceMethod y ∈ gTbl ∧ y.name = "<init>" ∧ Cond.initialized y.cls ∈ gTbl ∧ Cond.code y cc maxL none ∈ gTbl ∧ (y.cls ≠ "java/lang/invoke/MethodHandle" ∧ y.cls ≠ "java/lang/invoke/VarHandle" ∧ (parseMethodDescriptor y.desc).map (fun d => d.parameters.length) = some n)
def bz (v : Int32) : Prop := narrow .boolean (.int v) = .int v ∧ fits .boolean (.int v) = true
def xQi {S : Type} (D : va_G) (tys : List (ClassId × FieldType)) (post : Int32 → S → Prop) (Wf : S → List va_W) (A : Nat → Prop) : Array Value → State → Outcome → State → Prop := va_Qi post (fun u t => xB D tys A (Wf u) t) A
def xQl {S : Type} (D : va_G) (tys : List (ClassId × FieldType)) (post : Int64 → S → Prop) (Wf : S → List va_W) (A : Nat → Prop) : Array Value → State → Outcome → State → Prop := va_Ql post (fun u t => xB D tys A (Wf u) t) A
def xQv {S : Type} (D : va_G) (tys : List (ClassId × FieldType)) (post : S → Prop) (Wf : S → List va_W) (A : Nat → Prop) : Array Value → State → Outcome → State → Prop := va_Qv post (fun u t => xB D tys A (Wf u) t) A
theorem Met_i {S : Type} {l : Launch} {y : MethodName} {cc : ByteArray} {maxL f k n lo sz : Nat} {D : va_G} {tys : List (ClassId × FieldType)} {av : List Value} {gs : List va_W} {P : Prop} {post : Int32 → S → Prop} {Wf : S → List va_W} (hy : plainName y.cls = true) (hsl : (lg_sl av).length ≤ maxL)
    (body : ∀ (p : Program) (e : Env) (s : State) (m : MethodId) (below : List Frame) (meth : Method) (c : Code) (A : Nat → Prop) (Q : State → Prop), meth.name = y.name → xC p s m av.toArray c cc y.cls maxL D tys A →
      (∀ (pc : Nat) (r : Int32) (u : S) (lv : List (Nat × Value)), decode cc pc = .ok (.ireturn, 1) → post r u → xG p l e (rmL f k n lo) s m av.toArray below meth c D A maxL Q k n pc [.int r] (Wf u) lv) → P → xG p l e (rmL f k n lo) s m av.toArray below meth c D A maxL Q 0 0 0 [] gs (lv_args 0 av)) :
    Met l y (wsY y cc maxL (some .int)) (rmL f k n lo) (xP D tys av gs sz P) (xQi D tys post Wf (va_A gs.flatten sz)) k n (va_A gs.flatten sz) := by
  refine Met.ofW (cc := cc) (maxL := maxL) (ret := (some .int)) hy rfl ?_
  intro p e s m args below meth c s₁ B hml hv
  obtain ⟨rfl, hsz, ⟨hP, hK, hD0⟩, hw⟩ := hv
  have hx := B.exec
  have hb := B.bytes
  have hr := B.returns
  have hts := atoms_spec (ws := wsY y cc maxL (some .int)) B.pre
  have hlocks := B.notSynchronized
  subst hsz
  have hD := hD0.self (sz := s.heap.size)
  have hl := lv_entry av (n := maxL) hsl
  rw [lg_entry_eq]
  exact body p e s m below meth c (va_A gs.flatten s.heap.size) _ (name_of_methodNamed B.named B.method).1 ⟨⟨hx, hb, hml, findClass_of_methodNamed B.named, fun w h => hts w (List.mem_cons_of_mem _ h)⟩, hK, fun q h => Or.inr h⟩
    (fun pc r u lv d hp H locs hP hD hS ls hl => W.iret (v := r) hx hb hr (fun t ht hW => ⟨⟨r, u, rfl, hp, by rw [ht]; exact hP, va_K.moved hW.alike hK, hD⟩, hS.F ht⟩) hS.2.2 d) hw s.heap [] hP hD va_S.rf _ hl
theorem Met_z {S : Type} {l : Launch} {y : MethodName} {cc : ByteArray} {maxL f k n lo sz : Nat} {D : va_G} {tys : List (ClassId × FieldType)} {av : List Value} {gs : List va_W} {P : Prop} {post : Int32 → S → Prop} {Wf : S → List va_W} (hy : plainName y.cls = true) (hsl : (lg_sl av).length ≤ maxL)
    (body : ∀ (p : Program) (e : Env) (s : State) (m : MethodId) (below : List Frame) (meth : Method) (c : Code) (A : Nat → Prop) (Q : State → Prop), meth.name = y.name → xC p s m av.toArray c cc y.cls maxL D tys A →
      (∀ (pc : Nat) (r : Int32) (u : S) (lv : List (Nat × Value)), decode cc pc = .ok (.ireturn, 1) → bz r → post r u → xG p l e (rmL f k n lo) s m av.toArray below meth c D A maxL Q k n pc [.int r] (Wf u) lv) → P → xG p l e (rmL f k n lo) s m av.toArray below meth c D A maxL Q 0 0 0 [] gs (lv_args 0 av)) :
    Met l y (wsY y cc maxL (some .boolean)) (rmL f k n lo) (xP D tys av gs sz P) (xQi D tys post Wf (va_A gs.flatten sz)) k n (va_A gs.flatten sz) := by
  refine Met.ofW (cc := cc) (maxL := maxL) (ret := (some .boolean)) hy rfl ?_
  intro p e s m args below meth c s₁ B hml hv
  obtain ⟨rfl, hsz, ⟨hP, hK, hD0⟩, hw⟩ := hv
  have hx := B.exec
  have hb := B.bytes
  have hr := B.returns
  have hts := atoms_spec (ws := wsY y cc maxL (some .boolean)) B.pre
  have hlocks := B.notSynchronized
  subst hsz
  have hD := hD0.self (sz := s.heap.size)
  have hl := lv_entry av (n := maxL) hsl
  rw [lg_entry_eq]
  exact body p e s m below meth c (va_A gs.flatten s.heap.size) _ (name_of_methodNamed B.named B.method).1 ⟨⟨hx, hb, hml, findClass_of_methodNamed B.named, fun w h => hts w (List.mem_cons_of_mem _ h)⟩, hK, fun q h => Or.inr h⟩
    (fun pc r u lv d hz hp H locs hP hD hS ls hl => W.zret (v := r) hx hb hr hz.1 (fun t ht hW => ⟨⟨r, u, rfl, hp, by rw [ht]; exact hP, va_K.moved hW.alike hK, hD⟩, hS.F ht⟩) hS.2.2 d) hw s.heap [] hP hD va_S.rf _ hl
theorem Met_l {S : Type} {l : Launch} {y : MethodName} {cc : ByteArray} {maxL f k n lo sz : Nat} {D : va_G} {tys : List (ClassId × FieldType)} {av : List Value} {gs : List va_W} {P : Prop} {post : Int64 → S → Prop} {Wf : S → List va_W} (hy : plainName y.cls = true) (hsl : (lg_sl av).length ≤ maxL)
    (body : ∀ (p : Program) (e : Env) (s : State) (m : MethodId) (below : List Frame) (meth : Method) (c : Code) (A : Nat → Prop) (Q : State → Prop), meth.name = y.name → xC p s m av.toArray c cc y.cls maxL D tys A →
      (∀ (pc : Nat) (r : Int64) (u : S) (lv : List (Nat × Value)), decode cc pc = .ok (.lreturn, 1) → post r u → xG p l e (rmL f k n lo) s m av.toArray below meth c D A maxL Q k n pc [.long r] (Wf u) lv) → P → xG p l e (rmL f k n lo) s m av.toArray below meth c D A maxL Q 0 0 0 [] gs (lv_args 0 av)) :
    Met l y (wsY y cc maxL (some .long)) (rmL f k n lo) (xP D tys av gs sz P) (xQl D tys post Wf (va_A gs.flatten sz)) k n (va_A gs.flatten sz) := by
  refine Met.ofW (cc := cc) (maxL := maxL) (ret := (some .long)) hy rfl ?_
  intro p e s m args below meth c s₁ B hml hv
  obtain ⟨rfl, hsz, ⟨hP, hK, hD0⟩, hw⟩ := hv
  have hx := B.exec
  have hb := B.bytes
  have hr := B.returns
  have hts := atoms_spec (ws := wsY y cc maxL (some .long)) B.pre
  have hlocks := B.notSynchronized
  subst hsz
  have hD := hD0.self (sz := s.heap.size)
  have hl := lv_entry av (n := maxL) hsl
  rw [lg_entry_eq]
  exact body p e s m below meth c (va_A gs.flatten s.heap.size) _ (name_of_methodNamed B.named B.method).1 ⟨⟨hx, hb, hml, findClass_of_methodNamed B.named, fun w h => hts w (List.mem_cons_of_mem _ h)⟩, hK, fun q h => Or.inr h⟩
    (fun pc r u lv d hp H locs hP hD hS ls hl => W.lret (v := r) hx hb hr (fun t ht hW => ⟨⟨r, u, rfl, hp, by rw [ht]; exact hP, va_K.moved hW.alike hK, hD⟩, hS.F ht⟩) hS.2.2 d) hw s.heap [] hP hD va_S.rf _ hl
theorem Met_v {S : Type} {l : Launch} {y : MethodName} {cc : ByteArray} {maxL f k n lo sz : Nat} {D : va_G} {tys : List (ClassId × FieldType)} {av : List Value} {gs : List va_W} {P : Prop} {post : S → Prop} {Wf : S → List va_W} (hy : plainName y.cls = true) (hsl : (lg_sl av).length ≤ maxL)
    (body : ∀ (p : Program) (e : Env) (s : State) (m : MethodId) (below : List Frame) (meth : Method) (c : Code) (A : Nat → Prop) (Q : State → Prop), meth.name = y.name → xC p s m av.toArray c cc y.cls maxL D tys A →
      (∀ (pc : Nat) (u : S) (lv : List (Nat × Value)), decode cc pc = .ok (.return_, 1) → post u → xG p l e (rmL f k n lo) s m av.toArray below meth c D A maxL Q k n pc [] (Wf u) lv) → P → xG p l e (rmL f k n lo) s m av.toArray below meth c D A maxL Q 0 0 0 [] gs (lv_args 0 av)) :
    Met l y (wsY y cc maxL none) (rmL f k n lo) (xP D tys av gs sz P) (xQv D tys post Wf (va_A gs.flatten sz)) k n (va_A gs.flatten sz) := by
  refine Met.ofW (cc := cc) (maxL := maxL) (ret := none) hy rfl ?_
  intro p e s m args below meth c s₁ B hml hv
  obtain ⟨rfl, hsz, ⟨hP, hK, hD0⟩, hw⟩ := hv
  have hx := B.exec
  have hb := B.bytes
  have hr := B.returns
  have hts := atoms_spec (ws := wsY y cc maxL none) B.pre
  have hlocks := B.notSynchronized
  subst hsz
  have hD := hD0.self (sz := s.heap.size)
  have hl := lv_entry av (n := maxL) hsl
  rw [lg_entry_eq]
  exact body p e s m below meth c (va_A gs.flatten s.heap.size) _ (name_of_methodNamed B.named B.method).1 ⟨⟨hx, hb, hml, findClass_of_methodNamed B.named, fun w h => hts w (List.mem_cons_of_mem _ h)⟩, hK, fun q h => Or.inr h⟩
    (fun pc u lv d hp H locs hP hD hS ls hl => W.vret hx hb hr (fun t ht hW => ⟨⟨u, rfl, hp, by rw [ht]; exact hP, va_K.moved hW.alike hK, hD⟩, hS.F ht⟩) hS.2.2 d) hw s.heap [] hP hD va_S.rf _ hl
section XC
variable {p : Program} {l : Launch} {e : Env} {R : Room} {s : State} {m : MethodId} {args : Array Value} {below : List Frame} {meth : Method} {c : Code} {cc : ByteArray} {own : String} {nL : Nat} {D : va_G} {tys : List (ClassId × FieldType)} {A : Nat → Prop} {Q : State → Prop} {kc ks pc pc' : Nat} {st st0 : List Value} {gs : List va_W} {lv : List (Nat × Value)}
variable {y : MethodName} {ycc : ByteArray} {maxL nA f lo k n ix : Nat} {a : Nat} {As : List Value} {gc gr : List va_W} {P : Prop}
theorem g_callVi {S : Type} {ret : Option FieldType} {r0 : vw_C} {fs : List Value} {ci : Nat} {g : va_W} {post : Int32 → S → Prop} {Wf : S → List va_W} (C : xC p s m args c cc own nL D tys A)
    (hM : ∀ sz, Met l y (wsY y ycc maxL ret) (rmL f k n lo) (xP D tys (.ref a :: As) gc sz P) (xQi D tys post Wf (va_A gc.flatten sz)) k n (va_A gc.flatten sz))
    (d : decode cc pc = .ok (.invokevirtual ix, 3)) (hk : ckV own ix y ycc maxL ret nA) (hR : f + 1 ≤ R.frames ∧ 8 + (maxL + 11) + lo ≤ R.locals) (hr : kc + k ≤ R.cells ∧ ks + n ≤ R.slots)
    (hrc : vwCl[ci]? = some r0) (hrn : r0.1 = y.cls) (i j : Nat) (hg : gc[i]? = some g) (hj : g[j]? = some (a, .inr (ci, fs))) (is : List Nat) (hi : is.isPerm (List.range gs.length) = true) (hs : is.filterMap (fun i => gs[i]?) = gc ++ gr)
    (hst : st0 = As.reverse ++ .ref a :: st) (hn : As.length = nA) (hW : (st.map fun v => v.category).sum ≤ 8) (hp : pc + 3 = pc')
    (G' : S → List va_W) (is' : List Nat) (hi' : ∀ u, is'.isPerm (List.range (Wf u ++ gr).length) = true) (hs' : ∀ u, is'.filterMap (fun i => (Wf u ++ gr)[i]?) = G' u)
    (hw : P) (kk : ∀ (r : Int32) (u : S), post r u → xG p l e R s m args below meth c D A nL Q (kc + k) (ks + n) pc' (.int r :: st) (G' u) lv) : xG p l e R s m args below meth c D A nL Q kc ks pc st0 gs lv := by
  subst hp; subst hst
  intro H locs hP hD hS ls hl
  have hpm := flat_perm is hi hs
  have hP2 := vP_perm hpm hP
  have hD2 := vD_perm hpm hD
  have hPc := vP_left hP2
  have hDc := vD_left hD2
  have hF : ∀ q, va_A gc.flatten H.size q → A q := fun q h => va_A_D hDc (fun q h => C.2.2 q (Nat.le_trans hS.1 h)) h
  obtain ⟨q, hq, -⟩ := flat_at gc i j g hg hj
  have hrecv := va_recv (ws := gc.flatten) C.2.1 hPc hrc hq
  rw [hrn] at hrecv
  refine va_calli (va_runV (As := As) (rest := st) C.1 (hM H.size) ⟨callB_of nA C.1.2.2.2.2 (goodY hk.2.2.2.2.1) rfl rfl rfl (C.1.2.2.2.2 _ hk.2.2.2.1) (C.1.2.2.2.2 _ hk.1) hk.2.2.2.2.2 hR, C.1.2.2.2.2 _ hk.2.1, C.1.2.2.2.2 _ hk.2.2.1⟩ ⟨xP_blind, hrecv, fun U hU hW => ⟨rfl, by rw [hU], ⟨by rw [hU]; exact hPc, va_K.moved hW.alike C.2.1, hDc.weaken (fun _ _ _ _ => trivial)⟩, hw⟩⟩ rfl hn hl.1 rfl (lv_room hW) d hr) hS (fun q _ h => hF q h) hF (fun r u t H1 locs1 ht hvm hpo hB hz hk1 hS1 => ?_)
  obtain ⟨hP1, -, hD1⟩ := hB
  rw [ht] at hP1
  obtain ⟨hP3, hD3⟩ := vJoin hP2 hD2 hk1 hF hP1 hD1
  have hpm2 := flat_perm is' (hi' u) (show is'.filterMap (fun i => (Wf u ++ gr)[i]?) = G' u ++ [] by rw [hs' u, List.append_nil])
  rw [List.flatten_append, List.flatten_nil, List.append_nil] at hpm2
  exact kk r u hpo H1 locs1 (vP_perm hpm2 hP3) (vD_perm hpm2 hD3) hS1 ls hl
theorem g_callVl {S : Type} {ret : Option FieldType} {r0 : vw_C} {fs : List Value} {ci : Nat} {g : va_W} {post : Int64 → S → Prop} {Wf : S → List va_W} (C : xC p s m args c cc own nL D tys A)
    (hM : ∀ sz, Met l y (wsY y ycc maxL ret) (rmL f k n lo) (xP D tys (.ref a :: As) gc sz P) (xQl D tys post Wf (va_A gc.flatten sz)) k n (va_A gc.flatten sz))
    (d : decode cc pc = .ok (.invokevirtual ix, 3)) (hk : ckV own ix y ycc maxL ret nA) (hR : f + 1 ≤ R.frames ∧ 8 + (maxL + 11) + lo ≤ R.locals) (hr : kc + k ≤ R.cells ∧ ks + n ≤ R.slots)
    (hrc : vwCl[ci]? = some r0) (hrn : r0.1 = y.cls) (i j : Nat) (hg : gc[i]? = some g) (hj : g[j]? = some (a, .inr (ci, fs))) (is : List Nat) (hi : is.isPerm (List.range gs.length) = true) (hs : is.filterMap (fun i => gs[i]?) = gc ++ gr)
    (hst : st0 = As.reverse ++ .ref a :: st) (hn : As.length = nA) (hW : (st.map fun v => v.category).sum ≤ 8) (hp : pc + 3 = pc')
    (G' : S → List va_W) (is' : List Nat) (hi' : ∀ u, is'.isPerm (List.range (Wf u ++ gr).length) = true) (hs' : ∀ u, is'.filterMap (fun i => (Wf u ++ gr)[i]?) = G' u)
    (hw : P) (kk : ∀ (r : Int64) (u : S), post r u → xG p l e R s m args below meth c D A nL Q (kc + k) (ks + n) pc' (.long r :: st) (G' u) lv) : xG p l e R s m args below meth c D A nL Q kc ks pc st0 gs lv := by
  subst hp; subst hst
  intro H locs hP hD hS ls hl
  have hpm := flat_perm is hi hs
  have hP2 := vP_perm hpm hP
  have hD2 := vD_perm hpm hD
  have hPc := vP_left hP2
  have hDc := vD_left hD2
  have hF : ∀ q, va_A gc.flatten H.size q → A q := fun q h => va_A_D hDc (fun q h => C.2.2 q (Nat.le_trans hS.1 h)) h
  obtain ⟨q, hq, -⟩ := flat_at gc i j g hg hj
  have hrecv := va_recv (ws := gc.flatten) C.2.1 hPc hrc hq
  rw [hrn] at hrecv
  refine va_calll (va_runV (As := As) (rest := st) C.1 (hM H.size) ⟨callB_of nA C.1.2.2.2.2 (goodY hk.2.2.2.2.1) rfl rfl rfl (C.1.2.2.2.2 _ hk.2.2.2.1) (C.1.2.2.2.2 _ hk.1) hk.2.2.2.2.2 hR, C.1.2.2.2.2 _ hk.2.1, C.1.2.2.2.2 _ hk.2.2.1⟩ ⟨xP_blind, hrecv, fun U hU hW => ⟨rfl, by rw [hU], ⟨by rw [hU]; exact hPc, va_K.moved hW.alike C.2.1, hDc.weaken (fun _ _ _ _ => trivial)⟩, hw⟩⟩ rfl hn hl.1 rfl (lv_room hW) d hr) hS (fun q _ h => hF q h) hF (fun r u t H1 locs1 ht hvm hpo hB hz hk1 hS1 => ?_)
  obtain ⟨hP1, -, hD1⟩ := hB
  rw [ht] at hP1
  obtain ⟨hP3, hD3⟩ := vJoin hP2 hD2 hk1 hF hP1 hD1
  have hpm2 := flat_perm is' (hi' u) (show is'.filterMap (fun i => (Wf u ++ gr)[i]?) = G' u ++ [] by rw [hs' u, List.append_nil])
  rw [List.flatten_append, List.flatten_nil, List.append_nil] at hpm2
  exact kk r u hpo H1 locs1 (vP_perm hpm2 hP3) (vD_perm hpm2 hD3) hS1 ls hl
theorem g_callVv {S : Type} {ret : Option FieldType} {r0 : vw_C} {fs : List Value} {ci : Nat} {g : va_W} {post : S → Prop} {Wf : S → List va_W} (C : xC p s m args c cc own nL D tys A)
    (hM : ∀ sz, Met l y (wsY y ycc maxL ret) (rmL f k n lo) (xP D tys (.ref a :: As) gc sz P) (xQv D tys post Wf (va_A gc.flatten sz)) k n (va_A gc.flatten sz))
    (d : decode cc pc = .ok (.invokevirtual ix, 3)) (hk : ckV own ix y ycc maxL ret nA) (hR : f + 1 ≤ R.frames ∧ 8 + (maxL + 11) + lo ≤ R.locals) (hr : kc + k ≤ R.cells ∧ ks + n ≤ R.slots)
    (hrc : vwCl[ci]? = some r0) (hrn : r0.1 = y.cls) (i j : Nat) (hg : gc[i]? = some g) (hj : g[j]? = some (a, .inr (ci, fs))) (is : List Nat) (hi : is.isPerm (List.range gs.length) = true) (hs : is.filterMap (fun i => gs[i]?) = gc ++ gr)
    (hst : st0 = As.reverse ++ .ref a :: st) (hn : As.length = nA) (hW : (st.map fun v => v.category).sum ≤ 8) (hp : pc + 3 = pc')
    (G' : S → List va_W) (is' : List Nat) (hi' : ∀ u, is'.isPerm (List.range (Wf u ++ gr).length) = true) (hs' : ∀ u, is'.filterMap (fun i => (Wf u ++ gr)[i]?) = G' u)
    (hw : P) (kk : ∀ (u : S), post u → xG p l e R s m args below meth c D A nL Q (kc + k) (ks + n) pc' (st) (G' u) lv) : xG p l e R s m args below meth c D A nL Q kc ks pc st0 gs lv := by
  subst hp; subst hst
  intro H locs hP hD hS ls hl
  have hpm := flat_perm is hi hs
  have hP2 := vP_perm hpm hP
  have hD2 := vD_perm hpm hD
  have hPc := vP_left hP2
  have hDc := vD_left hD2
  have hF : ∀ q, va_A gc.flatten H.size q → A q := fun q h => va_A_D hDc (fun q h => C.2.2 q (Nat.le_trans hS.1 h)) h
  obtain ⟨q, hq, -⟩ := flat_at gc i j g hg hj
  have hrecv := va_recv (ws := gc.flatten) C.2.1 hPc hrc hq
  rw [hrn] at hrecv
  refine va_callv (va_runV (As := As) (rest := st) C.1 (hM H.size) ⟨callB_of nA C.1.2.2.2.2 (goodY hk.2.2.2.2.1) rfl rfl rfl (C.1.2.2.2.2 _ hk.2.2.2.1) (C.1.2.2.2.2 _ hk.1) hk.2.2.2.2.2 hR, C.1.2.2.2.2 _ hk.2.1, C.1.2.2.2.2 _ hk.2.2.1⟩ ⟨xP_blind, hrecv, fun U hU hW => ⟨rfl, by rw [hU], ⟨by rw [hU]; exact hPc, va_K.moved hW.alike C.2.1, hDc.weaken (fun _ _ _ _ => trivial)⟩, hw⟩⟩ rfl hn hl.1 rfl (lv_room hW) d hr) hS (fun q _ h => hF q h) hF (fun u t H1 locs1 ht hvm hpo hB hz hk1 hS1 => ?_)
  obtain ⟨hP1, -, hD1⟩ := hB
  rw [ht] at hP1
  obtain ⟨hP3, hD3⟩ := vJoin hP2 hD2 hk1 hF hP1 hD1
  have hpm2 := flat_perm is' (hi' u) (show is'.filterMap (fun i => (Wf u ++ gr)[i]?) = G' u ++ [] by rw [hs' u, List.append_nil])
  rw [List.flatten_append, List.flatten_nil, List.append_nil] at hpm2
  exact kk u hpo H1 locs1 (vP_perm hpm2 hP3) (vD_perm hpm2 hD3) hS1 ls hl
theorem g_callSi {S : Type} {ret : Option FieldType} {post : Int32 → S → Prop} {Wf : S → List va_W} (C : xC p s m args c cc own nL D tys A)
    (hM : ∀ sz, Met l y (wsY y ycc maxL ret) (rmL f k n lo) (xP D tys As gc sz P) (xQi D tys post Wf (va_A gc.flatten sz)) k n (va_A gc.flatten sz))
    (d : decode cc pc = .ok (.invokestatic ix, 3)) (hk : ckS own ix y ycc maxL ret nA) (hR : f + 1 ≤ R.frames ∧ 8 + (maxL + 11) + lo ≤ R.locals) (hr : kc + k ≤ R.cells ∧ ks + n ≤ R.slots)
    (is : List Nat) (hi : is.isPerm (List.range gs.length) = true) (hs : is.filterMap (fun i => gs[i]?) = gc ++ gr)
    (hst : st0 = As.reverse ++ st) (hn : As.length = nA) (hW : (st.map fun v => v.category).sum ≤ 8) (hp : pc + 3 = pc')
    (G' : S → List va_W) (is' : List Nat) (hi' : ∀ u, is'.isPerm (List.range (Wf u ++ gr).length) = true) (hs' : ∀ u, is'.filterMap (fun i => (Wf u ++ gr)[i]?) = G' u)
    (hw : P) (kk : ∀ (r : Int32) (u : S), post r u → xG p l e R s m args below meth c D A nL Q (kc + k) (ks + n) pc' (.int r :: st) (G' u) lv) : xG p l e R s m args below meth c D A nL Q kc ks pc st0 gs lv := by
  subst hp; subst hst
  intro H locs hP hD hS ls hl
  have hpm := flat_perm is hi hs
  have hP2 := vP_perm hpm hP
  have hD2 := vD_perm hpm hD
  have hPc := vP_left hP2
  have hDc := vD_left hD2
  have hF : ∀ q, va_A gc.flatten H.size q → A q := fun q h => va_A_D hDc (fun q h => C.2.2 q (Nat.le_trans hS.1 h)) h
  refine va_calli (va_runS (As := As) (rest := st) C.1 (hM H.size) ⟨callB_of nA C.1.2.2.2.2 (goodY hk.2.2.2.1) rfl rfl rfl (C.1.2.2.2.2 _ hk.2.2.1) (C.1.2.2.2.2 _ hk.1) hk.2.2.2.2 hR, C.1.2.2.2.2 _ hk.2.1⟩ ⟨xP_blind, fun U hU hW => ⟨rfl, by rw [hU], ⟨by rw [hU]; exact hPc, va_K.moved hW.alike C.2.1, hDc.weaken (fun _ _ _ _ => trivial)⟩, hw⟩⟩ rfl hn hl.1 rfl (lv_room hW) d hr) hS (fun q _ h => hF q h) hF (fun r u t H1 locs1 ht hvm hpo hB hz hk1 hS1 => ?_)
  obtain ⟨hP1, -, hD1⟩ := hB
  rw [ht] at hP1
  obtain ⟨hP3, hD3⟩ := vJoin hP2 hD2 hk1 hF hP1 hD1
  have hpm2 := flat_perm is' (hi' u) (show is'.filterMap (fun i => (Wf u ++ gr)[i]?) = G' u ++ [] by rw [hs' u, List.append_nil])
  rw [List.flatten_append, List.flatten_nil, List.append_nil] at hpm2
  exact kk r u hpo H1 locs1 (vP_perm hpm2 hP3) (vD_perm hpm2 hD3) hS1 ls hl
theorem g_callSl {S : Type} {ret : Option FieldType} {post : Int64 → S → Prop} {Wf : S → List va_W} (C : xC p s m args c cc own nL D tys A)
    (hM : ∀ sz, Met l y (wsY y ycc maxL ret) (rmL f k n lo) (xP D tys As gc sz P) (xQl D tys post Wf (va_A gc.flatten sz)) k n (va_A gc.flatten sz))
    (d : decode cc pc = .ok (.invokestatic ix, 3)) (hk : ckS own ix y ycc maxL ret nA) (hR : f + 1 ≤ R.frames ∧ 8 + (maxL + 11) + lo ≤ R.locals) (hr : kc + k ≤ R.cells ∧ ks + n ≤ R.slots)
    (is : List Nat) (hi : is.isPerm (List.range gs.length) = true) (hs : is.filterMap (fun i => gs[i]?) = gc ++ gr)
    (hst : st0 = As.reverse ++ st) (hn : As.length = nA) (hW : (st.map fun v => v.category).sum ≤ 8) (hp : pc + 3 = pc')
    (G' : S → List va_W) (is' : List Nat) (hi' : ∀ u, is'.isPerm (List.range (Wf u ++ gr).length) = true) (hs' : ∀ u, is'.filterMap (fun i => (Wf u ++ gr)[i]?) = G' u)
    (hw : P) (kk : ∀ (r : Int64) (u : S), post r u → xG p l e R s m args below meth c D A nL Q (kc + k) (ks + n) pc' (.long r :: st) (G' u) lv) : xG p l e R s m args below meth c D A nL Q kc ks pc st0 gs lv := by
  subst hp; subst hst
  intro H locs hP hD hS ls hl
  have hpm := flat_perm is hi hs
  have hP2 := vP_perm hpm hP
  have hD2 := vD_perm hpm hD
  have hPc := vP_left hP2
  have hDc := vD_left hD2
  have hF : ∀ q, va_A gc.flatten H.size q → A q := fun q h => va_A_D hDc (fun q h => C.2.2 q (Nat.le_trans hS.1 h)) h
  refine va_calll (va_runS (As := As) (rest := st) C.1 (hM H.size) ⟨callB_of nA C.1.2.2.2.2 (goodY hk.2.2.2.1) rfl rfl rfl (C.1.2.2.2.2 _ hk.2.2.1) (C.1.2.2.2.2 _ hk.1) hk.2.2.2.2 hR, C.1.2.2.2.2 _ hk.2.1⟩ ⟨xP_blind, fun U hU hW => ⟨rfl, by rw [hU], ⟨by rw [hU]; exact hPc, va_K.moved hW.alike C.2.1, hDc.weaken (fun _ _ _ _ => trivial)⟩, hw⟩⟩ rfl hn hl.1 rfl (lv_room hW) d hr) hS (fun q _ h => hF q h) hF (fun r u t H1 locs1 ht hvm hpo hB hz hk1 hS1 => ?_)
  obtain ⟨hP1, -, hD1⟩ := hB
  rw [ht] at hP1
  obtain ⟨hP3, hD3⟩ := vJoin hP2 hD2 hk1 hF hP1 hD1
  have hpm2 := flat_perm is' (hi' u) (show is'.filterMap (fun i => (Wf u ++ gr)[i]?) = G' u ++ [] by rw [hs' u, List.append_nil])
  rw [List.flatten_append, List.flatten_nil, List.append_nil] at hpm2
  exact kk r u hpo H1 locs1 (vP_perm hpm2 hP3) (vD_perm hpm2 hD3) hS1 ls hl
theorem g_callSv {S : Type} {ret : Option FieldType} {post : S → Prop} {Wf : S → List va_W} (C : xC p s m args c cc own nL D tys A)
    (hM : ∀ sz, Met l y (wsY y ycc maxL ret) (rmL f k n lo) (xP D tys As gc sz P) (xQv D tys post Wf (va_A gc.flatten sz)) k n (va_A gc.flatten sz))
    (d : decode cc pc = .ok (.invokestatic ix, 3)) (hk : ckS own ix y ycc maxL ret nA) (hR : f + 1 ≤ R.frames ∧ 8 + (maxL + 11) + lo ≤ R.locals) (hr : kc + k ≤ R.cells ∧ ks + n ≤ R.slots)
    (is : List Nat) (hi : is.isPerm (List.range gs.length) = true) (hs : is.filterMap (fun i => gs[i]?) = gc ++ gr)
    (hst : st0 = As.reverse ++ st) (hn : As.length = nA) (hW : (st.map fun v => v.category).sum ≤ 8) (hp : pc + 3 = pc')
    (G' : S → List va_W) (is' : List Nat) (hi' : ∀ u, is'.isPerm (List.range (Wf u ++ gr).length) = true) (hs' : ∀ u, is'.filterMap (fun i => (Wf u ++ gr)[i]?) = G' u)
    (hw : P) (kk : ∀ (u : S), post u → xG p l e R s m args below meth c D A nL Q (kc + k) (ks + n) pc' (st) (G' u) lv) : xG p l e R s m args below meth c D A nL Q kc ks pc st0 gs lv := by
  subst hp; subst hst
  intro H locs hP hD hS ls hl
  have hpm := flat_perm is hi hs
  have hP2 := vP_perm hpm hP
  have hD2 := vD_perm hpm hD
  have hPc := vP_left hP2
  have hDc := vD_left hD2
  have hF : ∀ q, va_A gc.flatten H.size q → A q := fun q h => va_A_D hDc (fun q h => C.2.2 q (Nat.le_trans hS.1 h)) h
  refine va_callv (va_runS (As := As) (rest := st) C.1 (hM H.size) ⟨callB_of nA C.1.2.2.2.2 (goodY hk.2.2.2.1) rfl rfl rfl (C.1.2.2.2.2 _ hk.2.2.1) (C.1.2.2.2.2 _ hk.1) hk.2.2.2.2 hR, C.1.2.2.2.2 _ hk.2.1⟩ ⟨xP_blind, fun U hU hW => ⟨rfl, by rw [hU], ⟨by rw [hU]; exact hPc, va_K.moved hW.alike C.2.1, hDc.weaken (fun _ _ _ _ => trivial)⟩, hw⟩⟩ rfl hn hl.1 rfl (lv_room hW) d hr) hS (fun q _ h => hF q h) hF (fun u t H1 locs1 ht hvm hpo hB hz hk1 hS1 => ?_)
  obtain ⟨hP1, -, hD1⟩ := hB
  rw [ht] at hP1
  obtain ⟨hP3, hD3⟩ := vJoin hP2 hD2 hk1 hF hP1 hD1
  have hpm2 := flat_perm is' (hi' u) (show is'.filterMap (fun i => (Wf u ++ gr)[i]?) = G' u ++ [] by rw [hs' u, List.append_nil])
  rw [List.flatten_append, List.flatten_nil, List.append_nil] at hpm2
  exact kk u hpo H1 locs1 (vP_perm hpm2 hP3) (vD_perm hpm2 hD3) hS1 ls hl
theorem g_callIv {S : Type} {post : S → Prop} {Wf : S → List va_W} (C : xC p s m args c cc own nL D tys A)
    (hM : ∀ sz, Met l y (wsY y ycc maxL none) (rmL f k n lo) (xP D tys (.ref a :: As) gc sz P) (xQv D tys post Wf (va_A gc.flatten sz)) k n (va_A gc.flatten sz))
    (d : decode cc pc = .ok (.invokespecial ix, 3)) (hk : ckI own ix y ycc maxL nA) (hR : f + 1 ≤ R.frames ∧ 8 + (maxL + 11) + lo ≤ R.locals) (hr : kc + k ≤ R.cells ∧ ks + n ≤ R.slots)
    (is : List Nat) (hi : is.isPerm (List.range gs.length) = true) (hs : is.filterMap (fun i => gs[i]?) = gc ++ gr)
    (hst : st0 = As.reverse ++ .ref a :: st) (hn : As.length = nA) (hW : (st.map fun v => v.category).sum ≤ 8) (hp : pc + 3 = pc')
    (G' : S → List va_W) (is' : List Nat) (hi' : ∀ u, is'.isPerm (List.range (Wf u ++ gr).length) = true) (hs' : ∀ u, is'.filterMap (fun i => (Wf u ++ gr)[i]?) = G' u)
    (hw : P) (kk : ∀ (u : S), post u → xG p l e R s m args below meth c D A nL Q (kc + k) (ks + n) pc' (st) (G' u) lv) : xG p l e R s m args below meth c D A nL Q kc ks pc st0 gs lv := by
  subst hp; subst hst
  intro H locs hP hD hS ls hl
  have hpm := flat_perm is hi hs
  have hP2 := vP_perm hpm hP
  have hD2 := vD_perm hpm hD
  have hPc := vP_left hP2
  have hDc := vD_left hD2
  have hF : ∀ q, va_A gc.flatten H.size q → A q := fun q h => va_A_D hDc (fun q h => C.2.2 q (Nat.le_trans hS.1 h)) h
  refine va_callv (va_runI (As := As) (rest := st) C.1 (hM H.size) ⟨callB_of nA C.1.2.2.2.2 (goodY hk.2.2.2.2.1) rfl rfl rfl (C.1.2.2.2.2 _ hk.2.2.2.1) (C.1.2.2.2.2 _ hk.1) hk.2.2.2.2.2 hR, hk.2.2.1, C.1.2.2.2.2 _ hk.2.1⟩ ⟨xP_blind, fun U hU hW => ⟨rfl, by rw [hU], ⟨by rw [hU]; exact hPc, va_K.moved hW.alike C.2.1, hDc.weaken (fun _ _ _ _ => trivial)⟩, hw⟩⟩ rfl hn hl.1 rfl (lv_room hW) d hr) hS (fun q _ h => hF q h) hF (fun u t H1 locs1 ht hvm hpo hB hz hk1 hS1 => ?_)
  obtain ⟨hP1, -, hD1⟩ := hB
  rw [ht] at hP1
  obtain ⟨hP3, hD3⟩ := vJoin hP2 hD2 hk1 hF hP1 hD1
  have hpm2 := flat_perm is' (hi' u) (show is'.filterMap (fun i => (Wf u ++ gr)[i]?) = G' u ++ [] by rw [hs' u, List.append_nil])
  rw [List.flatten_append, List.flatten_nil, List.append_nil] at hpm2
  exact kk u hpo H1 locs1 (vP_perm hpm2 hP3) (vD_perm hpm2 hD3) hS1 ls hl
end XC
end
section
/-! the worlds: groups of cells and what they hold -/
abbrev F1 : Type := Nat → Int32
/-- a parish: kinds, figures, what is held, nexts, how many, blocked, wet, the cup, the hour, dripped -/
abbrev PT : Type := F1 × F1 × F1 × F1 × Int32 × Int32 × Int32 × Int32 × Int32 × Int32
abbrev LT : Type := F1 × Int32
abbrev HT : Type := Int32 × Int32
/-- place0, isTaking, keptIn (which array) -/
abbrev KS : Type := Int32 × Int32 × Option Nat
/-- placeIn, letterOf, numbers, at0, isBad, statements -/
abbrev QT : Type := F1 × F1 × F1 × Int32 × Int32 × Int32
abbrev gA (cI : ClassId) (a n : Nat) (f : F1) : va_W := [(a, .inl (cI, n, .inl f))]
abbrev gPar (cI : ClassId) (a : Nat → Nat) (t : PT) : va_W := [(a 0, .inr (2, [.ref (a 1), .ref (a 2), .ref (a 3), .ref (a 4), .int t.2.2.2.2.1, .int t.2.2.2.2.2.1, .int t.2.2.2.2.2.2.1, .int t.2.2.2.2.2.2.2.1, .int t.2.2.2.2.2.2.2.2.1, .int t.2.2.2.2.2.2.2.2.2])), (a 1, .inl (cI, 9, .inl t.1)), (a 2, .inl (cI, 9, .inl t.2.1)), (a 3, .inl (cI, 9, .inl t.2.2.1)), (a 4, .inl (cI, 9, .inl t.2.2.2.1))]
abbrev gLet (cI : ClassId) (a : Nat → Nat) (t : LT) : va_W := [(a 0, .inr (0, [.ref (a 1), .int t.2])), (a 1, .inl (cI, 96, .inl t.1))]
abbrev gNum (cI : ClassId) (a : Nat → Nat) (t : LT) : va_W := [(a 0, .inr (1, [.ref (a 1), .int t.2])), (a 1, .inl (cI, 12, .inl t.1))]
abbrev gPas (cQ : ClassId) (a : Nat → Nat) (b : Nat → Nat → Nat) (h : HT) : va_W := [(a 0, .inr (3, [.ref (a 1), .int h.1, .int h.2])), (a 1, .inl (cQ, 8, .inr (.inr (.inr (.inr (fun k => some (b k 0)))))))]
abbrev gObj (x : Nat) (an am aq ap al au : Nat → Nat) (re : Nat) (pi : Int32) : va_W := [(x, .inr (4, [.ref (an 0), .ref (am 0), .ref (aq 0), .ref (ap 0), .ref (al 0), .ref (au 0), .ref re, .int pi]))]
abbrev gM4 (cI : ClassId) (d : Nat → Nat) (c : PT) : va_W := [(d 0, .inl (cI, 9, .inl c.1)), (d 1, .inl (cI, 9, .inl c.2.1)), (d 2, .inl (cI, 9, .inl c.2.2.1)), (d 3, .inl (cI, 9, .inl c.2.2.2.1))]
abbrev gQ (cI : ClassId) (d : Nat → Nat) (q : QT) : va_W := [(d 6, .inl (cI, 49, .inl q.1)), (d 7, .inl (cI, 49, .inl q.2.1)), (d 8, .inl (cI, 98, .inl q.2.2.1))]
abbrev gMo (o : Nat) (d : Nat → Nat) (c : PT) (th : Int32) (le : LT) (qz : QT) (ks : KS) (hi td : Int32) (ro : LT) (se : Int32) : va_W := [(o, .inr (5, [.int c.2.2.2.2.1, .ref (d 0), .ref (d 1), .ref (d 2), .ref (d 3), .int c.2.2.2.2.2.1, .int c.2.2.2.2.2.2.1, .int c.2.2.2.2.2.2.2.1, .int c.2.2.2.2.2.2.2.2.1, .int th, .ref (d 4), .int c.2.2.2.2.2.2.2.2.2, .ref (d 5), .int le.2, .int qz.2.2.2.1, .int qz.2.2.2.2.1, .int qz.2.2.2.2.2, .ref (d 6), .ref (d 7), .ref (d 8), .ref (d 9), .ref (d 10), .int hi, .int ks.1, .int ks.2.1, va_rf (ks.2.2.map d), .ref (d 11), .ref (d 12), .int td, .ref (d 13), .ref (d 14), .int ro.2, .ref (d 15), .int se]))]
end
section
theorem fd_I : parseFieldDescriptor "I" = some .int := by decide +kernel
theorem fd_Z : parseFieldDescriptor "Z" = some .boolean := by decide +kernel
theorem fd_A : parseFieldDescriptor "[I" = some (.array .int) := by decide +kernel
theorem pn_X0 : plainName RX0 = true := by decide +kernel
theorem pn_X1 : plainName RX1 = true := by decide +kernel
theorem pn_X2 : plainName RX2 = true := by decide +kernel
theorem pn_X3 : plainName RX3 = true := by decide +kernel
theorem pn_X4 : plainName RX4 = true := by decide +kernel
theorem pn_X5 : plainName RX5 = true := by decide +kernel
theorem pn_X6 : plainName RX6 = true := by decide +kernel
theorem pn_J6 : plainName RJ6 = true := by decide +kernel
set_option maxRecDepth 100000 in
def p_X0_stands (p1 : Int32) (post : Int32 → Prop) : Prop := ((p1 = 2 → post (1 : Int32)) ∧ (¬ p1 = 2 → ((p1 = 5 → post (3 : Int32)) ∧ (¬ p1 = 5 → post (0 : Int32)))))
set_option maxHeartbeats 4000000 in
set_option maxRecDepth 100000 in
theorem w_X0_stands {p : Program} {l : Launch} {e : Env} {s : State} {mi : MethodId} {args : Array Value} {below : List Frame} {meth : Method} {co : Code} {D : va_G} {cI cQ : ClassId} {A : Nat → Prop} {Q : State → Prop} (p1 : Int32) {post : Int32 → Prop} (C : xC p s mi args co cX0_stands RX0 1 D (tyL cI cQ) A) (hret : ∀ (pc : Nat) (r : Int32) (u : Unit) (lv : List (Nat × Value)), decode cX0_stands pc = .ok (.ireturn, 1) → post r → xG p l e (rmL 0 0 0 0) s mi args below meth co D A 1 Q 0 0 pc [.int r] [] lv) (hw : p_X0_stands p1 post) : xG p l e (rmL 0 0 0 0) s mi args below meth co D A 1 Q 0 0 0 [] [] [(0, .int p1)] := by
  unfold p_X0_stands at hw
  try dsimp only at hw
  show xG p l e (rmL 0 0 0 0) s mi args below meth co D A 1 Q 0 0 0 [] [] [(0, .int p1)]
  refine g_iload_n C dX0_stands_0 0 rfl rfl ?_
  rcases Classical.em (p1 = 2) with hs1_0 | hs1_0
  · replace hw := hw.1 hs1_0
    refine g_lsw (pc' := 28) C dX0_stands_1 (by decide) (by first | (rw [hs1_0]; done) | (rw [hs1_0]; rfl)) (by decide) ?_
    refine g_iconst (v := 1) C dX0_stands_28 rfl rfl ?_
    exact hret 29 (1 : Int32) () _ dX0_stands_29 hw
  · replace hw := hw.2 hs1_0
    rcases Classical.em (p1 = 5) with hs1_1 | hs1_1
    · replace hw := hw.1 hs1_1
      refine g_lsw (pc' := 30) C dX0_stands_1 (by decide) (by first | (rw [hs1_1]; done) | (rw [hs1_1]; rfl)) (by decide) ?_
      refine g_iconst (v := 3) C dX0_stands_30 rfl rfl ?_
      exact hret 31 (3 : Int32) () _ dX0_stands_31 hw
    · replace hw := hw.2 hs1_1
      refine g_lsw (off := 31) (pc' := 32) C dX0_stands_1 (by decide) (by show Op.lookupswitch.offset [(2, 27), (5, 29)] 31 _ = 31; rw [lv_osw hs1_0 (by decide), lv_osw hs1_1 (by decide)]; rfl) (by decide) ?_
      refine g_iconst (v := 0) C dX0_stands_32 rfl rfl ?_
      exact hret 33 (0 : Int32) () _ dX0_stands_33 hw
set_option maxRecDepth 100000 in
theorem c_X0_stands (l : Launch) (D : va_G) (cI cQ : ClassId) (p1 : Int32) (post : Int32 → Prop) (sz : Nat) : Met l yX0_stands (wsY yX0_stands cX0_stands 1 (some .int)) (rmL 0 0 0 0) (xP D (tyL cI cQ) [.int p1] [] sz (p_X0_stands p1 post)) (xQi D (tyL cI cQ) (fun (r : Int32) (_ : Unit) => post r) (fun (u : Unit) => []) (va_A [].flatten sz)) 0 0 (va_A [].flatten sz) :=
  Met_i pn_X0 (Nat.le_of_ble_eq_true rfl) (fun p e s mi below meth co A Q _ C hret hw => w_X0_stands p1 C hret hw)
theorem kS_X0_stands : Cond.static yX0_stands ∈ gTbl ∧ Cond.initialized yX0_stands.cls ∈ gTbl ∧ Cond.code yX0_stands cX0_stands 1 (some .int) ∈ gTbl ∧ (yX0_stands.cls ≠ "java/lang/invoke/MethodHandle" ∧ yX0_stands.cls ≠ "java/lang/invoke/VarHandle" ∧ (parseMethodDescriptor yX0_stands.desc).map (fun d => d.parameters.length) = some 1) := ⟨sm_X0_stands, in_X0, cd_X0_stands, (by decide +kernel)⟩
set_option maxRecDepth 100000 in
def p_X0_wouldLet (p1 : Int32) (p2 : Int32) (p3 : Int32) (post : Int32 → Prop) : Prop := ((p1 = 1 → post p3) ∧ (¬ p1 = 1 → ((p1 = 2 → post (p3 / (2 : Int32))) ∧ (¬ p1 = 2 → ((p1 = 3 → ((p3 ≤ p2 → post p3) ∧ (¬ p3 ≤ p2 → post p2))) ∧ (¬ p1 = 3 → ((p1 = 4 → ((p3 ≤ p2 → post (0 : Int32)) ∧ (¬ p3 ≤ p2 → post (p3 - p2)))) ∧ (¬ p1 = 4 → ((p1 = 5 → post ((p3 / (2 : Int32)) / (2 : Int32))) ∧ (¬ p1 = 5 → post ((p3 + (1 : Int32)) / (2 : Int32))))))))))))
set_option maxHeartbeats 4000000 in
set_option maxRecDepth 100000 in
theorem w_X0_wouldLet {p : Program} {l : Launch} {e : Env} {s : State} {mi : MethodId} {args : Array Value} {below : List Frame} {meth : Method} {co : Code} {D : va_G} {cI cQ : ClassId} {A : Nat → Prop} {Q : State → Prop} (p1 : Int32) (p2 : Int32) (p3 : Int32) {post : Int32 → Prop} (C : xC p s mi args co cX0_wouldLet RX0 3 D (tyL cI cQ) A) (hret : ∀ (pc : Nat) (r : Int32) (u : Unit) (lv : List (Nat × Value)), decode cX0_wouldLet pc = .ok (.ireturn, 1) → post r → xG p l e (rmL 0 0 0 0) s mi args below meth co D A 3 Q 0 0 pc [.int r] [] lv) (hw : p_X0_wouldLet p1 p2 p3 post) : xG p l e (rmL 0 0 0 0) s mi args below meth co D A 3 Q 0 0 0 [] [] [(0, .int p1), (1, .int p2), (2, .int p3)] := by
  unfold p_X0_wouldLet at hw
  try dsimp only at hw
  show xG p l e (rmL 0 0 0 0) s mi args below meth co D A 3 Q 0 0 0 [] [] [(0, .int p1), (1, .int p2), (2, .int p3)]
  refine g_iload_n C dX0_wouldLet_0 0 rfl rfl ?_
  rcases Classical.em (p1 = 1) with hs1_0 | hs1_0
  · replace hw := hw.1 hs1_0
    refine g_tswIn (pc' := 36) C dX0_wouldLet_1 1 hs1_0 (by decide) (by decide) rfl (by decide) ?_
    refine g_iload_n C dX0_wouldLet_36 2 rfl rfl ?_
    exact hret 37 p3 () _ dX0_wouldLet_37 hw
  · replace hw := hw.2 hs1_0
    rcases Classical.em (p1 = 2) with hs1_1 | hs1_1
    · replace hw := hw.1 hs1_1
      refine g_tswIn (pc' := 38) C dX0_wouldLet_1 2 hs1_1 (by decide) (by decide) rfl (by decide) ?_
      refine g_iload_n C dX0_wouldLet_38 2 rfl rfl ?_
      refine g_iconst (v := 2) C dX0_wouldLet_39 rfl rfl ?_
      refine g_idiv C dX0_wouldLet_40 (by decide) rfl ?_
      exact hret 41 (p3 / (2 : Int32)) () _ dX0_wouldLet_41 hw
    · replace hw := hw.2 hs1_1
      rcases Classical.em (p1 = 3) with hs1_2 | hs1_2
      · replace hw := hw.1 hs1_2
        refine g_tswIn (pc' := 42) C dX0_wouldLet_1 3 hs1_2 (by decide) (by decide) rfl (by decide) ?_
        refine g_iload_n C dX0_wouldLet_42 1 rfl rfl ?_
        refine g_iload_n C dX0_wouldLet_43 2 rfl rfl ?_
        refine g_icmp_ge (tgt := 51) C dX0_wouldLet_44 (by decide) rfl hw (fun _ hw => ?_) (fun _ hw => ?_)
        · refine g_iload_n C dX0_wouldLet_51 2 rfl rfl ?_
          exact hret 52 p3 () _ dX0_wouldLet_52 hw
        · refine g_iload_n C dX0_wouldLet_47 1 rfl rfl ?_
          refine g_goto (pc' := 52) C dX0_wouldLet_48 (by decide) rfl ?_
          exact hret 52 p2 () _ dX0_wouldLet_52 hw
      · replace hw := hw.2 hs1_2
        rcases Classical.em (p1 = 4) with hs1_3 | hs1_3
        · replace hw := hw.1 hs1_3
          refine g_tswIn (pc' := 53) C dX0_wouldLet_1 4 hs1_3 (by decide) (by decide) rfl (by decide) ?_
          refine g_iload_n C dX0_wouldLet_53 1 rfl rfl ?_
          refine g_iload_n C dX0_wouldLet_54 2 rfl rfl ?_
          refine g_icmp_ge (tgt := 64) C dX0_wouldLet_55 (by decide) rfl hw (fun _ hw => ?_) (fun _ hw => ?_)
          · refine g_iconst (v := 0) C dX0_wouldLet_64 rfl rfl ?_
            exact hret 65 (0 : Int32) () _ dX0_wouldLet_65 hw
          · refine g_iload_n C dX0_wouldLet_58 2 rfl rfl ?_
            refine g_iload_n C dX0_wouldLet_59 1 rfl rfl ?_
            refine g_isub C dX0_wouldLet_60 rfl ?_
            refine g_goto (pc' := 65) C dX0_wouldLet_61 (by decide) rfl ?_
            exact hret 65 (p3 - p2) () _ dX0_wouldLet_65 hw
        · replace hw := hw.2 hs1_3
          rcases Classical.em (p1 = 5) with hs1_4 | hs1_4
          · replace hw := hw.1 hs1_4
            refine g_tswIn (pc' := 66) C dX0_wouldLet_1 5 hs1_4 (by decide) (by decide) rfl (by decide) ?_
            refine g_iload_n C dX0_wouldLet_66 2 rfl rfl ?_
            refine g_iconst (v := 2) C dX0_wouldLet_67 rfl rfl ?_
            refine g_idiv C dX0_wouldLet_68 (by decide) rfl ?_
            refine g_iconst (v := 2) C dX0_wouldLet_69 rfl rfl ?_
            refine g_idiv C dX0_wouldLet_70 (by decide) rfl ?_
            exact hret 71 ((p3 / (2 : Int32)) / (2 : Int32)) () _ dX0_wouldLet_71 hw
          · replace hw := hw.2 hs1_4
            have ht1 : (p1).toInt < 1 ∨ 5 < (p1).toInt := by
              have q0 := lv_neT (a := 1) hs1_0 (by decide)
              have q1 := lv_neT (a := 2) hs1_1 (by decide)
              have q2 := lv_neT (a := 3) hs1_2 (by decide)
              have q3 := lv_neT (a := 4) hs1_3 (by decide)
              have q4 := lv_neT (a := 5) hs1_4 (by decide)
              omega
            refine g_tswOut (pc' := 72) C dX0_wouldLet_1 ht1 (by decide) ?_
            refine g_iload_n C dX0_wouldLet_72 2 rfl rfl ?_
            refine g_iconst (v := 1) C dX0_wouldLet_73 rfl rfl ?_
            refine g_iadd C dX0_wouldLet_74 rfl ?_
            refine g_iconst (v := 2) C dX0_wouldLet_75 rfl rfl ?_
            refine g_idiv C dX0_wouldLet_76 (by decide) rfl ?_
            exact hret 77 ((p3 + (1 : Int32)) / (2 : Int32)) () _ dX0_wouldLet_77 hw
set_option maxRecDepth 100000 in
theorem c_X0_wouldLet (l : Launch) (D : va_G) (cI cQ : ClassId) (p1 : Int32) (p2 : Int32) (p3 : Int32) (post : Int32 → Prop) (sz : Nat) : Met l yX0_wouldLet (wsY yX0_wouldLet cX0_wouldLet 3 (some .int)) (rmL 0 0 0 0) (xP D (tyL cI cQ) [.int p1, .int p2, .int p3] [] sz (p_X0_wouldLet p1 p2 p3 post)) (xQi D (tyL cI cQ) (fun (r : Int32) (_ : Unit) => post r) (fun (u : Unit) => []) (va_A [].flatten sz)) 0 0 (va_A [].flatten sz) :=
  Met_i pn_X0 (Nat.le_of_ble_eq_true rfl) (fun p e s mi below meth co A Q _ C hret hw => w_X0_wouldLet p1 p2 p3 C hret hw)
theorem kS_X0_wouldLet : Cond.static yX0_wouldLet ∈ gTbl ∧ Cond.initialized yX0_wouldLet.cls ∈ gTbl ∧ Cond.code yX0_wouldLet cX0_wouldLet 3 (some .int) ∈ gTbl ∧ (yX0_wouldLet.cls ≠ "java/lang/invoke/MethodHandle" ∧ yX0_wouldLet.cls ≠ "java/lang/invoke/VarHandle" ∧ (parseMethodDescriptor yX0_wouldLet.desc).map (fun d => d.parameters.length) = some 3) := ⟨sm_X0_wouldLet, in_X0, cd_X0_wouldLet, (by decide +kernel)⟩
set_option maxRecDepth 100000 in
def p_X0_letsThrough (p1 : Int32) (p2 : Int32) (p3 : Int32) (post : Int32 → Prop) : Prop := p_X0_stands p1 (fun (r1 : Int32) => jn (fun (z3 : Int32) => (fun (x2 : Int32) => p_X0_wouldLet p1 p2 p3 (fun (r4 : Int32) => ((x2 ≤ r4 → post x2) ∧ (¬ x2 ≤ r4 → post r4)))) z3) (fun J3 => ((p3 ≤ r1 → J3 (0 : Int32)) ∧ (¬ p3 ≤ r1 → p_X0_stands p1 (fun (r5 : Int32) => J3 (p3 - r5))))))
set_option maxHeartbeats 4000000 in
set_option maxRecDepth 100000 in
theorem w_X0_letsThrough {p : Program} {l : Launch} {e : Env} {s : State} {mi : MethodId} {args : Array Value} {below : List Frame} {meth : Method} {co : Code} {D : va_G} {cI cQ : ClassId} {A : Nat → Prop} {Q : State → Prop} (p1 : Int32) (p2 : Int32) (p3 : Int32) {post : Int32 → Prop} (C : xC p s mi args co cX0_letsThrough RX0 5 D (tyL cI cQ) A) (hret : ∀ (pc : Nat) (r : Int32) (u : Unit) (lv : List (Nat × Value)), decode cX0_letsThrough pc = .ok (.ireturn, 1) → post r → xG p l e (rmL 1 0 0 22) s mi args below meth co D A 5 Q 0 0 pc [.int r] [] lv) (hw : p_X0_letsThrough p1 p2 p3 post) : xG p l e (rmL 1 0 0 22) s mi args below meth co D A 5 Q 0 0 0 [] [] [(0, .int p1), (1, .int p2), (2, .int p3)] := by
  unfold p_X0_letsThrough at hw
  try dsimp only at hw
  show xG p l e (rmL 1 0 0 22) s mi args below meth co D A 5 Q 0 0 0 [] [] [(0, .int p1), (1, .int p2), (2, .int p3)]
  refine g_iload_n C dX0_letsThrough_0 2 rfl rfl ?_
  refine g_iload_n C dX0_letsThrough_1 0 rfl rfl ?_
  refine g_callSi (As := [.int p1]) (gr := []) C (c_X0_stands l D cI cQ   p1 _) dX0_letsThrough_2 ⟨ml_X0_7, kS_X0_stands⟩ ⟨Nat.le_of_ble_eq_true rfl, Nat.le_of_ble_eq_true rfl⟩ ⟨Nat.le_refl _, Nat.le_refl _⟩ [] rfl rfl rfl rfl (Nat.le_of_ble_eq_true rfl) rfl (fun (u : Unit) => []) [] (fun _ => rfl) (fun _ => rfl) hw (fun r1 u1 hw => ?_)
  refine jn_el hw (fun (z3 : Int32) => (fun (x2 : Int32) => xG p l e (rmL 1 0 0 22) s mi args below meth co D A 5 Q 0 0 18 [.int x2] [] [(0, .int p1), (1, .int p2), (2, .int p3)]) z3) ?_ ?_
  · rintro x2 hw
    show xG p l e (rmL 1 0 0 22) s mi args below meth co D A 5 Q 0 0 18 [.int x2] [] [(0, .int p1), (1, .int p2), (2, .int p3)]
    refine g_istore_n (v := x2) C dX0_letsThrough_18 rfl (Nat.le_of_ble_eq_true rfl) (lv' := [(3, .int x2), (0, .int p1), (1, .int p2), (2, .int p3)]) rfl rfl ?_
    refine g_iload_n C dX0_letsThrough_19 1 rfl rfl ?_
    refine g_iload_n C dX0_letsThrough_20 2 rfl rfl ?_
    refine g_iload_n C dX0_letsThrough_21 3 rfl rfl ?_
    refine g_callSi (As := [.int p1, .int p2, .int p3]) (gr := []) C (c_X0_wouldLet l D cI cQ   p1 p2 p3 _) dX0_letsThrough_22 ⟨ml_X0_13, kS_X0_wouldLet⟩ ⟨Nat.le_of_ble_eq_true rfl, Nat.le_of_ble_eq_true rfl⟩ ⟨Nat.le_refl _, Nat.le_refl _⟩ [] rfl rfl rfl rfl (Nat.le_of_ble_eq_true rfl) rfl (fun (u : Unit) => []) [] (fun _ => rfl) (fun _ => rfl) hw (fun r4 u4 hw => ?_)
    refine g_istore (v := r4) C dX0_letsThrough_25 rfl (Nat.le_of_ble_eq_true rfl) (lv' := [(4, .int r4), (3, .int x2), (0, .int p1), (1, .int p2), (2, .int p3)]) rfl rfl ?_
    refine g_iload C dX0_letsThrough_27 0 rfl rfl ?_
    refine g_iload_n C dX0_letsThrough_29 1 rfl rfl ?_
    refine g_icmp_ge (tgt := 38) C dX0_letsThrough_30 (by decide) rfl hw (fun _ hw => ?_) (fun _ hw => ?_)
    · refine g_iload_n C dX0_letsThrough_38 1 rfl rfl ?_
      exact hret 39 x2 () _ dX0_letsThrough_39 hw
    · refine g_iload C dX0_letsThrough_33 0 rfl rfl ?_
      refine g_goto (pc' := 39) C dX0_letsThrough_35 (by decide) rfl ?_
      exact hret 39 r4 () _ dX0_letsThrough_39 hw
  · intro J3 hJ3 hw
    refine g_icmp_le (tgt := 17) C dX0_letsThrough_5 (by decide) rfl hw (fun _ hw => ?_) (fun _ hw => ?_)
    · refine g_iconst (v := 0) C dX0_letsThrough_17 rfl rfl ?_
      exact hJ3 (0 : Int32) hw
    · refine g_iload_n C dX0_letsThrough_8 2 rfl rfl ?_
      refine g_iload_n C dX0_letsThrough_9 0 rfl rfl ?_
      refine g_callSi (As := [.int p1]) (gr := []) C (c_X0_stands l D cI cQ   p1 _) dX0_letsThrough_10 ⟨ml_X0_7, kS_X0_stands⟩ ⟨Nat.le_of_ble_eq_true rfl, Nat.le_of_ble_eq_true rfl⟩ ⟨Nat.le_refl _, Nat.le_refl _⟩ [] rfl rfl rfl rfl (Nat.le_of_ble_eq_true rfl) rfl (fun (u : Unit) => []) [] (fun _ => rfl) (fun _ => rfl) hw (fun r5 u5 hw => ?_)
      refine g_isub C dX0_letsThrough_13 rfl ?_
      refine g_goto (pc' := 18) C dX0_letsThrough_14 (by decide) rfl ?_
      exact hJ3 (p3 - r5) hw
set_option maxRecDepth 100000 in
theorem c_X0_letsThrough (l : Launch) (D : va_G) (cI cQ : ClassId) (p1 : Int32) (p2 : Int32) (p3 : Int32) (post : Int32 → Prop) (sz : Nat) : Met l yX0_letsThrough (wsY yX0_letsThrough cX0_letsThrough 5 (some .int)) (rmL 1 0 0 22) (xP D (tyL cI cQ) [.int p1, .int p2, .int p3] [] sz (p_X0_letsThrough p1 p2 p3 post)) (xQi D (tyL cI cQ) (fun (r : Int32) (_ : Unit) => post r) (fun (u : Unit) => []) (va_A [].flatten sz)) 0 0 (va_A [].flatten sz) :=
  Met_i pn_X0 (Nat.le_of_ble_eq_true rfl) (fun p e s mi below meth co A Q _ C hret hw => w_X0_letsThrough p1 p2 p3 C hret hw)
theorem kS_X0_letsThrough : Cond.static yX0_letsThrough ∈ gTbl ∧ Cond.initialized yX0_letsThrough.cls ∈ gTbl ∧ Cond.code yX0_letsThrough cX0_letsThrough 5 (some .int) ∈ gTbl ∧ (yX0_letsThrough.cls ≠ "java/lang/invoke/MethodHandle" ∧ yX0_letsThrough.cls ≠ "java/lang/invoke/VarHandle" ∧ (parseMethodDescriptor yX0_letsThrough.desc).map (fun d => d.parameters.length) = some 3) := ⟨sm_X0_letsThrough, in_X0, cd_X0_letsThrough, (by decide +kernel)⟩
set_option maxRecDepth 100000 in
def p_X0_adds (p1 : Int32) (p2 : Int32) (post : Int32 → Prop) : Prop := ((p1 = 1 → post p2) ∧ (¬ p1 = 1 → ((p1 = 2 → post (3 : Int32)) ∧ (¬ p1 = 2 → ((p1 = 3 → post (0 : Int32)) ∧ (¬ p1 = 3 → ((p1 = 4 → post (p2 / (2 : Int32))) ∧ (¬ p1 = 4 → ((p1 = 5 → post ((3 : Int32) + p2)) ∧ (¬ p1 = 5 → post (1 : Int32)))))))))))
set_option maxHeartbeats 4000000 in
set_option maxRecDepth 100000 in
theorem w_X0_adds {p : Program} {l : Launch} {e : Env} {s : State} {mi : MethodId} {args : Array Value} {below : List Frame} {meth : Method} {co : Code} {D : va_G} {cI cQ : ClassId} {A : Nat → Prop} {Q : State → Prop} (p1 : Int32) (p2 : Int32) {post : Int32 → Prop} (C : xC p s mi args co cX0_adds RX0 2 D (tyL cI cQ) A) (hret : ∀ (pc : Nat) (r : Int32) (u : Unit) (lv : List (Nat × Value)), decode cX0_adds pc = .ok (.ireturn, 1) → post r → xG p l e (rmL 0 0 0 0) s mi args below meth co D A 2 Q 0 0 pc [.int r] [] lv) (hw : p_X0_adds p1 p2 post) : xG p l e (rmL 0 0 0 0) s mi args below meth co D A 2 Q 0 0 0 [] [] [(0, .int p1), (1, .int p2)] := by
  unfold p_X0_adds at hw
  try dsimp only at hw
  show xG p l e (rmL 0 0 0 0) s mi args below meth co D A 2 Q 0 0 0 [] [] [(0, .int p1), (1, .int p2)]
  refine g_iload_n C dX0_adds_0 0 rfl rfl ?_
  rcases Classical.em (p1 = 1) with hs1_0 | hs1_0
  · replace hw := hw.1 hs1_0
    refine g_tswIn (pc' := 36) C dX0_adds_1 1 hs1_0 (by decide) (by decide) rfl (by decide) ?_
    refine g_iload_n C dX0_adds_36 1 rfl rfl ?_
    exact hret 37 p2 () _ dX0_adds_37 hw
  · replace hw := hw.2 hs1_0
    rcases Classical.em (p1 = 2) with hs1_1 | hs1_1
    · replace hw := hw.1 hs1_1
      refine g_tswIn (pc' := 38) C dX0_adds_1 2 hs1_1 (by decide) (by decide) rfl (by decide) ?_
      refine g_iconst (v := 3) C dX0_adds_38 rfl rfl ?_
      exact hret 39 (3 : Int32) () _ dX0_adds_39 hw
    · replace hw := hw.2 hs1_1
      rcases Classical.em (p1 = 3) with hs1_2 | hs1_2
      · replace hw := hw.1 hs1_2
        refine g_tswIn (pc' := 40) C dX0_adds_1 3 hs1_2 (by decide) (by decide) rfl (by decide) ?_
        refine g_iconst (v := 0) C dX0_adds_40 rfl rfl ?_
        exact hret 41 (0 : Int32) () _ dX0_adds_41 hw
      · replace hw := hw.2 hs1_2
        rcases Classical.em (p1 = 4) with hs1_3 | hs1_3
        · replace hw := hw.1 hs1_3
          refine g_tswIn (pc' := 42) C dX0_adds_1 4 hs1_3 (by decide) (by decide) rfl (by decide) ?_
          refine g_iload_n C dX0_adds_42 1 rfl rfl ?_
          refine g_iconst (v := 2) C dX0_adds_43 rfl rfl ?_
          refine g_idiv C dX0_adds_44 (by decide) rfl ?_
          exact hret 45 (p2 / (2 : Int32)) () _ dX0_adds_45 hw
        · replace hw := hw.2 hs1_3
          rcases Classical.em (p1 = 5) with hs1_4 | hs1_4
          · replace hw := hw.1 hs1_4
            refine g_tswIn (pc' := 46) C dX0_adds_1 5 hs1_4 (by decide) (by decide) rfl (by decide) ?_
            refine g_iconst (v := 3) C dX0_adds_46 rfl rfl ?_
            refine g_iload_n C dX0_adds_47 1 rfl rfl ?_
            refine g_iadd C dX0_adds_48 rfl ?_
            exact hret 49 ((3 : Int32) + p2) () _ dX0_adds_49 hw
          · replace hw := hw.2 hs1_4
            have ht1 : (p1).toInt < 1 ∨ 5 < (p1).toInt := by
              have q0 := lv_neT (a := 1) hs1_0 (by decide)
              have q1 := lv_neT (a := 2) hs1_1 (by decide)
              have q2 := lv_neT (a := 3) hs1_2 (by decide)
              have q3 := lv_neT (a := 4) hs1_3 (by decide)
              have q4 := lv_neT (a := 5) hs1_4 (by decide)
              omega
            refine g_tswOut (pc' := 50) C dX0_adds_1 ht1 (by decide) ?_
            refine g_iconst (v := 1) C dX0_adds_50 rfl rfl ?_
            exact hret 51 (1 : Int32) () _ dX0_adds_51 hw
set_option maxRecDepth 100000 in
theorem c_X0_adds (l : Launch) (D : va_G) (cI cQ : ClassId) (p1 : Int32) (p2 : Int32) (post : Int32 → Prop) (sz : Nat) : Met l yX0_adds (wsY yX0_adds cX0_adds 2 (some .int)) (rmL 0 0 0 0) (xP D (tyL cI cQ) [.int p1, .int p2] [] sz (p_X0_adds p1 p2 post)) (xQi D (tyL cI cQ) (fun (r : Int32) (_ : Unit) => post r) (fun (u : Unit) => []) (va_A [].flatten sz)) 0 0 (va_A [].flatten sz) :=
  Met_i pn_X0 (Nat.le_of_ble_eq_true rfl) (fun p e s mi below meth co A Q _ C hret hw => w_X0_adds p1 p2 C hret hw)
theorem kS_X0_adds : Cond.static yX0_adds ∈ gTbl ∧ Cond.initialized yX0_adds.cls ∈ gTbl ∧ Cond.code yX0_adds cX0_adds 2 (some .int) ∈ gTbl ∧ (yX0_adds.cls ≠ "java/lang/invoke/MethodHandle" ∧ yX0_adds.cls ≠ "java/lang/invoke/VarHandle" ∧ (parseMethodDescriptor yX0_adds.desc).map (fun d => d.parameters.length) = some 2) := ⟨sm_X0_adds, in_X0, cd_X0_adds, (by decide +kernel)⟩
set_option maxRecDepth 100000 in
def p_X1_size (t : LT) (post : Int32 → Prop) : Prop := (fun (t_ar : F1) (t_sz : Int32) => post t_sz) t.1 t.2
set_option maxHeartbeats 4000000 in
set_option maxRecDepth 100000 in
theorem w_X1_size {p : Program} {l : Launch} {e : Env} {s : State} {mi : MethodId} {args : Array Value} {below : List Frame} {meth : Method} {co : Code} {D : va_G} {cI cQ : ClassId} {A : Nat → Prop} {Q : State → Prop} (a : Nat → Nat) (t : LT) {post : Int32 → Prop} (C : xC p s mi args co cX1_size RX1 1 D (tyL cI cQ) A) (hret : ∀ (pc : Nat) (r : Int32) (u : Unit) (lv : List (Nat × Value)), decode cX1_size pc = .ok (.ireturn, 1) → post r → xG p l e (rmL 0 0 0 0) s mi args below meth co D A 1 Q 0 0 pc [.int r] [gLet cI a t] lv) (hw : p_X1_size t post) : xG p l e (rmL 0 0 0 0) s mi args below meth co D A 1 Q 0 0 0 [] [gLet cI a t] [(0, .ref (a 0))] := by
  unfold p_X1_size at hw
  obtain ⟨t_ar, t_sz⟩ := t
  try dsimp only at hw
  show xG p l e (rmL 0 0 0 0) s mi args below meth co D A 1 Q 0 0 0 [] [gLet cI a (t_ar, t_sz)] [(0, .ref (a 0))]
  refine g_aload_n C dX1_size_0 0 rfl rfl ?_
  refine g_get (v := .int t_sz) (ci := 0) C dX1_size_1 inw_X1 rfl 0 0 1 rfl rfl (Nat.le_of_ble_eq_true rfl) rfl fl_X1_15 rfl rfl ?_
  exact hret 4 t_sz () _ dX1_size_4 hw
set_option maxRecDepth 100000 in
theorem c_X1_size (l : Launch) (D : va_G) (cI cQ : ClassId) (a : Nat → Nat) (t : LT) (post : Int32 → Prop) (sz : Nat) : Met l yX1_size (wsY yX1_size cX1_size 1 (some .int)) (rmL 0 0 0 0) (xP D (tyL cI cQ) [.ref (a 0)] [gLet cI a t] sz (p_X1_size t post)) (xQi D (tyL cI cQ) (fun (r : Int32) (_ : Unit) => post r) (fun (u : Unit) => [gLet cI a t]) (va_A [gLet cI a t].flatten sz)) 0 0 (va_A [gLet cI a t].flatten sz) :=
  Met_i pn_X1 (Nat.le_of_ble_eq_true rfl) (fun p e s mi below meth co A Q _ C hret hw => w_X1_size a t C hret hw)
theorem kV_X1_size : Cond.instanceMethod yX1_size ∈ gTbl ∧ Cond.selects yX1_size.cls yX1_size yX1_size ∈ gTbl ∧ Cond.initialized yX1_size.cls ∈ gTbl ∧ Cond.code yX1_size cX1_size 1 (some .int) ∈ gTbl ∧ (yX1_size.cls ≠ "java/lang/invoke/MethodHandle" ∧ yX1_size.cls ≠ "java/lang/invoke/VarHandle" ∧ (parseMethodDescriptor yX1_size.desc).map (fun d => d.parameters.length) = some 0) := ⟨im_X1_size, sl_X1_size, in_X1, cd_X1_size, (by decide +kernel)⟩
set_option maxRecDepth 100000 in
def p_X1_drop (t : LT) (post : LT → Prop) : Prop := (fun (t_ar : F1) (t_sz : Int32) => post (t_ar, (0 : Int32))) t.1 t.2
set_option maxHeartbeats 4000000 in
set_option maxRecDepth 100000 in
theorem w_X1_drop {p : Program} {l : Launch} {e : Env} {s : State} {mi : MethodId} {args : Array Value} {below : List Frame} {meth : Method} {co : Code} {D : va_G} {cI cQ : ClassId} {A : Nat → Prop} {Q : State → Prop} (a : Nat → Nat) (t : LT) {post : LT → Prop} (C : xC p s mi args co cX1_drop RX1 1 D (tyL cI cQ) A) (hret : ∀ (pc : Nat) (u : LT) (lv : List (Nat × Value)), decode cX1_drop pc = .ok (.return_, 1) → post u → xG p l e (rmL 0 0 0 0) s mi args below meth co D A 1 Q 0 0 pc [] [gLet cI a u] lv) (hw : p_X1_drop t post) : xG p l e (rmL 0 0 0 0) s mi args below meth co D A 1 Q 0 0 0 [] [gLet cI a t] [(0, .ref (a 0))] := by
  unfold p_X1_drop at hw
  obtain ⟨t_ar, t_sz⟩ := t
  try dsimp only at hw
  show xG p l e (rmL 0 0 0 0) s mi args below meth co D A 1 Q 0 0 0 [] [gLet cI a (t_ar, t_sz)] [(0, .ref (a 0))]
  refine g_aload_n C dX1_drop_0 0 rfl rfl ?_
  refine g_iconst (v := 0) C dX1_drop_1 rfl rfl ?_
  refine g_put (v' := .int (0 : Int32)) (ty := .int) (ci := 0) (gs' := [gLet cI a (t_ar, (0 : Int32))]) C dX1_drop_2 inw_X1 tyX1 tyX1_ok nmX1 rfl 0 0 1 rfl rfl (Nat.le_of_ble_eq_true rfl) rfl fl_X1_15 rfl fd_I rfl rfl rfl (Nat.le_of_ble_eq_true rfl) rfl rfl ?_
  exact hret 5 (t_ar, (0 : Int32)) _ dX1_drop_5 hw
set_option maxRecDepth 100000 in
theorem c_X1_drop (l : Launch) (D : va_G) (cI cQ : ClassId) (a : Nat → Nat) (t : LT) (post : LT → Prop) (sz : Nat) : Met l yX1_drop (wsY yX1_drop cX1_drop 1 none) (rmL 0 0 0 0) (xP D (tyL cI cQ) [.ref (a 0)] [gLet cI a t] sz (p_X1_drop t post)) (xQv D (tyL cI cQ) post (fun (u : LT) => [gLet cI a u]) (va_A [gLet cI a t].flatten sz)) 0 0 (va_A [gLet cI a t].flatten sz) :=
  Met_v pn_X1 (Nat.le_of_ble_eq_true rfl) (fun p e s mi below meth co A Q _ C hret hw => w_X1_drop a t C hret hw)
theorem kV_X1_drop : Cond.instanceMethod yX1_drop ∈ gTbl ∧ Cond.selects yX1_drop.cls yX1_drop yX1_drop ∈ gTbl ∧ Cond.initialized yX1_drop.cls ∈ gTbl ∧ Cond.code yX1_drop cX1_drop 1 none ∈ gTbl ∧ (yX1_drop.cls ≠ "java/lang/invoke/MethodHandle" ∧ yX1_drop.cls ≠ "java/lang/invoke/VarHandle" ∧ (parseMethodDescriptor yX1_drop.desc).map (fun d => d.parameters.length) = some 0) := ⟨im_X1_drop, sl_X1_drop, in_X1, cd_X1_drop, (by decide +kernel)⟩
set_option maxRecDepth 100000 in
def p_X1_add (t : LT) (p1 : Int32) (post : Int32 → LT → Prop) : Prop := (fun (t_ar : F1) (t_sz : Int32) => ((t_sz < (96 : Int32) → (vp_in t_sz 96 ∧ nm (upd t_ar (t_sz).toNatClampNeg p1) (fun (t_ar1 : F1) => nm ((t_sz + (1 : Int32)) : Int32) (fun (v2 : Int32) => post (1 : Int32) (t_ar1, v2))))) ∧ (¬ t_sz < (96 : Int32) → post (0 : Int32) (t_ar, t_sz)))) t.1 t.2
set_option maxHeartbeats 4000000 in
set_option maxRecDepth 100000 in
theorem w_X1_add {p : Program} {l : Launch} {e : Env} {s : State} {mi : MethodId} {args : Array Value} {below : List Frame} {meth : Method} {co : Code} {D : va_G} {cI cQ : ClassId} {A : Nat → Prop} {Q : State → Prop} (a : Nat → Nat) (t : LT) (p1 : Int32) {post : Int32 → LT → Prop} (C : xC p s mi args co cX1_add RX1 2 D (tyL cI cQ) A) (hret : ∀ (pc : Nat) (r : Int32) (u : LT) (lv : List (Nat × Value)), decode cX1_add pc = .ok (.ireturn, 1) → bz r → post r u → xG p l e (rmL 0 0 0 0) s mi args below meth co D A 2 Q 0 0 pc [.int r] [gLet cI a u] lv) (hw : p_X1_add t p1 post) : xG p l e (rmL 0 0 0 0) s mi args below meth co D A 2 Q 0 0 0 [] [gLet cI a t] [(0, .ref (a 0)), (1, .int p1)] := by
  unfold p_X1_add at hw
  obtain ⟨t_ar, t_sz⟩ := t
  try dsimp only at hw
  show xG p l e (rmL 0 0 0 0) s mi args below meth co D A 2 Q 0 0 0 [] [gLet cI a (t_ar, t_sz)] [(0, .ref (a 0)), (1, .int p1)]
  refine g_aload_n C dX1_add_0 0 rfl rfl ?_
  refine g_get (v := .int t_sz) (ci := 0) C dX1_add_1 inw_X1 rfl 0 0 1 rfl rfl (Nat.le_of_ble_eq_true rfl) rfl fl_X1_15 rfl rfl ?_
  refine g_bipush (v := 96) C dX1_add_4 (by decide) rfl ?_
  refine g_icmp_lt (tgt := 11) C dX1_add_6 (by decide) rfl hw (fun _ hw => ?_) (fun _ hw => ?_)
  · refine g_aload_n C dX1_add_11 0 rfl rfl ?_
    refine g_get (v := .ref (a 1)) (ci := 0) C dX1_add_12 inw_X1 rfl 0 0 0 rfl rfl (Nat.le_of_ble_eq_true rfl) rfl fl_X1_9 rfl rfl ?_
    refine g_aload_n C dX1_add_15 0 rfl rfl ?_
    refine g_get (v := .int t_sz) (ci := 0) C dX1_add_16 inw_X1 rfl 0 0 1 rfl rfl (Nat.le_of_ble_eq_true rfl) rfl fl_X1_15 rfl rfl ?_
    refine g_iload_n C dX1_add_19 1 rfl rfl ?_
    have hi20 := hw.1
    refine nm_el hw.2 (fun t_ar1 et_ar1 hw => ?_)
    refine g_iast (f := t_ar) (f' := t_ar1) (gs' := [gLet cI a (t_ar1, t_sz)]) C dX1_add_20 0 1 rfl rfl 0 rfl hi20 et_ar1.symm rfl rfl ?_
    refine g_aload_n C dX1_add_21 0 rfl rfl ?_
    refine g_dup C dX1_add_22 rfl rfl ?_
    refine g_get (v := .int t_sz) (ci := 0) C dX1_add_23 inw_X1 rfl 0 0 1 rfl rfl (Nat.le_of_ble_eq_true rfl) rfl fl_X1_15 rfl rfl ?_
    refine g_iconst (v := 1) C dX1_add_26 rfl rfl ?_
    refine g_iadd C dX1_add_27 rfl ?_
    refine nm_el hw (fun v2 ev2 hw => ?_)
    refine g_put (v' := .int v2) (ty := .int) (ci := 0) (gs' := [gLet cI a (t_ar1, v2)]) C dX1_add_28 inw_X1 tyX1 tyX1_ok nmX1 rfl 0 0 1 rfl rfl (Nat.le_of_ble_eq_true rfl) rfl fl_X1_15 rfl fd_I (congrArg Value.int ev2.symm) rfl rfl (Nat.le_of_ble_eq_true rfl) rfl rfl ?_
    refine g_iconst (v := 1) C dX1_add_31 rfl rfl ?_
    exact hret 32 (1 : Int32) (t_ar1, v2) _ dX1_add_32 ⟨rfl, rfl⟩ hw
  · refine g_iconst (v := 0) C dX1_add_9 rfl rfl ?_
    exact hret 10 (0 : Int32) (t_ar, t_sz) _ dX1_add_10 ⟨rfl, rfl⟩ hw
set_option maxRecDepth 100000 in
theorem c_X1_add (l : Launch) (D : va_G) (cI cQ : ClassId) (a : Nat → Nat) (t : LT) (p1 : Int32) (post : Int32 → LT → Prop) (sz : Nat) : Met l yX1_add (wsY yX1_add cX1_add 2 (some .boolean)) (rmL 0 0 0 0) (xP D (tyL cI cQ) [.ref (a 0), .int p1] [gLet cI a t] sz (p_X1_add t p1 post)) (xQi D (tyL cI cQ) post (fun (u : LT) => [gLet cI a u]) (va_A [gLet cI a t].flatten sz)) 0 0 (va_A [gLet cI a t].flatten sz) :=
  Met_z pn_X1 (Nat.le_of_ble_eq_true rfl) (fun p e s mi below meth co A Q _ C hret hw => w_X1_add a t p1 C hret hw)
theorem kV_X1_add : Cond.instanceMethod yX1_add ∈ gTbl ∧ Cond.selects yX1_add.cls yX1_add yX1_add ∈ gTbl ∧ Cond.initialized yX1_add.cls ∈ gTbl ∧ Cond.code yX1_add cX1_add 2 (some .boolean) ∈ gTbl ∧ (yX1_add.cls ≠ "java/lang/invoke/MethodHandle" ∧ yX1_add.cls ≠ "java/lang/invoke/VarHandle" ∧ (parseMethodDescriptor yX1_add.desc).map (fun d => d.parameters.length) = some 1) := ⟨im_X1_add, sl_X1_add, in_X1, cd_X1_add, (by decide +kernel)⟩
set_option maxRecDepth 100000 in
def p_X1_at (t : LT) (p1 : Int32) (post : Int32 → Prop) : Prop := (fun (t_ar : F1) (t_sz : Int32) => ((p1 < 0 → post (-1 : Int32)) ∧ (¬ p1 < 0 → ((t_sz ≤ p1 → post (-1 : Int32)) ∧ (¬ t_sz ≤ p1 → (vp_in p1 96 ∧ post (t_ar (p1).toNatClampNeg))))))) t.1 t.2
set_option maxHeartbeats 4000000 in
set_option maxRecDepth 100000 in
theorem w_X1_at {p : Program} {l : Launch} {e : Env} {s : State} {mi : MethodId} {args : Array Value} {below : List Frame} {meth : Method} {co : Code} {D : va_G} {cI cQ : ClassId} {A : Nat → Prop} {Q : State → Prop} (a : Nat → Nat) (t : LT) (p1 : Int32) {post : Int32 → Prop} (C : xC p s mi args co cX1_at RX1 2 D (tyL cI cQ) A) (hret : ∀ (pc : Nat) (r : Int32) (u : Unit) (lv : List (Nat × Value)), decode cX1_at pc = .ok (.ireturn, 1) → post r → xG p l e (rmL 0 0 0 0) s mi args below meth co D A 2 Q 0 0 pc [.int r] [gLet cI a t] lv) (hw : p_X1_at t p1 post) : xG p l e (rmL 0 0 0 0) s mi args below meth co D A 2 Q 0 0 0 [] [gLet cI a t] [(0, .ref (a 0)), (1, .int p1)] := by
  unfold p_X1_at at hw
  obtain ⟨t_ar, t_sz⟩ := t
  try dsimp only at hw
  show xG p l e (rmL 0 0 0 0) s mi args below meth co D A 2 Q 0 0 0 [] [gLet cI a (t_ar, t_sz)] [(0, .ref (a 0)), (1, .int p1)]
  refine g_iload_n C dX1_at_0 1 rfl rfl ?_
  refine g_if_lt (tgt := 21) C dX1_at_1 (by decide) rfl hw (fun _ hw => ?_) (fun _ hw => ?_)
  · refine g_iconst (v := -1) C dX1_at_21 (by decide) rfl ?_
    exact hret 22 (-1 : Int32) () _ dX1_at_22 hw
  · refine g_iload_n C dX1_at_4 1 rfl rfl ?_
    refine g_aload_n C dX1_at_5 0 rfl rfl ?_
    refine g_get (v := .int t_sz) (ci := 0) C dX1_at_6 inw_X1 rfl 0 0 1 rfl rfl (Nat.le_of_ble_eq_true rfl) rfl fl_X1_15 rfl rfl ?_
    refine g_icmp_ge (tgt := 21) C dX1_at_9 (by decide) rfl hw (fun _ hw => ?_) (fun _ hw => ?_)
    · refine g_iconst (v := -1) C dX1_at_21 (by decide) rfl ?_
      exact hret 22 (-1 : Int32) () _ dX1_at_22 hw
    · refine g_aload_n C dX1_at_12 0 rfl rfl ?_
      refine g_get (v := .ref (a 1)) (ci := 0) C dX1_at_13 inw_X1 rfl 0 0 0 rfl rfl (Nat.le_of_ble_eq_true rfl) rfl fl_X1_9 rfl rfl ?_
      refine g_iload_n C dX1_at_16 1 rfl rfl ?_
      have hi17 := hw.1
      replace hw := hw.2
      refine g_iald (f := t_ar) C dX1_at_17 0 1 rfl rfl 0 rfl hi17 rfl ?_
      refine g_goto (pc' := 22) C dX1_at_18 (by decide) rfl ?_
      exact hret 22 (t_ar (p1).toNatClampNeg) () _ dX1_at_22 hw
set_option maxRecDepth 100000 in
theorem c_X1_at (l : Launch) (D : va_G) (cI cQ : ClassId) (a : Nat → Nat) (t : LT) (p1 : Int32) (post : Int32 → Prop) (sz : Nat) : Met l yX1_at (wsY yX1_at cX1_at 2 (some .int)) (rmL 0 0 0 0) (xP D (tyL cI cQ) [.ref (a 0), .int p1] [gLet cI a t] sz (p_X1_at t p1 post)) (xQi D (tyL cI cQ) (fun (r : Int32) (_ : Unit) => post r) (fun (u : Unit) => [gLet cI a t]) (va_A [gLet cI a t].flatten sz)) 0 0 (va_A [gLet cI a t].flatten sz) :=
  Met_i pn_X1 (Nat.le_of_ble_eq_true rfl) (fun p e s mi below meth co A Q _ C hret hw => w_X1_at a t p1 C hret hw)
theorem kV_X1_at : Cond.instanceMethod yX1_at ∈ gTbl ∧ Cond.selects yX1_at.cls yX1_at yX1_at ∈ gTbl ∧ Cond.initialized yX1_at.cls ∈ gTbl ∧ Cond.code yX1_at cX1_at 2 (some .int) ∈ gTbl ∧ (yX1_at.cls ≠ "java/lang/invoke/MethodHandle" ∧ yX1_at.cls ≠ "java/lang/invoke/VarHandle" ∧ (parseMethodDescriptor yX1_at.desc).map (fun d => d.parameters.length) = some 1) := ⟨im_X1_at, sl_X1_at, in_X1, cd_X1_at, (by decide +kernel)⟩
set_option maxRecDepth 100000 in
def p_X1_isDigit (p1 : Int32) (post : Int32 → Prop) : Prop := ((p1 < (48 : Int32) → post (0 : Int32)) ∧ (¬ p1 < (48 : Int32) → (((57 : Int32) < p1 → post (0 : Int32)) ∧ (¬ (57 : Int32) < p1 → post (1 : Int32)))))
set_option maxHeartbeats 4000000 in
set_option maxRecDepth 100000 in
theorem w_X1_isDigit {p : Program} {l : Launch} {e : Env} {s : State} {mi : MethodId} {args : Array Value} {below : List Frame} {meth : Method} {co : Code} {D : va_G} {cI cQ : ClassId} {A : Nat → Prop} {Q : State → Prop} (p1 : Int32) {post : Int32 → Prop} (C : xC p s mi args co cX1_isDigit RX1 1 D (tyL cI cQ) A) (hret : ∀ (pc : Nat) (r : Int32) (u : Unit) (lv : List (Nat × Value)), decode cX1_isDigit pc = .ok (.ireturn, 1) → bz r → post r → xG p l e (rmL 0 0 0 0) s mi args below meth co D A 1 Q 0 0 pc [.int r] [] lv) (hw : p_X1_isDigit p1 post) : xG p l e (rmL 0 0 0 0) s mi args below meth co D A 1 Q 0 0 0 [] [] [(0, .int p1)] := by
  unfold p_X1_isDigit at hw
  try dsimp only at hw
  show xG p l e (rmL 0 0 0 0) s mi args below meth co D A 1 Q 0 0 0 [] [] [(0, .int p1)]
  refine g_iload_n C dX1_isDigit_0 0 rfl rfl ?_
  refine g_bipush (v := 48) C dX1_isDigit_1 (by decide) rfl ?_
  refine g_icmp_lt (tgt := 16) C dX1_isDigit_3 (by decide) rfl hw (fun _ hw => ?_) (fun _ hw => ?_)
  · refine g_iconst (v := 0) C dX1_isDigit_16 rfl rfl ?_
    exact hret 17 (0 : Int32) () _ dX1_isDigit_17 ⟨rfl, rfl⟩ hw
  · refine g_iload_n C dX1_isDigit_6 0 rfl rfl ?_
    refine g_bipush (v := 57) C dX1_isDigit_7 (by decide) rfl ?_
    refine g_icmp_gt (tgt := 16) C dX1_isDigit_9 (by decide) rfl hw (fun _ hw => ?_) (fun _ hw => ?_)
    · refine g_iconst (v := 0) C dX1_isDigit_16 rfl rfl ?_
      exact hret 17 (0 : Int32) () _ dX1_isDigit_17 ⟨rfl, rfl⟩ hw
    · refine g_iconst (v := 1) C dX1_isDigit_12 rfl rfl ?_
      refine g_goto (pc' := 17) C dX1_isDigit_13 (by decide) rfl ?_
      exact hret 17 (1 : Int32) () _ dX1_isDigit_17 ⟨rfl, rfl⟩ hw
set_option maxRecDepth 100000 in
theorem c_X1_isDigit (l : Launch) (D : va_G) (cI cQ : ClassId) (p1 : Int32) (post : Int32 → Prop) (sz : Nat) : Met l yX1_isDigit (wsY yX1_isDigit cX1_isDigit 1 (some .boolean)) (rmL 0 0 0 0) (xP D (tyL cI cQ) [.int p1] [] sz (p_X1_isDigit p1 post)) (xQi D (tyL cI cQ) (fun (r : Int32) (_ : Unit) => post r) (fun (u : Unit) => []) (va_A [].flatten sz)) 0 0 (va_A [].flatten sz) :=
  Met_z pn_X1 (Nat.le_of_ble_eq_true rfl) (fun p e s mi below meth co A Q _ C hret hw => w_X1_isDigit p1 C hret hw)
theorem kS_X1_isDigit : Cond.static yX1_isDigit ∈ gTbl ∧ Cond.initialized yX1_isDigit.cls ∈ gTbl ∧ Cond.code yX1_isDigit cX1_isDigit 1 (some .boolean) ∈ gTbl ∧ (yX1_isDigit.cls ≠ "java/lang/invoke/MethodHandle" ∧ yX1_isDigit.cls ≠ "java/lang/invoke/VarHandle" ∧ (parseMethodDescriptor yX1_isDigit.desc).map (fun d => d.parameters.length) = some 1) := ⟨sm_X1_isDigit, in_X1, cd_X1_isDigit, (by decide +kernel)⟩
set_option maxRecDepth 100000 in
def p_X1_digitAt (t : LT) (p1 : Int32) (post : Int32 → Prop) : Prop := (fun (t_ar : F1) (t_sz : Int32) => p_X1_at (t_ar, t_sz) p1 (fun (r1 : Int32) => p_X1_isDigit r1 (fun (r2 : Int32) => ((r2 = 0 → post (-1 : Int32)) ∧ (¬ r2 = 0 → post (r1 - (48 : Int32))))))) t.1 t.2
set_option maxHeartbeats 4000000 in
set_option maxRecDepth 100000 in
theorem w_X1_digitAt {p : Program} {l : Launch} {e : Env} {s : State} {mi : MethodId} {args : Array Value} {below : List Frame} {meth : Method} {co : Code} {D : va_G} {cI cQ : ClassId} {A : Nat → Prop} {Q : State → Prop} (a : Nat → Nat) (t : LT) (p1 : Int32) {post : Int32 → Prop} (C : xC p s mi args co cX1_digitAt RX1 3 D (tyL cI cQ) A) (hret : ∀ (pc : Nat) (r : Int32) (u : Unit) (lv : List (Nat × Value)), decode cX1_digitAt pc = .ok (.ireturn, 1) → post r → xG p l e (rmL 1 0 0 21) s mi args below meth co D A 3 Q 0 0 pc [.int r] [gLet cI a t] lv) (hw : p_X1_digitAt t p1 post) : xG p l e (rmL 1 0 0 21) s mi args below meth co D A 3 Q 0 0 0 [] [gLet cI a t] [(0, .ref (a 0)), (1, .int p1)] := by
  unfold p_X1_digitAt at hw
  obtain ⟨t_ar, t_sz⟩ := t
  try dsimp only at hw
  show xG p l e (rmL 1 0 0 21) s mi args below meth co D A 3 Q 0 0 0 [] [gLet cI a (t_ar, t_sz)] [(0, .ref (a 0)), (1, .int p1)]
  refine g_aload_n C dX1_digitAt_0 0 rfl rfl ?_
  refine g_iload_n C dX1_digitAt_1 1 rfl rfl ?_
  refine g_callVi (As := [.int p1]) (gr := []) C (c_X1_at l D cI cQ a (t_ar, t_sz) p1 _) dX1_digitAt_2 ⟨ml_X1_19, kV_X1_at⟩ ⟨Nat.le_of_ble_eq_true rfl, Nat.le_of_ble_eq_true rfl⟩ ⟨Nat.le_refl _, Nat.le_refl _⟩ rfl rfl 0 0 rfl rfl [0] rfl rfl rfl rfl (Nat.le_of_ble_eq_true rfl) rfl (fun (u : Unit) => [gLet cI a (t_ar, t_sz)]) [0] (fun _ => rfl) (fun _ => rfl) hw (fun r1 u1 hw => ?_)
  refine g_istore_n (v := r1) C dX1_digitAt_5 rfl (Nat.le_of_ble_eq_true rfl) (lv' := [(2, .int r1), (0, .ref (a 0)), (1, .int p1)]) rfl rfl ?_
  refine g_iload_n C dX1_digitAt_6 0 rfl rfl ?_
  refine g_callSi (As := [.int r1]) (gr := [gLet cI a (t_ar, t_sz)]) C (c_X1_isDigit l D cI cQ   r1 _) dX1_digitAt_7 ⟨ml_X1_23, kS_X1_isDigit⟩ ⟨Nat.le_of_ble_eq_true rfl, Nat.le_of_ble_eq_true rfl⟩ ⟨Nat.le_refl _, Nat.le_refl _⟩ [0] rfl rfl rfl rfl (Nat.le_of_ble_eq_true rfl) rfl (fun (u : Unit) => [gLet cI a (t_ar, t_sz)]) [0] (fun _ => rfl) (fun _ => rfl) hw (fun r2 u2 hw => ?_)
  refine g_if_eq (tgt := 20) C dX1_digitAt_10 (by decide) rfl hw (fun _ hw => ?_) (fun _ hw => ?_)
  · refine g_iconst (v := -1) C dX1_digitAt_20 (by decide) rfl ?_
    exact hret 21 (-1 : Int32) () _ dX1_digitAt_21 hw
  · refine g_iload_n C dX1_digitAt_13 0 rfl rfl ?_
    refine g_bipush (v := 48) C dX1_digitAt_14 (by decide) rfl ?_
    refine g_isub C dX1_digitAt_16 rfl ?_
    refine g_goto (pc' := 21) C dX1_digitAt_17 (by decide) rfl ?_
    exact hret 21 (r1 - (48 : Int32)) () _ dX1_digitAt_21 hw
set_option maxRecDepth 100000 in
theorem c_X1_digitAt (l : Launch) (D : va_G) (cI cQ : ClassId) (a : Nat → Nat) (t : LT) (p1 : Int32) (post : Int32 → Prop) (sz : Nat) : Met l yX1_digitAt (wsY yX1_digitAt cX1_digitAt 3 (some .int)) (rmL 1 0 0 21) (xP D (tyL cI cQ) [.ref (a 0), .int p1] [gLet cI a t] sz (p_X1_digitAt t p1 post)) (xQi D (tyL cI cQ) (fun (r : Int32) (_ : Unit) => post r) (fun (u : Unit) => [gLet cI a t]) (va_A [gLet cI a t].flatten sz)) 0 0 (va_A [gLet cI a t].flatten sz) :=
  Met_i pn_X1 (Nat.le_of_ble_eq_true rfl) (fun p e s mi below meth co A Q _ C hret hw => w_X1_digitAt a t p1 C hret hw)
theorem kV_X1_digitAt : Cond.instanceMethod yX1_digitAt ∈ gTbl ∧ Cond.selects yX1_digitAt.cls yX1_digitAt yX1_digitAt ∈ gTbl ∧ Cond.initialized yX1_digitAt.cls ∈ gTbl ∧ Cond.code yX1_digitAt cX1_digitAt 3 (some .int) ∈ gTbl ∧ (yX1_digitAt.cls ≠ "java/lang/invoke/MethodHandle" ∧ yX1_digitAt.cls ≠ "java/lang/invoke/VarHandle" ∧ (parseMethodDescriptor yX1_digitAt.desc).map (fun d => d.parameters.length) = some 1) := ⟨im_X1_digitAt, sl_X1_digitAt, in_X1, cd_X1_digitAt, (by decide +kernel)⟩
set_option maxRecDepth 100000 in
def p_X1_beginsAt (t : LT) (p1 : Int32) (post : Int32 → Prop) : Prop := (fun (t_ar : F1) (t_sz : Int32) => ((p1 = 0 → post (1 : Int32)) ∧ (¬ p1 = 0 → p_X1_at (t_ar, t_sz) (p1 - (1 : Int32)) (fun (r1 : Int32) => ((r1 = (59 : Int32) → post (1 : Int32)) ∧ (¬ r1 = (59 : Int32) → post (0 : Int32))))))) t.1 t.2
set_option maxHeartbeats 4000000 in
set_option maxRecDepth 100000 in
theorem w_X1_beginsAt {p : Program} {l : Launch} {e : Env} {s : State} {mi : MethodId} {args : Array Value} {below : List Frame} {meth : Method} {co : Code} {D : va_G} {cI cQ : ClassId} {A : Nat → Prop} {Q : State → Prop} (a : Nat → Nat) (t : LT) (p1 : Int32) {post : Int32 → Prop} (C : xC p s mi args co cX1_beginsAt RX1 2 D (tyL cI cQ) A) (hret : ∀ (pc : Nat) (r : Int32) (u : Unit) (lv : List (Nat × Value)), decode cX1_beginsAt pc = .ok (.ireturn, 1) → bz r → post r → xG p l e (rmL 1 0 0 21) s mi args below meth co D A 2 Q 0 0 pc [.int r] [gLet cI a t] lv) (hw : p_X1_beginsAt t p1 post) : xG p l e (rmL 1 0 0 21) s mi args below meth co D A 2 Q 0 0 0 [] [gLet cI a t] [(0, .ref (a 0)), (1, .int p1)] := by
  unfold p_X1_beginsAt at hw
  obtain ⟨t_ar, t_sz⟩ := t
  try dsimp only at hw
  show xG p l e (rmL 1 0 0 21) s mi args below meth co D A 2 Q 0 0 0 [] [gLet cI a (t_ar, t_sz)] [(0, .ref (a 0)), (1, .int p1)]
  refine g_iload_n C dX1_beginsAt_0 1 rfl rfl ?_
  refine g_if_eq (tgt := 16) C dX1_beginsAt_1 (by decide) rfl hw (fun _ hw => ?_) (fun _ hw => ?_)
  · refine g_iconst (v := 1) C dX1_beginsAt_16 rfl rfl ?_
    refine g_goto (pc' := 21) C dX1_beginsAt_17 (by decide) rfl ?_
    exact hret 21 (1 : Int32) () _ dX1_beginsAt_21 ⟨rfl, rfl⟩ hw
  · refine g_aload_n C dX1_beginsAt_4 0 rfl rfl ?_
    refine g_iload_n C dX1_beginsAt_5 1 rfl rfl ?_
    refine g_iconst (v := 1) C dX1_beginsAt_6 rfl rfl ?_
    refine g_isub C dX1_beginsAt_7 rfl ?_
    refine g_callVi (As := [.int (p1 - (1 : Int32))]) (gr := []) C (c_X1_at l D cI cQ a (t_ar, t_sz) (p1 - (1 : Int32)) _) dX1_beginsAt_8 ⟨ml_X1_19, kV_X1_at⟩ ⟨Nat.le_of_ble_eq_true rfl, Nat.le_of_ble_eq_true rfl⟩ ⟨Nat.le_refl _, Nat.le_refl _⟩ rfl rfl 0 0 rfl rfl [0] rfl rfl rfl rfl (Nat.le_of_ble_eq_true rfl) rfl (fun (u : Unit) => [gLet cI a (t_ar, t_sz)]) [0] (fun _ => rfl) (fun _ => rfl) hw (fun r1 u1 hw => ?_)
    refine g_bipush (v := 59) C dX1_beginsAt_11 (by decide) rfl ?_
    refine g_icmp_ne (tgt := 20) C dX1_beginsAt_13 (by decide) rfl hw (fun _ hw => ?_) (fun _ hw => ?_)
    · refine g_iconst (v := 0) C dX1_beginsAt_20 rfl rfl ?_
      exact hret 21 (0 : Int32) () _ dX1_beginsAt_21 ⟨rfl, rfl⟩ hw
    · refine g_iconst (v := 1) C dX1_beginsAt_16 rfl rfl ?_
      refine g_goto (pc' := 21) C dX1_beginsAt_17 (by decide) rfl ?_
      exact hret 21 (1 : Int32) () _ dX1_beginsAt_21 ⟨rfl, rfl⟩ hw
set_option maxRecDepth 100000 in
theorem c_X1_beginsAt (l : Launch) (D : va_G) (cI cQ : ClassId) (a : Nat → Nat) (t : LT) (p1 : Int32) (post : Int32 → Prop) (sz : Nat) : Met l yX1_beginsAt (wsY yX1_beginsAt cX1_beginsAt 2 (some .boolean)) (rmL 1 0 0 21) (xP D (tyL cI cQ) [.ref (a 0), .int p1] [gLet cI a t] sz (p_X1_beginsAt t p1 post)) (xQi D (tyL cI cQ) (fun (r : Int32) (_ : Unit) => post r) (fun (u : Unit) => [gLet cI a t]) (va_A [gLet cI a t].flatten sz)) 0 0 (va_A [gLet cI a t].flatten sz) :=
  Met_z pn_X1 (Nat.le_of_ble_eq_true rfl) (fun p e s mi below meth co A Q _ C hret hw => w_X1_beginsAt a t p1 C hret hw)
theorem kV_X1_beginsAt : Cond.instanceMethod yX1_beginsAt ∈ gTbl ∧ Cond.selects yX1_beginsAt.cls yX1_beginsAt yX1_beginsAt ∈ gTbl ∧ Cond.initialized yX1_beginsAt.cls ∈ gTbl ∧ Cond.code yX1_beginsAt cX1_beginsAt 2 (some .boolean) ∈ gTbl ∧ (yX1_beginsAt.cls ≠ "java/lang/invoke/MethodHandle" ∧ yX1_beginsAt.cls ≠ "java/lang/invoke/VarHandle" ∧ (parseMethodDescriptor yX1_beginsAt.desc).map (fun d => d.parameters.length) = some 1) := ⟨im_X1_beginsAt, sl_X1_beginsAt, in_X1, cd_X1_beginsAt, (by decide +kernel)⟩
set_option maxRecDepth 100000 in
def p_X1_digitsBehind (p1 : Int32) (post : Int32 → Prop) : Prop := ((p1 = 98 → post (1 : Int32)) ∧ (¬ p1 = 98 → ((p1 = 99 → post (0 : Int32)) ∧ (¬ p1 = 99 → ((p1 = 100 → post (2 : Int32)) ∧ (¬ p1 = 100 → ((p1 = 110 → post (2 : Int32)) ∧ (¬ p1 = 110 → ((p1 = 118 → post (3 : Int32)) ∧ (¬ p1 = 118 → ((p1 = 120 → post (2 : Int32)) ∧ (¬ p1 = 120 → post (-1 : Int32)))))))))))))
set_option maxHeartbeats 4000000 in
set_option maxRecDepth 100000 in
theorem w_X1_digitsBehind {p : Program} {l : Launch} {e : Env} {s : State} {mi : MethodId} {args : Array Value} {below : List Frame} {meth : Method} {co : Code} {D : va_G} {cI cQ : ClassId} {A : Nat → Prop} {Q : State → Prop} (p1 : Int32) {post : Int32 → Prop} (C : xC p s mi args co cX1_digitsBehind RX1 1 D (tyL cI cQ) A) (hret : ∀ (pc : Nat) (r : Int32) (u : Unit) (lv : List (Nat × Value)), decode cX1_digitsBehind pc = .ok (.ireturn, 1) → post r → xG p l e (rmL 0 0 0 0) s mi args below meth co D A 1 Q 0 0 pc [.int r] [] lv) (hw : p_X1_digitsBehind p1 post) : xG p l e (rmL 0 0 0 0) s mi args below meth co D A 1 Q 0 0 0 [] [] [(0, .int p1)] := by
  unfold p_X1_digitsBehind at hw
  try dsimp only at hw
  show xG p l e (rmL 0 0 0 0) s mi args below meth co D A 1 Q 0 0 0 [] [] [(0, .int p1)]
  refine g_iload_n C dX1_digitsBehind_0 0 rfl rfl ?_
  rcases Classical.em (p1 = 98) with hs1_0 | hs1_0
  · replace hw := hw.1 hs1_0
    refine g_lsw (pc' := 62) C dX1_digitsBehind_1 (by decide) (by first | (rw [hs1_0]; done) | (rw [hs1_0]; rfl)) (by decide) ?_
    refine g_iconst (v := 1) C dX1_digitsBehind_62 rfl rfl ?_
    exact hret 63 (1 : Int32) () _ dX1_digitsBehind_63 hw
  · replace hw := hw.2 hs1_0
    rcases Classical.em (p1 = 99) with hs1_1 | hs1_1
    · replace hw := hw.1 hs1_1
      refine g_lsw (pc' := 60) C dX1_digitsBehind_1 (by decide) (by first | (rw [hs1_1]; done) | (rw [hs1_1]; rfl)) (by decide) ?_
      refine g_iconst (v := 0) C dX1_digitsBehind_60 rfl rfl ?_
      exact hret 61 (0 : Int32) () _ dX1_digitsBehind_61 hw
    · replace hw := hw.2 hs1_1
      rcases Classical.em (p1 = 100) with hs1_2 | hs1_2
      · replace hw := hw.1 hs1_2
        refine g_lsw (pc' := 64) C dX1_digitsBehind_1 (by decide) (by first | (rw [hs1_2]; done) | (rw [hs1_2]; rfl)) (by decide) ?_
        refine g_iconst (v := 2) C dX1_digitsBehind_64 rfl rfl ?_
        exact hret 65 (2 : Int32) () _ dX1_digitsBehind_65 hw
      · replace hw := hw.2 hs1_2
        rcases Classical.em (p1 = 110) with hs1_3 | hs1_3
        · replace hw := hw.1 hs1_3
          refine g_lsw (pc' := 64) C dX1_digitsBehind_1 (by decide) (by first | (rw [hs1_3]; done) | (rw [hs1_3]; rfl)) (by decide) ?_
          refine g_iconst (v := 2) C dX1_digitsBehind_64 rfl rfl ?_
          exact hret 65 (2 : Int32) () _ dX1_digitsBehind_65 hw
        · replace hw := hw.2 hs1_3
          rcases Classical.em (p1 = 118) with hs1_4 | hs1_4
          · replace hw := hw.1 hs1_4
            refine g_lsw (pc' := 66) C dX1_digitsBehind_1 (by decide) (by first | (rw [hs1_4]; done) | (rw [hs1_4]; rfl)) (by decide) ?_
            refine g_iconst (v := 3) C dX1_digitsBehind_66 rfl rfl ?_
            exact hret 67 (3 : Int32) () _ dX1_digitsBehind_67 hw
          · replace hw := hw.2 hs1_4
            rcases Classical.em (p1 = 120) with hs1_5 | hs1_5
            · replace hw := hw.1 hs1_5
              refine g_lsw (pc' := 64) C dX1_digitsBehind_1 (by decide) (by first | (rw [hs1_5]; done) | (rw [hs1_5]; rfl)) (by decide) ?_
              refine g_iconst (v := 2) C dX1_digitsBehind_64 rfl rfl ?_
              exact hret 65 (2 : Int32) () _ dX1_digitsBehind_65 hw
            · replace hw := hw.2 hs1_5
              refine g_lsw (off := 67) (pc' := 68) C dX1_digitsBehind_1 (by decide) (by show Op.lookupswitch.offset [(98, 61), (99, 59), (100, 63), (110, 63), (118, 65), (120, 63)] 67 _ = 67; rw [lv_osw hs1_0 (by decide), lv_osw hs1_1 (by decide), lv_osw hs1_2 (by decide), lv_osw hs1_3 (by decide), lv_osw hs1_4 (by decide), lv_osw hs1_5 (by decide)]; rfl) (by decide) ?_
              refine g_iconst (v := -1) C dX1_digitsBehind_68 (by decide) rfl ?_
              exact hret 69 (-1 : Int32) () _ dX1_digitsBehind_69 hw
set_option maxRecDepth 100000 in
theorem c_X1_digitsBehind (l : Launch) (D : va_G) (cI cQ : ClassId) (p1 : Int32) (post : Int32 → Prop) (sz : Nat) : Met l yX1_digitsBehind (wsY yX1_digitsBehind cX1_digitsBehind 1 (some .int)) (rmL 0 0 0 0) (xP D (tyL cI cQ) [.int p1] [] sz (p_X1_digitsBehind p1 post)) (xQi D (tyL cI cQ) (fun (r : Int32) (_ : Unit) => post r) (fun (u : Unit) => []) (va_A [].flatten sz)) 0 0 (va_A [].flatten sz) :=
  Met_i pn_X1 (Nat.le_of_ble_eq_true rfl) (fun p e s mi below meth co A Q _ C hret hw => w_X1_digitsBehind p1 C hret hw)
theorem kS_X1_digitsBehind : Cond.static yX1_digitsBehind ∈ gTbl ∧ Cond.initialized yX1_digitsBehind.cls ∈ gTbl ∧ Cond.code yX1_digitsBehind cX1_digitsBehind 1 (some .int) ∈ gTbl ∧ (yX1_digitsBehind.cls ≠ "java/lang/invoke/MethodHandle" ∧ yX1_digitsBehind.cls ≠ "java/lang/invoke/VarHandle" ∧ (parseMethodDescriptor yX1_digitsBehind.desc).map (fun d => d.parameters.length) = some 1) := ⟨sm_X1_digitsBehind, in_X1, cd_X1_digitsBehind, (by decide +kernel)⟩
set_option maxRecDepth 100000 in
def p_X1_firstFault (t : LT) (post : Int32 → Prop) : Prop := (fun (t_ar : F1) (t_sz : Int32) => lpN (fun (K3 : (Int32 × Int32) → Prop) (z3 : Int32 × Int32) => (fun (x1 : Int32) (x2 : Int32) => ((t_sz ≤ x2 → ((t_sz ≤ 0 → post t_sz) ∧ (¬ t_sz ≤ 0 → ((x1 = (-1 : Int32) → post (-1 : Int32)) ∧ (¬ x1 = (-1 : Int32) → post t_sz))))) ∧ (¬ t_sz ≤ x2 → (vp_in x2 96 ∧ nm ((t_ar (x2).toNatClampNeg) : Int32) (fun (v4 : Int32) => ((x1 = (-1 : Int32) → p_X1_digitsBehind v4 (fun (r6 : Int32) => (((0 : Int32) ≤ r6 → K3 (r6, (x2 + 1))) ∧ (¬ (0 : Int32) ≤ r6 → post x2)))) ∧ (¬ x1 = (-1 : Int32) → ((x1 ≤ 0 → ((v4 = (59 : Int32) → K3 ((-1 : Int32), (x2 + 1))) ∧ (¬ v4 = (59 : Int32) → post x2))) ∧ (¬ x1 ≤ 0 → p_X1_isDigit v4 (fun (r5 : Int32) => ((r5 = 0 → post x2) ∧ (¬ r5 = 0 → K3 ((x1 + (-1)), (x2 + 1)))))))))))))) z3.1 z3.2) 1000 ((-1 : Int32), (0 : Int32))) t.1 t.2
set_option maxHeartbeats 4000000 in
set_option maxRecDepth 100000 in
theorem w_X1_firstFault {p : Program} {l : Launch} {e : Env} {s : State} {mi : MethodId} {args : Array Value} {below : List Frame} {meth : Method} {co : Code} {D : va_G} {cI cQ : ClassId} {A : Nat → Prop} {Q : State → Prop} (a : Nat → Nat) (t : LT) {post : Int32 → Prop} (C : xC p s mi args co cX1_firstFault RX1 4 D (tyL cI cQ) A) (hret : ∀ (pc : Nat) (r : Int32) (u : Unit) (lv : List (Nat × Value)), decode cX1_firstFault pc = .ok (.ireturn, 1) → post r → xG p l e (rmL 1 0 0 20) s mi args below meth co D A 4 Q 0 0 pc [.int r] [gLet cI a t] lv) (hw : p_X1_firstFault t post) : xG p l e (rmL 1 0 0 20) s mi args below meth co D A 4 Q 0 0 0 [] [gLet cI a t] [(0, .ref (a 0))] := by
  unfold p_X1_firstFault at hw
  obtain ⟨t_ar, t_sz⟩ := t
  try dsimp only at hw
  show xG p l e (rmL 1 0 0 20) s mi args below meth co D A 4 Q 0 0 0 [] [gLet cI a (t_ar, t_sz)] [(0, .ref (a 0))]
  refine g_iconst (v := -1) C dX1_firstFault_0 (by decide) rfl ?_
  refine g_istore_n (v := (-1 : Int32)) C dX1_firstFault_1 rfl (Nat.le_of_ble_eq_true rfl) (lv' := [(1, .int (-1 : Int32)), (0, .ref (a 0))]) rfl rfl ?_
  refine g_iconst (v := 0) C dX1_firstFault_2 rfl rfl ?_
  refine g_istore_n (v := (0 : Int32)) C dX1_firstFault_3 rfl (Nat.le_of_ble_eq_true rfl) (lv' := [(2, .int (0 : Int32)), (1, .int (-1 : Int32)), (0, .ref (a 0))]) rfl rfl ?_
  refine g_lv [2, 1, 0] rfl ?_
  refine lpN_ind (G := (fun (z3 : Int32 × Int32) => (fun (x1 : Int32) (x2 : Int32) => xG p l e (rmL 1 0 0 20) s mi args below meth co D A 4 Q 0 0 4 [] [gLet cI a (t_ar, t_sz)] [(0, .ref (a 0)), (1, .int x1), (2, .int x2)]) z3.1 z3.2)) ?_ 1000 ((-1 : Int32), (0 : Int32)) hw
  rintro K3 ⟨x1, x2⟩ ih3 hw
  show xG p l e (rmL 1 0 0 20) s mi args below meth co D A 4 Q 0 0 4 [] [gLet cI a (t_ar, t_sz)] [(0, .ref (a 0)), (1, .int x1), (2, .int x2)]
  refine g_iload_n C dX1_firstFault_4 2 rfl rfl ?_
  refine g_aload_n C dX1_firstFault_5 0 rfl rfl ?_
  refine g_get (v := .int t_sz) (ci := 0) C dX1_firstFault_6 inw_X1 rfl 0 0 1 rfl rfl (Nat.le_of_ble_eq_true rfl) rfl fl_X1_15 rfl rfl ?_
  refine g_icmp_ge (tgt := 70) C dX1_firstFault_9 (by decide) rfl hw (fun _ hw => ?_) (fun _ hw => ?_)
  · refine g_aload_n C dX1_firstFault_70 0 rfl rfl ?_
    refine g_get (v := .int t_sz) (ci := 0) C dX1_firstFault_71 inw_X1 rfl 0 0 1 rfl rfl (Nat.le_of_ble_eq_true rfl) rfl fl_X1_15 rfl rfl ?_
    refine g_if_le (tgt := 86) C dX1_firstFault_74 (by decide) rfl hw (fun _ hw => ?_) (fun _ hw => ?_)
    · refine g_aload_n C dX1_firstFault_86 0 rfl rfl ?_
      refine g_get (v := .int t_sz) (ci := 0) C dX1_firstFault_87 inw_X1 rfl 0 0 1 rfl rfl (Nat.le_of_ble_eq_true rfl) rfl fl_X1_15 rfl rfl ?_
      exact hret 90 t_sz () _ dX1_firstFault_90 hw
    · refine g_iload_n C dX1_firstFault_77 1 rfl rfl ?_
      refine g_iconst (v := -1) C dX1_firstFault_78 (by decide) rfl ?_
      refine g_icmp_ne (tgt := 86) C dX1_firstFault_79 (by decide) rfl hw (fun _ hw => ?_) (fun _ hw => ?_)
      · refine g_aload_n C dX1_firstFault_86 0 rfl rfl ?_
        refine g_get (v := .int t_sz) (ci := 0) C dX1_firstFault_87 inw_X1 rfl 0 0 1 rfl rfl (Nat.le_of_ble_eq_true rfl) rfl fl_X1_15 rfl rfl ?_
        exact hret 90 t_sz () _ dX1_firstFault_90 hw
      · refine g_iconst (v := -1) C dX1_firstFault_82 (by decide) rfl ?_
        refine g_goto (pc' := 90) C dX1_firstFault_83 (by decide) rfl ?_
        exact hret 90 (-1 : Int32) () _ dX1_firstFault_90 hw
  · refine g_aload_n C dX1_firstFault_12 0 rfl rfl ?_
    refine g_get (v := .ref (a 1)) (ci := 0) C dX1_firstFault_13 inw_X1 rfl 0 0 0 rfl rfl (Nat.le_of_ble_eq_true rfl) rfl fl_X1_9 rfl rfl ?_
    refine g_iload_n C dX1_firstFault_16 2 rfl rfl ?_
    have hi17 := hw.1
    replace hw := hw.2
    refine g_iald (f := t_ar) C dX1_firstFault_17 0 1 rfl rfl 0 rfl hi17 rfl ?_
    refine nm_el hw (fun v4 ev4 hw => ?_)
    refine g_istore_n (v := v4) C dX1_firstFault_18 ev4.symm (Nat.le_of_ble_eq_true rfl) (lv' := [(3, .int v4), (0, .ref (a 0)), (1, .int x1), (2, .int x2)]) rfl rfl ?_
    refine g_iload_n C dX1_firstFault_19 2 rfl rfl ?_
    refine g_iconst (v := -1) C dX1_firstFault_20 (by decide) rfl ?_
    refine g_icmp_ne (tgt := 35) C dX1_firstFault_21 (by decide) rfl hw (fun _ hw => ?_) (fun _ hw => ?_)
    · refine g_iload_n C dX1_firstFault_35 2 rfl rfl ?_
      refine g_if_le (tgt := 54) C dX1_firstFault_36 (by decide) rfl hw (fun _ hw => ?_) (fun _ hw => ?_)
      · refine g_iload_n C dX1_firstFault_54 0 rfl rfl ?_
        refine g_bipush (v := 59) C dX1_firstFault_55 (by decide) rfl ?_
        refine g_icmp_eq (tgt := 62) C dX1_firstFault_57 (by decide) rfl hw (fun _ hw => ?_) (fun _ hw => ?_)
        · refine g_iconst (v := -1) C dX1_firstFault_62 (by decide) rfl ?_
          refine g_istore_n (v := (-1 : Int32)) C dX1_firstFault_63 rfl (Nat.le_of_ble_eq_true rfl) (lv' := [(1, .int (-1 : Int32)), (3, .int v4), (0, .ref (a 0)), (2, .int x2)]) rfl rfl ?_
          refine g_iinc (v := (x2 + 1)) (j := 3) C dX1_firstFault_64 rfl rfl (Nat.le_of_ble_eq_true rfl) (lv' := [(2, .int (x2 + 1)), (1, .int (-1 : Int32)), (3, .int v4), (0, .ref (a 0))]) rfl rfl ?_
          refine g_goto (pc' := 4) C dX1_firstFault_67 (by decide) rfl ?_
          refine g_lv [3, 1, 0] rfl ?_
          exact ih3 ((-1 : Int32), (x2 + 1)) hw
        · refine g_iload_n C dX1_firstFault_60 3 rfl rfl ?_
          exact hret 61 x2 () _ dX1_firstFault_61 hw
      · refine g_iload_n C dX1_firstFault_39 0 rfl rfl ?_
        refine g_callSi (As := [.int v4]) (gr := [gLet cI a (t_ar, t_sz)]) C (c_X1_isDigit l D cI cQ   v4 _) dX1_firstFault_40 ⟨ml_X1_23, kS_X1_isDigit⟩ ⟨Nat.le_of_ble_eq_true rfl, Nat.le_of_ble_eq_true rfl⟩ ⟨Nat.le_refl _, Nat.le_refl _⟩ [0] rfl rfl rfl rfl (Nat.le_of_ble_eq_true rfl) rfl (fun (u : Unit) => [gLet cI a (t_ar, t_sz)]) [0] (fun _ => rfl) (fun _ => rfl) hw (fun r5 u5 hw => ?_)
        refine g_if_ne (tgt := 48) C dX1_firstFault_43 (by decide) rfl hw (fun _ hw => ?_) (fun _ hw => ?_)
        · refine g_iinc (v := (x1 + (-1))) (j := 2) C dX1_firstFault_48 rfl (congrArg _ (by decide)) (Nat.le_of_ble_eq_true rfl) (lv' := [(1, .int (x1 + (-1))), (3, .int v4), (0, .ref (a 0)), (2, .int x2)]) rfl rfl ?_
          refine g_goto (pc' := 64) C dX1_firstFault_51 (by decide) rfl ?_
          refine g_iinc (v := (x2 + 1)) (j := 3) C dX1_firstFault_64 rfl rfl (Nat.le_of_ble_eq_true rfl) (lv' := [(2, .int (x2 + 1)), (1, .int (x1 + (-1))), (3, .int v4), (0, .ref (a 0))]) rfl rfl ?_
          refine g_goto (pc' := 4) C dX1_firstFault_67 (by decide) rfl ?_
          refine g_lv [3, 1, 0] rfl ?_
          exact ih3 ((x1 + (-1)), (x2 + 1)) hw
        · refine g_iload_n C dX1_firstFault_46 3 rfl rfl ?_
          exact hret 47 x2 () _ dX1_firstFault_47 hw
    · refine g_iload_n C dX1_firstFault_24 0 rfl rfl ?_
      refine g_callSi (As := [.int v4]) (gr := [gLet cI a (t_ar, t_sz)]) C (c_X1_digitsBehind l D cI cQ   v4 _) dX1_firstFault_25 ⟨ml_X1_27, kS_X1_digitsBehind⟩ ⟨Nat.le_of_ble_eq_true rfl, Nat.le_of_ble_eq_true rfl⟩ ⟨Nat.le_refl _, Nat.le_refl _⟩ [0] rfl rfl rfl rfl (Nat.le_of_ble_eq_true rfl) rfl (fun (u : Unit) => [gLet cI a (t_ar, t_sz)]) [0] (fun _ => rfl) (fun _ => rfl) hw (fun r6 u6 hw => ?_)
      refine g_istore_n (v := r6) C dX1_firstFault_28 rfl (Nat.le_of_ble_eq_true rfl) (lv' := [(1, .int r6), (3, .int v4), (0, .ref (a 0)), (2, .int x2)]) rfl rfl ?_
      refine g_iload_n C dX1_firstFault_29 0 rfl rfl ?_
      refine g_if_ge (tgt := 64) C dX1_firstFault_30 (by decide) rfl hw (fun _ hw => ?_) (fun _ hw => ?_)
      · refine g_iinc (v := (x2 + 1)) (j := 3) C dX1_firstFault_64 rfl rfl (Nat.le_of_ble_eq_true rfl) (lv' := [(2, .int (x2 + 1)), (1, .int r6), (3, .int v4), (0, .ref (a 0))]) rfl rfl ?_
        refine g_goto (pc' := 4) C dX1_firstFault_67 (by decide) rfl ?_
        refine g_lv [3, 1, 0] rfl ?_
        exact ih3 (r6, (x2 + 1)) hw
      · refine g_iload_n C dX1_firstFault_33 3 rfl rfl ?_
        exact hret 34 x2 () _ dX1_firstFault_34 hw
set_option maxRecDepth 100000 in
theorem c_X1_firstFault (l : Launch) (D : va_G) (cI cQ : ClassId) (a : Nat → Nat) (t : LT) (post : Int32 → Prop) (sz : Nat) : Met l yX1_firstFault (wsY yX1_firstFault cX1_firstFault 4 (some .int)) (rmL 1 0 0 20) (xP D (tyL cI cQ) [.ref (a 0)] [gLet cI a t] sz (p_X1_firstFault t post)) (xQi D (tyL cI cQ) (fun (r : Int32) (_ : Unit) => post r) (fun (u : Unit) => [gLet cI a t]) (va_A [gLet cI a t].flatten sz)) 0 0 (va_A [gLet cI a t].flatten sz) :=
  Met_i pn_X1 (Nat.le_of_ble_eq_true rfl) (fun p e s mi below meth co A Q _ C hret hw => w_X1_firstFault a t C hret hw)
theorem kV_X1_firstFault : Cond.instanceMethod yX1_firstFault ∈ gTbl ∧ Cond.selects yX1_firstFault.cls yX1_firstFault yX1_firstFault ∈ gTbl ∧ Cond.initialized yX1_firstFault.cls ∈ gTbl ∧ Cond.code yX1_firstFault cX1_firstFault 4 (some .int) ∈ gTbl ∧ (yX1_firstFault.cls ≠ "java/lang/invoke/MethodHandle" ∧ yX1_firstFault.cls ≠ "java/lang/invoke/VarHandle" ∧ (parseMethodDescriptor yX1_firstFault.desc).map (fun d => d.parameters.length) = some 0) := ⟨im_X1_firstFault, sl_X1_firstFault, in_X1, cd_X1_firstFault, (by decide +kernel)⟩
set_option maxRecDepth 100000 in
def p_X2_size (t : LT) (post : Int32 → Prop) : Prop := (fun (t_ar : F1) (t_sz : Int32) => post t_sz) t.1 t.2
set_option maxHeartbeats 4000000 in
set_option maxRecDepth 100000 in
theorem w_X2_size {p : Program} {l : Launch} {e : Env} {s : State} {mi : MethodId} {args : Array Value} {below : List Frame} {meth : Method} {co : Code} {D : va_G} {cI cQ : ClassId} {A : Nat → Prop} {Q : State → Prop} (a : Nat → Nat) (t : LT) {post : Int32 → Prop} (C : xC p s mi args co cX2_size RX2 1 D (tyL cI cQ) A) (hret : ∀ (pc : Nat) (r : Int32) (u : Unit) (lv : List (Nat × Value)), decode cX2_size pc = .ok (.ireturn, 1) → post r → xG p l e (rmL 0 0 0 0) s mi args below meth co D A 1 Q 0 0 pc [.int r] [gNum cI a t] lv) (hw : p_X2_size t post) : xG p l e (rmL 0 0 0 0) s mi args below meth co D A 1 Q 0 0 0 [] [gNum cI a t] [(0, .ref (a 0))] := by
  unfold p_X2_size at hw
  obtain ⟨t_ar, t_sz⟩ := t
  try dsimp only at hw
  show xG p l e (rmL 0 0 0 0) s mi args below meth co D A 1 Q 0 0 0 [] [gNum cI a (t_ar, t_sz)] [(0, .ref (a 0))]
  refine g_aload_n C dX2_size_0 0 rfl rfl ?_
  refine g_get (v := .int t_sz) (ci := 1) C dX2_size_1 inw_X2 rfl 0 0 1 rfl rfl (Nat.le_of_ble_eq_true rfl) rfl fl_X2_15 rfl rfl ?_
  exact hret 4 t_sz () _ dX2_size_4 hw
set_option maxRecDepth 100000 in
theorem c_X2_size (l : Launch) (D : va_G) (cI cQ : ClassId) (a : Nat → Nat) (t : LT) (post : Int32 → Prop) (sz : Nat) : Met l yX2_size (wsY yX2_size cX2_size 1 (some .int)) (rmL 0 0 0 0) (xP D (tyL cI cQ) [.ref (a 0)] [gNum cI a t] sz (p_X2_size t post)) (xQi D (tyL cI cQ) (fun (r : Int32) (_ : Unit) => post r) (fun (u : Unit) => [gNum cI a t]) (va_A [gNum cI a t].flatten sz)) 0 0 (va_A [gNum cI a t].flatten sz) :=
  Met_i pn_X2 (Nat.le_of_ble_eq_true rfl) (fun p e s mi below meth co A Q _ C hret hw => w_X2_size a t C hret hw)
theorem kV_X2_size : Cond.instanceMethod yX2_size ∈ gTbl ∧ Cond.selects yX2_size.cls yX2_size yX2_size ∈ gTbl ∧ Cond.initialized yX2_size.cls ∈ gTbl ∧ Cond.code yX2_size cX2_size 1 (some .int) ∈ gTbl ∧ (yX2_size.cls ≠ "java/lang/invoke/MethodHandle" ∧ yX2_size.cls ≠ "java/lang/invoke/VarHandle" ∧ (parseMethodDescriptor yX2_size.desc).map (fun d => d.parameters.length) = some 0) := ⟨im_X2_size, sl_X2_size, in_X2, cd_X2_size, (by decide +kernel)⟩
set_option maxRecDepth 100000 in
def p_X2_drop (t : LT) (post : LT → Prop) : Prop := (fun (t_ar : F1) (t_sz : Int32) => post (t_ar, (0 : Int32))) t.1 t.2
set_option maxHeartbeats 4000000 in
set_option maxRecDepth 100000 in
theorem w_X2_drop {p : Program} {l : Launch} {e : Env} {s : State} {mi : MethodId} {args : Array Value} {below : List Frame} {meth : Method} {co : Code} {D : va_G} {cI cQ : ClassId} {A : Nat → Prop} {Q : State → Prop} (a : Nat → Nat) (t : LT) {post : LT → Prop} (C : xC p s mi args co cX2_drop RX2 1 D (tyL cI cQ) A) (hret : ∀ (pc : Nat) (u : LT) (lv : List (Nat × Value)), decode cX2_drop pc = .ok (.return_, 1) → post u → xG p l e (rmL 0 0 0 0) s mi args below meth co D A 1 Q 0 0 pc [] [gNum cI a u] lv) (hw : p_X2_drop t post) : xG p l e (rmL 0 0 0 0) s mi args below meth co D A 1 Q 0 0 0 [] [gNum cI a t] [(0, .ref (a 0))] := by
  unfold p_X2_drop at hw
  obtain ⟨t_ar, t_sz⟩ := t
  try dsimp only at hw
  show xG p l e (rmL 0 0 0 0) s mi args below meth co D A 1 Q 0 0 0 [] [gNum cI a (t_ar, t_sz)] [(0, .ref (a 0))]
  refine g_aload_n C dX2_drop_0 0 rfl rfl ?_
  refine g_iconst (v := 0) C dX2_drop_1 rfl rfl ?_
  refine g_put (v' := .int (0 : Int32)) (ty := .int) (ci := 1) (gs' := [gNum cI a (t_ar, (0 : Int32))]) C dX2_drop_2 inw_X2 tyX2 tyX2_ok nmX2 rfl 0 0 1 rfl rfl (Nat.le_of_ble_eq_true rfl) rfl fl_X2_15 rfl fd_I rfl rfl rfl (Nat.le_of_ble_eq_true rfl) rfl rfl ?_
  exact hret 5 (t_ar, (0 : Int32)) _ dX2_drop_5 hw
set_option maxRecDepth 100000 in
theorem c_X2_drop (l : Launch) (D : va_G) (cI cQ : ClassId) (a : Nat → Nat) (t : LT) (post : LT → Prop) (sz : Nat) : Met l yX2_drop (wsY yX2_drop cX2_drop 1 none) (rmL 0 0 0 0) (xP D (tyL cI cQ) [.ref (a 0)] [gNum cI a t] sz (p_X2_drop t post)) (xQv D (tyL cI cQ) post (fun (u : LT) => [gNum cI a u]) (va_A [gNum cI a t].flatten sz)) 0 0 (va_A [gNum cI a t].flatten sz) :=
  Met_v pn_X2 (Nat.le_of_ble_eq_true rfl) (fun p e s mi below meth co A Q _ C hret hw => w_X2_drop a t C hret hw)
theorem kV_X2_drop : Cond.instanceMethod yX2_drop ∈ gTbl ∧ Cond.selects yX2_drop.cls yX2_drop yX2_drop ∈ gTbl ∧ Cond.initialized yX2_drop.cls ∈ gTbl ∧ Cond.code yX2_drop cX2_drop 1 none ∈ gTbl ∧ (yX2_drop.cls ≠ "java/lang/invoke/MethodHandle" ∧ yX2_drop.cls ≠ "java/lang/invoke/VarHandle" ∧ (parseMethodDescriptor yX2_drop.desc).map (fun d => d.parameters.length) = some 0) := ⟨im_X2_drop, sl_X2_drop, in_X2, cd_X2_drop, (by decide +kernel)⟩
set_option maxRecDepth 100000 in
def p_X2_add (t : LT) (p1 : Int32) (post : Int32 → LT → Prop) : Prop := (fun (t_ar : F1) (t_sz : Int32) => ((t_sz < (12 : Int32) → (vp_in t_sz 12 ∧ nm (upd t_ar (t_sz).toNatClampNeg p1) (fun (t_ar1 : F1) => nm ((t_sz + (1 : Int32)) : Int32) (fun (v2 : Int32) => post (1 : Int32) (t_ar1, v2))))) ∧ (¬ t_sz < (12 : Int32) → post (0 : Int32) (t_ar, t_sz)))) t.1 t.2
set_option maxHeartbeats 4000000 in
set_option maxRecDepth 100000 in
theorem w_X2_add {p : Program} {l : Launch} {e : Env} {s : State} {mi : MethodId} {args : Array Value} {below : List Frame} {meth : Method} {co : Code} {D : va_G} {cI cQ : ClassId} {A : Nat → Prop} {Q : State → Prop} (a : Nat → Nat) (t : LT) (p1 : Int32) {post : Int32 → LT → Prop} (C : xC p s mi args co cX2_add RX2 2 D (tyL cI cQ) A) (hret : ∀ (pc : Nat) (r : Int32) (u : LT) (lv : List (Nat × Value)), decode cX2_add pc = .ok (.ireturn, 1) → bz r → post r u → xG p l e (rmL 0 0 0 0) s mi args below meth co D A 2 Q 0 0 pc [.int r] [gNum cI a u] lv) (hw : p_X2_add t p1 post) : xG p l e (rmL 0 0 0 0) s mi args below meth co D A 2 Q 0 0 0 [] [gNum cI a t] [(0, .ref (a 0)), (1, .int p1)] := by
  unfold p_X2_add at hw
  obtain ⟨t_ar, t_sz⟩ := t
  try dsimp only at hw
  show xG p l e (rmL 0 0 0 0) s mi args below meth co D A 2 Q 0 0 0 [] [gNum cI a (t_ar, t_sz)] [(0, .ref (a 0)), (1, .int p1)]
  refine g_aload_n C dX2_add_0 0 rfl rfl ?_
  refine g_get (v := .int t_sz) (ci := 1) C dX2_add_1 inw_X2 rfl 0 0 1 rfl rfl (Nat.le_of_ble_eq_true rfl) rfl fl_X2_15 rfl rfl ?_
  refine g_bipush (v := 12) C dX2_add_4 (by decide) rfl ?_
  refine g_icmp_lt (tgt := 11) C dX2_add_6 (by decide) rfl hw (fun _ hw => ?_) (fun _ hw => ?_)
  · refine g_aload_n C dX2_add_11 0 rfl rfl ?_
    refine g_get (v := .ref (a 1)) (ci := 1) C dX2_add_12 inw_X2 rfl 0 0 0 rfl rfl (Nat.le_of_ble_eq_true rfl) rfl fl_X2_9 rfl rfl ?_
    refine g_aload_n C dX2_add_15 0 rfl rfl ?_
    refine g_get (v := .int t_sz) (ci := 1) C dX2_add_16 inw_X2 rfl 0 0 1 rfl rfl (Nat.le_of_ble_eq_true rfl) rfl fl_X2_15 rfl rfl ?_
    refine g_iload_n C dX2_add_19 1 rfl rfl ?_
    have hi20 := hw.1
    refine nm_el hw.2 (fun t_ar1 et_ar1 hw => ?_)
    refine g_iast (f := t_ar) (f' := t_ar1) (gs' := [gNum cI a (t_ar1, t_sz)]) C dX2_add_20 0 1 rfl rfl 0 rfl hi20 et_ar1.symm rfl rfl ?_
    refine g_aload_n C dX2_add_21 0 rfl rfl ?_
    refine g_dup C dX2_add_22 rfl rfl ?_
    refine g_get (v := .int t_sz) (ci := 1) C dX2_add_23 inw_X2 rfl 0 0 1 rfl rfl (Nat.le_of_ble_eq_true rfl) rfl fl_X2_15 rfl rfl ?_
    refine g_iconst (v := 1) C dX2_add_26 rfl rfl ?_
    refine g_iadd C dX2_add_27 rfl ?_
    refine nm_el hw (fun v2 ev2 hw => ?_)
    refine g_put (v' := .int v2) (ty := .int) (ci := 1) (gs' := [gNum cI a (t_ar1, v2)]) C dX2_add_28 inw_X2 tyX2 tyX2_ok nmX2 rfl 0 0 1 rfl rfl (Nat.le_of_ble_eq_true rfl) rfl fl_X2_15 rfl fd_I (congrArg Value.int ev2.symm) rfl rfl (Nat.le_of_ble_eq_true rfl) rfl rfl ?_
    refine g_iconst (v := 1) C dX2_add_31 rfl rfl ?_
    exact hret 32 (1 : Int32) (t_ar1, v2) _ dX2_add_32 ⟨rfl, rfl⟩ hw
  · refine g_iconst (v := 0) C dX2_add_9 rfl rfl ?_
    exact hret 10 (0 : Int32) (t_ar, t_sz) _ dX2_add_10 ⟨rfl, rfl⟩ hw
set_option maxRecDepth 100000 in
theorem c_X2_add (l : Launch) (D : va_G) (cI cQ : ClassId) (a : Nat → Nat) (t : LT) (p1 : Int32) (post : Int32 → LT → Prop) (sz : Nat) : Met l yX2_add (wsY yX2_add cX2_add 2 (some .boolean)) (rmL 0 0 0 0) (xP D (tyL cI cQ) [.ref (a 0), .int p1] [gNum cI a t] sz (p_X2_add t p1 post)) (xQi D (tyL cI cQ) post (fun (u : LT) => [gNum cI a u]) (va_A [gNum cI a t].flatten sz)) 0 0 (va_A [gNum cI a t].flatten sz) :=
  Met_z pn_X2 (Nat.le_of_ble_eq_true rfl) (fun p e s mi below meth co A Q _ C hret hw => w_X2_add a t p1 C hret hw)
theorem kV_X2_add : Cond.instanceMethod yX2_add ∈ gTbl ∧ Cond.selects yX2_add.cls yX2_add yX2_add ∈ gTbl ∧ Cond.initialized yX2_add.cls ∈ gTbl ∧ Cond.code yX2_add cX2_add 2 (some .boolean) ∈ gTbl ∧ (yX2_add.cls ≠ "java/lang/invoke/MethodHandle" ∧ yX2_add.cls ≠ "java/lang/invoke/VarHandle" ∧ (parseMethodDescriptor yX2_add.desc).map (fun d => d.parameters.length) = some 1) := ⟨im_X2_add, sl_X2_add, in_X2, cd_X2_add, (by decide +kernel)⟩
set_option maxRecDepth 100000 in
def p_X2_at (t : LT) (p1 : Int32) (post : Int32 → Prop) : Prop := (fun (t_ar : F1) (t_sz : Int32) => ((p1 < 0 → post (-1 : Int32)) ∧ (¬ p1 < 0 → ((t_sz ≤ p1 → post (-1 : Int32)) ∧ (¬ t_sz ≤ p1 → (vp_in p1 12 ∧ post (t_ar (p1).toNatClampNeg))))))) t.1 t.2
set_option maxHeartbeats 4000000 in
set_option maxRecDepth 100000 in
theorem w_X2_at {p : Program} {l : Launch} {e : Env} {s : State} {mi : MethodId} {args : Array Value} {below : List Frame} {meth : Method} {co : Code} {D : va_G} {cI cQ : ClassId} {A : Nat → Prop} {Q : State → Prop} (a : Nat → Nat) (t : LT) (p1 : Int32) {post : Int32 → Prop} (C : xC p s mi args co cX2_at RX2 2 D (tyL cI cQ) A) (hret : ∀ (pc : Nat) (r : Int32) (u : Unit) (lv : List (Nat × Value)), decode cX2_at pc = .ok (.ireturn, 1) → post r → xG p l e (rmL 0 0 0 0) s mi args below meth co D A 2 Q 0 0 pc [.int r] [gNum cI a t] lv) (hw : p_X2_at t p1 post) : xG p l e (rmL 0 0 0 0) s mi args below meth co D A 2 Q 0 0 0 [] [gNum cI a t] [(0, .ref (a 0)), (1, .int p1)] := by
  unfold p_X2_at at hw
  obtain ⟨t_ar, t_sz⟩ := t
  try dsimp only at hw
  show xG p l e (rmL 0 0 0 0) s mi args below meth co D A 2 Q 0 0 0 [] [gNum cI a (t_ar, t_sz)] [(0, .ref (a 0)), (1, .int p1)]
  refine g_iload_n C dX2_at_0 1 rfl rfl ?_
  refine g_if_lt (tgt := 21) C dX2_at_1 (by decide) rfl hw (fun _ hw => ?_) (fun _ hw => ?_)
  · refine g_iconst (v := -1) C dX2_at_21 (by decide) rfl ?_
    exact hret 22 (-1 : Int32) () _ dX2_at_22 hw
  · refine g_iload_n C dX2_at_4 1 rfl rfl ?_
    refine g_aload_n C dX2_at_5 0 rfl rfl ?_
    refine g_get (v := .int t_sz) (ci := 1) C dX2_at_6 inw_X2 rfl 0 0 1 rfl rfl (Nat.le_of_ble_eq_true rfl) rfl fl_X2_15 rfl rfl ?_
    refine g_icmp_ge (tgt := 21) C dX2_at_9 (by decide) rfl hw (fun _ hw => ?_) (fun _ hw => ?_)
    · refine g_iconst (v := -1) C dX2_at_21 (by decide) rfl ?_
      exact hret 22 (-1 : Int32) () _ dX2_at_22 hw
    · refine g_aload_n C dX2_at_12 0 rfl rfl ?_
      refine g_get (v := .ref (a 1)) (ci := 1) C dX2_at_13 inw_X2 rfl 0 0 0 rfl rfl (Nat.le_of_ble_eq_true rfl) rfl fl_X2_9 rfl rfl ?_
      refine g_iload_n C dX2_at_16 1 rfl rfl ?_
      have hi17 := hw.1
      replace hw := hw.2
      refine g_iald (f := t_ar) C dX2_at_17 0 1 rfl rfl 0 rfl hi17 rfl ?_
      refine g_goto (pc' := 22) C dX2_at_18 (by decide) rfl ?_
      exact hret 22 (t_ar (p1).toNatClampNeg) () _ dX2_at_22 hw
set_option maxRecDepth 100000 in
theorem c_X2_at (l : Launch) (D : va_G) (cI cQ : ClassId) (a : Nat → Nat) (t : LT) (p1 : Int32) (post : Int32 → Prop) (sz : Nat) : Met l yX2_at (wsY yX2_at cX2_at 2 (some .int)) (rmL 0 0 0 0) (xP D (tyL cI cQ) [.ref (a 0), .int p1] [gNum cI a t] sz (p_X2_at t p1 post)) (xQi D (tyL cI cQ) (fun (r : Int32) (_ : Unit) => post r) (fun (u : Unit) => [gNum cI a t]) (va_A [gNum cI a t].flatten sz)) 0 0 (va_A [gNum cI a t].flatten sz) :=
  Met_i pn_X2 (Nat.le_of_ble_eq_true rfl) (fun p e s mi below meth co A Q _ C hret hw => w_X2_at a t p1 C hret hw)
theorem kV_X2_at : Cond.instanceMethod yX2_at ∈ gTbl ∧ Cond.selects yX2_at.cls yX2_at yX2_at ∈ gTbl ∧ Cond.initialized yX2_at.cls ∈ gTbl ∧ Cond.code yX2_at cX2_at 2 (some .int) ∈ gTbl ∧ (yX2_at.cls ≠ "java/lang/invoke/MethodHandle" ∧ yX2_at.cls ≠ "java/lang/invoke/VarHandle" ∧ (parseMethodDescriptor yX2_at.desc).map (fun d => d.parameters.length) = some 1) := ⟨im_X2_at, sl_X2_at, in_X2, cd_X2_at, (by decide +kernel)⟩
set_option maxRecDepth 100000 in
def p_J6_bitCount_0f7a4 (p1 : Int32) (post : Int32 → Prop) : Prop := nm ((p1 - (((p1.toUInt32 >>> ((1 : Int32).toUInt32 &&& Int32.toUInt32 31)).toInt32) &&& (1431655765 : Int32))) : Int32) (fun (v1 : Int32) => nm (((v1 &&& (858993459 : Int32)) + (((v1.toUInt32 >>> ((2 : Int32).toUInt32 &&& Int32.toUInt32 31)).toInt32) &&& (858993459 : Int32))) : Int32) (fun (v2 : Int32) => nm (((v2 + ((v2.toUInt32 >>> ((4 : Int32).toUInt32 &&& Int32.toUInt32 31)).toInt32)) &&& (252645135 : Int32)) : Int32) (fun (v3 : Int32) => nm ((v3 + ((v3.toUInt32 >>> ((8 : Int32).toUInt32 &&& Int32.toUInt32 31)).toInt32)) : Int32) (fun (v4 : Int32) => nm ((v4 + ((v4.toUInt32 >>> ((16 : Int32).toUInt32 &&& Int32.toUInt32 31)).toInt32)) : Int32) (fun (v5 : Int32) => post (v5 &&& (63 : Int32)))))))
set_option maxHeartbeats 4000000 in
set_option maxRecDepth 100000 in
theorem w_J6_bitCount_0f7a4 {p : Program} {l : Launch} {e : Env} {s : State} {mi : MethodId} {args : Array Value} {below : List Frame} {meth : Method} {co : Code} {D : va_G} {cI cQ : ClassId} {A : Nat → Prop} {Q : State → Prop} (p1 : Int32) {post : Int32 → Prop} (C : xC p s mi args co cJ6_bitCount_0f7a4 RJ6 1 D (tyL cI cQ) A) (hret : ∀ (pc : Nat) (r : Int32) (u : Unit) (lv : List (Nat × Value)), decode cJ6_bitCount_0f7a4 pc = .ok (.ireturn, 1) → post r → xG p l e (rmL 0 0 0 0) s mi args below meth co D A 1 Q 0 0 pc [.int r] [] lv) (hw : p_J6_bitCount_0f7a4 p1 post) : xG p l e (rmL 0 0 0 0) s mi args below meth co D A 1 Q 0 0 0 [] [] [(0, .int p1)] := by
  unfold p_J6_bitCount_0f7a4 at hw
  try dsimp only at hw
  show xG p l e (rmL 0 0 0 0) s mi args below meth co D A 1 Q 0 0 0 [] [] [(0, .int p1)]
  refine g_iload_n C dJ6_bitCount_0f7a4_0 0 rfl rfl ?_
  refine g_iload_n C dJ6_bitCount_0f7a4_1 0 rfl rfl ?_
  refine g_iconst (v := 1) C dJ6_bitCount_0f7a4_2 rfl rfl ?_
  refine g_iushr C dJ6_bitCount_0f7a4_3 rfl ?_
  refine g_ldcw C dJ6_bitCount_0f7a4_4 ct_J6_265 rfl ?_
  refine g_iand C dJ6_bitCount_0f7a4_7 rfl ?_
  refine g_isub C dJ6_bitCount_0f7a4_8 rfl ?_
  refine nm_el hw (fun v1 ev1 hw => ?_)
  refine g_istore_n (v := v1) C dJ6_bitCount_0f7a4_9 ev1.symm (Nat.le_of_ble_eq_true rfl) (lv' := [(0, .int v1)]) rfl rfl ?_
  refine g_iload_n C dJ6_bitCount_0f7a4_10 0 rfl rfl ?_
  refine g_ldcw C dJ6_bitCount_0f7a4_11 ct_J6_266 rfl ?_
  refine g_iand C dJ6_bitCount_0f7a4_14 rfl ?_
  refine g_iload_n C dJ6_bitCount_0f7a4_15 0 rfl rfl ?_
  refine g_iconst (v := 2) C dJ6_bitCount_0f7a4_16 rfl rfl ?_
  refine g_iushr C dJ6_bitCount_0f7a4_17 rfl ?_
  refine g_ldcw C dJ6_bitCount_0f7a4_18 ct_J6_266 rfl ?_
  refine g_iand C dJ6_bitCount_0f7a4_21 rfl ?_
  refine g_iadd C dJ6_bitCount_0f7a4_22 rfl ?_
  refine nm_el hw (fun v2 ev2 hw => ?_)
  refine g_istore_n (v := v2) C dJ6_bitCount_0f7a4_23 ev2.symm (Nat.le_of_ble_eq_true rfl) (lv' := [(0, .int v2)]) rfl rfl ?_
  refine g_iload_n C dJ6_bitCount_0f7a4_24 0 rfl rfl ?_
  refine g_iload_n C dJ6_bitCount_0f7a4_25 0 rfl rfl ?_
  refine g_iconst (v := 4) C dJ6_bitCount_0f7a4_26 rfl rfl ?_
  refine g_iushr C dJ6_bitCount_0f7a4_27 rfl ?_
  refine g_iadd C dJ6_bitCount_0f7a4_28 rfl ?_
  refine g_ldcw C dJ6_bitCount_0f7a4_29 ct_J6_267 rfl ?_
  refine g_iand C dJ6_bitCount_0f7a4_32 rfl ?_
  refine nm_el hw (fun v3 ev3 hw => ?_)
  refine g_istore_n (v := v3) C dJ6_bitCount_0f7a4_33 ev3.symm (Nat.le_of_ble_eq_true rfl) (lv' := [(0, .int v3)]) rfl rfl ?_
  refine g_iload_n C dJ6_bitCount_0f7a4_34 0 rfl rfl ?_
  refine g_iload_n C dJ6_bitCount_0f7a4_35 0 rfl rfl ?_
  refine g_bipush (v := 8) C dJ6_bitCount_0f7a4_36 (by decide) rfl ?_
  refine g_iushr C dJ6_bitCount_0f7a4_38 rfl ?_
  refine g_iadd C dJ6_bitCount_0f7a4_39 rfl ?_
  refine nm_el hw (fun v4 ev4 hw => ?_)
  refine g_istore_n (v := v4) C dJ6_bitCount_0f7a4_40 ev4.symm (Nat.le_of_ble_eq_true rfl) (lv' := [(0, .int v4)]) rfl rfl ?_
  refine g_iload_n C dJ6_bitCount_0f7a4_41 0 rfl rfl ?_
  refine g_iload_n C dJ6_bitCount_0f7a4_42 0 rfl rfl ?_
  refine g_bipush (v := 16) C dJ6_bitCount_0f7a4_43 (by decide) rfl ?_
  refine g_iushr C dJ6_bitCount_0f7a4_45 rfl ?_
  refine g_iadd C dJ6_bitCount_0f7a4_46 rfl ?_
  refine nm_el hw (fun v5 ev5 hw => ?_)
  refine g_istore_n (v := v5) C dJ6_bitCount_0f7a4_47 ev5.symm (Nat.le_of_ble_eq_true rfl) (lv' := [(0, .int v5)]) rfl rfl ?_
  refine g_iload_n C dJ6_bitCount_0f7a4_48 0 rfl rfl ?_
  refine g_bipush (v := 63) C dJ6_bitCount_0f7a4_49 (by decide) rfl ?_
  refine g_iand C dJ6_bitCount_0f7a4_51 rfl ?_
  exact hret 52 (v5 &&& (63 : Int32)) () _ dJ6_bitCount_0f7a4_52 hw
set_option maxRecDepth 100000 in
theorem c_J6_bitCount_0f7a4 (l : Launch) (D : va_G) (cI cQ : ClassId) (p1 : Int32) (post : Int32 → Prop) (sz : Nat) : Met l yJ6_bitCount_0f7a4 (wsY yJ6_bitCount_0f7a4 cJ6_bitCount_0f7a4 1 (some .int)) (rmL 0 0 0 0) (xP D (tyL cI cQ) [.int p1] [] sz (p_J6_bitCount_0f7a4 p1 post)) (xQi D (tyL cI cQ) (fun (r : Int32) (_ : Unit) => post r) (fun (u : Unit) => []) (va_A [].flatten sz)) 0 0 (va_A [].flatten sz) :=
  Met_i pn_J6 (Nat.le_of_ble_eq_true rfl) (fun p e s mi below meth co A Q _ C hret hw => w_J6_bitCount_0f7a4 p1 C hret hw)
theorem kS_J6_bitCount_0f7a4 : Cond.static yJ6_bitCount_0f7a4 ∈ gTbl ∧ Cond.initialized yJ6_bitCount_0f7a4.cls ∈ gTbl ∧ Cond.code yJ6_bitCount_0f7a4 cJ6_bitCount_0f7a4 1 (some .int) ∈ gTbl ∧ (yJ6_bitCount_0f7a4.cls ≠ "java/lang/invoke/MethodHandle" ∧ yJ6_bitCount_0f7a4.cls ≠ "java/lang/invoke/VarHandle" ∧ (parseMethodDescriptor yJ6_bitCount_0f7a4.desc).map (fun d => d.parameters.length) = some 1) := ⟨sm_J6_bitCount_0f7a4, in_J6, cd_J6_bitCount_0f7a4, (by decide +kernel)⟩
end
