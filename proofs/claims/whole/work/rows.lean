section
-- ===== PART A: goes FIRST, ahead of the names: the tables' words, and 'selects' of the private methods out of them =====
/-- a private method of a class that the tables say can be made, by its rows of tables_1 -/
def lw_okq (q : MethodName × Nat) : Prop := (q.1.cls ≠ "java/lang/invoke/MethodHandle" ∧ q.1.cls ≠ "java/lang/invoke/VarHandle") ∧ Cond.instantiable q.1.cls q.2 ∈ tables_1 ∧ Cond.privateMethod q.1 ∈ tables_1 ∧ Cond.instanceMethod q.1 ∈ tables_1
theorem lw_p0 : lw_okq (⟨"PageKeeper", "rollBack", "(I)I"⟩, 12) := ⟨⟨by decide +kernel, by decide +kernel⟩, List.mem_of_getElem? (i := 17) (by decide +kernel), List.mem_of_getElem? (i := 182) (by decide +kernel), List.mem_of_getElem? (i := 183) (by decide +kernel)⟩
theorem lw_p1 : lw_okq (⟨"PageKeeper", "putValue", "(IIII)I"⟩, 12) := ⟨⟨by decide +kernel, by decide +kernel⟩, List.mem_of_getElem? (i := 17) (by decide +kernel), List.mem_of_getElem? (i := 194) (by decide +kernel), List.mem_of_getElem? (i := 195) (by decide +kernel)⟩
theorem lw_p2 : lw_okq (⟨"PageKeeper", "goDown", "(I)I"⟩, 12) := ⟨⟨by decide +kernel, by decide +kernel⟩, List.mem_of_getElem? (i := 17) (by decide +kernel), List.mem_of_getElem? (i := 198) (by decide +kernel), List.mem_of_getElem? (i := 199) (by decide +kernel)⟩
theorem lw_p3 : lw_okq (⟨"PageKeeper", "fix", "(I)V"⟩, 12) := ⟨⟨by decide +kernel, by decide +kernel⟩, List.mem_of_getElem? (i := 17) (by decide +kernel), List.mem_of_getElem? (i := 202) (by decide +kernel), List.mem_of_getElem? (i := 203) (by decide +kernel)⟩
theorem lw_p4 : lw_okq (⟨"PageKeeper$Pool", "indexOf", "(I)I"⟩, 2) := ⟨⟨by decide +kernel, by decide +kernel⟩, List.mem_of_getElem? (i := 49) (by decide +kernel), List.mem_of_getElem? (i := 210) (by decide +kernel), List.mem_of_getElem? (i := 211) (by decide +kernel)⟩
theorem lw_p5 : lw_okq (⟨"PageKeeper", "writeIfNewer", "(I)Z"⟩, 12) := ⟨⟨by decide +kernel, by decide +kernel⟩, List.mem_of_getElem? (i := 17) (by decide +kernel), List.mem_of_getElem? (i := 214) (by decide +kernel), List.mem_of_getElem? (i := 215) (by decide +kernel)⟩
theorem lw_p6 : lw_okq (⟨"PageKeeper", "read", "(I)V"⟩, 12) := ⟨⟨by decide +kernel, by decide +kernel⟩, List.mem_of_getElem? (i := 17) (by decide +kernel), List.mem_of_getElem? (i := 226) (by decide +kernel), List.mem_of_getElem? (i := 227) (by decide +kernel)⟩
theorem lw_p7 : lw_okq (⟨"PageKeeper$Pool", "dropAt", "(I)V"⟩, 2) := ⟨⟨by decide +kernel, by decide +kernel⟩, List.mem_of_getElem? (i := 49) (by decide +kernel), List.mem_of_getElem? (i := 237) (by decide +kernel), List.mem_of_getElem? (i := 238) (by decide +kernel)⟩
theorem lw_p8 : lw_okq (⟨"PageKeeper", "goDownSplitting", "(I)I"⟩, 12) := ⟨⟨by decide +kernel, by decide +kernel⟩, List.mem_of_getElem? (i := 17) (by decide +kernel), List.mem_of_getElem? (i := 249) (by decide +kernel), List.mem_of_getElem? (i := 250) (by decide +kernel)⟩
theorem lw_p9 : lw_okq (⟨"PageKeeper", "splitRoot", "(I)I"⟩, 12) := ⟨⟨by decide +kernel, by decide +kernel⟩, List.mem_of_getElem? (i := 17) (by decide +kernel), List.mem_of_getElem? (i := 253) (by decide +kernel), List.mem_of_getElem? (i := 254) (by decide +kernel)⟩
theorem lw_p10 : lw_okq (⟨"PageKeeper", "fixNew", "(I)V"⟩, 12) := ⟨⟨by decide +kernel, by decide +kernel⟩, List.mem_of_getElem? (i := 17) (by decide +kernel), List.mem_of_getElem? (i := 265) (by decide +kernel), List.mem_of_getElem? (i := 266) (by decide +kernel)⟩
theorem lw_p11 : lw_okq (⟨"PageKeeper", "enforce", "(LPageKeeper$LogRow;)V"⟩, 12) := ⟨⟨by decide +kernel, by decide +kernel⟩, List.mem_of_getElem? (i := 17) (by decide +kernel), List.mem_of_getElem? (i := 349) (by decide +kernel), List.mem_of_getElem? (i := 350) (by decide +kernel)⟩
theorem lw_p12 : lw_okq (⟨"PageKeeper", "splitBelow", "(III)I"⟩, 12) := ⟨⟨by decide +kernel, by decide +kernel⟩, List.mem_of_getElem? (i := 17) (by decide +kernel), List.mem_of_getElem? (i := 377) (by decide +kernel), List.mem_of_getElem? (i := 378) (by decide +kernel)⟩
theorem lw_p13 : lw_okq (⟨"PageKeeper", "addChange", "(IIIII)LPageKeeper$LogRow;"⟩, 12) := ⟨⟨by decide +kernel, by decide +kernel⟩, List.mem_of_getElem? (i := 17) (by decide +kernel), List.mem_of_getElem? (i := 385) (by decide +kernel), List.mem_of_getElem? (i := 386) (by decide +kernel)⟩
theorem lw_p14 : lw_okq (⟨"PageKeeper", "takeOut", "(III)I"⟩, 12) := ⟨⟨by decide +kernel, by decide +kernel⟩, List.mem_of_getElem? (i := 17) (by decide +kernel), List.mem_of_getElem? (i := 389) (by decide +kernel), List.mem_of_getElem? (i := 390) (by decide +kernel)⟩
theorem lw_p15 : lw_okq (⟨"PageKeeper", "isMade", "(I)Z"⟩, 12) := ⟨⟨by decide +kernel, by decide +kernel⟩, List.mem_of_getElem? (i := 17) (by decide +kernel), List.mem_of_getElem? (i := 401) (by decide +kernel), List.mem_of_getElem? (i := 402) (by decide +kernel)⟩
def lw_privs_1 : List (MethodName × Nat) := [(⟨"PageKeeper", "rollBack", "(I)I"⟩, 12), (⟨"PageKeeper", "putValue", "(IIII)I"⟩, 12), (⟨"PageKeeper", "goDown", "(I)I"⟩, 12), (⟨"PageKeeper", "fix", "(I)V"⟩, 12), (⟨"PageKeeper$Pool", "indexOf", "(I)I"⟩, 2), (⟨"PageKeeper", "writeIfNewer", "(I)Z"⟩, 12), (⟨"PageKeeper", "read", "(I)V"⟩, 12), (⟨"PageKeeper$Pool", "dropAt", "(I)V"⟩, 2), (⟨"PageKeeper", "goDownSplitting", "(I)I"⟩, 12), (⟨"PageKeeper", "splitRoot", "(I)I"⟩, 12), (⟨"PageKeeper", "fixNew", "(I)V"⟩, 12), (⟨"PageKeeper", "enforce", "(LPageKeeper$LogRow;)V"⟩, 12), (⟨"PageKeeper", "splitBelow", "(III)I"⟩, 12), (⟨"PageKeeper", "addChange", "(IIIII)LPageKeeper$LogRow;"⟩, 12), (⟨"PageKeeper", "takeOut", "(III)I"⟩, 12), (⟨"PageKeeper", "isMade", "(I)Z"⟩, 12)]
theorem lw_r1 : ∀ q ∈ lw_privs_1, lw_okq q := List.forall_mem_cons.mpr ⟨lw_p0, List.forall_mem_cons.mpr ⟨lw_p1, List.forall_mem_cons.mpr ⟨lw_p2, List.forall_mem_cons.mpr ⟨lw_p3, List.forall_mem_cons.mpr ⟨lw_p4, List.forall_mem_cons.mpr ⟨lw_p5, List.forall_mem_cons.mpr ⟨lw_p6, List.forall_mem_cons.mpr ⟨lw_p7, List.forall_mem_cons.mpr ⟨lw_p8, List.forall_mem_cons.mpr ⟨lw_p9, List.forall_mem_cons.mpr ⟨lw_p10, List.forall_mem_cons.mpr ⟨lw_p11, List.forall_mem_cons.mpr ⟨lw_p12, List.forall_mem_cons.mpr ⟨lw_p13, List.forall_mem_cons.mpr ⟨lw_p14, List.forall_mem_cons.mpr ⟨lw_p15, fun _ h => absurd h List.not_mem_nil⟩⟩⟩⟩⟩⟩⟩⟩⟩⟩⟩⟩⟩⟩⟩⟩
theorem lw_p16 : lw_okq (⟨"PageKeeper", "close", "(I)V"⟩, 12) := ⟨⟨by decide +kernel, by decide +kernel⟩, List.mem_of_getElem? (i := 17) (by decide +kernel), List.mem_of_getElem? (i := 425) (by decide +kernel), List.mem_of_getElem? (i := 426) (by decide +kernel)⟩
theorem lw_p17 : lw_okq (⟨"PageKeeper", "replayLog", "()V"⟩, 12) := ⟨⟨by decide +kernel, by decide +kernel⟩, List.mem_of_getElem? (i := 17) (by decide +kernel), List.mem_of_getElem? (i := 433) (by decide +kernel), List.mem_of_getElem? (i := 434) (by decide +kernel)⟩
theorem lw_p18 : lw_okq (⟨"PageKeeper", "findLosers", "()V"⟩, 12) := ⟨⟨by decide +kernel, by decide +kernel⟩, List.mem_of_getElem? (i := 17) (by decide +kernel), List.mem_of_getElem? (i := 449) (by decide +kernel), List.mem_of_getElem? (i := 450) (by decide +kernel)⟩
theorem lw_p19 : lw_okq (⟨"java/lang/Throwable", "fillInStackTrace", "(I)Ljava/lang/Throwable;"⟩, 6) := ⟨⟨by decide +kernel, by decide +kernel⟩, List.mem_of_getElem? (i := 547) (by decide +kernel), List.mem_of_getElem? (i := 545) (by decide +kernel), List.mem_of_getElem? (i := 546) (by decide +kernel)⟩
theorem lw_p20 : lw_okq (⟨"PageKeeper", "isWornOut", "()Z"⟩, 12) := ⟨⟨by decide +kernel, by decide +kernel⟩, List.mem_of_getElem? (i := 17) (by decide +kernel), List.mem_of_getElem? (i := 587) (by decide +kernel), List.mem_of_getElem? (i := 588) (by decide +kernel)⟩
theorem lw_p21 : lw_okq (⟨"PageKeeper", "checkOpen", "(I)V"⟩, 12) := ⟨⟨by decide +kernel, by decide +kernel⟩, List.mem_of_getElem? (i := 17) (by decide +kernel), List.mem_of_getElem? (i := 602) (by decide +kernel), List.mem_of_getElem? (i := 603) (by decide +kernel)⟩
theorem lw_p22 : lw_okq (⟨"PageKeeper$Locks", "othersHold", "(III)Z"⟩, 2) := ⟨⟨by decide +kernel, by decide +kernel⟩, List.mem_of_getElem? (i := 63) (by decide +kernel), List.mem_of_getElem? (i := 610) (by decide +kernel), List.mem_of_getElem? (i := 611) (by decide +kernel)⟩
theorem lw_p23 : lw_okq (⟨"PageKeeperModel", "isPlace", "(I)Z"⟩, 32) := ⟨⟨by decide +kernel, by decide +kernel⟩, List.mem_of_getElem? (i := 663) (by decide +kernel), List.mem_of_getElem? (i := 777) (by decide +kernel), List.mem_of_getElem? (i := 778) (by decide +kernel)⟩
theorem lw_p24 : lw_okq (⟨"PageKeeperModel", "fails", "(I)I"⟩, 32) := ⟨⟨by decide +kernel, by decide +kernel⟩, List.mem_of_getElem? (i := 663) (by decide +kernel), List.mem_of_getElem? (i := 784) (by decide +kernel), List.mem_of_getElem? (i := 785) (by decide +kernel)⟩
theorem lw_p25 : lw_okq (⟨"PageKeeperModel", "ready", "(III)I"⟩, 32) := ⟨⟨by decide +kernel, by decide +kernel⟩, List.mem_of_getElem? (i := 663) (by decide +kernel), List.mem_of_getElem? (i := 792) (by decide +kernel), List.mem_of_getElem? (i := 793) (by decide +kernel)⟩
theorem lw_p26 : lw_okq (⟨"PageKeeperModel", "gets", "(III)Z"⟩, 32) := ⟨⟨by decide +kernel, by decide +kernel⟩, List.mem_of_getElem? (i := 663) (by decide +kernel), List.mem_of_getElem? (i := 796) (by decide +kernel), List.mem_of_getElem? (i := 797) (by decide +kernel)⟩
theorem lw_p27 : lw_okq (⟨"PageKeeperModel", "clear", "(I)V"⟩, 32) := ⟨⟨by decide +kernel, by decide +kernel⟩, List.mem_of_getElem? (i := 663) (by decide +kernel), List.mem_of_getElem? (i := 800) (by decide +kernel), List.mem_of_getElem? (i := 801) (by decide +kernel)⟩
theorem lw_p28 : lw_okq (⟨"PageKeeperModel", "isLoser", "(I)Z"⟩, 32) := ⟨⟨by decide +kernel, by decide +kernel⟩, List.mem_of_getElem? (i := 663) (by decide +kernel), List.mem_of_getElem? (i := 804) (by decide +kernel), List.mem_of_getElem? (i := 805) (by decide +kernel)⟩
theorem lw_p29 : lw_okq (⟨"PageKeeperModel", "isOpen", "(I)Z"⟩, 32) := ⟨⟨by decide +kernel, by decide +kernel⟩, List.mem_of_getElem? (i := 663) (by decide +kernel), List.mem_of_getElem? (i := 808) (by decide +kernel), List.mem_of_getElem? (i := 809) (by decide +kernel)⟩
theorem lw_p30 : lw_okq (⟨"PageKeeperModel", "rollBack", "(I)I"⟩, 32) := ⟨⟨by decide +kernel, by decide +kernel⟩, List.mem_of_getElem? (i := 663) (by decide +kernel), List.mem_of_getElem? (i := 812) (by decide +kernel), List.mem_of_getElem? (i := 813) (by decide +kernel)⟩
theorem lw_p31 : lw_okq (⟨"PageKeeperModel", "wasUndone", "(I)Z"⟩, 32) := ⟨⟨by decide +kernel, by decide +kernel⟩, List.mem_of_getElem? (i := 663) (by decide +kernel), List.mem_of_getElem? (i := 816) (by decide +kernel), List.mem_of_getElem? (i := 817) (by decide +kernel)⟩
def lw_privs_2 : List (MethodName × Nat) := [(⟨"PageKeeper", "close", "(I)V"⟩, 12), (⟨"PageKeeper", "replayLog", "()V"⟩, 12), (⟨"PageKeeper", "findLosers", "()V"⟩, 12), (⟨"java/lang/Throwable", "fillInStackTrace", "(I)Ljava/lang/Throwable;"⟩, 6), (⟨"PageKeeper", "isWornOut", "()Z"⟩, 12), (⟨"PageKeeper", "checkOpen", "(I)V"⟩, 12), (⟨"PageKeeper$Locks", "othersHold", "(III)Z"⟩, 2), (⟨"PageKeeperModel", "isPlace", "(I)Z"⟩, 32), (⟨"PageKeeperModel", "fails", "(I)I"⟩, 32), (⟨"PageKeeperModel", "ready", "(III)I"⟩, 32), (⟨"PageKeeperModel", "gets", "(III)Z"⟩, 32), (⟨"PageKeeperModel", "clear", "(I)V"⟩, 32), (⟨"PageKeeperModel", "isLoser", "(I)Z"⟩, 32), (⟨"PageKeeperModel", "isOpen", "(I)Z"⟩, 32), (⟨"PageKeeperModel", "rollBack", "(I)I"⟩, 32), (⟨"PageKeeperModel", "wasUndone", "(I)Z"⟩, 32)]
theorem lw_r2 : ∀ q ∈ lw_privs_2, lw_okq q := List.forall_mem_cons.mpr ⟨lw_p16, List.forall_mem_cons.mpr ⟨lw_p17, List.forall_mem_cons.mpr ⟨lw_p18, List.forall_mem_cons.mpr ⟨lw_p19, List.forall_mem_cons.mpr ⟨lw_p20, List.forall_mem_cons.mpr ⟨lw_p21, List.forall_mem_cons.mpr ⟨lw_p22, List.forall_mem_cons.mpr ⟨lw_p23, List.forall_mem_cons.mpr ⟨lw_p24, List.forall_mem_cons.mpr ⟨lw_p25, List.forall_mem_cons.mpr ⟨lw_p26, List.forall_mem_cons.mpr ⟨lw_p27, List.forall_mem_cons.mpr ⟨lw_p28, List.forall_mem_cons.mpr ⟨lw_p29, List.forall_mem_cons.mpr ⟨lw_p30, List.forall_mem_cons.mpr ⟨lw_p31, fun _ h => absurd h List.not_mem_nil⟩⟩⟩⟩⟩⟩⟩⟩⟩⟩⟩⟩⟩⟩⟩⟩
theorem lw_p32 : lw_okq (⟨"PageKeeperModel", "place", "(III)I"⟩, 32) := ⟨⟨by decide +kernel, by decide +kernel⟩, List.mem_of_getElem? (i := 663) (by decide +kernel), List.mem_of_getElem? (i := 820) (by decide +kernel), List.mem_of_getElem? (i := 821) (by decide +kernel)⟩
theorem lw_p33 : lw_okq (⟨"PageKeeperModel", "down", "(I)I"⟩, 32) := ⟨⟨by decide +kernel, by decide +kernel⟩, List.mem_of_getElem? (i := 663) (by decide +kernel), List.mem_of_getElem? (i := 824) (by decide +kernel), List.mem_of_getElem? (i := 825) (by decide +kernel)⟩
theorem lw_p34 : lw_okq (⟨"PageKeeperModel", "fix", "(I)V"⟩, 32) := ⟨⟨by decide +kernel, by decide +kernel⟩, List.mem_of_getElem? (i := 663) (by decide +kernel), List.mem_of_getElem? (i := 828) (by decide +kernel), List.mem_of_getElem? (i := 829) (by decide +kernel)⟩
theorem lw_p35 : lw_okq (⟨"PageKeeperModel", "room", "()V"⟩, 32) := ⟨⟨by decide +kernel, by decide +kernel⟩, List.mem_of_getElem? (i := 663) (by decide +kernel), List.mem_of_getElem? (i := 832) (by decide +kernel), List.mem_of_getElem? (i := 833) (by decide +kernel)⟩
theorem lw_p36 : lw_okq (⟨"PageKeeperModel", "latest", "(I)I"⟩, 32) := ⟨⟨by decide +kernel, by decide +kernel⟩, List.mem_of_getElem? (i := 663) (by decide +kernel), List.mem_of_getElem? (i := 836) (by decide +kernel), List.mem_of_getElem? (i := 837) (by decide +kernel)⟩
theorem lw_p37 : lw_okq (⟨"PageKeeperModel", "write", "(I)V"⟩, 32) := ⟨⟨by decide +kernel, by decide +kernel⟩, List.mem_of_getElem? (i := 663) (by decide +kernel), List.mem_of_getElem? (i := 840) (by decide +kernel), List.mem_of_getElem? (i := 841) (by decide +kernel)⟩
theorem lw_p38 : lw_okq (⟨"PageKeeperModel", "force", "(I)V"⟩, 32) := ⟨⟨by decide +kernel, by decide +kernel⟩, List.mem_of_getElem? (i := 663) (by decide +kernel), List.mem_of_getElem? (i := 844) (by decide +kernel), List.mem_of_getElem? (i := 845) (by decide +kernel)⟩
theorem lw_p39 : lw_okq (⟨"PageKeeperModel", "look", "(I)V"⟩, 32) := ⟨⟨by decide +kernel, by decide +kernel⟩, List.mem_of_getElem? (i := 663) (by decide +kernel), List.mem_of_getElem? (i := 848) (by decide +kernel), List.mem_of_getElem? (i := 849) (by decide +kernel)⟩
theorem lw_p40 : lw_okq (⟨"PageKeeperModel", "replay", "(I)V"⟩, 32) := ⟨⟨by decide +kernel, by decide +kernel⟩, List.mem_of_getElem? (i := 663) (by decide +kernel), List.mem_of_getElem? (i := 852) (by decide +kernel), List.mem_of_getElem? (i := 853) (by decide +kernel)⟩
theorem lw_p41 : lw_okq (⟨"PageKeeperModel", "replayEntry", "(I)V"⟩, 32) := ⟨⟨by decide +kernel, by decide +kernel⟩, List.mem_of_getElem? (i := 663) (by decide +kernel), List.mem_of_getElem? (i := 856) (by decide +kernel), List.mem_of_getElem? (i := 857) (by decide +kernel)⟩
theorem lw_p42 : lw_okq (⟨"PageKeeperModel", "childFor", "(I)I"⟩, 32) := ⟨⟨by decide +kernel, by decide +kernel⟩, List.mem_of_getElem? (i := 663) (by decide +kernel), List.mem_of_getElem? (i := 860) (by decide +kernel), List.mem_of_getElem? (i := 861) (by decide +kernel)⟩
theorem lw_p43 : lw_okq (⟨"PageKeeperModel", "entry", "(I)I"⟩, 32) := ⟨⟨by decide +kernel, by decide +kernel⟩, List.mem_of_getElem? (i := 663) (by decide +kernel), List.mem_of_getElem? (i := 864) (by decide +kernel), List.mem_of_getElem? (i := 865) (by decide +kernel)⟩
theorem lw_p44 : lw_okq (⟨"PageKeeperModel", "split", "(III)I"⟩, 32) := ⟨⟨by decide +kernel, by decide +kernel⟩, List.mem_of_getElem? (i := 663) (by decide +kernel), List.mem_of_getElem? (i := 868) (by decide +kernel), List.mem_of_getElem? (i := 869) (by decide +kernel)⟩
theorem lw_p45 : lw_okq (⟨"PageKeeperModel", "newPage", "()I"⟩, 32) := ⟨⟨by decide +kernel, by decide +kernel⟩, List.mem_of_getElem? (i := 663) (by decide +kernel), List.mem_of_getElem? (i := 872) (by decide +kernel), List.mem_of_getElem? (i := 873) (by decide +kernel)⟩
theorem lw_p46 : lw_okq (⟨"PageKeeperModel", "format", "(IIII)V"⟩, 32) := ⟨⟨by decide +kernel, by decide +kernel⟩, List.mem_of_getElem? (i := 663) (by decide +kernel), List.mem_of_getElem? (i := 876) (by decide +kernel), List.mem_of_getElem? (i := 877) (by decide +kernel)⟩
theorem lw_p47 : lw_okq (⟨"PageKeeperModel", "append", "(II)I"⟩, 32) := ⟨⟨by decide +kernel, by decide +kernel⟩, List.mem_of_getElem? (i := 663) (by decide +kernel), List.mem_of_getElem? (i := 880) (by decide +kernel), List.mem_of_getElem? (i := 881) (by decide +kernel)⟩
def lw_privs_3 : List (MethodName × Nat) := [(⟨"PageKeeperModel", "place", "(III)I"⟩, 32), (⟨"PageKeeperModel", "down", "(I)I"⟩, 32), (⟨"PageKeeperModel", "fix", "(I)V"⟩, 32), (⟨"PageKeeperModel", "room", "()V"⟩, 32), (⟨"PageKeeperModel", "latest", "(I)I"⟩, 32), (⟨"PageKeeperModel", "write", "(I)V"⟩, 32), (⟨"PageKeeperModel", "force", "(I)V"⟩, 32), (⟨"PageKeeperModel", "look", "(I)V"⟩, 32), (⟨"PageKeeperModel", "replay", "(I)V"⟩, 32), (⟨"PageKeeperModel", "replayEntry", "(I)V"⟩, 32), (⟨"PageKeeperModel", "childFor", "(I)I"⟩, 32), (⟨"PageKeeperModel", "entry", "(I)I"⟩, 32), (⟨"PageKeeperModel", "split", "(III)I"⟩, 32), (⟨"PageKeeperModel", "newPage", "()I"⟩, 32), (⟨"PageKeeperModel", "format", "(IIII)V"⟩, 32), (⟨"PageKeeperModel", "append", "(II)I"⟩, 32)]
theorem lw_r3 : ∀ q ∈ lw_privs_3, lw_okq q := List.forall_mem_cons.mpr ⟨lw_p32, List.forall_mem_cons.mpr ⟨lw_p33, List.forall_mem_cons.mpr ⟨lw_p34, List.forall_mem_cons.mpr ⟨lw_p35, List.forall_mem_cons.mpr ⟨lw_p36, List.forall_mem_cons.mpr ⟨lw_p37, List.forall_mem_cons.mpr ⟨lw_p38, List.forall_mem_cons.mpr ⟨lw_p39, List.forall_mem_cons.mpr ⟨lw_p40, List.forall_mem_cons.mpr ⟨lw_p41, List.forall_mem_cons.mpr ⟨lw_p42, List.forall_mem_cons.mpr ⟨lw_p43, List.forall_mem_cons.mpr ⟨lw_p44, List.forall_mem_cons.mpr ⟨lw_p45, List.forall_mem_cons.mpr ⟨lw_p46, List.forall_mem_cons.mpr ⟨lw_p47, fun _ h => absurd h List.not_mem_nil⟩⟩⟩⟩⟩⟩⟩⟩⟩⟩⟩⟩⟩⟩⟩⟩
theorem lw_p48 : lw_okq (⟨"PageKeeperModel", "formatRoot", "(IIII)V"⟩, 32) := ⟨⟨by decide +kernel, by decide +kernel⟩, List.mem_of_getElem? (i := 663) (by decide +kernel), List.mem_of_getElem? (i := 884) (by decide +kernel), List.mem_of_getElem? (i := 885) (by decide +kernel)⟩
theorem lw_p49 : lw_okq (⟨"PageKeeperModel", "change", "(IIIII)V"⟩, 32) := ⟨⟨by decide +kernel, by decide +kernel⟩, List.mem_of_getElem? (i := 663) (by decide +kernel), List.mem_of_getElem? (i := 888) (by decide +kernel), List.mem_of_getElem? (i := 889) (by decide +kernel)⟩
theorem lw_p50 : lw_okq (⟨"PageKeeperModel", "leave", "(I)V"⟩, 32) := ⟨⟨by decide +kernel, by decide +kernel⟩, List.mem_of_getElem? (i := 663) (by decide +kernel), List.mem_of_getElem? (i := 904) (by decide +kernel), List.mem_of_getElem? (i := 905) (by decide +kernel)⟩
theorem lw_p51 : lw_okq (⟨"PageKeeperModel", "isPage", "(I)Z"⟩, 32) := ⟨⟨by decide +kernel, by decide +kernel⟩, List.mem_of_getElem? (i := 663) (by decide +kernel), List.mem_of_getElem? (i := 920) (by decide +kernel), List.mem_of_getElem? (i := 921) (by decide +kernel)⟩
theorem lw_p52 : lw_okq (⟨"PageKeeperModel", "losers", "()I"⟩, 32) := ⟨⟨by decide +kernel, by decide +kernel⟩, List.mem_of_getElem? (i := 663) (by decide +kernel), List.mem_of_getElem? (i := 936) (by decide +kernel), List.mem_of_getElem? (i := 937) (by decide +kernel)⟩
def lw_privs_4 : List (MethodName × Nat) := [(⟨"PageKeeperModel", "formatRoot", "(IIII)V"⟩, 32), (⟨"PageKeeperModel", "change", "(IIIII)V"⟩, 32), (⟨"PageKeeperModel", "leave", "(I)V"⟩, 32), (⟨"PageKeeperModel", "isPage", "(I)Z"⟩, 32), (⟨"PageKeeperModel", "losers", "()I"⟩, 32)]
theorem lw_r4 : ∀ q ∈ lw_privs_4, lw_okq q := List.forall_mem_cons.mpr ⟨lw_p48, List.forall_mem_cons.mpr ⟨lw_p49, List.forall_mem_cons.mpr ⟨lw_p50, List.forall_mem_cons.mpr ⟨lw_p51, List.forall_mem_cons.mpr ⟨lw_p52, fun _ h => absurd h List.not_mem_nil⟩⟩⟩⟩⟩
def lw_privs : List (MethodName × Nat) := lw_privs_1 ++ (lw_privs_2 ++ (lw_privs_3 ++ (lw_privs_4)))
def lw_tbl : List Cond := k2_sels lw_privs ++ tables_1
theorem lw_privs_ok : ∀ q ∈ lw_privs, lw_okq q := by
  show ∀ q ∈ lw_privs_1 ++ (lw_privs_2 ++ (lw_privs_3 ++ (lw_privs_4))), lw_okq q
  exact List.forall_mem_append.mpr ⟨lw_r1, List.forall_mem_append.mpr ⟨lw_r2, List.forall_mem_append.mpr ⟨lw_r3, lw_r4⟩⟩⟩
-- ===== end of PART A; then your names; then what follows =====
end
section
-- the classes
def zR0 : String := "PageKeeper"
def zT0 : u_T := fun k => match k with
  | 0 => ("PageKeeper", "log", "LPageKeeper$Log;", true)
  | 1 => ("PageKeeper", "pool", "LPageKeeper$Pool;", true)
  | 2 => ("PageKeeper", "locks", "LPageKeeper$Locks;", true)
  | 3 => ("PageKeeper", "pages", "[LPageKeeper$Page;", true)
  | 4 => ("PageKeeper", "pagesMade", "I", false)
  | 5 => ("PageKeeper", "serialAt", "[I", true)
  | 6 => ("PageKeeper", "latestSerial", "I", false)
  | 7 => ("PageKeeper", "growingCalls", "I", false)
  | 8 => ("PageKeeper", "reads", "I", false)
  | 9 => ("PageKeeper", "writes", "I", false)
  | 10 => ("PageKeeper", "redone", "I", false)
  | _ => ("PageKeeper", "repairs", "I", false)
def zty0 : Nat → FieldType := fun k => match k with
  | 0 => (.object "PageKeeper$Log")
  | 1 => (.object "PageKeeper$Pool")
  | 2 => (.object "PageKeeper$Locks")
  | 3 => (.array (.object "PageKeeper$Page"))
  | 4 => .int
  | 5 => (.array .int)
  | 6 => .int
  | 7 => .int
  | 8 => .int
  | 9 => .int
  | 10 => .int
  | _ => .int
theorem znm0 : ∀ a, a < 12 → ∀ b, b < 12 → a ≠ b → (zT0 a).2.1 ≠ (zT0 b).2.1 := by decide +kernel
theorem ztyo0 : ∀ k, k < 12 → parseFieldDescriptor (zT0 k).2.2.1 = some (zty0 k) := by decide +kernel
def zR1 : String := "PageKeeper$Log"
def zT1 : u_T := fun k => match k with
  | 0 => ("PageKeeper$Log", "rows", "[LPageKeeper$LogRow;", true)
  | 1 => ("PageKeeper$Log", "size", "I", false)
  | 2 => ("PageKeeper$Log", "forced", "I", false)
  | _ => ("PageKeeper$Log", "splitLast", "I", false)
def zty1 : Nat → FieldType := fun k => match k with
  | 0 => (.array (.object "PageKeeper$LogRow"))
  | 1 => .int
  | 2 => .int
  | _ => .int
theorem znm1 : ∀ a, a < 4 → ∀ b, b < 4 → a ≠ b → (zT1 a).2.1 ≠ (zT1 b).2.1 := by decide +kernel
theorem ztyo1 : ∀ k, k < 4 → parseFieldDescriptor (zT1 k).2.2.1 = some (zty1 k) := by decide +kernel
def zR2 : String := "PageKeeper$LogRow"
def zT2 : u_T := fun k => match k with
  | 0 => ("PageKeeper$LogRow", "number", "I", false)
  | 1 => ("PageKeeper$LogRow", "kind", "I", false)
  | 2 => ("PageKeeper$LogRow", "page", "I", false)
  | 3 => ("PageKeeper$LogRow", "previous", "I", false)
  | 4 => ("PageKeeper$LogRow", "transaction", "I", false)
  | 5 => ("PageKeeper$LogRow", "undoes", "I", false)
  | 6 => ("PageKeeper$LogRow", "undone", "Z", false)
  | 7 => ("PageKeeper$LogRow", "last", "I", false)
  | 8 => ("PageKeeper$LogRow", "head", "I", false)
  | 9 => ("PageKeeper$LogRow", "tail", "I", false)
  | 10 => ("PageKeeper$LogRow", "nextHead", "I", false)
  | 11 => ("PageKeeper$LogRow", "nextTail", "I", false)
  | 12 => ("PageKeeper$LogRow", "branch", "Z", false)
  | 13 => ("PageKeeper$LogRow", "behind", "I", false)
  | 14 => ("PageKeeper$LogRow", "hadBefore", "Z", false)
  | _ => ("PageKeeper$LogRow", "before", "I", false)
def zty2 : Nat → FieldType := fun k => match k with
  | 0 => .int
  | 1 => .int
  | 2 => .int
  | 3 => .int
  | 4 => .int
  | 5 => .int
  | 6 => .boolean
  | 7 => .int
  | 8 => .int
  | 9 => .int
  | 10 => .int
  | 11 => .int
  | 12 => .boolean
  | 13 => .int
  | 14 => .boolean
  | _ => .int
theorem znm2 : ∀ a, a < 16 → ∀ b, b < 16 → a ≠ b → (zT2 a).2.1 ≠ (zT2 b).2.1 := by decide +kernel
theorem ztyo2 : ∀ k, k < 16 → parseFieldDescriptor (zT2 k).2.2.1 = some (zty2 k) := by decide +kernel
def zR3 : String := "PageKeeper$Pool"
def zT3 : u_T := fun k => match k with
  | 0 => ("PageKeeper$Pool", "order", "[I", true)
  | _ => ("PageKeeper$Pool", "size", "I", false)
def zty3 : Nat → FieldType := fun k => match k with
  | 0 => (.array .int)
  | _ => .int
theorem znm3 : ∀ a, a < 2 → ∀ b, b < 2 → a ≠ b → (zT3 a).2.1 ≠ (zT3 b).2.1 := by decide +kernel
theorem ztyo3 : ∀ k, k < 2 → parseFieldDescriptor (zT3 k).2.2.1 = some (zty3 k) := by decide +kernel
def zR4 : String := "PageKeeper$Locks"
def zT4 : u_T := fun k => match k with
  | 0 => ("PageKeeper$Locks", "held", "[[I", true)
  | _ => ("PageKeeper$Locks", "loserOn", "[I", true)
def zty4 : Nat → FieldType := fun k => match k with
  | 0 => (.array (.array .int))
  | _ => (.array .int)
theorem znm4 : ∀ a, a < 2 → ∀ b, b < 2 → a ≠ b → (zT4 a).2.1 ≠ (zT4 b).2.1 := by decide +kernel
theorem ztyo4 : ∀ k, k < 2 → parseFieldDescriptor (zT4 k).2.2.1 = some (zty4 k) := by decide +kernel
def zR5 : String := "PageKeeper$Page"
def zT5 : u_T := fun k => match k with
  | 0 => ("PageKeeper$Page", "contents", "LPageKeeper$Contents;", true)
  | 1 => ("PageKeeper$Page", "latest", "I", false)
  | 2 => ("PageKeeper$Page", "rows", "I", false)
  | 3 => ("PageKeeper$Page", "imageLsn", "I", false)
  | 4 => ("PageKeeper$Page", "damaged", "Z", false)
  | _ => ("PageKeeper$Page", "backupLsn", "I", false)
def zty5 : Nat → FieldType := fun k => match k with
  | 0 => (.object "PageKeeper$Contents")
  | 1 => .int
  | 2 => .int
  | 3 => .int
  | 4 => .boolean
  | _ => .int
theorem znm5 : ∀ a, a < 6 → ∀ b, b < 6 → a ≠ b → (zT5 a).2.1 ≠ (zT5 b).2.1 := by decide +kernel
theorem ztyo5 : ∀ k, k < 6 → parseFieldDescriptor (zT5 k).2.2.1 = some (zty5 k) := by decide +kernel
def zR6 : String := "PageKeeper$Contents"
def zT6 : u_T := fun k => match k with
  | 0 => ("PageKeeper$Contents", "branch", "Z", false)
  | 1 => ("PageKeeper$Contents", "size", "I", false)
  | 2 => ("PageKeeper$Contents", "heads", "[I", true)
  | _ => ("PageKeeper$Contents", "tails", "[I", true)
def zty6 : Nat → FieldType := fun k => match k with
  | 0 => .boolean
  | 1 => .int
  | 2 => (.array .int)
  | _ => (.array .int)
theorem znm6 : ∀ a, a < 4 → ∀ b, b < 4 → a ≠ b → (zT6 a).2.1 ≠ (zT6 b).2.1 := by decide +kernel
theorem ztyo6 : ∀ k, k < 4 → parseFieldDescriptor (zT6 k).2.2.1 = some (zty6 k) := by decide +kernel
def zR7 : String := "PageKeeperModel"
def zT7 : u_T := fun k => match k with
  | 0 => ("PageKeeperModel", "code", "I", false)
  | 1 => ("PageKeeperModel", "size", "I", false)
  | 2 => ("PageKeeperModel", "forced", "I", false)
  | 3 => ("PageKeeperModel", "kind", "[B", true)
  | 4 => ("PageKeeperModel", "pageOf", "[B", true)
  | 5 => ("PageKeeperModel", "who", "[S", true)
  | 6 => ("PageKeeperModel", "keyOf", "[B", true)
  | 7 => ("PageKeeperModel", "value", "[I", true)
  | 8 => ("PageKeeperModel", "had", "[Z", true)
  | 9 => ("PageKeeperModel", "was", "[I", true)
  | 10 => ("PageKeeperModel", "undoes", "[S", true)
  | 11 => ("PageKeeperModel", "lastOf", "[S", true)
  | 12 => ("PageKeeperModel", "formats", "I", false)
  | 13 => ("PageKeeperModel", "formatted", "[I", true)
  | 14 => ("PageKeeperModel", "pages", "I", false)
  | 15 => ("PageKeeperModel", "fixed", "[I", true)
  | 16 => ("PageKeeperModel", "image", "[I", true)
  | 17 => ("PageKeeperModel", "damaged", "[Z", true)
  | 18 => ("PageKeeperModel", "copy", "[I", true)
  | 19 => ("PageKeeperModel", "clock", "I", false)
  | 20 => ("PageKeeperModel", "reads", "I", false)
  | 21 => ("PageKeeperModel", "writes", "I", false)
  | 22 => ("PageKeeperModel", "redone", "I", false)
  | 23 => ("PageKeeperModel", "repairs", "I", false)
  | 24 => ("PageKeeperModel", "isBranch", "Z", false)
  | 25 => ("PageKeeperModel", "many", "I", false)
  | 26 => ("PageKeeperModel", "left", "[I", true)
  | 27 => ("PageKeeperModel", "right", "[I", true)
  | 28 => ("PageKeeperModel", "serial", "[I", true)
  | 29 => ("PageKeeperModel", "serials", "I", false)
  | 30 => ("PageKeeperModel", "undoing", "I", false)
  | _ => ("PageKeeperModel", "locks", "[B", true)
def zty7 : Nat → FieldType := fun k => match k with
  | 0 => .int
  | 1 => .int
  | 2 => .int
  | 3 => (.array .byte)
  | 4 => (.array .byte)
  | 5 => (.array .short)
  | 6 => (.array .byte)
  | 7 => (.array .int)
  | 8 => (.array .boolean)
  | 9 => (.array .int)
  | 10 => (.array .short)
  | 11 => (.array .short)
  | 12 => .int
  | 13 => (.array .int)
  | 14 => .int
  | 15 => (.array .int)
  | 16 => (.array .int)
  | 17 => (.array .boolean)
  | 18 => (.array .int)
  | 19 => .int
  | 20 => .int
  | 21 => .int
  | 22 => .int
  | 23 => .int
  | 24 => .boolean
  | 25 => .int
  | 26 => (.array .int)
  | 27 => (.array .int)
  | 28 => (.array .int)
  | 29 => .int
  | 30 => .int
  | _ => (.array .byte)
theorem znm7 : ∀ a, a < 32 → ∀ b, b < 32 → a ≠ b → (zT7 a).2.1 ≠ (zT7 b).2.1 := by decide +kernel
theorem ztyo7 : ∀ k, k < 32 → parseFieldDescriptor (zT7 k).2.2.1 = some (zty7 k) := by decide +kernel
abbrev zcl : List vw_C := [(zR0, zT0, 12), (zR1, zT1, 4), (zR2, zT2, 16), (zR3, zT3, 2), (zR4, zT4, 2), (zR5, zT5, 6), (zR6, zT6, 4), (zR7, zT7, 32)]
-- the kinds: 0 PK, 1 Log, 2 rowsA, 3 Row, 4 Pool, 5 order, 6 Locks, 7 heldA, 8 heldR, 9 loserOn, 10 pagesA, 11 Page, 12 Contents, 13 heads, 14 tails, 15 serialAt, 16 Model, 17 kind, 18 pageOf, 19 who, 20 keyOf, 21 value, 22 had, 23 was, 24 undoes, 25 lastOf, 26 formatted, 27 fixed, 28 image, 29 damaged, 30 copy, 31 left, 32 right, 33 serial, 34 locks
def zkindL : List ((Nat × List Nat) ⊕ (Nat × Nat × Nat)) := [.inl (0, [3, 6, 8, 12, 0, 17, 0, 0, 0, 0, 0, 0]), .inl (1, [4, 0, 0, 0]), .inr (4, 7, 1145), .inl (2, [0, 0, 0, 0, 0, 0, 1, 0, 0, 0, 0, 0, 1, 0, 1, 0]), .inl (3, [7, 0]), .inr (0, 0, 6), .inl (4, [9, 11]), .inr (6, 12, 4), .inr (0, 0, 40), .inr (0, 0, 40), .inr (5, 15, 40), .inl (5, [14, 0, 0, 0, 1, 0]), .inl (6, [1, 0, 15, 16]), .inr (0, 0, 4), .inr (0, 0, 4), .inr (0, 0, 4), .inl (7, [0, 0, 0, 19, 20, 21, 22, 23, 24, 25, 26, 27, 0, 28, 0, 29, 30, 31, 32, 0, 0, 0, 0, 0, 1, 0, 33, 34, 35, 0, 0, 36]), .inr (1, 1, 1300), .inr (1, 1, 1300), .inr (2, 2, 1300), .inr (1, 1, 1300), .inr (0, 0, 1300), .inr (3, 3, 1300), .inr (0, 0, 1300), .inr (2, 2, 1300), .inr (2, 2, 1300), .inr (0, 0, 1000), .inr (0, 0, 48), .inr (0, 0, 48), .inr (3, 3, 48), .inr (0, 0, 48), .inr (0, 0, 6), .inr (0, 0, 6), .inr (0, 0, 4), .inr (1, 1, 160)]
def zkind (k : Nat) : (Nat × List Nat) ⊕ (Nat × Nat × Nat) := zkindL.getD k (.inr (9, 99, 0))
def zcnt (k : Nat) : Nat := bif Nat.beq k 8 then 4 else bif Nat.ble 11 k && Nat.ble k 14 then 40 else bif Nat.ble 35 k then 0 else 1
-- resolved fields, calls and makings, by the class that owns the pool: (entry, ..)
def zfldL : List (List (Nat × Nat × Nat)) := [[(12, 0, 0), (19, 0, 1), (26, 0, 2), (32, 0, 3), (36, 0, 4), (40, 0, 5), (44, 0, 6), (47, 0, 7), (50, 0, 8), (53, 0, 9), (56, 0, 10), (59, 0, 11), (81, 4, 1), (94, 5, 0), (106, 6, 3), (120, 1, 0), (124, 2, 15), (133, 2, 0), (158, 5, 1), (161, 5, 5), (164, 5, 4), (187, 5, 3), (190, 5, 2), (192, 6, 0), (195, 6, 1), (204, 1, 1), (205, 1, 2), (208, 2, 1), (211, 2, 2), (214, 2, 3), (217, 2, 4), (220, 2, 5), (229, 4, 0), (242, 2, 14), (245, 2, 8), (258, 2, 9), (303, 2, 13), (315, 2, 6)], [(11, 1, 0), (17, 1, 1), (21, 1, 2), (24, 1, 3), (28, 2, 0), (31, 2, 1), (34, 2, 2), (37, 2, 3), (40, 2, 4), (43, 2, 5), (46, 2, 6), (50, 2, 7)], [(9, 6, 0), (15, 2, 12), (18, 6, 2), (22, 2, 8), (26, 6, 3), (29, 2, 9), (32, 2, 10), (35, 2, 11), (38, 2, 13), (41, 2, 1), (48, 2, 5), (51, 2, 6)], [(9, 3, 0), (15, 3, 1)], [(11, 4, 0), (16, 4, 1)], [(12, 5, 0), (18, 5, 1), (22, 5, 2), (25, 5, 3), (28, 5, 4), (32, 5, 5)], [(9, 6, 0), (15, 6, 1), (19, 6, 2), (23, 6, 3), (26, 2, 12), (29, 2, 8), (32, 2, 9), (35, 2, 10), (38, 2, 11)], [(7, 7, 3), (13, 7, 4), (16, 7, 5), (20, 7, 6), (23, 7, 7), (27, 7, 8), (31, 7, 9), (34, 7, 10), (37, 7, 11), (40, 7, 13), (43, 7, 14), (47, 7, 15), (50, 7, 16), (53, 7, 17), (56, 7, 18), (59, 7, 26), (62, 7, 27), (65, 7, 28), (68, 7, 31), (71, 7, 0), (74, 7, 1), (77, 7, 24), (81, 7, 25), (91, 7, 2), (101, 7, 21), (110, 7, 20), (113, 7, 23), (116, 7, 22), (119, 7, 19), (126, 7, 12), (152, 7, 30), (180, 7, 29)]]
def zcalL : List (List (Nat × Nat × Nat)) := [[(63, 19, 1), (70, 22, 1), (74, 20, 2), (78, 21, 2), (84, 24, 2), (88, 54, 3), (91, 28, 2), (98, 68, 2), (109, 55, 3), (112, 25, 5), (116, 26, 4), (129, 39, 5), (136, 41, 2), (139, 23, 2), (142, 60, 2), (145, 18, 2), (149, 48, 2), (152, 36, 2), (155, 33, 2), (168, 42, 1), (171, 53, 1), (174, 37, 1), (177, 63, 1), (180, 38, 1), (183, 61, 1), (198, 66, 2), (201, 67, 2), (223, 16, 1), (226, 17, 1), (236, 57, 2), (239, 47, 1), (248, 59, 2), (251, 29, 2), (254, 27, 6), (261, 32, 2), (265, 69, 2), (268, 30, 2), (271, 31, 4), (274, 70, 1), (277, 40, 1), (280, 34, 2), (283, 43, 3), (287, 44, 4), (291, 45, 4), (294, 71, 3), (297, 72, 2), (300, 65, 2), (306, 73, 4), (309, 999, 2), (318, 50, 2), (321, 35, 2), (324, 51, 2), (327, 62, 1), (330, 58, 1), (333, 46, 1)], [], [(44, 46, 1)], [(19, 49, 2), (23, 52, 2)], [(20, 56, 4), (27, 60, 2)], [(35, 64, 1)], [(41, 74, 2), (45, 68, 2)], [(84, 80, 2), (88, 81, 2), (94, 78, 2), (98, 83, 2), (104, 84, 2), (107, 85, 1), (122, 88, 3), (129, 86, 2), (132, 87, 1), (136, 89, 5), (140, 90, 5), (143, 79, 2), (146, 92, 2), (149, 82, 2), (155, 93, 2), (158, 91, 4), (162, 94, 6), (166, 77, 3), (170, 97, 2), (174, 99, 2), (177, 95, 4), (183, 98, 2), (186, 100, 2), (189, 101, 2), (192, 96, 2), (195, 76, 2), (198, 102, 4), (201, 105, 4), (204, 103, 2), (207, 112, 2), (210, 117, 1)]]
def znewL : List (List (Nat × Nat)) := [[(67, 3), (103, 4), (233, 2)], [(9, 0)], [], [], [(24, 3)], [], [], []]
def zlook {α : Type} : List (Nat × α) → Nat → Option α
  | [], _ => none
  | q :: r, k => bif Nat.beq q.1 k then some q.2 else zlook r k
def zfld (own k : Nat) : Option (Nat × Nat) := zlook (zfldL.getD own []) k
def zcal (own k : Nat) : Option (Nat × Nat) := zlook (zcalL.getD own []) k
def znew (own k : Nat) : Option Nat := zlook (znewL.getD own []) k
-- the methods: 0 PageKeeper.begin, 1 PageKeeper.get, 2 PageKeeper.put, 3 PageKeeper.remove, 4 PageKeeper.commit, 5 PageKeeper.abort, 6 PageKeeper.settle, 7 PageKeeper.flush, 8 PageKeeper.backup, 9 PageKeeper.damage, 10 PageKeeper.crash, 11 PageKeeper.page, 12 PageKeeper.show, 13 PageKeeper.count, 14 PageKeeper.record, 15 PageKeeper.lock, 16 PageKeeper.isPlace, 17 PageKeeper.isKey, 18 PageKeeper.isMade, 19 PageKeeper.checkPlace, 20 PageKeeper.checkPlaceAndKey, 21 PageKeeper.checkOpen, 22 PageKeeper.isWornOut, 23 PageKeeper.close, 24 PageKeeper.rollBack, 25 PageKeeper.putValue, 26 PageKeeper.takeOut, 27 PageKeeper.addChange, 28 PageKeeper.goDown, 29 PageKeeper.goDownSplitting, 30 PageKeeper.splitRoot, 31 PageKeeper.splitBelow, 32 PageKeeper.enforce, 33 PageKeeper.fix, 34 PageKeeper.fixNew, 35 PageKeeper.read, 36 PageKeeper.writeIfNewer, 37 PageKeeper.replayLog, 38 PageKeeper.findLosers, 39 Log.add, 40 Log.startSplit, 41 Log.force, 42 Log.loseUnforced, 43 LogRow.bringHalf, 44 LogRow.bringBranch, 45 LogRow.bringChild, 46 LogRow.isChange, 47 LogRow.isToUndo, 48 Pool.has, 49 Pool.indexOf, 50 Pool.leavingFor, 51 Pool.touch, 52 Pool.dropAt, 53 Pool.clear, 54 Locks.takeShared, 55 Locks.takeOwn, 56 Locks.othersHold, 57 Locks.release, 58 Locks.clearLosers, 59 Locks.releaseLoser, 60 Locks.leastLoserAbove, 61 Locks.countLosers, 62 Page.forgetLogged, 63 Page.forgetStored, 64 Contents.becomeEmptyLeaf, 65 Contents.becomeWhatBrings, 66 Contents.headAt, 67 Contents.tailAt, 68 Contents.indexOf, 69 Contents.childFor, 70 Contents.middleKey, 71 Contents.enter, 72 Contents.drop, 73 Contents.link, 74 Contents.shiftUp, 75 PageKeeperModel.thrown, 76 PageKeeperModel.fails, 77 PageKeeperModel.in, 78 PageKeeperModel.latest, 79 PageKeeperModel.look, 80 PageKeeperModel.replay, 81 PageKeeperModel.replayEntry, 82 PageKeeperModel.entry, 83 PageKeeperModel.force, 84 PageKeeperModel.write, 85 PageKeeperModel.room, 86 PageKeeperModel.fix, 87 PageKeeperModel.newPage, 88 PageKeeperModel.append, 89 PageKeeperModel.format, 90 PageKeeperModel.formatRoot, 91 PageKeeperModel.split, 92 PageKeeperModel.childFor, 93 PageKeeperModel.down, 94 PageKeeperModel.change, 95 PageKeeperModel.place, 96 PageKeeperModel.isPlace, 97 PageKeeperModel.isOpen, 98 PageKeeperModel.isLoser, 99 PageKeeperModel.wasUndone, 100 PageKeeperModel.rollBack, 101 PageKeeperModel.clear, 102 PageKeeperModel.gets, 103 PageKeeperModel.leave, 104 PageKeeperModel.begin, 105 PageKeeperModel.ready, 106 PageKeeperModel.get, 107 PageKeeperModel.put, 108 PageKeeperModel.remove, 109 PageKeeperModel.commit, 110 PageKeeperModel.abort, 111 PageKeeperModel.settle, 112 PageKeeperModel.isPage, 113 PageKeeperModel.flush, 114 PageKeeperModel.backup, 115 PageKeeperModel.damage, 116 PageKeeperModel.crash, 117 PageKeeperModel.losers, 118 PageKeeperModel.page, 119 PageKeeperModel.show, 120 PageKeeperModel.count, 121 PageKeeperModel.record, 122 PageKeeperModel.lock
def zi0 : List (Nat × (Instr × Nat)) := [(0, (.iload_n 1, 1)), (1, (.invokestatic 63, 3)), (4, (.aload_n 0, 1)), (5, (.getfield 40, 3)), (8, (.iload_n 1, 1)), (9, (.iaload, 1)), (10, (.ifCond .eq 11, 3)), (13, (.new 67, 3)), (16, (.dup, 1)), (17, (.invokespecial 69, 3)), (20, (.athrow, 1)), (21, (.aload_n 0, 1)), (22, (.invokevirtual 70, 3)), (25, (.ifCond .eq 5, 3)), (28, (.iconst (-1), 1)), (29, (.ireturn, 1)), (30, (.aload_n 0, 1)), (31, (.dup, 1)), (32, (.getfield 44, 3)), (35, (.iconst 1, 1)), (36, (.iadd, 1)), (37, (.putfield 44, 3)), (40, (.aload_n 0, 1)), (41, (.getfield 40, 3)), (44, (.iload_n 1, 1)), (45, (.aload_n 0, 1)), (46, (.getfield 44, 3)), (49, (.iastore, 1)), (50, (.aload_n 0, 1)), (51, (.getfield 44, 3)), (54, (.ireturn, 1))]
def zi1 : List (Nat × (Instr × Nat)) := [(0, (.iload_n 1, 1)), (1, (.iload_n 2, 1)), (2, (.invokestatic 74, 3)), (5, (.aload_n 0, 1)), (6, (.iload_n 1, 1)), (7, (.invokevirtual 78, 3)), (10, (.aload_n 0, 1)), (11, (.getfield 26, 3)), (14, (.getfield 81, 3)), (17, (.iload_n 2, 1)), (18, (.iaload, 1)), (19, (.ifCond .eq 17, 3)), (22, (.aload_n 0, 1)), (23, (.aload_n 0, 1)), (24, (.getfield 26, 3)), (27, (.getfield 81, 3)), (30, (.iload_n 2, 1)), (31, (.iaload, 1)), (32, (.invokevirtual 84, 3)), (35, (.pop, 1)), (36, (.aload_n 0, 1)), (37, (.getfield 26, 3)), (40, (.iload_n 1, 1)), (41, (.iload_n 2, 1)), (42, (.invokevirtual 88, 3)), (45, (.aload_n 0, 1)), (46, (.getfield 32, 3)), (49, (.aload_n 0, 1)), (50, (.iload_n 2, 1)), (51, (.invokevirtual 91, 3)), (54, (.aaload, 1)), (55, (.getfield 94, 3)), (58, (.astore_n 3, 1)), (59, (.aload_n 3, 1)), (60, (.iload_n 2, 1)), (61, (.invokevirtual 98, 3)), (64, (.istore 4, 2)), (66, (.iload 4, 2)), (68, (.iconst (-1), 1)), (69, (.if_icmp .ne 11, 3)), (72, (.new 103, 3)), (75, (.dup, 1)), (76, (.invokespecial 105, 3)), (79, (.athrow, 1)), (80, (.aload_n 3, 1)), (81, (.getfield 106, 3)), (84, (.iload 4, 2)), (86, (.iaload, 1)), (87, (.ireturn, 1))]
def zi2 : List (Nat × (Instr × Nat)) := [(0, (.iload_n 1, 1)), (1, (.iload_n 2, 1)), (2, (.invokestatic 74, 3)), (5, (.aload_n 0, 1)), (6, (.iload_n 1, 1)), (7, (.invokevirtual 78, 3)), (10, (.aload_n 0, 1)), (11, (.getfield 26, 3)), (14, (.getfield 81, 3)), (17, (.iload_n 2, 1)), (18, (.iaload, 1)), (19, (.ifCond .eq 17, 3)), (22, (.aload_n 0, 1)), (23, (.aload_n 0, 1)), (24, (.getfield 26, 3)), (27, (.getfield 81, 3)), (30, (.iload_n 2, 1)), (31, (.iaload, 1)), (32, (.invokevirtual 84, 3)), (35, (.pop, 1)), (36, (.aload_n 0, 1)), (37, (.getfield 26, 3)), (40, (.iload_n 1, 1)), (41, (.iload_n 2, 1)), (42, (.invokevirtual 109, 3)), (45, (.aload_n 0, 1)), (46, (.invokevirtual 70, 3)), (49, (.ifCond .eq 5, 3)), (52, (.iconst (-1), 1)), (53, (.ireturn, 1)), (54, (.aload_n 0, 1)), (55, (.aload_n 0, 1)), (56, (.getfield 40, 3)), (59, (.iload_n 1, 1)), (60, (.iaload, 1)), (61, (.iload_n 2, 1)), (62, (.iload_n 3, 1)), (63, (.iconst 0, 1)), (64, (.invokevirtual 112, 3)), (67, (.ireturn, 1))]
def zi3 : List (Nat × (Instr × Nat)) := [(0, (.iload_n 1, 1)), (1, (.iload_n 2, 1)), (2, (.invokestatic 74, 3)), (5, (.aload_n 0, 1)), (6, (.iload_n 1, 1)), (7, (.invokevirtual 78, 3)), (10, (.aload_n 0, 1)), (11, (.getfield 26, 3)), (14, (.getfield 81, 3)), (17, (.iload_n 2, 1)), (18, (.iaload, 1)), (19, (.ifCond .eq 17, 3)), (22, (.aload_n 0, 1)), (23, (.aload_n 0, 1)), (24, (.getfield 26, 3)), (27, (.getfield 81, 3)), (30, (.iload_n 2, 1)), (31, (.iaload, 1)), (32, (.invokevirtual 84, 3)), (35, (.pop, 1)), (36, (.aload_n 0, 1)), (37, (.getfield 26, 3)), (40, (.iload_n 1, 1)), (41, (.iload_n 2, 1)), (42, (.invokevirtual 109, 3)), (45, (.aload_n 0, 1)), (46, (.invokevirtual 70, 3)), (49, (.ifCond .eq 5, 3)), (52, (.iconst (-1), 1)), (53, (.ireturn, 1)), (54, (.aload_n 0, 1)), (55, (.aload_n 0, 1)), (56, (.getfield 40, 3)), (59, (.iload_n 1, 1)), (60, (.iaload, 1)), (61, (.iload_n 2, 1)), (62, (.iconst 0, 1)), (63, (.invokevirtual 116, 3)), (66, (.istore_n 3, 1)), (67, (.iload_n 3, 1)), (68, (.ifCond .ne 11, 3)), (71, (.new 103, 3)), (74, (.dup, 1)), (75, (.invokespecial 105, 3)), (78, (.athrow, 1)), (79, (.aload_n 0, 1)), (80, (.getfield 12, 3)), (83, (.getfield 120, 3)), (86, (.iload_n 3, 1)), (87, (.aaload, 1)), (88, (.getfield 124, 3)), (91, (.ireturn, 1))]
def zi4 : List (Nat × (Instr × Nat)) := [(0, (.iload_n 1, 1)), (1, (.invokestatic 63, 3)), (4, (.aload_n 0, 1)), (5, (.iload_n 1, 1)), (6, (.invokevirtual 78, 3)), (9, (.aload_n 0, 1)), (10, (.getfield 12, 3)), (13, (.bipush 6, 2)), (15, (.iconst (-1), 1)), (16, (.iconst (-1), 1)), (17, (.aload_n 0, 1)), (18, (.getfield 40, 3)), (21, (.iload_n 1, 1)), (22, (.iaload, 1)), (23, (.invokevirtual 129, 3)), (26, (.astore_n 2, 1)), (27, (.aload_n 0, 1)), (28, (.getfield 12, 3)), (31, (.aload_n 2, 1)), (32, (.getfield 133, 3)), (35, (.invokevirtual 136, 3)), (38, (.aload_n 0, 1)), (39, (.iload_n 1, 1)), (40, (.invokevirtual 139, 3)), (43, (.aload_n 2, 1)), (44, (.getfield 133, 3)), (47, (.ireturn, 1))]
def zi5 : List (Nat × (Instr × Nat)) := [(0, (.iload_n 1, 1)), (1, (.invokestatic 63, 3)), (4, (.aload_n 0, 1)), (5, (.iload_n 1, 1)), (6, (.invokevirtual 78, 3)), (9, (.aload_n 0, 1)), (10, (.aload_n 0, 1)), (11, (.getfield 40, 3)), (14, (.iload_n 1, 1)), (15, (.iaload, 1)), (16, (.invokevirtual 84, 3)), (19, (.istore_n 2, 1)), (20, (.aload_n 0, 1)), (21, (.iload_n 1, 1)), (22, (.invokevirtual 139, 3)), (25, (.iload_n 2, 1)), (26, (.ireturn, 1))]
def zi6 : List (Nat × (Instr × Nat)) := [(0, (.iconst 0, 1)), (1, (.istore_n 1, 1)), (2, (.iconst 0, 1)), (3, (.istore_n 2, 1)), (4, (.iload_n 2, 1)), (5, (.bipush 40, 2)), (7, (.if_icmp .ge 34, 3)), (10, (.aload_n 0, 1)), (11, (.getfield 26, 3)), (14, (.iconst 0, 1)), (15, (.invokevirtual 142, 3)), (18, (.istore_n 3, 1)), (19, (.iload_n 3, 1)), (20, (.ifCond .ne 6, 3)), (23, (.goto 18, 3)), (26, (.aload_n 0, 1)), (27, (.iload_n 3, 1)), (28, (.invokevirtual 84, 3)), (31, (.pop, 1)), (32, (.iinc 1 1, 3)), (35, (.iinc 2 1, 3)), (38, (.goto (-34), 3)), (41, (.iload_n 1, 1)), (42, (.ireturn, 1))]
def zi7 : List (Nat × (Instr × Nat)) := [(0, (.aload_n 0, 1)), (1, (.iload_n 1, 1)), (2, (.invokevirtual 145, 3)), (5, (.ifCond .eq 26, 3)), (8, (.aload_n 0, 1)), (9, (.getfield 19, 3)), (12, (.iload_n 1, 1)), (13, (.invokevirtual 149, 3)), (16, (.ifCond .eq 15, 3)), (19, (.aload_n 0, 1)), (20, (.iload_n 1, 1)), (21, (.invokevirtual 152, 3)), (24, (.ifCond .eq 7, 3)), (27, (.iconst 1, 1)), (28, (.goto 4, 3)), (31, (.iconst 0, 1)), (32, (.ireturn, 1))]
def zi8 : List (Nat × (Instr × Nat)) := [(0, (.aload_n 0, 1)), (1, (.iload_n 1, 1)), (2, (.invokevirtual 145, 3)), (5, (.ifCond .ne 5, 3)), (8, (.iconst 0, 1)), (9, (.ireturn, 1)), (10, (.aload_n 0, 1)), (11, (.iload_n 1, 1)), (12, (.invokevirtual 155, 3)), (15, (.aload_n 0, 1)), (16, (.getfield 12, 3)), (19, (.aload_n 0, 1)), (20, (.getfield 32, 3)), (23, (.iload_n 1, 1)), (24, (.aaload, 1)), (25, (.getfield 158, 3)), (28, (.invokevirtual 136, 3)), (31, (.aload_n 0, 1)), (32, (.getfield 32, 3)), (35, (.iload_n 1, 1)), (36, (.aaload, 1)), (37, (.aload_n 0, 1)), (38, (.getfield 32, 3)), (41, (.iload_n 1, 1)), (42, (.aaload, 1)), (43, (.getfield 158, 3)), (46, (.putfield 161, 3)), (49, (.iconst 1, 1)), (50, (.ireturn, 1))]
def zi9 : List (Nat × (Instr × Nat)) := [(0, (.aload_n 0, 1)), (1, (.iload_n 1, 1)), (2, (.invokevirtual 145, 3)), (5, (.ifCond .eq 15, 3)), (8, (.aload_n 0, 1)), (9, (.getfield 32, 3)), (12, (.iload_n 1, 1)), (13, (.aaload, 1)), (14, (.getfield 164, 3)), (17, (.ifCond .eq 5, 3)), (20, (.iconst 0, 1)), (21, (.ireturn, 1)), (22, (.aload_n 0, 1)), (23, (.getfield 32, 3)), (26, (.iload_n 1, 1)), (27, (.aaload, 1)), (28, (.iconst 1, 1)), (29, (.putfield 164, 3)), (32, (.iconst 1, 1)), (33, (.ireturn, 1))]
def zi10 : List (Nat × (Instr × Nat)) := [(0, (.aload_n 0, 1)), (1, (.getfield 12, 3)), (4, (.invokevirtual 168, 3)), (7, (.aload_n 0, 1)), (8, (.getfield 19, 3)), (11, (.invokevirtual 171, 3)), (14, (.iconst 0, 1)), (15, (.istore_n 1, 1)), (16, (.iload_n 1, 1)), (17, (.iconst 4, 1)), (18, (.if_icmp .ge 14, 3)), (21, (.aload_n 0, 1)), (22, (.iload_n 1, 1)), (23, (.invokevirtual 139, 3)), (26, (.iinc 1 1, 3)), (29, (.goto (-13), 3)), (32, (.aload_n 0, 1)), (33, (.invokevirtual 174, 3)), (36, (.aload_n 0, 1)), (37, (.getfield 36, 3)), (40, (.istore_n 1, 1)), (41, (.iload_n 1, 1)), (42, (.bipush 40, 2)), (44, (.if_icmp .ge 18, 3)), (47, (.aload_n 0, 1)), (48, (.getfield 32, 3)), (51, (.iload_n 1, 1)), (52, (.aaload, 1)), (53, (.invokevirtual 177, 3)), (56, (.iinc 1 1, 3)), (59, (.goto (-18), 3)), (62, (.aload_n 0, 1)), (63, (.invokevirtual 180, 3)), (66, (.aload_n 0, 1)), (67, (.getfield 26, 3)), (70, (.invokevirtual 183, 3)), (73, (.ireturn, 1))]
def zi11 : List (Nat × (Instr × Nat)) := [(0, (.aload_n 0, 1)), (1, (.iload_n 1, 1)), (2, (.invokevirtual 145, 3)), (5, (.ifCond .ne 5, 3)), (8, (.iconst (-1), 1)), (9, (.ireturn, 1)), (10, (.aload_n 0, 1)), (11, (.getfield 32, 3)), (14, (.iload_n 1, 1)), (15, (.aaload, 1)), (16, (.astore_n 3, 1)), (17, (.iload_n 2, 1)), (18, (.tableswitch 88 0 5 #[38, 55, 60, 65, 78, 83], 38)), (56, (.aload_n 0, 1)), (57, (.getfield 19, 3)), (60, (.iload_n 1, 1)), (61, (.invokevirtual 149, 3)), (64, (.ifCond .eq 7, 3)), (67, (.iconst 1, 1)), (68, (.goto 4, 3)), (71, (.iconst 0, 1)), (72, (.ireturn, 1)), (73, (.aload_n 3, 1)), (74, (.getfield 187, 3)), (77, (.ireturn, 1)), (78, (.aload_n 3, 1)), (79, (.getfield 161, 3)), (82, (.ireturn, 1)), (83, (.aload_n 3, 1)), (84, (.getfield 164, 3)), (87, (.ifCond .eq 7, 3)), (90, (.iconst 1, 1)), (91, (.goto 4, 3)), (94, (.iconst 0, 1)), (95, (.ireturn, 1)), (96, (.aload_n 3, 1)), (97, (.getfield 158, 3)), (100, (.ireturn, 1)), (101, (.aload_n 3, 1)), (102, (.getfield 190, 3)), (105, (.ireturn, 1)), (106, (.iconst (-1), 1)), (107, (.ireturn, 1))]
def zi12 : List (Nat × (Instr × Nat)) := [(0, (.aload_n 0, 1)), (1, (.iload_n 1, 1)), (2, (.invokevirtual 145, 3)), (5, (.ifCond .eq 7, 3)), (8, (.iload_n 2, 1)), (9, (.ifCond .ge 5, 3)), (12, (.iconst (-1), 1)), (13, (.ireturn, 1)), (14, (.aload_n 0, 1)), (15, (.getfield 32, 3)), (18, (.iload_n 1, 1)), (19, (.aaload, 1)), (20, (.getfield 94, 3)), (23, (.astore_n 3, 1)), (24, (.iload_n 2, 1)), (25, (.ifCond .ne 16, 3)), (28, (.aload_n 3, 1)), (29, (.getfield 192, 3)), (32, (.ifCond .eq 7, 3)), (35, (.iconst 1, 1)), (36, (.goto 4, 3)), (39, (.iconst 0, 1)), (40, (.ireturn, 1)), (41, (.iload_n 2, 1)), (42, (.iconst 1, 1)), (43, (.if_icmp .ne 8, 3)), (46, (.aload_n 3, 1)), (47, (.getfield 195, 3)), (50, (.ireturn, 1)), (51, (.iload_n 2, 1)), (52, (.bipush 6, 2)), (54, (.if_icmp .ge 13, 3)), (57, (.aload_n 3, 1)), (58, (.iload_n 2, 1)), (59, (.iconst 2, 1)), (60, (.isub, 1)), (61, (.invokevirtual 198, 3)), (64, (.goto 12, 3)), (67, (.aload_n 3, 1)), (68, (.iload_n 2, 1)), (69, (.iconst 2, 1)), (70, (.isub, 1)), (71, (.iconst 4, 1)), (72, (.isub, 1)), (73, (.invokevirtual 201, 3)), (76, (.ireturn, 1))]
def zi13 : List (Nat × (Instr × Nat)) := [(0, (.iload_n 1, 1)), (1, (.tableswitch 105 0 8 #[51, 56, 64, 72, 77, 82, 87, 92, 100], 51)), (52, (.aload_n 0, 1)), (53, (.getfield 36, 3)), (56, (.ireturn, 1)), (57, (.aload_n 0, 1)), (58, (.getfield 12, 3)), (61, (.getfield 204, 3)), (64, (.ireturn, 1)), (65, (.aload_n 0, 1)), (66, (.getfield 12, 3)), (69, (.getfield 205, 3)), (72, (.ireturn, 1)), (73, (.aload_n 0, 1)), (74, (.getfield 50, 3)), (77, (.ireturn, 1)), (78, (.aload_n 0, 1)), (79, (.getfield 53, 3)), (82, (.ireturn, 1)), (83, (.aload_n 0, 1)), (84, (.getfield 56, 3)), (87, (.ireturn, 1)), (88, (.aload_n 0, 1)), (89, (.getfield 59, 3)), (92, (.ireturn, 1)), (93, (.aload_n 0, 1)), (94, (.getfield 26, 3)), (97, (.invokevirtual 183, 3)), (100, (.ireturn, 1)), (101, (.aload_n 0, 1)), (102, (.getfield 44, 3)), (105, (.ireturn, 1)), (106, (.iconst (-1), 1)), (107, (.ireturn, 1))]
def zi14 : List (Nat × (Instr × Nat)) := [(0, (.iload_n 1, 1)), (1, (.iconst 1, 1)), (2, (.if_icmp .lt 14, 3)), (5, (.iload_n 1, 1)), (6, (.aload_n 0, 1)), (7, (.getfield 12, 3)), (10, (.getfield 204, 3)), (13, (.if_icmp .le 5, 3)), (16, (.iconst (-1), 1)), (17, (.ireturn, 1)), (18, (.aload_n 0, 1)), (19, (.getfield 12, 3)), (22, (.getfield 120, 3)), (25, (.iload_n 1, 1)), (26, (.aaload, 1)), (27, (.astore_n 3, 1)), (28, (.iload_n 2, 1)), (29, (.tableswitch 60 0 4 #[35, 40, 45, 50, 55], 35)), (64, (.aload_n 3, 1)), (65, (.getfield 208, 3)), (68, (.ireturn, 1)), (69, (.aload_n 3, 1)), (70, (.getfield 211, 3)), (73, (.ireturn, 1)), (74, (.aload_n 3, 1)), (75, (.getfield 214, 3)), (78, (.ireturn, 1)), (79, (.aload_n 3, 1)), (80, (.getfield 217, 3)), (83, (.ireturn, 1)), (84, (.aload_n 3, 1)), (85, (.getfield 220, 3)), (88, (.ireturn, 1)), (89, (.iconst (-1), 1)), (90, (.ireturn, 1))]
def zi15 : List (Nat × (Instr × Nat)) := [(0, (.iload_n 1, 1)), (1, (.invokestatic 223, 3)), (4, (.ifCond .eq 19, 3)), (7, (.iload_n 2, 1)), (8, (.invokestatic 226, 3)), (11, (.ifCond .eq 12, 3)), (14, (.aload_n 0, 1)), (15, (.getfield 40, 3)), (18, (.iload_n 1, 1)), (19, (.iaload, 1)), (20, (.ifCond .ne 5, 3)), (23, (.iconst (-1), 1)), (24, (.ireturn, 1)), (25, (.aload_n 0, 1)), (26, (.getfield 26, 3)), (29, (.getfield 229, 3)), (32, (.iload_n 1, 1)), (33, (.aaload, 1)), (34, (.iload_n 2, 1)), (35, (.iaload, 1)), (36, (.ireturn, 1))]
def zi16 : List (Nat × (Instr × Nat)) := [(0, (.iload_n 0, 1)), (1, (.ifCond .lt 12, 3)), (4, (.iload_n 0, 1)), (5, (.iconst 4, 1)), (6, (.if_icmp .ge 7, 3)), (9, (.iconst 1, 1)), (10, (.goto 4, 3)), (13, (.iconst 0, 1)), (14, (.ireturn, 1))]
def zi17 : List (Nat × (Instr × Nat)) := [(0, (.iload_n 0, 1)), (1, (.ifCond .lt 13, 3)), (4, (.iload_n 0, 1)), (5, (.bipush 40, 2)), (7, (.if_icmp .ge 7, 3)), (10, (.iconst 1, 1)), (11, (.goto 4, 3)), (14, (.iconst 0, 1)), (15, (.ireturn, 1))]
def zi18 : List (Nat × (Instr × Nat)) := [(0, (.iload_n 1, 1)), (1, (.ifCond .lt 15, 3)), (4, (.iload_n 1, 1)), (5, (.aload_n 0, 1)), (6, (.getfield 36, 3)), (9, (.if_icmp .ge 7, 3)), (12, (.iconst 1, 1)), (13, (.goto 4, 3)), (16, (.iconst 0, 1)), (17, (.ireturn, 1))]
def zi19 : List (Nat × (Instr × Nat)) := [(0, (.iload_n 0, 1)), (1, (.invokestatic 223, 3)), (4, (.ifCond .ne 11, 3)), (7, (.new 233, 3)), (10, (.dup, 1)), (11, (.invokespecial 235, 3)), (14, (.athrow, 1)), (15, (.return_, 1))]
def zi20 : List (Nat × (Instr × Nat)) := [(0, (.iload_n 0, 1)), (1, (.invokestatic 223, 3)), (4, (.ifCond .eq 10, 3)), (7, (.iload_n 1, 1)), (8, (.invokestatic 226, 3)), (11, (.ifCond .ne 11, 3)), (14, (.new 233, 3)), (17, (.dup, 1)), (18, (.invokespecial 235, 3)), (21, (.athrow, 1)), (22, (.return_, 1))]
def zi21 : List (Nat × (Instr × Nat)) := [(0, (.aload_n 0, 1)), (1, (.getfield 40, 3)), (4, (.iload_n 1, 1)), (5, (.iaload, 1)), (6, (.ifCond .ne 11, 3)), (9, (.new 67, 3)), (12, (.dup, 1)), (13, (.invokespecial 69, 3)), (16, (.athrow, 1)), (17, (.return_, 1))]
def zi22 : List (Nat × (Instr × Nat)) := [(0, (.aload_n 0, 1)), (1, (.getfield 47, 3)), (4, (.sipush 512, 3)), (7, (.if_icmp .ne 5, 3)), (10, (.iconst 1, 1)), (11, (.ireturn, 1)), (12, (.aload_n 0, 1)), (13, (.dup, 1)), (14, (.getfield 47, 3)), (17, (.iconst 1, 1)), (18, (.iadd, 1)), (19, (.putfield 47, 3)), (22, (.iconst 0, 1)), (23, (.ireturn, 1))]
def zi23 : List (Nat × (Instr × Nat)) := [(0, (.aload_n 0, 1)), (1, (.getfield 40, 3)), (4, (.iload_n 1, 1)), (5, (.iconst 0, 1)), (6, (.iastore, 1)), (7, (.aload_n 0, 1)), (8, (.getfield 26, 3)), (11, (.iload_n 1, 1)), (12, (.invokevirtual 236, 3)), (15, (.return_, 1))]
def zi24 : List (Nat × (Instr × Nat)) := [(0, (.iconst 0, 1)), (1, (.istore_n 2, 1)), (2, (.aload_n 0, 1)), (3, (.getfield 12, 3)), (6, (.getfield 204, 3)), (9, (.istore_n 3, 1)), (10, (.iload_n 3, 1)), (11, (.ifCond .le 83, 3)), (14, (.aload_n 0, 1)), (15, (.getfield 12, 3)), (18, (.getfield 120, 3)), (21, (.iload_n 3, 1)), (22, (.aaload, 1)), (23, (.astore 4, 2)), (25, (.aload 4, 2)), (27, (.getfield 217, 3)), (30, (.iload_n 1, 1)), (31, (.if_icmp .ne 57, 3)), (34, (.aload 4, 2)), (36, (.invokevirtual 239, 3)), (39, (.ifCond .ne 6, 3)), (42, (.goto 46, 3)), (45, (.aload 4, 2)), (47, (.getfield 242, 3)), (50, (.ifCond .eq 23, 3)), (53, (.aload_n 0, 1)), (54, (.iload_n 1, 1)), (55, (.aload 4, 2)), (57, (.getfield 245, 3)), (60, (.aload 4, 2)), (62, (.getfield 124, 3)), (65, (.iload_n 3, 1)), (66, (.invokevirtual 112, 3)), (69, (.pop, 1)), (70, (.goto 15, 3)), (73, (.aload_n 0, 1)), (74, (.iload_n 1, 1)), (75, (.aload 4, 2)), (77, (.getfield 245, 3)), (80, (.iload_n 3, 1)), (81, (.invokevirtual 116, 3)), (84, (.pop, 1)), (85, (.iinc 2 1, 3)), (88, (.iinc 3 (-1), 3)), (91, (.goto (-81), 3)), (94, (.aload_n 0, 1)), (95, (.getfield 12, 3)), (98, (.bipush 7, 2)), (100, (.iconst (-1), 1)), (101, (.iconst (-1), 1)), (102, (.iload_n 1, 1)), (103, (.invokevirtual 129, 3)), (106, (.pop, 1)), (107, (.aload_n 0, 1)), (108, (.getfield 26, 3)), (111, (.iload_n 1, 1)), (112, (.invokevirtual 248, 3)), (115, (.iload_n 2, 1)), (116, (.ireturn, 1))]
def zi25 : List (Nat × (Instr × Nat)) := [(0, (.aload_n 0, 1)), (1, (.getfield 12, 3)), (4, (.getfield 204, 3)), (7, (.istore 5, 2)), (9, (.aload_n 0, 1)), (10, (.iload_n 2, 1)), (11, (.invokevirtual 91, 3)), (14, (.istore 6, 2)), (16, (.aload_n 0, 1)), (17, (.getfield 32, 3)), (20, (.iload 6, 2)), (22, (.aaload, 1)), (23, (.getfield 94, 3)), (26, (.iload_n 2, 1)), (27, (.invokevirtual 98, 3)), (30, (.iconst (-1), 1)), (31, (.if_icmp .ne 10, 3)), (34, (.aload_n 0, 1)), (35, (.iload_n 2, 1)), (36, (.invokevirtual 251, 3)), (39, (.istore 6, 2)), (41, (.aload_n 0, 1)), (42, (.getfield 12, 3)), (45, (.getfield 204, 3)), (48, (.iload 5, 2)), (50, (.isub, 1)), (51, (.iconst 3, 1)), (52, (.idiv, 1)), (53, (.istore 7, 2)), (55, (.aload_n 0, 1)), (56, (.iconst 1, 1)), (57, (.iload 6, 2)), (59, (.iload_n 1, 1)), (60, (.iload_n 2, 1)), (61, (.iload 4, 2)), (63, (.invokevirtual 254, 3)), (66, (.astore 8, 2)), (68, (.aload 8, 2)), (70, (.iload_n 3, 1)), (71, (.putfield 258, 3)), (74, (.aload_n 0, 1)), (75, (.aload 8, 2)), (77, (.invokevirtual 261, 3)), (80, (.iload 7, 2)), (82, (.ireturn, 1))]
def zi26 : List (Nat × (Instr × Nat)) := [(0, (.aload_n 0, 1)), (1, (.iload_n 2, 1)), (2, (.invokevirtual 91, 3)), (5, (.istore 4, 2)), (7, (.aload_n 0, 1)), (8, (.getfield 32, 3)), (11, (.iload 4, 2)), (13, (.aaload, 1)), (14, (.getfield 94, 3)), (17, (.iload_n 2, 1)), (18, (.invokevirtual 98, 3)), (21, (.iconst (-1), 1)), (22, (.if_icmp .ne 5, 3)), (25, (.iconst 0, 1)), (26, (.ireturn, 1)), (27, (.aload_n 0, 1)), (28, (.iconst 2, 1)), (29, (.iload 4, 2)), (31, (.iload_n 1, 1)), (32, (.iload_n 2, 1)), (33, (.iload_n 3, 1)), (34, (.invokevirtual 254, 3)), (37, (.astore 5, 2)), (39, (.aload_n 0, 1)), (40, (.aload 5, 2)), (42, (.invokevirtual 261, 3)), (45, (.aload 5, 2)), (47, (.getfield 133, 3)), (50, (.ireturn, 1))]
def zi27 : List (Nat × (Instr × Nat)) := [(0, (.aload_n 0, 1)), (1, (.getfield 32, 3)), (4, (.iload_n 2, 1)), (5, (.aaload, 1)), (6, (.getfield 94, 3)), (9, (.astore 6, 2)), (11, (.aload 6, 2)), (13, (.iload 4, 2)), (15, (.invokevirtual 98, 3)), (18, (.istore 7, 2)), (20, (.aload_n 0, 1)), (21, (.getfield 12, 3)), (24, (.iload_n 1, 1)), (25, (.iload_n 2, 1)), (26, (.aload_n 0, 1)), (27, (.getfield 32, 3)), (30, (.iload_n 2, 1)), (31, (.aaload, 1)), (32, (.getfield 158, 3)), (35, (.iload_n 3, 1)), (36, (.invokevirtual 129, 3)), (39, (.astore 8, 2)), (41, (.aload 8, 2)), (43, (.iload 4, 2)), (45, (.putfield 245, 3)), (48, (.aload 8, 2)), (50, (.iload 5, 2)), (52, (.putfield 220, 3)), (55, (.aload 8, 2)), (57, (.iload 7, 2)), (59, (.iconst (-1), 1)), (60, (.if_icmp .eq 7, 3)), (63, (.iconst 1, 1)), (64, (.goto 4, 3)), (67, (.iconst 0, 1)), (68, (.putfield 242, 3)), (71, (.aload 8, 2)), (73, (.iload 7, 2)), (75, (.iconst (-1), 1)), (76, (.if_icmp .eq 14, 3)), (79, (.aload 6, 2)), (81, (.getfield 106, 3)), (84, (.iload 7, 2)), (86, (.iaload, 1)), (87, (.goto 4, 3)), (90, (.iconst 0, 1)), (91, (.putfield 124, 3)), (94, (.aload 8, 2)), (96, (.areturn, 1))]
def zi28 : List (Nat × (Instr × Nat)) := [(0, (.iconst 0, 1)), (1, (.istore_n 2, 1)), (2, (.aload_n 0, 1)), (3, (.iload_n 2, 1)), (4, (.invokevirtual 155, 3)), (7, (.iconst 1, 1)), (8, (.istore_n 3, 1)), (9, (.iload_n 3, 1)), (10, (.bipush 40, 2)), (12, (.if_icmp .ge 43, 3)), (15, (.aload_n 0, 1)), (16, (.getfield 32, 3)), (19, (.iload_n 2, 1)), (20, (.aaload, 1)), (21, (.getfield 94, 3)), (24, (.getfield 192, 3)), (27, (.ifCond .eq 28, 3)), (30, (.aload_n 0, 1)), (31, (.getfield 32, 3)), (34, (.iload_n 2, 1)), (35, (.aaload, 1)), (36, (.getfield 94, 3)), (39, (.iload_n 1, 1)), (40, (.invokevirtual 265, 3)), (43, (.istore_n 2, 1)), (44, (.aload_n 0, 1)), (45, (.iload_n 2, 1)), (46, (.invokevirtual 155, 3)), (49, (.iinc 3 1, 3)), (52, (.goto (-43), 3)), (55, (.iload_n 2, 1)), (56, (.ireturn, 1))]
def zi29 : List (Nat × (Instr × Nat)) := [(0, (.iconst 0, 1)), (1, (.istore_n 2, 1)), (2, (.iconst 0, 1)), (3, (.istore_n 3, 1)), (4, (.iconst 0, 1)), (5, (.istore 4, 2)), (7, (.iload 4, 2)), (9, (.bipush 40, 2)), (11, (.if_icmp .ge 89, 3)), (14, (.aload_n 0, 1)), (15, (.iload_n 3, 1)), (16, (.invokevirtual 155, 3)), (19, (.aload_n 0, 1)), (20, (.getfield 32, 3)), (23, (.iload_n 3, 1)), (24, (.aaload, 1)), (25, (.getfield 94, 3)), (28, (.getfield 195, 3)), (31, (.iconst 4, 1)), (32, (.if_icmp .ne 28, 3)), (35, (.iload_n 3, 1)), (36, (.ifCond .ne 11, 3)), (39, (.aload_n 0, 1)), (40, (.iload_n 1, 1)), (41, (.invokevirtual 268, 3)), (44, (.goto 10, 3)), (47, (.aload_n 0, 1)), (48, (.iload_n 2, 1)), (49, (.iload_n 3, 1)), (50, (.iload_n 1, 1)), (51, (.invokevirtual 271, 3)), (54, (.istore_n 3, 1)), (55, (.aload_n 0, 1)), (56, (.iload_n 3, 1)), (57, (.invokevirtual 155, 3)), (60, (.aload_n 0, 1)), (61, (.getfield 32, 3)), (64, (.iload_n 3, 1)), (65, (.aaload, 1)), (66, (.getfield 94, 3)), (69, (.getfield 192, 3)), (72, (.ifCond .ne 6, 3)), (75, (.goto 25, 3)), (78, (.iload_n 3, 1)), (79, (.istore_n 2, 1)), (80, (.aload_n 0, 1)), (81, (.getfield 32, 3)), (84, (.iload_n 3, 1)), (85, (.aaload, 1)), (86, (.getfield 94, 3)), (89, (.iload_n 1, 1)), (90, (.invokevirtual 265, 3)), (93, (.istore_n 3, 1)), (94, (.iinc 4 1, 3)), (97, (.goto (-90), 3)), (100, (.iload_n 3, 1)), (101, (.ireturn, 1))]
def zi30 : List (Nat × (Instr × Nat)) := [(0, (.aload_n 0, 1)), (1, (.getfield 36, 3)), (4, (.iconst 2, 1)), (5, (.iadd, 1)), (6, (.bipush 40, 2)), (8, (.if_icmp .le 5, 3)), (11, (.iconst 0, 1)), (12, (.ireturn, 1)), (13, (.aload_n 0, 1)), (14, (.getfield 32, 3)), (17, (.iconst 0, 1)), (18, (.aaload, 1)), (19, (.getfield 94, 3)), (22, (.astore_n 2, 1)), (23, (.aload_n 0, 1)), (24, (.getfield 36, 3)), (27, (.istore_n 3, 1)), (28, (.aload_n 0, 1)), (29, (.getfield 36, 3)), (32, (.iconst 1, 1)), (33, (.iadd, 1)), (34, (.istore 4, 2)), (36, (.aload_n 2, 1)), (37, (.invokevirtual 274, 3)), (40, (.istore 5, 2)), (42, (.aload_n 0, 1)), (43, (.getfield 12, 3)), (46, (.invokevirtual 277, 3)), (49, (.aload_n 0, 1)), (50, (.iload_n 3, 1)), (51, (.invokevirtual 280, 3)), (54, (.aload_n 0, 1)), (55, (.getfield 12, 3)), (58, (.iconst 3, 1)), (59, (.iload_n 3, 1)), (60, (.iconst 0, 1)), (61, (.iconst 0, 1)), (62, (.invokevirtual 129, 3)), (65, (.astore 6, 2)), (67, (.aload 6, 2)), (69, (.aload_n 2, 1)), (70, (.iconst 0, 1)), (71, (.invokevirtual 283, 3)), (74, (.aload_n 0, 1)), (75, (.aload 6, 2)), (77, (.invokevirtual 261, 3)), (80, (.aload_n 0, 1)), (81, (.iload 4, 2)), (83, (.invokevirtual 280, 3)), (86, (.aload_n 0, 1)), (87, (.getfield 12, 3)), (90, (.iconst 3, 1)), (91, (.iload 4, 2)), (93, (.iconst 0, 1)), (94, (.iconst 0, 1)), (95, (.invokevirtual 129, 3)), (98, (.astore 6, 2)), (100, (.aload 6, 2)), (102, (.aload_n 2, 1)), (103, (.iconst 2, 1)), (104, (.invokevirtual 283, 3)), (107, (.aload_n 0, 1)), (108, (.aload 6, 2)), (110, (.invokevirtual 261, 3)), (113, (.aload_n 0, 1)), (114, (.iconst 0, 1)), (115, (.invokevirtual 155, 3)), (118, (.aload_n 0, 1)), (119, (.getfield 12, 3)), (122, (.iconst 3, 1)), (123, (.iconst 0, 1)), (124, (.aload_n 0, 1)), (125, (.getfield 32, 3)), (128, (.iconst 0, 1)), (129, (.aaload, 1)), (130, (.getfield 158, 3)), (133, (.iconst 0, 1)), (134, (.invokevirtual 129, 3)), (137, (.astore 6, 2)), (139, (.aload 6, 2)), (141, (.iload_n 3, 1)), (142, (.iload 5, 2)), (144, (.iload 4, 2)), (146, (.invokevirtual 287, 3)), (149, (.aload_n 0, 1)), (150, (.aload 6, 2)), (152, (.invokevirtual 261, 3)), (155, (.iload_n 1, 1)), (156, (.iload 5, 2)), (158, (.if_icmp .ge 7, 3)), (161, (.iload_n 3, 1)), (162, (.goto 5, 3)), (165, (.iload 4, 2)), (167, (.ireturn, 1))]
def zi31 : List (Nat × (Instr × Nat)) := [(0, (.aload_n 0, 1)), (1, (.getfield 36, 3)), (4, (.iconst 1, 1)), (5, (.iadd, 1)), (6, (.bipush 40, 2)), (8, (.if_icmp .le 5, 3)), (11, (.iload_n 2, 1)), (12, (.ireturn, 1)), (13, (.aload_n 0, 1)), (14, (.getfield 32, 3)), (17, (.iload_n 2, 1)), (18, (.aaload, 1)), (19, (.getfield 94, 3)), (22, (.astore 4, 2)), (24, (.aload_n 0, 1)), (25, (.getfield 36, 3)), (28, (.istore 5, 2)), (30, (.aload 4, 2)), (32, (.invokevirtual 274, 3)), (35, (.istore 6, 2)), (37, (.aload_n 0, 1)), (38, (.getfield 12, 3)), (41, (.invokevirtual 277, 3)), (44, (.aload_n 0, 1)), (45, (.iload 5, 2)), (47, (.invokevirtual 280, 3)), (50, (.aload_n 0, 1)), (51, (.getfield 12, 3)), (54, (.iconst 3, 1)), (55, (.iload 5, 2)), (57, (.iconst 0, 1)), (58, (.iconst 0, 1)), (59, (.invokevirtual 129, 3)), (62, (.astore 7, 2)), (64, (.aload 7, 2)), (66, (.aload 4, 2)), (68, (.iconst 2, 1)), (69, (.invokevirtual 283, 3)), (72, (.aload_n 0, 1)), (73, (.aload 7, 2)), (75, (.invokevirtual 261, 3)), (78, (.aload_n 0, 1)), (79, (.iload_n 2, 1)), (80, (.invokevirtual 155, 3)), (83, (.aload_n 0, 1)), (84, (.aload_n 0, 1)), (85, (.getfield 12, 3)), (88, (.iconst 4, 1)), (89, (.iload_n 2, 1)), (90, (.aload_n 0, 1)), (91, (.getfield 32, 3)), (94, (.iload_n 2, 1)), (95, (.aaload, 1)), (96, (.getfield 158, 3)), (99, (.iconst 0, 1)), (100, (.invokevirtual 129, 3)), (103, (.invokevirtual 261, 3)), (106, (.aload_n 0, 1)), (107, (.iload_n 1, 1)), (108, (.invokevirtual 155, 3)), (111, (.aload_n 0, 1)), (112, (.getfield 12, 3)), (115, (.iconst 5, 1)), (116, (.iload_n 1, 1)), (117, (.aload_n 0, 1)), (118, (.getfield 32, 3)), (121, (.iload_n 1, 1)), (122, (.aaload, 1)), (123, (.getfield 158, 3)), (126, (.iconst 0, 1)), (127, (.invokevirtual 129, 3)), (130, (.astore 7, 2)), (132, (.aload 7, 2)), (134, (.iload 6, 2)), (136, (.iload 5, 2)), (138, (.iload_n 2, 1)), (139, (.invokevirtual 291, 3)), (142, (.aload_n 0, 1)), (143, (.aload 7, 2)), (145, (.invokevirtual 261, 3)), (148, (.iload_n 3, 1)), (149, (.iload 6, 2)), (151, (.if_icmp .ge 7, 3)), (154, (.iload_n 2, 1)), (155, (.goto 5, 3)), (158, (.iload 5, 2)), (160, (.ireturn, 1))]
def zi32 : List (Nat × (Instr × Nat)) := [(0, (.aload_n 1, 1)), (1, (.getfield 211, 3)), (4, (.iconst (-1), 1)), (5, (.if_icmp .ne 4, 3)), (8, (.return_, 1)), (9, (.aload_n 0, 1)), (10, (.getfield 32, 3)), (13, (.aload_n 1, 1)), (14, (.getfield 211, 3)), (17, (.aaload, 1)), (18, (.astore_n 2, 1)), (19, (.aload_n 1, 1)), (20, (.getfield 208, 3)), (23, (.tableswitch 109 1 5 #[33, 51, 65, 76, 87], 33)), (56, (.aload_n 2, 1)), (57, (.getfield 94, 3)), (60, (.aload_n 1, 1)), (61, (.getfield 245, 3)), (64, (.aload_n 1, 1)), (65, (.getfield 258, 3)), (68, (.invokevirtual 294, 3)), (71, (.goto 61, 3)), (74, (.aload_n 2, 1)), (75, (.getfield 94, 3)), (78, (.aload_n 1, 1)), (79, (.getfield 245, 3)), (82, (.invokevirtual 297, 3)), (85, (.goto 47, 3)), (88, (.aload_n 2, 1)), (89, (.getfield 94, 3)), (92, (.aload_n 1, 1)), (93, (.invokevirtual 300, 3)), (96, (.goto 36, 3)), (99, (.aload_n 2, 1)), (100, (.getfield 94, 3)), (103, (.iconst 2, 1)), (104, (.putfield 195, 3)), (107, (.goto 25, 3)), (110, (.aload_n 2, 1)), (111, (.getfield 94, 3)), (114, (.aload_n 1, 1)), (115, (.getfield 258, 3)), (118, (.aload_n 1, 1)), (119, (.getfield 245, 3)), (122, (.aload_n 1, 1)), (123, (.getfield 303, 3)), (126, (.invokevirtual 306, 3)), (129, (.goto 3, 3)), (132, (.aload_n 2, 1)), (133, (.aload_n 1, 1)), (134, (.getfield 133, 3)), (137, (.putfield 158, 3)), (140, (.aload_n 2, 1)), (141, (.dup, 1)), (142, (.getfield 190, 3)), (145, (.iconst 1, 1)), (146, (.iadd, 1)), (147, (.putfield 190, 3)), (150, (.aload_n 0, 1)), (151, (.aload_n 0, 1)), (152, (.getfield 36, 3)), (155, (.aload_n 1, 1)), (156, (.getfield 211, 3)), (159, (.iconst 1, 1)), (160, (.iadd, 1)), (161, (.invokestatic 309, 3)), (164, (.putfield 36, 3)), (167, (.aload_n 1, 1)), (168, (.getfield 220, 3)), (171, (.ifCond .eq 19, 3)), (174, (.aload_n 0, 1)), (175, (.getfield 12, 3)), (178, (.getfield 120, 3)), (181, (.aload_n 1, 1)), (182, (.getfield 220, 3)), (185, (.aaload, 1)), (186, (.iconst 1, 1)), (187, (.putfield 315, 3)), (190, (.return_, 1))]
def zi33 : List (Nat × (Instr × Nat)) := [(0, (.aload_n 0, 1)), (1, (.aload_n 0, 1)), (2, (.getfield 19, 3)), (5, (.iload_n 1, 1)), (6, (.invokevirtual 318, 3)), (9, (.invokevirtual 152, 3)), (12, (.pop, 1)), (13, (.aload_n 0, 1)), (14, (.getfield 19, 3)), (17, (.iload_n 1, 1)), (18, (.invokevirtual 149, 3)), (21, (.ifCond .ne 8, 3)), (24, (.aload_n 0, 1)), (25, (.iload_n 1, 1)), (26, (.invokevirtual 321, 3)), (29, (.aload_n 0, 1)), (30, (.getfield 19, 3)), (33, (.iload_n 1, 1)), (34, (.invokevirtual 324, 3)), (37, (.return_, 1))]
def zi34 : List (Nat × (Instr × Nat)) := [(0, (.aload_n 0, 1)), (1, (.aload_n 0, 1)), (2, (.getfield 19, 3)), (5, (.iload_n 1, 1)), (6, (.invokevirtual 318, 3)), (9, (.invokevirtual 152, 3)), (12, (.pop, 1)), (13, (.aload_n 0, 1)), (14, (.getfield 19, 3)), (17, (.iload_n 1, 1)), (18, (.invokevirtual 324, 3)), (21, (.return_, 1))]
def zi35 : List (Nat × (Instr × Nat)) := [(0, (.aload_n 0, 1)), (1, (.getfield 32, 3)), (4, (.iload_n 1, 1)), (5, (.aaload, 1)), (6, (.astore_n 2, 1)), (7, (.aload_n 2, 1)), (8, (.getfield 187, 3)), (11, (.istore_n 3, 1)), (12, (.aload_n 0, 1)), (13, (.dup, 1)), (14, (.getfield 50, 3)), (17, (.iconst 1, 1)), (18, (.iadd, 1)), (19, (.putfield 50, 3)), (22, (.aload_n 2, 1)), (23, (.getfield 164, 3)), (26, (.ifCond .eq 22, 3)), (29, (.aload_n 0, 1)), (30, (.dup, 1)), (31, (.getfield 59, 3)), (34, (.iconst 1, 1)), (35, (.iadd, 1)), (36, (.putfield 59, 3)), (39, (.aload_n 2, 1)), (40, (.getfield 161, 3)), (43, (.iconst 0, 1)), (44, (.invokestatic 309, 3)), (47, (.istore_n 3, 1)), (48, (.iconst 0, 1)), (49, (.istore 4, 2)), (51, (.aload_n 2, 1)), (52, (.getfield 158, 3)), (55, (.istore 5, 2)), (57, (.iload 5, 2)), (59, (.iload_n 3, 1)), (60, (.if_icmp .le 33, 3)), (63, (.iload 4, 2)), (65, (.aload_n 2, 1)), (66, (.getfield 190, 3)), (69, (.if_icmp .ge 24, 3)), (72, (.iinc 4 1, 3)), (75, (.aload_n 0, 1)), (76, (.getfield 12, 3)), (79, (.getfield 120, 3)), (82, (.iload 5, 2)), (84, (.aaload, 1)), (85, (.getfield 214, 3)), (88, (.istore 5, 2)), (90, (.goto (-33), 3)), (93, (.aload_n 0, 1)), (94, (.dup, 1)), (95, (.getfield 56, 3)), (98, (.iload 4, 2)), (100, (.iadd, 1)), (101, (.putfield 56, 3)), (104, (.return_, 1))]
def zi36 : List (Nat × (Instr × Nat)) := [(0, (.iload_n 1, 1)), (1, (.iconst (-1), 1)), (2, (.if_icmp .eq 24, 3)), (5, (.aload_n 0, 1)), (6, (.getfield 32, 3)), (9, (.iload_n 1, 1)), (10, (.aaload, 1)), (11, (.getfield 158, 3)), (14, (.aload_n 0, 1)), (15, (.getfield 32, 3)), (18, (.iload_n 1, 1)), (19, (.aaload, 1)), (20, (.getfield 187, 3)), (23, (.if_icmp .gt 5, 3)), (26, (.iconst 0, 1)), (27, (.ireturn, 1)), (28, (.aload_n 0, 1)), (29, (.getfield 32, 3)), (32, (.iload_n 1, 1)), (33, (.aaload, 1)), (34, (.astore_n 2, 1)), (35, (.aload_n 0, 1)), (36, (.getfield 12, 3)), (39, (.aload_n 2, 1)), (40, (.getfield 158, 3)), (43, (.invokevirtual 136, 3)), (46, (.aload_n 2, 1)), (47, (.aload_n 2, 1)), (48, (.getfield 158, 3)), (51, (.putfield 187, 3)), (54, (.aload_n 2, 1)), (55, (.iconst 0, 1)), (56, (.putfield 164, 3)), (59, (.aload_n 0, 1)), (60, (.dup, 1)), (61, (.getfield 53, 3)), (64, (.iconst 1, 1)), (65, (.iadd, 1)), (66, (.putfield 53, 3)), (69, (.iconst 1, 1)), (70, (.ireturn, 1))]
def zi37 : List (Nat × (Instr × Nat)) := [(0, (.iconst 0, 1)), (1, (.istore_n 1, 1)), (2, (.iload_n 1, 1)), (3, (.bipush 40, 2)), (5, (.if_icmp .ge 18, 3)), (8, (.aload_n 0, 1)), (9, (.getfield 32, 3)), (12, (.iload_n 1, 1)), (13, (.aaload, 1)), (14, (.invokevirtual 327, 3)), (17, (.iinc 1 1, 3)), (20, (.goto (-18), 3)), (23, (.aload_n 0, 1)), (24, (.iconst 1, 1)), (25, (.putfield 36, 3)), (28, (.iconst 1, 1)), (29, (.istore_n 1, 1)), (30, (.iload_n 1, 1)), (31, (.aload_n 0, 1)), (32, (.getfield 12, 3)), (35, (.getfield 204, 3)), (38, (.if_icmp .gt 35, 3)), (41, (.aload_n 0, 1)), (42, (.getfield 12, 3)), (45, (.getfield 120, 3)), (48, (.iload_n 1, 1)), (49, (.aaload, 1)), (50, (.iconst 0, 1)), (51, (.putfield 315, 3)), (54, (.aload_n 0, 1)), (55, (.aload_n 0, 1)), (56, (.getfield 12, 3)), (59, (.getfield 120, 3)), (62, (.iload_n 1, 1)), (63, (.aaload, 1)), (64, (.invokevirtual 261, 3)), (67, (.iinc 1 1, 3)), (70, (.goto (-40), 3)), (73, (.return_, 1))]
def zi38 : List (Nat × (Instr × Nat)) := [(0, (.aload_n 0, 1)), (1, (.getfield 26, 3)), (4, (.invokevirtual 330, 3)), (7, (.iconst 1, 1)), (8, (.istore_n 1, 1)), (9, (.iload_n 1, 1)), (10, (.aload_n 0, 1)), (11, (.getfield 12, 3)), (14, (.getfield 204, 3)), (17, (.if_icmp .gt 64, 3)), (20, (.aload_n 0, 1)), (21, (.getfield 12, 3)), (24, (.getfield 120, 3)), (27, (.iload_n 1, 1)), (28, (.aaload, 1)), (29, (.astore_n 2, 1)), (30, (.aload_n 2, 1)), (31, (.invokevirtual 333, 3)), (34, (.ifCond .eq 22, 3)), (37, (.aload_n 0, 1)), (38, (.getfield 26, 3)), (41, (.getfield 81, 3)), (44, (.aload_n 2, 1)), (45, (.getfield 245, 3)), (48, (.aload_n 2, 1)), (49, (.getfield 217, 3)), (52, (.iastore, 1)), (53, (.goto 22, 3)), (56, (.aload_n 2, 1)), (57, (.getfield 211, 3)), (60, (.iconst (-1), 1)), (61, (.if_icmp .ne 14, 3)), (64, (.aload_n 0, 1)), (65, (.getfield 26, 3)), (68, (.aload_n 2, 1)), (69, (.getfield 217, 3)), (72, (.invokevirtual 248, 3)), (75, (.iinc 1 1, 3)), (78, (.goto (-69), 3)), (81, (.return_, 1))]
def zi39 : List (Nat × (Instr × Nat)) := [(0, (.aload_n 0, 1)), (1, (.getfield 17, 3)), (4, (.sipush 1144, 3)), (7, (.if_icmp .ge 13, 3)), (10, (.aload_n 0, 1)), (11, (.dup, 1)), (12, (.getfield 17, 3)), (15, (.iconst 1, 1)), (16, (.iadd, 1)), (17, (.putfield 17, 3)), (20, (.aload_n 0, 1)), (21, (.getfield 11, 3)), (24, (.aload_n 0, 1)), (25, (.getfield 17, 3)), (28, (.aaload, 1)), (29, (.ifnonnull 19, 3)), (32, (.aload_n 0, 1)), (33, (.getfield 11, 3)), (36, (.aload_n 0, 1)), (37, (.getfield 17, 3)), (40, (.new 9, 3)), (43, (.dup, 1)), (44, (.invokespecial 27, 3)), (47, (.aastore, 1)), (48, (.aload_n 0, 1)), (49, (.getfield 11, 3)), (52, (.aload_n 0, 1)), (53, (.getfield 17, 3)), (56, (.aaload, 1)), (57, (.astore 5, 2)), (59, (.aload 5, 2)), (61, (.aload_n 0, 1)), (62, (.getfield 17, 3)), (65, (.putfield 28, 3)), (68, (.aload 5, 2)), (70, (.iload_n 1, 1)), (71, (.putfield 31, 3)), (74, (.aload 5, 2)), (76, (.iload_n 2, 1)), (77, (.putfield 34, 3)), (80, (.aload 5, 2)), (82, (.iload_n 3, 1)), (83, (.putfield 37, 3)), (86, (.aload 5, 2)), (88, (.iload 4, 2)), (90, (.putfield 40, 3)), (93, (.aload 5, 2)), (95, (.iconst 0, 1)), (96, (.putfield 43, 3)), (99, (.aload 5, 2)), (101, (.iconst 0, 1)), (102, (.putfield 46, 3)), (105, (.aload 5, 2)), (107, (.aload_n 0, 1)), (108, (.getfield 17, 3)), (111, (.aload_n 0, 1)), (112, (.getfield 24, 3)), (115, (.if_icmp .ge 10, 3)), (118, (.aload_n 0, 1)), (119, (.getfield 24, 3)), (122, (.goto 7, 3)), (125, (.aload_n 0, 1)), (126, (.getfield 17, 3)), (129, (.putfield 50, 3)), (132, (.aload 5, 2)), (134, (.areturn, 1))]
def zi40 : List (Nat × (Instr × Nat)) := [(0, (.aload_n 0, 1)), (1, (.aload_n 0, 1)), (2, (.getfield 17, 3)), (5, (.iconst 3, 1)), (6, (.iadd, 1)), (7, (.putfield 24, 3)), (10, (.return_, 1))]
def zi41 : List (Nat × (Instr × Nat)) := [(0, (.iload_n 1, 1)), (1, (.ifCond .le 40, 3)), (4, (.iload_n 1, 1)), (5, (.aload_n 0, 1)), (6, (.getfield 17, 3)), (9, (.if_icmp .gt 32, 3)), (12, (.aload_n 0, 1)), (13, (.getfield 11, 3)), (16, (.iload_n 1, 1)), (17, (.aaload, 1)), (18, (.getfield 50, 3)), (21, (.aload_n 0, 1)), (22, (.getfield 21, 3)), (25, (.if_icmp .le 16, 3)), (28, (.aload_n 0, 1)), (29, (.aload_n 0, 1)), (30, (.getfield 11, 3)), (33, (.iload_n 1, 1)), (34, (.aaload, 1)), (35, (.getfield 50, 3)), (38, (.putfield 21, 3)), (41, (.return_, 1))]
def zi42 : List (Nat × (Instr × Nat)) := [(0, (.aload_n 0, 1)), (1, (.aload_n 0, 1)), (2, (.getfield 21, 3)), (5, (.putfield 17, 3)), (8, (.aload_n 0, 1)), (9, (.iconst 0, 1)), (10, (.putfield 24, 3)), (13, (.return_, 1))]
def zi43 : List (Nat × (Instr × Nat)) := [(0, (.iload_n 2, 1)), (1, (.ifCond .lt 8, 3)), (4, (.iload_n 2, 1)), (5, (.iconst 2, 1)), (6, (.if_icmp .le 4, 3)), (9, (.return_, 1)), (10, (.aload_n 0, 1)), (11, (.aload_n 1, 1)), (12, (.getfield 9, 3)), (15, (.putfield 15, 3)), (18, (.aload_n 0, 1)), (19, (.aload_n 1, 1)), (20, (.getfield 18, 3)), (23, (.iload_n 2, 1)), (24, (.iaload, 1)), (25, (.putfield 22, 3)), (28, (.aload_n 0, 1)), (29, (.aload_n 1, 1)), (30, (.getfield 26, 3)), (33, (.iload_n 2, 1)), (34, (.iaload, 1)), (35, (.putfield 29, 3)), (38, (.aload_n 0, 1)), (39, (.aload_n 1, 1)), (40, (.getfield 18, 3)), (43, (.iload_n 2, 1)), (44, (.iconst 1, 1)), (45, (.iadd, 1)), (46, (.iaload, 1)), (47, (.putfield 32, 3)), (50, (.aload_n 0, 1)), (51, (.aload_n 1, 1)), (52, (.getfield 26, 3)), (55, (.iload_n 2, 1)), (56, (.iconst 1, 1)), (57, (.iadd, 1)), (58, (.iaload, 1)), (59, (.putfield 35, 3)), (62, (.return_, 1))]
def zi44 : List (Nat × (Instr × Nat)) := [(0, (.aload_n 0, 1)), (1, (.iconst 1, 1)), (2, (.putfield 15, 3)), (5, (.aload_n 0, 1)), (6, (.iload_n 1, 1)), (7, (.putfield 22, 3)), (10, (.aload_n 0, 1)), (11, (.iload_n 2, 1)), (12, (.putfield 29, 3)), (15, (.aload_n 0, 1)), (16, (.iload_n 3, 1)), (17, (.putfield 32, 3)), (20, (.return_, 1))]
def zi45 : List (Nat × (Instr × Nat)) := [(0, (.aload_n 0, 1)), (1, (.iload_n 2, 1)), (2, (.putfield 22, 3)), (5, (.aload_n 0, 1)), (6, (.iload_n 1, 1)), (7, (.putfield 29, 3)), (10, (.aload_n 0, 1)), (11, (.iload_n 3, 1)), (12, (.putfield 38, 3)), (15, (.return_, 1))]
def zi46 : List (Nat × (Instr × Nat)) := [(0, (.aload_n 0, 1)), (1, (.getfield 41, 3)), (4, (.iconst 1, 1)), (5, (.if_icmp .eq 11, 3)), (8, (.aload_n 0, 1)), (9, (.getfield 41, 3)), (12, (.iconst 2, 1)), (13, (.if_icmp .ne 7, 3)), (16, (.iconst 1, 1)), (17, (.goto 4, 3)), (20, (.iconst 0, 1)), (21, (.ireturn, 1))]
def zi47 : List (Nat × (Instr × Nat)) := [(0, (.aload_n 0, 1)), (1, (.invokevirtual 44, 3)), (4, (.ifCond .eq 21, 3)), (7, (.aload_n 0, 1)), (8, (.getfield 48, 3)), (11, (.ifCond .ne 14, 3)), (14, (.aload_n 0, 1)), (15, (.getfield 51, 3)), (18, (.ifCond .ne 7, 3)), (21, (.iconst 1, 1)), (22, (.goto 4, 3)), (25, (.iconst 0, 1)), (26, (.ireturn, 1))]
def zi48 : List (Nat × (Instr × Nat)) := [(0, (.aload_n 0, 1)), (1, (.iload_n 1, 1)), (2, (.invokevirtual 19, 3)), (5, (.iconst (-1), 1)), (6, (.if_icmp .eq 7, 3)), (9, (.iconst 1, 1)), (10, (.goto 4, 3)), (13, (.iconst 0, 1)), (14, (.ireturn, 1))]
def zi49 : List (Nat × (Instr × Nat)) := [(0, (.iconst 0, 1)), (1, (.istore_n 2, 1)), (2, (.iload_n 2, 1)), (3, (.aload_n 0, 1)), (4, (.getfield 15, 3)), (7, (.if_icmp .ge 21, 3)), (10, (.aload_n 0, 1)), (11, (.getfield 9, 3)), (14, (.iload_n 2, 1)), (15, (.iaload, 1)), (16, (.iload_n 1, 1)), (17, (.if_icmp .ne 5, 3)), (20, (.iload_n 2, 1)), (21, (.ireturn, 1)), (22, (.iinc 2 1, 3)), (25, (.goto (-23), 3)), (28, (.iconst (-1), 1)), (29, (.ireturn, 1))]
def zi50 : List (Nat × (Instr × Nat)) := [(0, (.aload_n 0, 1)), (1, (.getfield 15, 3)), (4, (.bipush 6, 2)), (6, (.if_icmp .lt 12, 3)), (9, (.aload_n 0, 1)), (10, (.iload_n 1, 1)), (11, (.invokevirtual 19, 3)), (14, (.iconst (-1), 1)), (15, (.if_icmp .eq 7, 3)), (18, (.iconst (-1), 1)), (19, (.goto 9, 3)), (22, (.aload_n 0, 1)), (23, (.getfield 9, 3)), (26, (.iconst 0, 1)), (27, (.iaload, 1)), (28, (.ireturn, 1))]
def zi51 : List (Nat × (Instr × Nat)) := [(0, (.aload_n 0, 1)), (1, (.iload_n 1, 1)), (2, (.invokevirtual 19, 3)), (5, (.istore_n 2, 1)), (6, (.iload_n 2, 1)), (7, (.iconst (-1), 1)), (8, (.if_icmp .eq 11, 3)), (11, (.aload_n 0, 1)), (12, (.iload_n 2, 1)), (13, (.invokevirtual 23, 3)), (16, (.goto 17, 3)), (19, (.aload_n 0, 1)), (20, (.getfield 15, 3)), (23, (.bipush 6, 2)), (25, (.if_icmp .ne 8, 3)), (28, (.aload_n 0, 1)), (29, (.iconst 0, 1)), (30, (.invokevirtual 23, 3)), (33, (.aload_n 0, 1)), (34, (.getfield 9, 3)), (37, (.aload_n 0, 1)), (38, (.getfield 15, 3)), (41, (.iload_n 1, 1)), (42, (.iastore, 1)), (43, (.aload_n 0, 1)), (44, (.dup, 1)), (45, (.getfield 15, 3)), (48, (.iconst 1, 1)), (49, (.iadd, 1)), (50, (.putfield 15, 3)), (53, (.return_, 1))]
def zi52 : List (Nat × (Instr × Nat)) := [(0, (.aload_n 0, 1)), (1, (.dup, 1)), (2, (.getfield 15, 3)), (5, (.iconst 1, 1)), (6, (.isub, 1)), (7, (.putfield 15, 3)), (10, (.iload_n 1, 1)), (11, (.istore_n 2, 1)), (12, (.iload_n 2, 1)), (13, (.aload_n 0, 1)), (14, (.getfield 15, 3)), (17, (.if_icmp .ge 23, 3)), (20, (.aload_n 0, 1)), (21, (.getfield 9, 3)), (24, (.iload_n 2, 1)), (25, (.aload_n 0, 1)), (26, (.getfield 9, 3)), (29, (.iload_n 2, 1)), (30, (.iconst 1, 1)), (31, (.iadd, 1)), (32, (.iaload, 1)), (33, (.iastore, 1)), (34, (.iinc 2 1, 3)), (37, (.goto (-25), 3)), (40, (.return_, 1))]
def zi53 : List (Nat × (Instr × Nat)) := [(0, (.aload_n 0, 1)), (1, (.iconst 0, 1)), (2, (.putfield 15, 3)), (5, (.return_, 1))]
def zi54 : List (Nat × (Instr × Nat)) := [(0, (.aload_n 0, 1)), (1, (.getfield 11, 3)), (4, (.iload_n 1, 1)), (5, (.aaload, 1)), (6, (.iload_n 2, 1)), (7, (.iaload, 1)), (8, (.ifCond .eq 4, 3)), (11, (.return_, 1)), (12, (.aload_n 0, 1)), (13, (.iload_n 1, 1)), (14, (.iload_n 2, 1)), (15, (.iconst 2, 1)), (16, (.invokevirtual 20, 3)), (19, (.ifCond .eq 11, 3)), (22, (.new 24, 3)), (25, (.dup, 1)), (26, (.invokespecial 26, 3)), (29, (.athrow, 1)), (30, (.aload_n 0, 1)), (31, (.getfield 11, 3)), (34, (.iload_n 1, 1)), (35, (.aaload, 1)), (36, (.iload_n 2, 1)), (37, (.iconst 1, 1)), (38, (.iastore, 1)), (39, (.return_, 1))]
def zi55 : List (Nat × (Instr × Nat)) := [(0, (.aload_n 0, 1)), (1, (.iload_n 1, 1)), (2, (.iload_n 2, 1)), (3, (.iconst 1, 1)), (4, (.invokevirtual 20, 3)), (7, (.ifCond .eq 11, 3)), (10, (.new 24, 3)), (13, (.dup, 1)), (14, (.invokespecial 26, 3)), (17, (.athrow, 1)), (18, (.aload_n 0, 1)), (19, (.getfield 11, 3)), (22, (.iload_n 1, 1)), (23, (.aaload, 1)), (24, (.iload_n 2, 1)), (25, (.iconst 2, 1)), (26, (.iastore, 1)), (27, (.return_, 1))]
def zi56 : List (Nat × (Instr × Nat)) := [(0, (.iconst 0, 1)), (1, (.istore 4, 2)), (3, (.iload 4, 2)), (5, (.iconst 4, 1)), (6, (.if_icmp .ge 30, 3)), (9, (.iload 4, 2)), (11, (.iload_n 1, 1)), (12, (.if_icmp .eq 18, 3)), (15, (.aload_n 0, 1)), (16, (.getfield 11, 3)), (19, (.iload 4, 2)), (21, (.aaload, 1)), (22, (.iload_n 2, 1)), (23, (.iaload, 1)), (24, (.iload_n 3, 1)), (25, (.if_icmp .lt 5, 3)), (28, (.iconst 1, 1)), (29, (.ireturn, 1)), (30, (.iinc 4 1, 3)), (33, (.goto (-30), 3)), (36, (.iconst 0, 1)), (37, (.ireturn, 1))]
def zi57 : List (Nat × (Instr × Nat)) := [(0, (.iconst 0, 1)), (1, (.istore_n 2, 1)), (2, (.iload_n 2, 1)), (3, (.bipush 40, 2)), (5, (.if_icmp .ge 18, 3)), (8, (.aload_n 0, 1)), (9, (.getfield 11, 3)), (12, (.iload_n 1, 1)), (13, (.aaload, 1)), (14, (.iload_n 2, 1)), (15, (.iconst 0, 1)), (16, (.iastore, 1)), (17, (.iinc 2 1, 3)), (20, (.goto (-18), 3)), (23, (.return_, 1))]
def zi58 : List (Nat × (Instr × Nat)) := [(0, (.iconst 0, 1)), (1, (.istore_n 1, 1)), (2, (.iload_n 1, 1)), (3, (.bipush 40, 2)), (5, (.if_icmp .ge 16, 3)), (8, (.aload_n 0, 1)), (9, (.getfield 16, 3)), (12, (.iload_n 1, 1)), (13, (.iconst 0, 1)), (14, (.iastore, 1)), (15, (.iinc 1 1, 3)), (18, (.goto (-16), 3)), (21, (.return_, 1))]
def zi59 : List (Nat × (Instr × Nat)) := [(0, (.iconst 0, 1)), (1, (.istore_n 2, 1)), (2, (.iload_n 2, 1)), (3, (.bipush 40, 2)), (5, (.if_icmp .ge 26, 3)), (8, (.aload_n 0, 1)), (9, (.getfield 16, 3)), (12, (.iload_n 2, 1)), (13, (.iaload, 1)), (14, (.iload_n 1, 1)), (15, (.if_icmp .ne 10, 3)), (18, (.aload_n 0, 1)), (19, (.getfield 16, 3)), (22, (.iload_n 2, 1)), (23, (.iconst 0, 1)), (24, (.iastore, 1)), (25, (.iinc 2 1, 3)), (28, (.goto (-26), 3)), (31, (.return_, 1))]
def zi60 : List (Nat × (Instr × Nat)) := [(0, (.iconst 0, 1)), (1, (.istore_n 2, 1)), (2, (.iconst 0, 1)), (3, (.istore_n 3, 1)), (4, (.iload_n 3, 1)), (5, (.bipush 40, 2)), (7, (.if_icmp .ge 36, 3)), (10, (.aload_n 0, 1)), (11, (.getfield 16, 3)), (14, (.iload_n 3, 1)), (15, (.iaload, 1)), (16, (.istore 4, 2)), (18, (.iload 4, 2)), (20, (.iload_n 1, 1)), (21, (.if_icmp .le 16, 3)), (24, (.iload_n 2, 1)), (25, (.ifCond .eq 9, 3)), (28, (.iload 4, 2)), (30, (.iload_n 2, 1)), (31, (.if_icmp .ge 6, 3)), (34, (.iload 4, 2)), (36, (.istore_n 2, 1)), (37, (.iinc 3 1, 3)), (40, (.goto (-36), 3)), (43, (.iload_n 2, 1)), (44, (.ireturn, 1))]
def zi61 : List (Nat × (Instr × Nat)) := [(0, (.iconst 0, 1)), (1, (.istore_n 1, 1)), (2, (.aload_n 0, 1)), (3, (.iconst 0, 1)), (4, (.invokevirtual 27, 3)), (7, (.istore_n 2, 1)), (8, (.iload_n 1, 1)), (9, (.bipush 40, 2)), (11, (.if_icmp .ge 19, 3)), (14, (.iload_n 2, 1)), (15, (.ifCond .eq 15, 3)), (18, (.iinc 1 1, 3)), (21, (.aload_n 0, 1)), (22, (.iload_n 2, 1)), (23, (.invokevirtual 27, 3)), (26, (.istore_n 2, 1)), (27, (.goto (-19), 3)), (30, (.iload_n 1, 1)), (31, (.ireturn, 1))]
def zi62 : List (Nat × (Instr × Nat)) := [(0, (.aload_n 0, 1)), (1, (.getfield 12, 3)), (4, (.invokevirtual 35, 3)), (7, (.aload_n 0, 1)), (8, (.iconst 0, 1)), (9, (.putfield 18, 3)), (12, (.aload_n 0, 1)), (13, (.iconst 0, 1)), (14, (.putfield 22, 3)), (17, (.return_, 1))]
def zi63 : List (Nat × (Instr × Nat)) := [(0, (.aload_n 0, 1)), (1, (.iconst 0, 1)), (2, (.putfield 25, 3)), (5, (.aload_n 0, 1)), (6, (.iconst 0, 1)), (7, (.putfield 28, 3)), (10, (.aload_n 0, 1)), (11, (.iconst (-1), 1)), (12, (.putfield 32, 3)), (15, (.return_, 1))]
def zi64 : List (Nat × (Instr × Nat)) := [(0, (.aload_n 0, 1)), (1, (.iconst 0, 1)), (2, (.putfield 9, 3)), (5, (.aload_n 0, 1)), (6, (.iconst 0, 1)), (7, (.putfield 15, 3)), (10, (.return_, 1))]
def zi65 : List (Nat × (Instr × Nat)) := [(0, (.aload_n 0, 1)), (1, (.aload_n 1, 1)), (2, (.getfield 26, 3)), (5, (.putfield 9, 3)), (8, (.aload_n 0, 1)), (9, (.iconst 2, 1)), (10, (.putfield 15, 3)), (13, (.aload_n 0, 1)), (14, (.getfield 19, 3)), (17, (.iconst 0, 1)), (18, (.aload_n 1, 1)), (19, (.getfield 29, 3)), (22, (.iastore, 1)), (23, (.aload_n 0, 1)), (24, (.getfield 23, 3)), (27, (.iconst 0, 1)), (28, (.aload_n 1, 1)), (29, (.getfield 32, 3)), (32, (.iastore, 1)), (33, (.aload_n 0, 1)), (34, (.getfield 19, 3)), (37, (.iconst 1, 1)), (38, (.aload_n 1, 1)), (39, (.getfield 35, 3)), (42, (.iastore, 1)), (43, (.aload_n 0, 1)), (44, (.getfield 23, 3)), (47, (.iconst 1, 1)), (48, (.aload_n 1, 1)), (49, (.getfield 38, 3)), (52, (.iastore, 1)), (53, (.return_, 1))]
def zi66 : List (Nat × (Instr × Nat)) := [(0, (.iload_n 1, 1)), (1, (.ifCond .lt 20, 3)), (4, (.iload_n 1, 1)), (5, (.aload_n 0, 1)), (6, (.getfield 15, 3)), (9, (.if_icmp .ge 12, 3)), (12, (.aload_n 0, 1)), (13, (.getfield 19, 3)), (16, (.iload_n 1, 1)), (17, (.iaload, 1)), (18, (.goto 4, 3)), (21, (.iconst (-1), 1)), (22, (.ireturn, 1))]
def zi67 : List (Nat × (Instr × Nat)) := [(0, (.aload_n 0, 1)), (1, (.getfield 9, 3)), (4, (.ifCond .eq 12, 3)), (7, (.aload_n 0, 1)), (8, (.getfield 15, 3)), (11, (.iconst 1, 1)), (12, (.isub, 1)), (13, (.goto 7, 3)), (16, (.aload_n 0, 1)), (17, (.getfield 15, 3)), (20, (.istore_n 2, 1)), (21, (.iload_n 1, 1)), (22, (.ifCond .lt 17, 3)), (25, (.iload_n 1, 1)), (26, (.iload_n 2, 1)), (27, (.if_icmp .ge 12, 3)), (30, (.aload_n 0, 1)), (31, (.getfield 23, 3)), (34, (.iload_n 1, 1)), (35, (.iaload, 1)), (36, (.goto 4, 3)), (39, (.iconst (-1), 1)), (40, (.ireturn, 1))]
def zi68 : List (Nat × (Instr × Nat)) := [(0, (.iconst 0, 1)), (1, (.istore_n 2, 1)), (2, (.iload_n 2, 1)), (3, (.aload_n 0, 1)), (4, (.getfield 15, 3)), (7, (.if_icmp .ge 21, 3)), (10, (.aload_n 0, 1)), (11, (.getfield 19, 3)), (14, (.iload_n 2, 1)), (15, (.iaload, 1)), (16, (.iload_n 1, 1)), (17, (.if_icmp .ne 5, 3)), (20, (.iload_n 2, 1)), (21, (.ireturn, 1)), (22, (.iinc 2 1, 3)), (25, (.goto (-23), 3)), (28, (.iconst (-1), 1)), (29, (.ireturn, 1))]
def zi69 : List (Nat × (Instr × Nat)) := [(0, (.iconst 0, 1)), (1, (.istore_n 2, 1)), (2, (.iload_n 2, 1)), (3, (.aload_n 0, 1)), (4, (.getfield 15, 3)), (7, (.iconst 1, 1)), (8, (.isub, 1)), (9, (.if_icmp .ge 19, 3)), (12, (.aload_n 0, 1)), (13, (.getfield 23, 3)), (16, (.iload_n 2, 1)), (17, (.iaload, 1)), (18, (.iload_n 1, 1)), (19, (.if_icmp .gt 9, 3)), (22, (.iinc 2 1, 3)), (25, (.goto (-23), 3)), (28, (.aload_n 0, 1)), (29, (.getfield 19, 3)), (32, (.iload_n 2, 1)), (33, (.iaload, 1)), (34, (.ireturn, 1))]
def zi70 : List (Nat × (Instr × Nat)) := [(0, (.aload_n 0, 1)), (1, (.getfield 9, 3)), (4, (.ifCond .eq 12, 3)), (7, (.aload_n 0, 1)), (8, (.getfield 23, 3)), (11, (.iconst 1, 1)), (12, (.iaload, 1)), (13, (.goto 9, 3)), (16, (.aload_n 0, 1)), (17, (.getfield 19, 3)), (20, (.iconst 2, 1)), (21, (.iaload, 1)), (22, (.ireturn, 1))]
def zi71 : List (Nat × (Instr × Nat)) := [(0, (.iconst 0, 1)), (1, (.istore_n 3, 1)), (2, (.iload_n 3, 1)), (3, (.aload_n 0, 1)), (4, (.getfield 15, 3)), (7, (.if_icmp .ge 19, 3)), (10, (.aload_n 0, 1)), (11, (.getfield 19, 3)), (14, (.iload_n 3, 1)), (15, (.iaload, 1)), (16, (.iload_n 1, 1)), (17, (.if_icmp .ge 9, 3)), (20, (.iinc 3 1, 3)), (23, (.goto (-21), 3)), (26, (.iload_n 3, 1)), (27, (.aload_n 0, 1)), (28, (.getfield 15, 3)), (31, (.if_icmp .ge 23, 3)), (34, (.aload_n 0, 1)), (35, (.getfield 19, 3)), (38, (.iload_n 3, 1)), (39, (.iaload, 1)), (40, (.iload_n 1, 1)), (41, (.if_icmp .ne 13, 3)), (44, (.aload_n 0, 1)), (45, (.getfield 23, 3)), (48, (.iload_n 3, 1)), (49, (.iload_n 2, 1)), (50, (.iastore, 1)), (51, (.goto 51, 3)), (54, (.aload_n 0, 1)), (55, (.getfield 15, 3)), (58, (.iconst 4, 1)), (59, (.if_icmp .ge 43, 3)), (62, (.aload_n 0, 1)), (63, (.getfield 19, 3)), (66, (.iload_n 3, 1)), (67, (.invokestatic 41, 3)), (70, (.aload_n 0, 1)), (71, (.getfield 23, 3)), (74, (.iload_n 3, 1)), (75, (.invokestatic 41, 3)), (78, (.aload_n 0, 1)), (79, (.getfield 19, 3)), (82, (.iload_n 3, 1)), (83, (.iload_n 1, 1)), (84, (.iastore, 1)), (85, (.aload_n 0, 1)), (86, (.getfield 23, 3)), (89, (.iload_n 3, 1)), (90, (.iload_n 2, 1)), (91, (.iastore, 1)), (92, (.aload_n 0, 1)), (93, (.dup, 1)), (94, (.getfield 15, 3)), (97, (.iconst 1, 1)), (98, (.iadd, 1)), (99, (.putfield 15, 3)), (102, (.return_, 1))]
def zi72 : List (Nat × (Instr × Nat)) := [(0, (.aload_n 0, 1)), (1, (.iload_n 1, 1)), (2, (.invokevirtual 45, 3)), (5, (.istore_n 2, 1)), (6, (.iload_n 2, 1)), (7, (.iconst (-1), 1)), (8, (.if_icmp .ne 4, 3)), (11, (.return_, 1)), (12, (.aload_n 0, 1)), (13, (.dup, 1)), (14, (.getfield 15, 3)), (17, (.iconst 1, 1)), (18, (.isub, 1)), (19, (.putfield 15, 3)), (22, (.iload_n 2, 1)), (23, (.istore_n 3, 1)), (24, (.iload_n 3, 1)), (25, (.aload_n 0, 1)), (26, (.getfield 15, 3)), (29, (.if_icmp .ge 37, 3)), (32, (.aload_n 0, 1)), (33, (.getfield 19, 3)), (36, (.iload_n 3, 1)), (37, (.aload_n 0, 1)), (38, (.getfield 19, 3)), (41, (.iload_n 3, 1)), (42, (.iconst 1, 1)), (43, (.iadd, 1)), (44, (.iaload, 1)), (45, (.iastore, 1)), (46, (.aload_n 0, 1)), (47, (.getfield 23, 3)), (50, (.iload_n 3, 1)), (51, (.aload_n 0, 1)), (52, (.getfield 23, 3)), (55, (.iload_n 3, 1)), (56, (.iconst 1, 1)), (57, (.iadd, 1)), (58, (.iaload, 1)), (59, (.iastore, 1)), (60, (.iinc 3 1, 3)), (63, (.goto (-39), 3)), (66, (.return_, 1))]
def zi73 : List (Nat × (Instr × Nat)) := [(0, (.aload_n 0, 1)), (1, (.iload_n 3, 1)), (2, (.invokevirtual 45, 3)), (5, (.istore 4, 2)), (7, (.iload 4, 2)), (9, (.iconst (-1), 1)), (10, (.if_icmp .eq 11, 3)), (13, (.aload_n 0, 1)), (14, (.getfield 15, 3)), (17, (.iconst 4, 1)), (18, (.if_icmp .ne 4, 3)), (21, (.return_, 1)), (22, (.aload_n 0, 1)), (23, (.getfield 19, 3)), (26, (.iload 4, 2)), (28, (.iconst 1, 1)), (29, (.iadd, 1)), (30, (.invokestatic 41, 3)), (33, (.aload_n 0, 1)), (34, (.getfield 23, 3)), (37, (.iload 4, 2)), (39, (.invokestatic 41, 3)), (42, (.aload_n 0, 1)), (43, (.getfield 19, 3)), (46, (.iload 4, 2)), (48, (.iconst 1, 1)), (49, (.iadd, 1)), (50, (.iload_n 2, 1)), (51, (.iastore, 1)), (52, (.aload_n 0, 1)), (53, (.getfield 23, 3)), (56, (.iload 4, 2)), (58, (.iload_n 1, 1)), (59, (.iastore, 1)), (60, (.aload_n 0, 1)), (61, (.dup, 1)), (62, (.getfield 15, 3)), (65, (.iconst 1, 1)), (66, (.iadd, 1)), (67, (.putfield 15, 3)), (70, (.return_, 1))]
def zi74 : List (Nat × (Instr × Nat)) := [(0, (.iconst 3, 1)), (1, (.istore_n 2, 1)), (2, (.iload_n 2, 1)), (3, (.iload_n 1, 1)), (4, (.if_icmp .le 17, 3)), (7, (.aload_n 0, 1)), (8, (.iload_n 2, 1)), (9, (.aload_n 0, 1)), (10, (.iload_n 2, 1)), (11, (.iconst 1, 1)), (12, (.isub, 1)), (13, (.iaload, 1)), (14, (.iastore, 1)), (15, (.iinc 2 (-1), 3)), (18, (.goto (-16), 3)), (21, (.return_, 1))]
def zi75 : List (Nat × (Instr × Nat)) := [(0, (.aload_n 0, 1)), (1, (.getfield 71, 3)), (4, (.ireturn, 1))]
def zi76 : List (Nat × (Instr × Nat)) := [(0, (.aload_n 0, 1)), (1, (.iload_n 1, 1)), (2, (.putfield 71, 3)), (5, (.iconst 0, 1)), (6, (.ireturn, 1))]
def zi77 : List (Nat × (Instr × Nat)) := [(0, (.iload_n 0, 1)), (1, (.iload_n 1, 1)), (2, (.if_icmp .lt 12, 3)), (5, (.iload_n 0, 1)), (6, (.iload_n 2, 1)), (7, (.if_icmp .gt 7, 3)), (10, (.iconst 1, 1)), (11, (.goto 4, 3)), (14, (.iconst 0, 1)), (15, (.ireturn, 1))]
def zi78 : List (Nat × (Instr × Nat)) := [(0, (.aload_n 0, 1)), (1, (.getfield 74, 3)), (4, (.istore_n 2, 1)), (5, (.iload_n 2, 1)), (6, (.ifCond .le 32, 3)), (9, (.aload_n 0, 1)), (10, (.getfield 7, 3)), (13, (.iload_n 2, 1)), (14, (.baload, 1)), (15, (.bipush 6, 2)), (17, (.if_icmp .ge 15, 3)), (20, (.aload_n 0, 1)), (21, (.getfield 13, 3)), (24, (.iload_n 2, 1)), (25, (.baload, 1)), (26, (.iload_n 1, 1)), (27, (.if_icmp .ne 5, 3)), (30, (.iload_n 2, 1)), (31, (.ireturn, 1)), (32, (.iinc 2 (-1), 3)), (35, (.goto (-30), 3)), (38, (.iconst 0, 1)), (39, (.ireturn, 1))]
def zi79 : List (Nat × (Instr × Nat)) := [(0, (.aload_n 0, 1)), (1, (.iconst 0, 1)), (2, (.putfield 77, 3)), (5, (.aload_n 0, 1)), (6, (.iconst 0, 1)), (7, (.putfield 81, 3)), (10, (.iconst 1, 1)), (11, (.istore_n 2, 1)), (12, (.iload_n 2, 1)), (13, (.aload_n 0, 1)), (14, (.getfield 74, 3)), (17, (.if_icmp .gt 35, 3)), (20, (.aload_n 0, 1)), (21, (.getfield 7, 3)), (24, (.iload_n 2, 1)), (25, (.baload, 1)), (26, (.bipush 6, 2)), (28, (.if_icmp .ge 18, 3)), (31, (.aload_n 0, 1)), (32, (.getfield 13, 3)), (35, (.iload_n 2, 1)), (36, (.baload, 1)), (37, (.iload_n 1, 1)), (38, (.if_icmp .ne 8, 3)), (41, (.aload_n 0, 1)), (42, (.iload_n 2, 1)), (43, (.invokevirtual 84, 3)), (46, (.iinc 2 1, 3)), (49, (.goto (-37), 3)), (52, (.return_, 1))]
def zi80 : List (Nat × (Instr × Nat)) := [(0, (.aload_n 0, 1)), (1, (.getfield 7, 3)), (4, (.iload_n 1, 1)), (5, (.baload, 1)), (6, (.iconst 3, 1)), (7, (.if_icmp .ne 93, 3)), (10, (.bipush 10, 2)), (12, (.aload_n 0, 1)), (13, (.getfield 23, 3)), (16, (.iload_n 1, 1)), (17, (.iaload, 1)), (18, (.imul, 1)), (19, (.istore_n 2, 1)), (20, (.aload_n 0, 1)), (21, (.aload_n 0, 1)), (22, (.getfield 40, 3)), (25, (.iload_n 2, 1)), (26, (.iaload, 1)), (27, (.iconst 1, 1)), (28, (.if_icmp .ne 7, 3)), (31, (.iconst 1, 1)), (32, (.goto 4, 3)), (35, (.iconst 0, 1)), (36, (.putfield 77, 3)), (39, (.aload_n 0, 1)), (40, (.aload_n 0, 1)), (41, (.getfield 40, 3)), (44, (.iload_n 2, 1)), (45, (.iconst 1, 1)), (46, (.iadd, 1)), (47, (.iaload, 1)), (48, (.putfield 81, 3)), (51, (.iconst 0, 1)), (52, (.istore_n 3, 1)), (53, (.iload_n 3, 1)), (54, (.iconst 4, 1)), (55, (.if_icmp .ge 42, 3)), (58, (.aload_n 0, 1)), (59, (.getfield 59, 3)), (62, (.iload_n 3, 1)), (63, (.aload_n 0, 1)), (64, (.getfield 40, 3)), (67, (.iload_n 2, 1)), (68, (.iconst 2, 1)), (69, (.iadd, 1)), (70, (.iload_n 3, 1)), (71, (.iadd, 1)), (72, (.iaload, 1)), (73, (.iastore, 1)), (74, (.aload_n 0, 1)), (75, (.getfield 62, 3)), (78, (.iload_n 3, 1)), (79, (.aload_n 0, 1)), (80, (.getfield 40, 3)), (83, (.iload_n 2, 1)), (84, (.bipush 6, 2)), (86, (.iadd, 1)), (87, (.iload_n 3, 1)), (88, (.iadd, 1)), (89, (.iaload, 1)), (90, (.iastore, 1)), (91, (.iinc 3 1, 3)), (94, (.goto (-41), 3)), (97, (.goto 146, 3)), (100, (.aload_n 0, 1)), (101, (.getfield 7, 3)), (104, (.iload_n 1, 1)), (105, (.baload, 1)), (106, (.iconst 4, 1)), (107, (.if_icmp .ne 11, 3)), (110, (.aload_n 0, 1)), (111, (.iconst 2, 1)), (112, (.putfield 81, 3)), (115, (.goto 128, 3)), (118, (.aload_n 0, 1)), (119, (.getfield 7, 3)), (122, (.iload_n 1, 1)), (123, (.baload, 1)), (124, (.iconst 5, 1)), (125, (.if_icmp .ne 113, 3)), (128, (.iconst 0, 1)), (129, (.istore_n 2, 1)), (130, (.aload_n 0, 1)), (131, (.getfield 59, 3)), (134, (.iload_n 2, 1)), (135, (.iaload, 1)), (136, (.aload_n 0, 1)), (137, (.getfield 31, 3)), (140, (.iload_n 1, 1)), (141, (.iaload, 1)), (142, (.if_icmp .eq 9, 3)), (145, (.iinc 2 1, 3)), (148, (.goto (-18), 3)), (151, (.aload_n 0, 1)), (152, (.getfield 81, 3)), (155, (.istore_n 3, 1)), (156, (.iload_n 3, 1)), (157, (.iload_n 2, 1)), (158, (.iconst 1, 1)), (159, (.iadd, 1)), (160, (.if_icmp .le 39, 3)), (163, (.aload_n 0, 1)), (164, (.getfield 59, 3)), (167, (.iload_n 3, 1)), (168, (.aload_n 0, 1)), (169, (.getfield 59, 3)), (172, (.iload_n 3, 1)), (173, (.iconst 1, 1)), (174, (.isub, 1)), (175, (.iaload, 1)), (176, (.iastore, 1)), (177, (.aload_n 0, 1)), (178, (.getfield 62, 3)), (181, (.iload_n 3, 1)), (182, (.iconst 1, 1)), (183, (.isub, 1)), (184, (.aload_n 0, 1)), (185, (.getfield 62, 3)), (188, (.iload_n 3, 1)), (189, (.iconst 2, 1)), (190, (.isub, 1)), (191, (.iaload, 1)), (192, (.iastore, 1)), (193, (.iinc 3 (-1), 3)), (196, (.goto (-40), 3)), (199, (.aload_n 0, 1)), (200, (.getfield 59, 3)), (203, (.iload_n 2, 1)), (204, (.iconst 1, 1)), (205, (.iadd, 1)), (206, (.aload_n 0, 1)), (207, (.getfield 23, 3)), (210, (.iload_n 1, 1)), (211, (.iaload, 1)), (212, (.iastore, 1)), (213, (.aload_n 0, 1)), (214, (.getfield 62, 3)), (217, (.iload_n 2, 1)), (218, (.aload_n 0, 1)), (219, (.getfield 20, 3)), (222, (.iload_n 1, 1)), (223, (.baload, 1)), (224, (.iastore, 1)), (225, (.aload_n 0, 1)), (226, (.dup, 1)), (227, (.getfield 81, 3)), (230, (.iconst 1, 1)), (231, (.iadd, 1)), (232, (.putfield 81, 3)), (235, (.goto 8, 3)), (238, (.aload_n 0, 1)), (239, (.iload_n 1, 1)), (240, (.invokevirtual 88, 3)), (243, (.return_, 1))]
def zi81 : List (Nat × (Instr × Nat)) := [(0, (.iconst 0, 1)), (1, (.istore_n 2, 1)), (2, (.iload_n 2, 1)), (3, (.aload_n 0, 1)), (4, (.getfield 81, 3)), (7, (.if_icmp .ge 24, 3)), (10, (.aload_n 0, 1)), (11, (.getfield 59, 3)), (14, (.iload_n 2, 1)), (15, (.iaload, 1)), (16, (.aload_n 0, 1)), (17, (.getfield 20, 3)), (20, (.iload_n 1, 1)), (21, (.baload, 1)), (22, (.if_icmp .ge 9, 3)), (25, (.iinc 2 1, 3)), (28, (.goto (-26), 3)), (31, (.iload_n 2, 1)), (32, (.aload_n 0, 1)), (33, (.getfield 81, 3)), (36, (.if_icmp .ge 22, 3)), (39, (.aload_n 0, 1)), (40, (.getfield 59, 3)), (43, (.iload_n 2, 1)), (44, (.iaload, 1)), (45, (.aload_n 0, 1)), (46, (.getfield 20, 3)), (49, (.iload_n 1, 1)), (50, (.baload, 1)), (51, (.if_icmp .ne 7, 3)), (54, (.iconst 1, 1)), (55, (.goto 4, 3)), (58, (.iconst 0, 1)), (59, (.istore_n 3, 1)), (60, (.aload_n 0, 1)), (61, (.getfield 7, 3)), (64, (.iload_n 1, 1)), (65, (.baload, 1)), (66, (.iconst 2, 1)), (67, (.if_icmp .ne 64, 3)), (70, (.aload_n 0, 1)), (71, (.dup, 1)), (72, (.getfield 81, 3)), (75, (.iconst 1, 1)), (76, (.isub, 1)), (77, (.putfield 81, 3)), (80, (.iload_n 2, 1)), (81, (.istore 4, 2)), (83, (.iload 4, 2)), (85, (.aload_n 0, 1)), (86, (.getfield 81, 3)), (89, (.if_icmp .ge 41, 3)), (92, (.aload_n 0, 1)), (93, (.getfield 59, 3)), (96, (.iload 4, 2)), (98, (.aload_n 0, 1)), (99, (.getfield 59, 3)), (102, (.iload 4, 2)), (104, (.iconst 1, 1)), (105, (.iadd, 1)), (106, (.iaload, 1)), (107, (.iastore, 1)), (108, (.aload_n 0, 1)), (109, (.getfield 62, 3)), (112, (.iload 4, 2)), (114, (.aload_n 0, 1)), (115, (.getfield 62, 3)), (118, (.iload 4, 2)), (120, (.iconst 1, 1)), (121, (.iadd, 1)), (122, (.iaload, 1)), (123, (.iastore, 1)), (124, (.iinc 4 1, 3)), (127, (.goto (-44), 3)), (130, (.return_, 1)), (131, (.iload_n 3, 1)), (132, (.ifCond .ne 63, 3)), (135, (.aload_n 0, 1)), (136, (.getfield 81, 3)), (139, (.istore 4, 2)), (141, (.iload 4, 2)), (143, (.iload_n 2, 1)), (144, (.if_icmp .le 41, 3)), (147, (.aload_n 0, 1)), (148, (.getfield 59, 3)), (151, (.iload 4, 2)), (153, (.aload_n 0, 1)), (154, (.getfield 59, 3)), (157, (.iload 4, 2)), (159, (.iconst 1, 1)), (160, (.isub, 1)), (161, (.iaload, 1)), (162, (.iastore, 1)), (163, (.aload_n 0, 1)), (164, (.getfield 62, 3)), (167, (.iload 4, 2)), (169, (.aload_n 0, 1)), (170, (.getfield 62, 3)), (173, (.iload 4, 2)), (175, (.iconst 1, 1)), (176, (.isub, 1)), (177, (.iaload, 1)), (178, (.iastore, 1)), (179, (.iinc 4 (-1), 3)), (182, (.goto (-41), 3)), (185, (.aload_n 0, 1)), (186, (.dup, 1)), (187, (.getfield 81, 3)), (190, (.iconst 1, 1)), (191, (.iadd, 1)), (192, (.putfield 81, 3)), (195, (.aload_n 0, 1)), (196, (.getfield 59, 3)), (199, (.iload_n 2, 1)), (200, (.aload_n 0, 1)), (201, (.getfield 20, 3)), (204, (.iload_n 1, 1)), (205, (.baload, 1)), (206, (.iastore, 1)), (207, (.aload_n 0, 1)), (208, (.getfield 62, 3)), (211, (.iload_n 2, 1)), (212, (.aload_n 0, 1)), (213, (.getfield 23, 3)), (216, (.iload_n 1, 1)), (217, (.iaload, 1)), (218, (.iastore, 1)), (219, (.return_, 1))]
def zi82 : List (Nat × (Instr × Nat)) := [(0, (.iconst 0, 1)), (1, (.istore_n 2, 1)), (2, (.iload_n 2, 1)), (3, (.aload_n 0, 1)), (4, (.getfield 81, 3)), (7, (.if_icmp .ge 21, 3)), (10, (.aload_n 0, 1)), (11, (.getfield 59, 3)), (14, (.iload_n 2, 1)), (15, (.iaload, 1)), (16, (.iload_n 1, 1)), (17, (.if_icmp .ne 5, 3)), (20, (.iload_n 2, 1)), (21, (.ireturn, 1)), (22, (.iinc 2 1, 3)), (25, (.goto (-23), 3)), (28, (.iconst (-1), 1)), (29, (.ireturn, 1))]
def zi83 : List (Nat × (Instr × Nat)) := [(0, (.aload_n 0, 1)), (1, (.getfield 37, 3)), (4, (.iload_n 1, 1)), (5, (.saload, 1)), (6, (.iload_n 1, 1)), (7, (.if_icmp .le 12, 3)), (10, (.aload_n 0, 1)), (11, (.getfield 37, 3)), (14, (.iload_n 1, 1)), (15, (.saload, 1)), (16, (.goto 4, 3)), (19, (.iload_n 1, 1)), (20, (.istore_n 2, 1)), (21, (.iload_n 1, 1)), (22, (.aload_n 0, 1)), (23, (.getfield 91, 3)), (26, (.if_icmp .le 8, 3)), (29, (.aload_n 0, 1)), (30, (.iload_n 2, 1)), (31, (.putfield 91, 3)), (34, (.return_, 1))]
def zi84 : List (Nat × (Instr × Nat)) := [(0, (.aload_n 0, 1)), (1, (.iload_n 1, 1)), (2, (.invokevirtual 94, 3)), (5, (.istore_n 2, 1)), (6, (.aload_n 0, 1)), (7, (.iload_n 2, 1)), (8, (.invokevirtual 98, 3)), (11, (.aload_n 0, 1)), (12, (.getfield 50, 3)), (15, (.iload_n 1, 1)), (16, (.iload_n 2, 1)), (17, (.iastore, 1)), (18, (.aload_n 0, 1)), (19, (.getfield 53, 3)), (22, (.iload_n 1, 1)), (23, (.iconst 0, 1)), (24, (.bastore, 1)), (25, (.aload_n 0, 1)), (26, (.dup, 1)), (27, (.getfield 101, 3)), (30, (.iconst 1, 1)), (31, (.iadd, 1)), (32, (.putfield 101, 3)), (35, (.return_, 1))]
def zi85 : List (Nat × (Instr × Nat)) := [(0, (.iconst 0, 1)), (1, (.istore_n 1, 1)), (2, (.iconst (-1), 1)), (3, (.istore_n 2, 1)), (4, (.iconst 0, 1)), (5, (.istore_n 3, 1)), (6, (.iload_n 3, 1)), (7, (.bipush 48, 2)), (9, (.if_icmp .ge 60, 3)), (12, (.iload_n 1, 1)), (13, (.aload_n 0, 1)), (14, (.getfield 47, 3)), (17, (.iload_n 3, 1)), (18, (.iaload, 1)), (19, (.ifCond .le 7, 3)), (22, (.iconst 1, 1)), (23, (.goto 4, 3)), (26, (.iconst 0, 1)), (27, (.iadd, 1)), (28, (.istore_n 1, 1)), (29, (.aload_n 0, 1)), (30, (.getfield 47, 3)), (33, (.iload_n 3, 1)), (34, (.iaload, 1)), (35, (.ifCond .le 26, 3)), (38, (.iload_n 2, 1)), (39, (.ifCond .lt 18, 3)), (42, (.aload_n 0, 1)), (43, (.getfield 47, 3)), (46, (.iload_n 3, 1)), (47, (.iaload, 1)), (48, (.aload_n 0, 1)), (49, (.getfield 47, 3)), (52, (.iload_n 2, 1)), (53, (.iaload, 1)), (54, (.if_icmp .ge 7, 3)), (57, (.iload_n 3, 1)), (58, (.goto 4, 3)), (61, (.iload_n 2, 1)), (62, (.istore_n 2, 1)), (63, (.iinc 3 1, 3)), (66, (.goto (-60), 3)), (69, (.iload_n 1, 1)), (70, (.bipush 6, 2)), (72, (.if_icmp .ge 4, 3)), (75, (.return_, 1)), (76, (.aload_n 0, 1)), (77, (.iload_n 2, 1)), (78, (.invokevirtual 94, 3)), (81, (.aload_n 0, 1)), (82, (.getfield 50, 3)), (85, (.iload_n 2, 1)), (86, (.iaload, 1)), (87, (.if_icmp .le 8, 3)), (90, (.aload_n 0, 1)), (91, (.iload_n 2, 1)), (92, (.invokevirtual 104, 3)), (95, (.aload_n 0, 1)), (96, (.getfield 47, 3)), (99, (.iload_n 2, 1)), (100, (.iconst 0, 1)), (101, (.iastore, 1)), (102, (.return_, 1))]
def zi86 : List (Nat × (Instr × Nat)) := [(0, (.aload_n 0, 1)), (1, (.getfield 47, 3)), (4, (.iload_n 1, 1)), (5, (.iaload, 1)), (6, (.ifCond .ne 131, 3)), (9, (.aload_n 0, 1)), (10, (.invokevirtual 107, 3)), (13, (.aload_n 0, 1)), (14, (.dup, 1)), (15, (.getfield 110, 3)), (18, (.iconst 1, 1)), (19, (.iadd, 1)), (20, (.putfield 110, 3)), (23, (.aload_n 0, 1)), (24, (.getfield 53, 3)), (27, (.iload_n 1, 1)), (28, (.baload, 1)), (29, (.ifCond .eq 25, 3)), (32, (.aload_n 0, 1)), (33, (.getfield 56, 3)), (36, (.iload_n 1, 1)), (37, (.iaload, 1)), (38, (.ifCond .ge 7, 3)), (41, (.iconst 0, 1)), (42, (.goto 18, 3)), (45, (.aload_n 0, 1)), (46, (.getfield 56, 3)), (49, (.iload_n 1, 1)), (50, (.iaload, 1)), (51, (.goto 9, 3)), (54, (.aload_n 0, 1)), (55, (.getfield 50, 3)), (58, (.iload_n 1, 1)), (59, (.iaload, 1)), (60, (.istore_n 2, 1)), (61, (.aload_n 0, 1)), (62, (.dup, 1)), (63, (.getfield 113, 3)), (66, (.aload_n 0, 1)), (67, (.getfield 53, 3)), (70, (.iload_n 1, 1)), (71, (.baload, 1)), (72, (.ifCond .eq 7, 3)), (75, (.iconst 1, 1)), (76, (.goto 4, 3)), (79, (.iconst 0, 1)), (80, (.iadd, 1)), (81, (.putfield 113, 3)), (84, (.iload_n 2, 1)), (85, (.iconst 1, 1)), (86, (.iadd, 1)), (87, (.istore_n 3, 1)), (88, (.iload_n 3, 1)), (89, (.aload_n 0, 1)), (90, (.getfield 74, 3)), (93, (.if_icmp .gt 44, 3)), (96, (.aload_n 0, 1)), (97, (.dup, 1)), (98, (.getfield 116, 3)), (101, (.aload_n 0, 1)), (102, (.getfield 7, 3)), (105, (.iload_n 3, 1)), (106, (.baload, 1)), (107, (.bipush 6, 2)), (109, (.if_icmp .ge 17, 3)), (112, (.aload_n 0, 1)), (113, (.getfield 13, 3)), (116, (.iload_n 3, 1)), (117, (.baload, 1)), (118, (.iload_n 1, 1)), (119, (.if_icmp .ne 7, 3)), (122, (.iconst 1, 1)), (123, (.goto 4, 3)), (126, (.iconst 0, 1)), (127, (.iadd, 1)), (128, (.putfield 116, 3)), (131, (.iinc 3 1, 3)), (134, (.goto (-46), 3)), (137, (.aload_n 0, 1)), (138, (.dup, 1)), (139, (.getfield 119, 3)), (142, (.iconst 1, 1)), (143, (.iadd, 1)), (144, (.putfield 119, 3)), (147, (.aload_n 0, 1)), (148, (.getfield 47, 3)), (151, (.iload_n 1, 1)), (152, (.aload_n 0, 1)), (153, (.getfield 119, 3)), (156, (.iastore, 1)), (157, (.return_, 1))]
def zi87 : List (Nat × (Instr × Nat)) := [(0, (.aload_n 0, 1)), (1, (.invokevirtual 107, 3)), (4, (.aload_n 0, 1)), (5, (.dup, 1)), (6, (.getfield 119, 3)), (9, (.iconst 1, 1)), (10, (.iadd, 1)), (11, (.putfield 119, 3)), (14, (.aload_n 0, 1)), (15, (.getfield 47, 3)), (18, (.aload_n 0, 1)), (19, (.getfield 43, 3)), (22, (.aload_n 0, 1)), (23, (.getfield 119, 3)), (26, (.iastore, 1)), (27, (.aload_n 0, 1)), (28, (.getfield 50, 3)), (31, (.aload_n 0, 1)), (32, (.getfield 43, 3)), (35, (.iconst 0, 1)), (36, (.iastore, 1)), (37, (.aload_n 0, 1)), (38, (.getfield 53, 3)), (41, (.aload_n 0, 1)), (42, (.getfield 43, 3)), (45, (.iconst 0, 1)), (46, (.bastore, 1)), (47, (.aload_n 0, 1)), (48, (.dup, 1)), (49, (.getfield 43, 3)), (52, (.iconst 1, 1)), (53, (.iadd, 1)), (54, (.putfield 43, 3)), (57, (.aload_n 0, 1)), (58, (.getfield 43, 3)), (61, (.iconst 1, 1)), (62, (.isub, 1)), (63, (.ireturn, 1))]
def zi88 : List (Nat × (Instr × Nat)) := [(0, (.aload_n 0, 1)), (1, (.dup, 1)), (2, (.getfield 74, 3)), (5, (.iconst 1, 1)), (6, (.iadd, 1)), (7, (.putfield 74, 3)), (10, (.aload_n 0, 1)), (11, (.getfield 7, 3)), (14, (.aload_n 0, 1)), (15, (.getfield 74, 3)), (18, (.iload_n 1, 1)), (19, (.i2b, 1)), (20, (.bastore, 1)), (21, (.aload_n 0, 1)), (22, (.getfield 13, 3)), (25, (.aload_n 0, 1)), (26, (.getfield 74, 3)), (29, (.iload_n 2, 1)), (30, (.i2b, 1)), (31, (.bastore, 1)), (32, (.aload_n 0, 1)), (33, (.getfield 16, 3)), (36, (.aload_n 0, 1)), (37, (.getfield 74, 3)), (40, (.iconst 0, 1)), (41, (.sastore, 1)), (42, (.aload_n 0, 1)), (43, (.getfield 34, 3)), (46, (.aload_n 0, 1)), (47, (.getfield 74, 3)), (50, (.iconst 0, 1)), (51, (.sastore, 1)), (52, (.aload_n 0, 1)), (53, (.getfield 37, 3)), (56, (.aload_n 0, 1)), (57, (.getfield 74, 3)), (60, (.iconst 0, 1)), (61, (.sastore, 1)), (62, (.aload_n 0, 1)), (63, (.getfield 74, 3)), (66, (.ireturn, 1))]
def zi89 : List (Nat × (Instr × Nat)) := [(0, (.aload_n 0, 1)), (1, (.iconst 3, 1)), (2, (.iload_n 1, 1)), (3, (.invokevirtual 122, 3)), (6, (.istore 5, 2)), (8, (.aload_n 0, 1)), (9, (.getfield 37, 3)), (12, (.iload 5, 2)), (14, (.iload 4, 2)), (16, (.i2s, 1)), (17, (.sastore, 1)), (18, (.aload_n 0, 1)), (19, (.getfield 23, 3)), (22, (.iload 5, 2)), (24, (.aload_n 0, 1)), (25, (.getfield 126, 3)), (28, (.iastore, 1)), (29, (.bipush 10, 2)), (31, (.aload_n 0, 1)), (32, (.getfield 126, 3)), (35, (.imul, 1)), (36, (.istore 6, 2)), (38, (.aload_n 0, 1)), (39, (.getfield 40, 3)), (42, (.iload 6, 2)), (44, (.aload_n 0, 1)), (45, (.getfield 77, 3)), (48, (.ifCond .eq 7, 3)), (51, (.iconst 1, 1)), (52, (.goto 4, 3)), (55, (.iconst 0, 1)), (56, (.iastore, 1)), (57, (.aload_n 0, 1)), (58, (.getfield 40, 3)), (61, (.iload 6, 2)), (63, (.iconst 1, 1)), (64, (.iadd, 1)), (65, (.iload_n 3, 1)), (66, (.iload_n 2, 1)), (67, (.isub, 1)), (68, (.iastore, 1)), (69, (.iconst 0, 1)), (70, (.istore 7, 2)), (72, (.iload 7, 2)), (74, (.iconst 4, 1)), (75, (.if_icmp .ge 85, 3)), (78, (.iload_n 2, 1)), (79, (.iload 7, 2)), (81, (.iadd, 1)), (82, (.iload_n 3, 1)), (83, (.if_icmp .ge 7, 3)), (86, (.iconst 1, 1)), (87, (.goto 4, 3)), (90, (.iconst 0, 1)), (91, (.istore 8, 2)), (93, (.aload_n 0, 1)), (94, (.getfield 40, 3)), (97, (.iload 6, 2)), (99, (.iconst 2, 1)), (100, (.iadd, 1)), (101, (.iload 7, 2)), (103, (.iadd, 1)), (104, (.iload 8, 2)), (106, (.ifCond .eq 15, 3)), (109, (.aload_n 0, 1)), (110, (.getfield 59, 3)), (113, (.iload_n 2, 1)), (114, (.iload 7, 2)), (116, (.iadd, 1)), (117, (.iaload, 1)), (118, (.goto 4, 3)), (121, (.iconst 0, 1)), (122, (.iastore, 1)), (123, (.aload_n 0, 1)), (124, (.getfield 40, 3)), (127, (.iload 6, 2)), (129, (.bipush 6, 2)), (131, (.iadd, 1)), (132, (.iload 7, 2)), (134, (.iadd, 1)), (135, (.iload 8, 2)), (137, (.ifCond .eq 15, 3)), (140, (.aload_n 0, 1)), (141, (.getfield 62, 3)), (144, (.iload_n 2, 1)), (145, (.iload 7, 2)), (147, (.iadd, 1)), (148, (.iaload, 1)), (149, (.goto 4, 3)), (152, (.iconst 0, 1)), (153, (.iastore, 1)), (154, (.iinc 7 1, 3)), (157, (.goto (-85), 3)), (160, (.aload_n 0, 1)), (161, (.dup, 1)), (162, (.getfield 126, 3)), (165, (.iconst 1, 1)), (166, (.iadd, 1)), (167, (.putfield 126, 3)), (170, (.return_, 1))]
def zi90 : List (Nat × (Instr × Nat)) := [(0, (.aload_n 0, 1)), (1, (.iconst 0, 1)), (2, (.invokevirtual 129, 3)), (5, (.aload_n 0, 1)), (6, (.iconst 3, 1)), (7, (.iconst 0, 1)), (8, (.invokevirtual 122, 3)), (11, (.istore 5, 2)), (13, (.aload_n 0, 1)), (14, (.getfield 37, 3)), (17, (.iload 5, 2)), (19, (.iload 4, 2)), (21, (.i2s, 1)), (22, (.sastore, 1)), (23, (.aload_n 0, 1)), (24, (.getfield 23, 3)), (27, (.iload 5, 2)), (29, (.aload_n 0, 1)), (30, (.getfield 126, 3)), (33, (.iastore, 1)), (34, (.bipush 10, 2)), (36, (.aload_n 0, 1)), (37, (.getfield 126, 3)), (40, (.imul, 1)), (41, (.istore 6, 2)), (43, (.aload_n 0, 1)), (44, (.getfield 40, 3)), (47, (.iload 6, 2)), (49, (.iconst 1, 1)), (50, (.iastore, 1)), (51, (.aload_n 0, 1)), (52, (.getfield 40, 3)), (55, (.iload 6, 2)), (57, (.iconst 1, 1)), (58, (.iadd, 1)), (59, (.iconst 2, 1)), (60, (.iastore, 1)), (61, (.aload_n 0, 1)), (62, (.getfield 40, 3)), (65, (.iload 6, 2)), (67, (.iconst 2, 1)), (68, (.iadd, 1)), (69, (.iload_n 1, 1)), (70, (.iastore, 1)), (71, (.aload_n 0, 1)), (72, (.getfield 40, 3)), (75, (.iload 6, 2)), (77, (.iconst 3, 1)), (78, (.iadd, 1)), (79, (.iload_n 2, 1)), (80, (.iastore, 1)), (81, (.aload_n 0, 1)), (82, (.getfield 40, 3)), (85, (.iload 6, 2)), (87, (.bipush 6, 2)), (89, (.iadd, 1)), (90, (.iload_n 3, 1)), (91, (.iastore, 1)), (92, (.aload_n 0, 1)), (93, (.dup, 1)), (94, (.getfield 126, 3)), (97, (.iconst 1, 1)), (98, (.iadd, 1)), (99, (.putfield 126, 3)), (102, (.return_, 1))]
def zi91 : List (Nat × (Instr × Nat)) := [(0, (.aload_n 0, 1)), (1, (.getfield 77, 3)), (4, (.ifCond .eq 12, 3)), (7, (.aload_n 0, 1)), (8, (.getfield 62, 3)), (11, (.iconst 1, 1)), (12, (.iaload, 1)), (13, (.goto 9, 3)), (16, (.aload_n 0, 1)), (17, (.getfield 59, 3)), (20, (.iconst 2, 1)), (21, (.iaload, 1)), (22, (.istore 4, 2)), (24, (.aload_n 0, 1)), (25, (.getfield 74, 3)), (28, (.iconst 3, 1)), (29, (.iadd, 1)), (30, (.istore 5, 2)), (32, (.iload_n 1, 1)), (33, (.ifCond .ne 61, 3)), (36, (.aload_n 0, 1)), (37, (.invokevirtual 132, 3)), (40, (.istore 6, 2)), (42, (.aload_n 0, 1)), (43, (.iload 6, 2)), (45, (.iconst 0, 1)), (46, (.iconst 2, 1)), (47, (.iload 5, 2)), (49, (.invokevirtual 136, 3)), (52, (.aload_n 0, 1)), (53, (.invokevirtual 132, 3)), (56, (.istore 7, 2)), (58, (.aload_n 0, 1)), (59, (.iload 7, 2)), (61, (.iconst 2, 1)), (62, (.iconst 4, 1)), (63, (.iload 5, 2)), (65, (.invokevirtual 136, 3)), (68, (.aload_n 0, 1)), (69, (.iload 6, 2)), (71, (.iload 7, 2)), (73, (.iload 4, 2)), (75, (.iload 5, 2)), (77, (.invokevirtual 140, 3)), (80, (.iload_n 3, 1)), (81, (.iload 4, 2)), (83, (.if_icmp .ge 8, 3)), (86, (.iload 6, 2)), (88, (.goto 5, 3)), (91, (.iload 7, 2)), (93, (.ireturn, 1)), (94, (.aload_n 0, 1)), (95, (.invokevirtual 132, 3)), (98, (.istore 6, 2)), (100, (.aload_n 0, 1)), (101, (.iload 6, 2)), (103, (.iconst 2, 1)), (104, (.iconst 4, 1)), (105, (.iload 5, 2)), (107, (.invokevirtual 136, 3)), (110, (.aload_n 0, 1)), (111, (.iload_n 1, 1)), (112, (.invokevirtual 129, 3)), (115, (.aload_n 0, 1)), (116, (.iconst 4, 1)), (117, (.iload_n 1, 1)), (118, (.invokevirtual 122, 3)), (121, (.istore 7, 2)), (123, (.aload_n 0, 1)), (124, (.getfield 37, 3)), (127, (.iload 7, 2)), (129, (.iload 5, 2)), (131, (.i2s, 1)), (132, (.sastore, 1)), (133, (.aload_n 0, 1)), (134, (.iload_n 2, 1)), (135, (.invokevirtual 129, 3)), (138, (.aload_n 0, 1)), (139, (.iconst 5, 1)), (140, (.iload_n 2, 1)), (141, (.invokevirtual 122, 3)), (144, (.istore 8, 2)), (146, (.aload_n 0, 1)), (147, (.getfield 37, 3)), (150, (.iload 8, 2)), (152, (.iload 5, 2)), (154, (.i2s, 1)), (155, (.sastore, 1)), (156, (.aload_n 0, 1)), (157, (.getfield 20, 3)), (160, (.iload 8, 2)), (162, (.iload 4, 2)), (164, (.i2b, 1)), (165, (.bastore, 1)), (166, (.aload_n 0, 1)), (167, (.getfield 23, 3)), (170, (.iload 8, 2)), (172, (.iload 6, 2)), (174, (.iastore, 1)), (175, (.aload_n 0, 1)), (176, (.getfield 31, 3)), (179, (.iload 8, 2)), (181, (.iload_n 1, 1)), (182, (.iastore, 1)), (183, (.iload_n 3, 1)), (184, (.iload 4, 2)), (186, (.if_icmp .ge 7, 3)), (189, (.iload_n 1, 1)), (190, (.goto 5, 3)), (193, (.iload 6, 2)), (195, (.ireturn, 1))]
def zi92 : List (Nat × (Instr × Nat)) := [(0, (.iconst 0, 1)), (1, (.istore_n 2, 1)), (2, (.iload_n 2, 1)), (3, (.iconst 1, 1)), (4, (.iadd, 1)), (5, (.aload_n 0, 1)), (6, (.getfield 81, 3)), (9, (.if_icmp .ge 19, 3)), (12, (.aload_n 0, 1)), (13, (.getfield 62, 3)), (16, (.iload_n 2, 1)), (17, (.iaload, 1)), (18, (.iload_n 1, 1)), (19, (.if_icmp .gt 9, 3)), (22, (.iinc 2 1, 3)), (25, (.goto (-23), 3)), (28, (.aload_n 0, 1)), (29, (.getfield 59, 3)), (32, (.iload_n 2, 1)), (33, (.iaload, 1)), (34, (.ireturn, 1))]
def zi93 : List (Nat × (Instr × Nat)) := [(0, (.iconst 0, 1)), (1, (.istore_n 2, 1)), (2, (.aload_n 0, 1)), (3, (.iload_n 2, 1)), (4, (.invokevirtual 129, 3)), (7, (.aload_n 0, 1)), (8, (.iload_n 2, 1)), (9, (.invokevirtual 143, 3)), (12, (.aload_n 0, 1)), (13, (.getfield 77, 3)), (16, (.ifCond .eq 22, 3)), (19, (.aload_n 0, 1)), (20, (.iload_n 1, 1)), (21, (.invokevirtual 146, 3)), (24, (.istore_n 2, 1)), (25, (.aload_n 0, 1)), (26, (.iload_n 2, 1)), (27, (.invokevirtual 129, 3)), (30, (.aload_n 0, 1)), (31, (.iload_n 2, 1)), (32, (.invokevirtual 143, 3)), (35, (.goto (-23), 3)), (38, (.iload_n 2, 1)), (39, (.ireturn, 1))]
def zi94 : List (Nat × (Instr × Nat)) := [(0, (.aload_n 0, 1)), (1, (.iload_n 2, 1)), (2, (.invokevirtual 129, 3)), (5, (.aload_n 0, 1)), (6, (.iload_n 2, 1)), (7, (.invokevirtual 143, 3)), (10, (.aload_n 0, 1)), (11, (.iload_n 3, 1)), (12, (.invokevirtual 149, 3)), (15, (.istore 6, 2)), (17, (.aload_n 0, 1)), (18, (.iload_n 1, 1)), (19, (.iload_n 2, 1)), (20, (.invokevirtual 122, 3)), (23, (.istore 7, 2)), (25, (.aload_n 0, 1)), (26, (.getfield 16, 3)), (29, (.iload 7, 2)), (31, (.iload 5, 2)), (33, (.i2s, 1)), (34, (.sastore, 1)), (35, (.aload_n 0, 1)), (36, (.getfield 20, 3)), (39, (.iload 7, 2)), (41, (.iload_n 3, 1)), (42, (.i2b, 1)), (43, (.bastore, 1)), (44, (.aload_n 0, 1)), (45, (.getfield 23, 3)), (48, (.iload 7, 2)), (50, (.iload 4, 2)), (52, (.iastore, 1)), (53, (.aload_n 0, 1)), (54, (.getfield 27, 3)), (57, (.iload 7, 2)), (59, (.iload 6, 2)), (61, (.ifCond .lt 7, 3)), (64, (.iconst 1, 1)), (65, (.goto 4, 3)), (68, (.iconst 0, 1)), (69, (.bastore, 1)), (70, (.aload_n 0, 1)), (71, (.getfield 31, 3)), (74, (.iload 7, 2)), (76, (.iload 6, 2)), (78, (.ifCond .lt 13, 3)), (81, (.aload_n 0, 1)), (82, (.getfield 62, 3)), (85, (.iload 6, 2)), (87, (.iaload, 1)), (88, (.goto 4, 3)), (91, (.iconst 0, 1)), (92, (.iastore, 1)), (93, (.aload_n 0, 1)), (94, (.getfield 34, 3)), (97, (.iload 7, 2)), (99, (.aload_n 0, 1)), (100, (.getfield 152, 3)), (103, (.i2s, 1)), (104, (.sastore, 1)), (105, (.return_, 1))]
def zi95 : List (Nat × (Instr × Nat)) := [(0, (.iconst 0, 1)), (1, (.istore 4, 2)), (3, (.aload_n 0, 1)), (4, (.iload_n 1, 1)), (5, (.invokevirtual 155, 3)), (8, (.istore 5, 2)), (10, (.aload_n 0, 1)), (11, (.iload_n 1, 1)), (12, (.invokevirtual 149, 3)), (15, (.ifCond .ge 100, 3)), (18, (.iconst 0, 1)), (19, (.istore 6, 2)), (21, (.iconst 0, 1)), (22, (.istore 5, 2)), (24, (.aload_n 0, 1)), (25, (.iload 5, 2)), (27, (.invokevirtual 129, 3)), (30, (.aload_n 0, 1)), (31, (.iload 5, 2)), (33, (.invokevirtual 143, 3)), (36, (.iconst 1, 1)), (37, (.istore 7, 2)), (39, (.iload 7, 2)), (41, (.ifCond .eq 74, 3)), (44, (.aload_n 0, 1)), (45, (.getfield 81, 3)), (48, (.iconst 4, 1)), (49, (.if_icmp .ne 29, 3)), (52, (.aload_n 0, 1)), (53, (.iload 5, 2)), (55, (.iload 6, 2)), (57, (.iload_n 1, 1)), (58, (.invokevirtual 158, 3)), (61, (.istore 5, 2)), (63, (.iinc 4 1, 3)), (66, (.aload_n 0, 1)), (67, (.iload 5, 2)), (69, (.invokevirtual 129, 3)), (72, (.aload_n 0, 1)), (73, (.iload 5, 2)), (75, (.invokevirtual 143, 3)), (78, (.aload_n 0, 1)), (79, (.getfield 77, 3)), (82, (.istore 7, 2)), (84, (.iload 7, 2)), (86, (.ifCond .eq (-47), 3)), (89, (.iload 5, 2)), (91, (.istore 6, 2)), (93, (.aload_n 0, 1)), (94, (.iload_n 1, 1)), (95, (.invokevirtual 146, 3)), (98, (.istore 5, 2)), (100, (.aload_n 0, 1)), (101, (.iload 5, 2)), (103, (.invokevirtual 129, 3)), (106, (.aload_n 0, 1)), (107, (.iload 5, 2)), (109, (.invokevirtual 143, 3)), (112, (.goto (-73), 3)), (115, (.aload_n 0, 1)), (116, (.iconst 1, 1)), (117, (.iload 5, 2)), (119, (.iload_n 1, 1)), (120, (.iload_n 2, 1)), (121, (.iload_n 3, 1)), (122, (.invokevirtual 162, 3)), (125, (.iload 4, 2)), (127, (.ireturn, 1))]
def zi96 : List (Nat × (Instr × Nat)) := [(0, (.iload_n 1, 1)), (1, (.iconst 0, 1)), (2, (.iconst 3, 1)), (3, (.invokestatic 166, 3)), (6, (.ireturn, 1))]
def zi97 : List (Nat × (Instr × Nat)) := [(0, (.iconst 0, 1)), (1, (.istore_n 2, 1)), (2, (.iconst 0, 1)), (3, (.istore_n 3, 1)), (4, (.iload_n 3, 1)), (5, (.iconst 4, 1)), (6, (.if_icmp .ge 29, 3)), (9, (.iload_n 2, 1)), (10, (.ifCond .ne 13, 3)), (13, (.aload_n 0, 1)), (14, (.getfield 65, 3)), (17, (.iload_n 3, 1)), (18, (.iaload, 1)), (19, (.iload_n 1, 1)), (20, (.if_icmp .ne 7, 3)), (23, (.iconst 1, 1)), (24, (.goto 4, 3)), (27, (.iconst 0, 1)), (28, (.istore_n 2, 1)), (29, (.iinc 3 1, 3)), (32, (.goto (-28), 3)), (35, (.iload_n 2, 1)), (36, (.ireturn, 1))]
def zi98 : List (Nat × (Instr × Nat)) := [(0, (.iconst 0, 1)), (1, (.istore_n 2, 1)), (2, (.iconst 1, 1)), (3, (.istore_n 3, 1)), (4, (.iload_n 3, 1)), (5, (.aload_n 0, 1)), (6, (.getfield 74, 3)), (9, (.if_icmp .gt 52, 3)), (12, (.aload_n 0, 1)), (13, (.getfield 16, 3)), (16, (.iload_n 3, 1)), (17, (.saload, 1)), (18, (.iload_n 1, 1)), (19, (.if_icmp .ne 16, 3)), (22, (.aload_n 0, 1)), (23, (.getfield 7, 3)), (26, (.iload_n 3, 1)), (27, (.baload, 1)), (28, (.bipush 6, 2)), (30, (.if_icmp .lt 5, 3)), (33, (.iconst 0, 1)), (34, (.ireturn, 1)), (35, (.iload_n 2, 1)), (36, (.ifCond .ne 13, 3)), (39, (.aload_n 0, 1)), (40, (.getfield 16, 3)), (43, (.iload_n 3, 1)), (44, (.saload, 1)), (45, (.iload_n 1, 1)), (46, (.if_icmp .ne 7, 3)), (49, (.iconst 1, 1)), (50, (.goto 4, 3)), (53, (.iconst 0, 1)), (54, (.istore_n 2, 1)), (55, (.iinc 3 1, 3)), (58, (.goto (-54), 3)), (61, (.iload_n 2, 1)), (62, (.ifCond .eq 15, 3)), (65, (.aload_n 0, 1)), (66, (.iload_n 1, 1)), (67, (.invokevirtual 170, 3)), (70, (.ifCond .ne 7, 3)), (73, (.iconst 1, 1)), (74, (.goto 4, 3)), (77, (.iconst 0, 1)), (78, (.ireturn, 1))]
def zi99 : List (Nat × (Instr × Nat)) := [(0, (.iload_n 1, 1)), (1, (.iconst 1, 1)), (2, (.iadd, 1)), (3, (.istore_n 2, 1)), (4, (.iload_n 2, 1)), (5, (.aload_n 0, 1)), (6, (.getfield 74, 3)), (9, (.if_icmp .gt 21, 3)), (12, (.aload_n 0, 1)), (13, (.getfield 34, 3)), (16, (.iload_n 2, 1)), (17, (.saload, 1)), (18, (.iload_n 1, 1)), (19, (.if_icmp .ne 5, 3)), (22, (.iconst 1, 1)), (23, (.ireturn, 1)), (24, (.iinc 2 1, 3)), (27, (.goto (-23), 3)), (30, (.iconst 0, 1)), (31, (.ireturn, 1))]
def zi100 : List (Nat × (Instr × Nat)) := [(0, (.aload_n 0, 1)), (1, (.getfield 74, 3)), (4, (.istore_n 2, 1)), (5, (.iconst 0, 1)), (6, (.istore_n 3, 1)), (7, (.iload_n 2, 1)), (8, (.istore 4, 2)), (10, (.iload 4, 2)), (12, (.ifCond .le 126, 3)), (15, (.aload_n 0, 1)), (16, (.getfield 7, 3)), (19, (.iload 4, 2)), (21, (.baload, 1)), (22, (.iconst 2, 1)), (23, (.if_icmp .gt 109, 3)), (26, (.aload_n 0, 1)), (27, (.getfield 16, 3)), (30, (.iload 4, 2)), (32, (.saload, 1)), (33, (.iload_n 1, 1)), (34, (.if_icmp .ne 98, 3)), (37, (.aload_n 0, 1)), (38, (.getfield 34, 3)), (41, (.iload 4, 2)), (43, (.saload, 1)), (44, (.ifCond .ne 88, 3)), (47, (.aload_n 0, 1)), (48, (.iload 4, 2)), (50, (.invokevirtual 174, 3)), (53, (.ifCond .ne 79, 3)), (56, (.iinc 3 1, 3)), (59, (.aload_n 0, 1)), (60, (.iload 4, 2)), (62, (.putfield 152, 3)), (65, (.aload_n 0, 1)), (66, (.getfield 27, 3)), (69, (.iload 4, 2)), (71, (.baload, 1)), (72, (.ifCond .eq 26, 3)), (75, (.aload_n 0, 1)), (76, (.aload_n 0, 1)), (77, (.getfield 20, 3)), (80, (.iload 4, 2)), (82, (.baload, 1)), (83, (.aload_n 0, 1)), (84, (.getfield 31, 3)), (87, (.iload 4, 2)), (89, (.iaload, 1)), (90, (.iload_n 1, 1)), (91, (.invokevirtual 177, 3)), (94, (.pop, 1)), (95, (.goto 32, 3)), (98, (.aload_n 0, 1)), (99, (.aload_n 0, 1)), (100, (.getfield 20, 3)), (103, (.iload 4, 2)), (105, (.baload, 1)), (106, (.invokevirtual 155, 3)), (109, (.istore 5, 2)), (111, (.aload_n 0, 1)), (112, (.iconst 2, 1)), (113, (.iload 5, 2)), (115, (.aload_n 0, 1)), (116, (.getfield 20, 3)), (119, (.iload 4, 2)), (121, (.baload, 1)), (122, (.iconst 0, 1)), (123, (.iload_n 1, 1)), (124, (.invokevirtual 162, 3)), (127, (.aload_n 0, 1)), (128, (.iconst 0, 1)), (129, (.putfield 152, 3)), (132, (.iinc 4 (-1), 3)), (135, (.goto (-125), 3)), (138, (.aload_n 0, 1)), (139, (.bipush 7, 2)), (141, (.iconst 0, 1)), (142, (.invokevirtual 122, 3)), (145, (.istore 4, 2)), (147, (.aload_n 0, 1)), (148, (.getfield 16, 3)), (151, (.iload 4, 2)), (153, (.iload_n 1, 1)), (154, (.i2s, 1)), (155, (.sastore, 1)), (156, (.iload_n 3, 1)), (157, (.ireturn, 1))]
def zi101 : List (Nat × (Instr × Nat)) := [(0, (.iconst 1, 1)), (1, (.istore_n 2, 1)), (2, (.iload_n 2, 1)), (3, (.aload_n 0, 1)), (4, (.getfield 180, 3)), (7, (.if_icmp .gt 90, 3)), (10, (.iconst 0, 1)), (11, (.istore_n 3, 1)), (12, (.iconst 1, 1)), (13, (.istore 4, 2)), (15, (.iload 4, 2)), (17, (.aload_n 0, 1)), (18, (.getfield 74, 3)), (21, (.if_icmp .gt 52, 3)), (24, (.iload_n 3, 1)), (25, (.ifCond .ne 36, 3)), (28, (.aload_n 0, 1)), (29, (.getfield 7, 3)), (32, (.iload 4, 2)), (34, (.baload, 1)), (35, (.iconst 2, 1)), (36, (.if_icmp .gt 29, 3)), (39, (.aload_n 0, 1)), (40, (.getfield 16, 3)), (43, (.iload 4, 2)), (45, (.saload, 1)), (46, (.iload_n 2, 1)), (47, (.if_icmp .ne 18, 3)), (50, (.aload_n 0, 1)), (51, (.getfield 20, 3)), (54, (.iload 4, 2)), (56, (.baload, 1)), (57, (.iload_n 1, 1)), (58, (.if_icmp .ne 7, 3)), (61, (.iconst 1, 1)), (62, (.goto 4, 3)), (65, (.iconst 0, 1)), (66, (.istore_n 3, 1)), (67, (.iinc 4 1, 3)), (70, (.goto (-55), 3)), (73, (.iload_n 3, 1)), (74, (.ifCond .eq 17, 3)), (77, (.aload_n 0, 1)), (78, (.iload_n 2, 1)), (79, (.invokevirtual 183, 3)), (82, (.ifCond .eq 9, 3)), (85, (.aload_n 0, 1)), (86, (.iload_n 2, 1)), (87, (.invokevirtual 186, 3)), (90, (.pop, 1)), (91, (.iinc 2 1, 3)), (94, (.goto (-92), 3)), (97, (.return_, 1))]
def zi102 : List (Nat × (Instr × Nat)) := [(0, (.aload_n 0, 1)), (1, (.getfield 68, 3)), (4, (.bipush 40, 2)), (6, (.iload_n 1, 1)), (7, (.imul, 1)), (8, (.iload_n 2, 1)), (9, (.iadd, 1)), (10, (.baload, 1)), (11, (.iload_n 3, 1)), (12, (.if_icmp .lt 5, 3)), (15, (.iconst 1, 1)), (16, (.ireturn, 1)), (17, (.aload_n 0, 1)), (18, (.iload_n 2, 1)), (19, (.invokevirtual 189, 3)), (22, (.iconst 0, 1)), (23, (.istore 4, 2)), (25, (.iload 4, 2)), (27, (.iconst 4, 1)), (28, (.if_icmp .ge 47, 3)), (31, (.aload_n 0, 1)), (32, (.getfield 68, 3)), (35, (.bipush 40, 2)), (37, (.iload 4, 2)), (39, (.imul, 1)), (40, (.iload_n 2, 1)), (41, (.iadd, 1)), (42, (.baload, 1)), (43, (.istore 5, 2)), (45, (.iload 4, 2)), (47, (.iload_n 1, 1)), (48, (.if_icmp .eq 21, 3)), (51, (.iload 5, 2)), (53, (.ifCond .le 16, 3)), (56, (.iload 5, 2)), (58, (.iconst 2, 1)), (59, (.if_icmp .eq 8, 3)), (62, (.iload_n 3, 1)), (63, (.iconst 2, 1)), (64, (.if_icmp .ne 5, 3)), (67, (.iconst 0, 1)), (68, (.ireturn, 1)), (69, (.iinc 4 1, 3)), (72, (.goto (-47), 3)), (75, (.aload_n 0, 1)), (76, (.getfield 68, 3)), (79, (.bipush 40, 2)), (81, (.iload_n 1, 1)), (82, (.imul, 1)), (83, (.iload_n 2, 1)), (84, (.iadd, 1)), (85, (.iload_n 3, 1)), (86, (.i2b, 1)), (87, (.bastore, 1)), (88, (.iconst 1, 1)), (89, (.ireturn, 1))]
def zi103 : List (Nat × (Instr × Nat)) := [(0, (.aload_n 0, 1)), (1, (.getfield 65, 3)), (4, (.iload_n 1, 1)), (5, (.iconst 0, 1)), (6, (.iastore, 1)), (7, (.iconst 0, 1)), (8, (.istore_n 2, 1)), (9, (.iload_n 2, 1)), (10, (.bipush 40, 2)), (12, (.if_icmp .ge 21, 3)), (15, (.aload_n 0, 1)), (16, (.getfield 68, 3)), (19, (.bipush 40, 2)), (21, (.iload_n 1, 1)), (22, (.imul, 1)), (23, (.iload_n 2, 1)), (24, (.iadd, 1)), (25, (.iconst 0, 1)), (26, (.bastore, 1)), (27, (.iinc 2 1, 3)), (30, (.goto (-21), 3)), (33, (.return_, 1))]
def zi104 : List (Nat × (Instr × Nat)) := [(0, (.aload_n 0, 1)), (1, (.iconst 0, 1)), (2, (.putfield 71, 3)), (5, (.aload_n 0, 1)), (6, (.iload_n 1, 1)), (7, (.invokevirtual 192, 3)), (10, (.ifCond .ne 9, 3)), (13, (.aload_n 0, 1)), (14, (.iconst 1, 1)), (15, (.invokevirtual 195, 3)), (18, (.ireturn, 1)), (19, (.aload_n 0, 1)), (20, (.getfield 65, 3)), (23, (.iload_n 1, 1)), (24, (.iaload, 1)), (25, (.ifCond .le 9, 3)), (28, (.aload_n 0, 1)), (29, (.iconst 2, 1)), (30, (.invokevirtual 195, 3)), (33, (.ireturn, 1)), (34, (.aload_n 0, 1)), (35, (.dup, 1)), (36, (.getfield 180, 3)), (39, (.iconst 1, 1)), (40, (.iadd, 1)), (41, (.putfield 180, 3)), (44, (.aload_n 0, 1)), (45, (.getfield 65, 3)), (48, (.iload_n 1, 1)), (49, (.aload_n 0, 1)), (50, (.getfield 180, 3)), (53, (.iastore, 1)), (54, (.aload_n 0, 1)), (55, (.getfield 180, 3)), (58, (.ireturn, 1))]
def zi105 : List (Nat × (Instr × Nat)) := [(0, (.aload_n 0, 1)), (1, (.iload_n 1, 1)), (2, (.invokevirtual 192, 3)), (5, (.ifCond .eq 13, 3)), (8, (.iload_n 2, 1)), (9, (.iconst 0, 1)), (10, (.bipush 39, 2)), (12, (.invokestatic 166, 3)), (15, (.ifCond .ne 5, 3)), (18, (.iconst 1, 1)), (19, (.ireturn, 1)), (20, (.aload_n 0, 1)), (21, (.getfield 65, 3)), (24, (.iload_n 1, 1)), (25, (.iaload, 1)), (26, (.ifCond .le 17, 3)), (29, (.aload_n 0, 1)), (30, (.iload_n 1, 1)), (31, (.iload_n 2, 1)), (32, (.iload_n 3, 1)), (33, (.invokevirtual 198, 3)), (36, (.ifCond .eq 7, 3)), (39, (.iconst 0, 1)), (40, (.goto 4, 3)), (43, (.iconst 2, 1)), (44, (.ireturn, 1))]
def zi106 : List (Nat × (Instr × Nat)) := [(0, (.aload_n 0, 1)), (1, (.aload_n 0, 1)), (2, (.iload_n 1, 1)), (3, (.iload_n 2, 1)), (4, (.iconst 1, 1)), (5, (.invokevirtual 201, 3)), (8, (.putfield 71, 3)), (11, (.aload_n 0, 1)), (12, (.getfield 71, 3)), (15, (.ifCond .le 5, 3)), (18, (.iconst 0, 1)), (19, (.ireturn, 1)), (20, (.aload_n 0, 1)), (21, (.iload_n 2, 1)), (22, (.invokevirtual 155, 3)), (25, (.pop, 1)), (26, (.aload_n 0, 1)), (27, (.iload_n 2, 1)), (28, (.invokevirtual 149, 3)), (31, (.istore_n 3, 1)), (32, (.iload_n 3, 1)), (33, (.ifCond .ge 11, 3)), (36, (.aload_n 0, 1)), (37, (.iconst 3, 1)), (38, (.invokevirtual 195, 3)), (41, (.goto 9, 3)), (44, (.aload_n 0, 1)), (45, (.getfield 62, 3)), (48, (.iload_n 3, 1)), (49, (.iaload, 1)), (50, (.ireturn, 1))]
def zi107 : List (Nat × (Instr × Nat)) := [(0, (.aload_n 0, 1)), (1, (.aload_n 0, 1)), (2, (.iload_n 1, 1)), (3, (.iload_n 2, 1)), (4, (.iconst 2, 1)), (5, (.invokevirtual 201, 3)), (8, (.putfield 71, 3)), (11, (.aload_n 0, 1)), (12, (.getfield 71, 3)), (15, (.ifCond .le 7, 3)), (18, (.iconst 0, 1)), (19, (.goto 15, 3)), (22, (.aload_n 0, 1)), (23, (.iload_n 2, 1)), (24, (.iload_n 3, 1)), (25, (.aload_n 0, 1)), (26, (.getfield 65, 3)), (29, (.iload_n 1, 1)), (30, (.iaload, 1)), (31, (.invokevirtual 177, 3)), (34, (.ireturn, 1))]
def zi108 : List (Nat × (Instr × Nat)) := [(0, (.aload_n 0, 1)), (1, (.aload_n 0, 1)), (2, (.iload_n 1, 1)), (3, (.iload_n 2, 1)), (4, (.iconst 2, 1)), (5, (.invokevirtual 201, 3)), (8, (.putfield 71, 3)), (11, (.aload_n 0, 1)), (12, (.getfield 71, 3)), (15, (.ifCond .le 5, 3)), (18, (.iconst 0, 1)), (19, (.ireturn, 1)), (20, (.aload_n 0, 1)), (21, (.iload_n 2, 1)), (22, (.invokevirtual 155, 3)), (25, (.istore_n 3, 1)), (26, (.aload_n 0, 1)), (27, (.iload_n 2, 1)), (28, (.invokevirtual 149, 3)), (31, (.istore 4, 2)), (33, (.iload 4, 2)), (35, (.ifCond .ge 9, 3)), (38, (.aload_n 0, 1)), (39, (.iconst 3, 1)), (40, (.invokevirtual 195, 3)), (43, (.ireturn, 1)), (44, (.aload_n 0, 1)), (45, (.getfield 62, 3)), (48, (.iload 4, 2)), (50, (.iaload, 1)), (51, (.istore 5, 2)), (53, (.aload_n 0, 1)), (54, (.iconst 2, 1)), (55, (.iload_n 3, 1)), (56, (.iload_n 2, 1)), (57, (.iconst 0, 1)), (58, (.aload_n 0, 1)), (59, (.getfield 65, 3)), (62, (.iload_n 1, 1)), (63, (.iaload, 1)), (64, (.invokevirtual 162, 3)), (67, (.iload 5, 2)), (69, (.ireturn, 1))]
def zi109 : List (Nat × (Instr × Nat)) := [(0, (.aload_n 0, 1)), (1, (.aload_n 0, 1)), (2, (.iload_n 1, 1)), (3, (.invokevirtual 192, 3)), (6, (.ifCond .ne 7, 3)), (9, (.iconst 1, 1)), (10, (.goto 17, 3)), (13, (.aload_n 0, 1)), (14, (.getfield 65, 3)), (17, (.iload_n 1, 1)), (18, (.iaload, 1)), (19, (.ifCond .ne 7, 3)), (22, (.iconst 2, 1)), (23, (.goto 4, 3)), (26, (.iconst 0, 1)), (27, (.putfield 71, 3)), (30, (.aload_n 0, 1)), (31, (.getfield 71, 3)), (34, (.ifCond .le 5, 3)), (37, (.iconst 0, 1)), (38, (.ireturn, 1)), (39, (.aload_n 0, 1)), (40, (.bipush 6, 2)), (42, (.iconst 0, 1)), (43, (.invokevirtual 122, 3)), (46, (.istore_n 2, 1)), (47, (.aload_n 0, 1)), (48, (.getfield 16, 3)), (51, (.iload_n 2, 1)), (52, (.aload_n 0, 1)), (53, (.getfield 65, 3)), (56, (.iload_n 1, 1)), (57, (.iaload, 1)), (58, (.i2s, 1)), (59, (.sastore, 1)), (60, (.aload_n 0, 1)), (61, (.iload_n 2, 1)), (62, (.invokevirtual 98, 3)), (65, (.aload_n 0, 1)), (66, (.iload_n 1, 1)), (67, (.invokevirtual 204, 3)), (70, (.iload_n 2, 1)), (71, (.ireturn, 1))]
def zi110 : List (Nat × (Instr × Nat)) := [(0, (.aload_n 0, 1)), (1, (.aload_n 0, 1)), (2, (.iload_n 1, 1)), (3, (.invokevirtual 192, 3)), (6, (.ifCond .ne 7, 3)), (9, (.iconst 1, 1)), (10, (.goto 17, 3)), (13, (.aload_n 0, 1)), (14, (.getfield 65, 3)), (17, (.iload_n 1, 1)), (18, (.iaload, 1)), (19, (.ifCond .ne 7, 3)), (22, (.iconst 2, 1)), (23, (.goto 4, 3)), (26, (.iconst 0, 1)), (27, (.putfield 71, 3)), (30, (.aload_n 0, 1)), (31, (.getfield 71, 3)), (34, (.ifCond .le 5, 3)), (37, (.iconst 0, 1)), (38, (.ireturn, 1)), (39, (.aload_n 0, 1)), (40, (.aload_n 0, 1)), (41, (.getfield 65, 3)), (44, (.iload_n 1, 1)), (45, (.iaload, 1)), (46, (.invokevirtual 186, 3)), (49, (.istore_n 2, 1)), (50, (.aload_n 0, 1)), (51, (.iload_n 1, 1)), (52, (.invokevirtual 204, 3)), (55, (.iload_n 2, 1)), (56, (.ireturn, 1))]
def zi111 : List (Nat × (Instr × Nat)) := [(0, (.aload_n 0, 1)), (1, (.iconst 0, 1)), (2, (.putfield 71, 3)), (5, (.iconst 0, 1)), (6, (.istore_n 1, 1)), (7, (.iconst 1, 1)), (8, (.istore_n 2, 1)), (9, (.iload_n 2, 1)), (10, (.aload_n 0, 1)), (11, (.getfield 180, 3)), (14, (.if_icmp .gt 26, 3)), (17, (.aload_n 0, 1)), (18, (.iload_n 2, 1)), (19, (.invokevirtual 183, 3)), (22, (.ifCond .eq 12, 3)), (25, (.aload_n 0, 1)), (26, (.iload_n 2, 1)), (27, (.invokevirtual 186, 3)), (30, (.pop, 1)), (31, (.iinc 1 1, 3)), (34, (.iinc 2 1, 3)), (37, (.goto (-28), 3)), (40, (.iload_n 1, 1)), (41, (.ireturn, 1))]
def zi112 : List (Nat × (Instr × Nat)) := [(0, (.iload_n 1, 1)), (1, (.iconst 0, 1)), (2, (.aload_n 0, 1)), (3, (.getfield 43, 3)), (6, (.iconst 1, 1)), (7, (.isub, 1)), (8, (.invokestatic 166, 3)), (11, (.ireturn, 1))]
def zi113 : List (Nat × (Instr × Nat)) := [(0, (.aload_n 0, 1)), (1, (.iconst 0, 1)), (2, (.putfield 71, 3)), (5, (.aload_n 0, 1)), (6, (.iload_n 1, 1)), (7, (.invokevirtual 207, 3)), (10, (.ifCond .eq 26, 3)), (13, (.aload_n 0, 1)), (14, (.getfield 47, 3)), (17, (.iload_n 1, 1)), (18, (.iaload, 1)), (19, (.ifCond .eq 17, 3)), (22, (.aload_n 0, 1)), (23, (.iload_n 1, 1)), (24, (.invokevirtual 94, 3)), (27, (.aload_n 0, 1)), (28, (.getfield 50, 3)), (31, (.iload_n 1, 1)), (32, (.iaload, 1)), (33, (.if_icmp .gt 5, 3)), (36, (.iconst 0, 1)), (37, (.ireturn, 1)), (38, (.aload_n 0, 1)), (39, (.iload_n 1, 1)), (40, (.invokevirtual 104, 3)), (43, (.iconst 1, 1)), (44, (.ireturn, 1))]
def zi114 : List (Nat × (Instr × Nat)) := [(0, (.aload_n 0, 1)), (1, (.iconst 0, 1)), (2, (.putfield 71, 3)), (5, (.aload_n 0, 1)), (6, (.iload_n 1, 1)), (7, (.invokevirtual 207, 3)), (10, (.ifCond .ne 5, 3)), (13, (.iconst 0, 1)), (14, (.ireturn, 1)), (15, (.aload_n 0, 1)), (16, (.iload_n 1, 1)), (17, (.invokevirtual 129, 3)), (20, (.aload_n 0, 1)), (21, (.iload_n 1, 1)), (22, (.invokevirtual 94, 3)), (25, (.istore_n 2, 1)), (26, (.aload_n 0, 1)), (27, (.iload_n 2, 1)), (28, (.invokevirtual 98, 3)), (31, (.aload_n 0, 1)), (32, (.getfield 56, 3)), (35, (.iload_n 1, 1)), (36, (.iload_n 2, 1)), (37, (.iastore, 1)), (38, (.iconst 1, 1)), (39, (.ireturn, 1))]
def zi115 : List (Nat × (Instr × Nat)) := [(0, (.aload_n 0, 1)), (1, (.iconst 0, 1)), (2, (.putfield 71, 3)), (5, (.aload_n 0, 1)), (6, (.iload_n 1, 1)), (7, (.invokevirtual 207, 3)), (10, (.ifCond .eq 12, 3)), (13, (.aload_n 0, 1)), (14, (.getfield 53, 3)), (17, (.iload_n 1, 1)), (18, (.baload, 1)), (19, (.ifCond .eq 5, 3)), (22, (.iconst 0, 1)), (23, (.ireturn, 1)), (24, (.aload_n 0, 1)), (25, (.getfield 53, 3)), (28, (.iload_n 1, 1)), (29, (.iconst 1, 1)), (30, (.bastore, 1)), (31, (.iconst 1, 1)), (32, (.ireturn, 1))]
def zi116 : List (Nat × (Instr × Nat)) := [(0, (.aload_n 0, 1)), (1, (.iconst 0, 1)), (2, (.putfield 71, 3)), (5, (.aload_n 0, 1)), (6, (.aload_n 0, 1)), (7, (.getfield 91, 3)), (10, (.putfield 74, 3)), (13, (.aload_n 0, 1)), (14, (.iconst 0, 1)), (15, (.putfield 126, 3)), (18, (.aload_n 0, 1)), (19, (.iconst 1, 1)), (20, (.putfield 43, 3)), (23, (.iconst 1, 1)), (24, (.istore_n 1, 1)), (25, (.iload_n 1, 1)), (26, (.aload_n 0, 1)), (27, (.getfield 74, 3)), (30, (.if_icmp .gt 76, 3)), (33, (.aload_n 0, 1)), (34, (.dup, 1)), (35, (.getfield 126, 3)), (38, (.aload_n 0, 1)), (39, (.getfield 7, 3)), (42, (.iload_n 1, 1)), (43, (.baload, 1)), (44, (.iconst 3, 1)), (45, (.if_icmp .ne 7, 3)), (48, (.iconst 1, 1)), (49, (.goto 4, 3)), (52, (.iconst 0, 1)), (53, (.iadd, 1)), (54, (.putfield 126, 3)), (57, (.aload_n 0, 1)), (58, (.aload_n 0, 1)), (59, (.getfield 7, 3)), (62, (.iload_n 1, 1)), (63, (.baload, 1)), (64, (.bipush 6, 2)), (66, (.if_icmp .ge 27, 3)), (69, (.aload_n 0, 1)), (70, (.getfield 13, 3)), (73, (.iload_n 1, 1)), (74, (.baload, 1)), (75, (.aload_n 0, 1)), (76, (.getfield 43, 3)), (79, (.if_icmp .lt 14, 3)), (82, (.aload_n 0, 1)), (83, (.getfield 13, 3)), (86, (.iload_n 1, 1)), (87, (.baload, 1)), (88, (.iconst 1, 1)), (89, (.iadd, 1)), (90, (.goto 7, 3)), (93, (.aload_n 0, 1)), (94, (.getfield 43, 3)), (97, (.putfield 43, 3)), (100, (.iinc 1 1, 3)), (103, (.goto (-78), 3)), (106, (.iconst 0, 1)), (107, (.istore_n 1, 1)), (108, (.iload_n 1, 1)), (109, (.bipush 48, 2)), (111, (.if_icmp .ge 38, 3)), (114, (.aload_n 0, 1)), (115, (.getfield 47, 3)), (118, (.iload_n 1, 1)), (119, (.iconst 0, 1)), (120, (.iastore, 1)), (121, (.iload_n 1, 1)), (122, (.aload_n 0, 1)), (123, (.getfield 43, 3)), (126, (.if_icmp .lt 17, 3)), (129, (.aload_n 0, 1)), (130, (.getfield 50, 3)), (133, (.iload_n 1, 1)), (134, (.iconst 0, 1)), (135, (.iastore, 1)), (136, (.aload_n 0, 1)), (137, (.getfield 53, 3)), (140, (.iload_n 1, 1)), (141, (.iconst 0, 1)), (142, (.bastore, 1)), (143, (.iinc 1 1, 3)), (146, (.goto (-38), 3)), (149, (.iconst 0, 1)), (150, (.istore_n 1, 1)), (151, (.iload_n 1, 1)), (152, (.iconst 4, 1)), (153, (.if_icmp .ge 14, 3)), (156, (.aload_n 0, 1)), (157, (.iload_n 1, 1)), (158, (.invokevirtual 204, 3)), (161, (.iinc 1 1, 3)), (164, (.goto (-13), 3)), (167, (.aload_n 0, 1)), (168, (.invokevirtual 210, 3)), (171, (.ireturn, 1))]
def zi117 : List (Nat × (Instr × Nat)) := [(0, (.iconst 0, 1)), (1, (.istore_n 1, 1)), (2, (.iconst 1, 1)), (3, (.istore_n 2, 1)), (4, (.iload_n 2, 1)), (5, (.aload_n 0, 1)), (6, (.getfield 180, 3)), (9, (.if_icmp .gt 25, 3)), (12, (.iload_n 1, 1)), (13, (.aload_n 0, 1)), (14, (.iload_n 2, 1)), (15, (.invokevirtual 183, 3)), (18, (.ifCond .eq 7, 3)), (21, (.iconst 1, 1)), (22, (.goto 4, 3)), (25, (.iconst 0, 1)), (26, (.iadd, 1)), (27, (.istore_n 1, 1)), (28, (.iinc 2 1, 3)), (31, (.goto (-27), 3)), (34, (.iload_n 1, 1)), (35, (.ireturn, 1))]
def zi118 : List (Nat × (Instr × Nat)) := [(0, (.aload_n 0, 1)), (1, (.iconst 0, 1)), (2, (.putfield 71, 3)), (5, (.aload_n 0, 1)), (6, (.iload_n 1, 1)), (7, (.invokevirtual 207, 3)), (10, (.ifCond .ne 5, 3)), (13, (.iconst (-1), 1)), (14, (.ireturn, 1)), (15, (.iconst 0, 1)), (16, (.istore_n 3, 1)), (17, (.iconst 1, 1)), (18, (.istore 4, 2)), (20, (.iload 4, 2)), (22, (.aload_n 0, 1)), (23, (.getfield 74, 3)), (26, (.if_icmp .gt 40, 3)), (29, (.iload_n 3, 1)), (30, (.aload_n 0, 1)), (31, (.getfield 7, 3)), (34, (.iload 4, 2)), (36, (.baload, 1)), (37, (.bipush 6, 2)), (39, (.if_icmp .ge 18, 3)), (42, (.aload_n 0, 1)), (43, (.getfield 13, 3)), (46, (.iload 4, 2)), (48, (.baload, 1)), (49, (.iload_n 1, 1)), (50, (.if_icmp .ne 7, 3)), (53, (.iconst 1, 1)), (54, (.goto 4, 3)), (57, (.iconst 0, 1)), (58, (.iadd, 1)), (59, (.istore_n 3, 1)), (60, (.iinc 4 1, 3)), (63, (.goto (-43), 3)), (66, (.iload_n 2, 1)), (67, (.tableswitch 89 0 5 #[37, 52, 59, 66, 81, 87], 37)), (104, (.aload_n 0, 1)), (105, (.getfield 47, 3)), (108, (.iload_n 1, 1)), (109, (.iaload, 1)), (110, (.ifCond .le 7, 3)), (113, (.iconst 1, 1)), (114, (.goto 4, 3)), (117, (.iconst 0, 1)), (118, (.ireturn, 1)), (119, (.aload_n 0, 1)), (120, (.getfield 50, 3)), (123, (.iload_n 1, 1)), (124, (.iaload, 1)), (125, (.ireturn, 1)), (126, (.aload_n 0, 1)), (127, (.getfield 56, 3)), (130, (.iload_n 1, 1)), (131, (.iaload, 1)), (132, (.ireturn, 1)), (133, (.aload_n 0, 1)), (134, (.getfield 53, 3)), (137, (.iload_n 1, 1)), (138, (.baload, 1)), (139, (.ifCond .eq 7, 3)), (142, (.iconst 1, 1)), (143, (.goto 4, 3)), (146, (.iconst 0, 1)), (147, (.ireturn, 1)), (148, (.aload_n 0, 1)), (149, (.iload_n 1, 1)), (150, (.invokevirtual 94, 3)), (153, (.ireturn, 1)), (154, (.iload_n 3, 1)), (155, (.ireturn, 1)), (156, (.iconst (-1), 1)), (157, (.ireturn, 1))]
def zi119 : List (Nat × (Instr × Nat)) := [(0, (.aload_n 0, 1)), (1, (.iconst 0, 1)), (2, (.putfield 71, 3)), (5, (.aload_n 0, 1)), (6, (.iload_n 1, 1)), (7, (.invokevirtual 207, 3)), (10, (.ifCond .eq 13, 3)), (13, (.iload_n 2, 1)), (14, (.iconst 0, 1)), (15, (.bipush 9, 2)), (17, (.invokestatic 166, 3)), (20, (.ifCond .ne 5, 3)), (23, (.iconst (-1), 1)), (24, (.ireturn, 1)), (25, (.aload_n 0, 1)), (26, (.iload_n 1, 1)), (27, (.invokevirtual 143, 3)), (30, (.iload_n 2, 1)), (31, (.iconst 2, 1)), (32, (.if_icmp .ge 28, 3)), (35, (.iload_n 2, 1)), (36, (.iconst 1, 1)), (37, (.if_icmp .ne 10, 3)), (40, (.aload_n 0, 1)), (41, (.getfield 81, 3)), (44, (.goto 15, 3)), (47, (.aload_n 0, 1)), (48, (.getfield 77, 3)), (51, (.ifCond .eq 7, 3)), (54, (.iconst 1, 1)), (55, (.goto 4, 3)), (58, (.iconst 0, 1)), (59, (.ireturn, 1)), (60, (.iload_n 2, 1)), (61, (.iconst 2, 1)), (62, (.isub, 1)), (63, (.iconst 4, 1)), (64, (.irem, 1)), (65, (.istore_n 3, 1)), (66, (.iload_n 2, 1)), (67, (.bipush 6, 2)), (69, (.if_icmp .ge 19, 3)), (72, (.iload_n 3, 1)), (73, (.aload_n 0, 1)), (74, (.getfield 81, 3)), (77, (.if_icmp .ge 7, 3)), (80, (.iconst 1, 1)), (81, (.goto 36, 3)), (84, (.iconst 0, 1)), (85, (.goto 32, 3)), (88, (.iload_n 3, 1)), (89, (.aload_n 0, 1)), (90, (.getfield 77, 3)), (93, (.ifCond .eq 12, 3)), (96, (.aload_n 0, 1)), (97, (.getfield 81, 3)), (100, (.iconst 1, 1)), (101, (.isub, 1)), (102, (.goto 7, 3)), (105, (.aload_n 0, 1)), (106, (.getfield 81, 3)), (109, (.if_icmp .ge 7, 3)), (112, (.iconst 1, 1)), (113, (.goto 4, 3)), (116, (.iconst 0, 1)), (117, (.istore 4, 2)), (119, (.iload 4, 2)), (121, (.ifCond .ne 7, 3)), (124, (.iconst (-1), 1)), (125, (.goto 24, 3)), (128, (.iload_n 2, 1)), (129, (.bipush 6, 2)), (131, (.if_icmp .ge 12, 3)), (134, (.aload_n 0, 1)), (135, (.getfield 59, 3)), (138, (.iload_n 3, 1)), (139, (.iaload, 1)), (140, (.goto 9, 3)), (143, (.aload_n 0, 1)), (144, (.getfield 62, 3)), (147, (.iload_n 3, 1)), (148, (.iaload, 1)), (149, (.ireturn, 1))]
def zi120 : List (Nat × (Instr × Nat)) := [(0, (.aload_n 0, 1)), (1, (.iconst 0, 1)), (2, (.putfield 71, 3)), (5, (.iload_n 1, 1)), (6, (.tableswitch 95 0 8 #[50, 55, 60, 65, 70, 75, 80, 85, 90], 50)), (56, (.aload_n 0, 1)), (57, (.getfield 43, 3)), (60, (.ireturn, 1)), (61, (.aload_n 0, 1)), (62, (.getfield 74, 3)), (65, (.ireturn, 1)), (66, (.aload_n 0, 1)), (67, (.getfield 91, 3)), (70, (.ireturn, 1)), (71, (.aload_n 0, 1)), (72, (.getfield 110, 3)), (75, (.ireturn, 1)), (76, (.aload_n 0, 1)), (77, (.getfield 101, 3)), (80, (.ireturn, 1)), (81, (.aload_n 0, 1)), (82, (.getfield 116, 3)), (85, (.ireturn, 1)), (86, (.aload_n 0, 1)), (87, (.getfield 113, 3)), (90, (.ireturn, 1)), (91, (.aload_n 0, 1)), (92, (.invokevirtual 210, 3)), (95, (.ireturn, 1)), (96, (.aload_n 0, 1)), (97, (.getfield 180, 3)), (100, (.ireturn, 1)), (101, (.iconst (-1), 1)), (102, (.ireturn, 1))]
def zi121 : List (Nat × (Instr × Nat)) := [(0, (.aload_n 0, 1)), (1, (.iconst 0, 1)), (2, (.putfield 71, 3)), (5, (.iload_n 1, 1)), (6, (.iconst 1, 1)), (7, (.aload_n 0, 1)), (8, (.getfield 74, 3)), (11, (.invokestatic 166, 3)), (14, (.ifCond .eq 12, 3)), (17, (.iload_n 2, 1)), (18, (.iconst 0, 1)), (19, (.iconst 4, 1)), (20, (.invokestatic 166, 3)), (23, (.ifCond .ne 5, 3)), (26, (.iconst (-1), 1)), (27, (.ireturn, 1)), (28, (.aload_n 0, 1)), (29, (.getfield 7, 3)), (32, (.iload_n 1, 1)), (33, (.baload, 1)), (34, (.bipush 6, 2)), (36, (.if_icmp .lt 7, 3)), (39, (.iconst 1, 1)), (40, (.goto 4, 3)), (43, (.iconst 0, 1)), (44, (.istore_n 3, 1)), (45, (.iload_n 2, 1)), (46, (.ifCond .ne 10, 3)), (49, (.aload_n 0, 1)), (50, (.getfield 7, 3)), (53, (.iload_n 1, 1)), (54, (.baload, 1)), (55, (.ireturn, 1)), (56, (.iload_n 2, 1)), (57, (.iconst 2, 1)), (58, (.if_icmp .le 24, 3)), (61, (.iload_n 2, 1)), (62, (.iconst 3, 1)), (63, (.if_icmp .ne 12, 3)), (66, (.aload_n 0, 1)), (67, (.getfield 16, 3)), (70, (.iload_n 1, 1)), (71, (.saload, 1)), (72, (.goto 9, 3)), (75, (.aload_n 0, 1)), (76, (.getfield 34, 3)), (79, (.iload_n 1, 1)), (80, (.saload, 1)), (81, (.ireturn, 1)), (82, (.iload_n 3, 1)), (83, (.ifCond .eq 5, 3)), (86, (.iconst (-1), 1)), (87, (.ireturn, 1)), (88, (.iconst 0, 1)), (89, (.istore 4, 2)), (91, (.iconst 1, 1)), (92, (.istore 5, 2)), (94, (.iload 5, 2)), (96, (.iload_n 1, 1)), (97, (.if_icmp .ge 46, 3)), (100, (.aload_n 0, 1)), (101, (.getfield 7, 3)), (104, (.iload 5, 2)), (106, (.baload, 1)), (107, (.bipush 6, 2)), (109, (.if_icmp .ge 24, 3)), (112, (.aload_n 0, 1)), (113, (.getfield 13, 3)), (116, (.iload 5, 2)), (118, (.baload, 1)), (119, (.aload_n 0, 1)), (120, (.getfield 13, 3)), (123, (.iload_n 1, 1)), (124, (.baload, 1)), (125, (.if_icmp .ne 8, 3)), (128, (.iload 5, 2)), (130, (.goto 5, 3)), (133, (.iload 4, 2)), (135, (.istore 4, 2)), (137, (.iinc 5 1, 3)), (140, (.goto (-46), 3)), (143, (.iload_n 2, 1)), (144, (.iconst 1, 1)), (145, (.if_icmp .ne 12, 3)), (148, (.aload_n 0, 1)), (149, (.getfield 13, 3)), (152, (.iload_n 1, 1)), (153, (.baload, 1)), (154, (.goto 5, 3)), (157, (.iload 4, 2)), (159, (.ireturn, 1))]
def zi122 : List (Nat × (Instr × Nat)) := [(0, (.aload_n 0, 1)), (1, (.iconst 0, 1)), (2, (.putfield 71, 3)), (5, (.aload_n 0, 1)), (6, (.iload_n 1, 1)), (7, (.invokevirtual 192, 3)), (10, (.ifCond .eq 36, 3)), (13, (.iload_n 2, 1)), (14, (.iconst 0, 1)), (15, (.bipush 39, 2)), (17, (.invokestatic 166, 3)), (20, (.ifCond .eq 26, 3)), (23, (.aload_n 0, 1)), (24, (.getfield 65, 3)), (27, (.iload_n 1, 1)), (28, (.iaload, 1)), (29, (.ifCond .le 17, 3)), (32, (.aload_n 0, 1)), (33, (.getfield 68, 3)), (36, (.bipush 40, 2)), (38, (.iload_n 1, 1)), (39, (.imul, 1)), (40, (.iload_n 2, 1)), (41, (.iadd, 1)), (42, (.baload, 1)), (43, (.goto 4, 3)), (46, (.iconst (-1), 1)), (47, (.ireturn, 1))]
def zinsL : List (List (Nat × (Instr × Nat))) := [zi0, zi1, zi2, zi3, zi4, zi5, zi6, zi7, zi8, zi9, zi10, zi11, zi12, zi13, zi14, zi15, zi16, zi17, zi18, zi19, zi20, zi21, zi22, zi23, zi24, zi25, zi26, zi27, zi28, zi29, zi30, zi31, zi32, zi33, zi34, zi35, zi36, zi37, zi38, zi39, zi40, zi41, zi42, zi43, zi44, zi45, zi46, zi47, zi48, zi49, zi50, zi51, zi52, zi53, zi54, zi55, zi56, zi57, zi58, zi59, zi60, zi61, zi62, zi63, zi64, zi65, zi66, zi67, zi68, zi69, zi70, zi71, zi72, zi73, zi74, zi75, zi76, zi77, zi78, zi79, zi80, zi81, zi82, zi83, zi84, zi85, zi86, zi87, zi88, zi89, zi90, zi91, zi92, zi93, zi94, zi95, zi96, zi97, zi98, zi99, zi100, zi101, zi102, zi103, zi104, zi105, zi106, zi107, zi108, zi109, zi110, zi111, zi112, zi113, zi114, zi115, zi116, zi117, zi118, zi119, zi120, zi121, zi122]
def zins (m pc : Nat) : Option (Instr × Nat) := zlook (zinsL.getD m []) pc
-- own class, locals, is it static, room: frames and locals
def zmet : List (Nat × Nat × Bool × Nat × Nat) := [(0, 2, false, 7, 105), (0, 5, false, 7, 171), (0, 4, false, 7, 171), (0, 4, false, 7, 171), (0, 3, false, 7, 106), (0, 3, false, 7, 171), (0, 4, false, 7, 171), (0, 2, false, 2, 43), (0, 2, false, 3, 67), (0, 2, false, 1, 21), (0, 2, false, 4, 89), (0, 4, false, 2, 43), (0, 4, false, 1, 22), (0, 2, false, 2, 46), (0, 4, false, 0, 0), (0, 3, false, 1, 20), (0, 1, true, 0, 0), (0, 1, true, 0, 0), (0, 2, false, 0, 0), (0, 1, true, 6, 85), (0, 2, true, 6, 85), (0, 2, false, 6, 85), (0, 1, false, 0, 0), (0, 2, false, 1, 22), (0, 5, false, 6, 147), (0, 9, false, 5, 119), (0, 6, false, 4, 93), (0, 9, false, 3, 65), (0, 4, false, 3, 67), (0, 5, false, 4, 95), (0, 7, false, 3, 68), (0, 8, false, 3, 68), (0, 3, false, 2, 46), (0, 2, false, 2, 46), (0, 2, false, 2, 44), (0, 6, false, 1, 21), (0, 3, false, 1, 21), (0, 2, false, 3, 68), (0, 3, false, 1, 22), (1, 6, false, 2, 40), (1, 1, false, 0, 0), (1, 2, false, 0, 0), (1, 1, false, 0, 0), (2, 3, false, 0, 0), (2, 4, false, 0, 0), (2, 4, false, 0, 0), (2, 1, false, 0, 0), (2, 1, false, 1, 20), (3, 2, false, 1, 22), (3, 3, false, 0, 0), (3, 2, false, 1, 22), (3, 3, false, 1, 22), (3, 3, false, 0, 0), (3, 1, false, 0, 0), (4, 3, false, 6, 85), (4, 3, false, 6, 85), (4, 5, false, 0, 0), (4, 3, false, 0, 0), (4, 2, false, 0, 0), (4, 3, false, 0, 0), (4, 5, false, 0, 0), (4, 3, false, 1, 24), (5, 1, false, 1, 20), (5, 1, false, 0, 0), (6, 1, false, 0, 0), (6, 2, false, 0, 0), (6, 2, false, 0, 0), (6, 3, false, 0, 0), (6, 3, false, 0, 0), (6, 3, false, 0, 0), (6, 1, false, 0, 0), (6, 4, false, 1, 22), (6, 4, false, 1, 22), (6, 5, false, 1, 22), (6, 3, true, 0, 0), (7, 1, false, 0, 0), (7, 2, false, 0, 0), (7, 3, true, 0, 0), (7, 3, false, 0, 0), (7, 3, false, 2, 47), (7, 4, false, 1, 24), (7, 5, false, 0, 0), (7, 3, false, 0, 0), (7, 3, false, 0, 0), (7, 3, false, 1, 22), (7, 4, false, 2, 44), (7, 4, false, 3, 67), (7, 1, false, 3, 67), (7, 3, false, 0, 0), (7, 9, false, 1, 22), (7, 7, false, 4, 90), (7, 9, false, 5, 116), (7, 3, false, 0, 0), (7, 3, false, 4, 90), (7, 8, false, 4, 90), (7, 8, false, 6, 144), (7, 2, false, 1, 22), (7, 4, false, 0, 0), (7, 4, false, 1, 23), (7, 3, false, 0, 0), (7, 6, false, 7, 171), (7, 5, false, 8, 196), (7, 6, false, 9, 220), (7, 3, false, 0, 0), (7, 2, false, 2, 43), (7, 4, false, 10, 245), (7, 4, false, 11, 268), (7, 4, false, 11, 268), (7, 6, false, 11, 268), (7, 3, false, 2, 43), (7, 3, false, 8, 196), (7, 3, false, 8, 196), (7, 2, false, 1, 22), (7, 2, false, 2, 44), (7, 3, false, 4, 90), (7, 2, false, 2, 43), (7, 2, false, 3, 68), (7, 3, false, 2, 46), (7, 5, false, 2, 43), (7, 5, false, 3, 69), (7, 2, false, 3, 68), (7, 6, false, 1, 22), (7, 3, false, 2, 43)]
def zme (m : Nat) : Nat × Nat × Bool × Nat × Nat := zmet.getD m (99, 0, false, 0, 0)
def zown (m : Nat) : Nat := (zme m).1
def zlocs (m : Nat) : Nat := (zme m).2.1
def zstat (m : Nat) : Bool := (zme m).2.2.1
def zFr (m : Nat) : Nat := (zme m).2.2.2.1
def zLo (m : Nat) : Nat := (zme m).2.2.2.2
-- the row of the log: its constructor
def zric : Nat := 27
abbrev zrcode : ByteArray := prog_5_method_1_code
def zrobj : Nat := 3
def zrfs : List Nat := [0, 0, 0, 0, 0, 0, 1, 0, 0, 0, 0, 0, 1, 0, 1, 0]
-- names, code, return types
def zyL : List MethodName := [⟨zR0, "begin", "(I)I"⟩, ⟨zR0, "get", "(II)I"⟩, ⟨zR0, "put", "(III)I"⟩, ⟨zR0, "remove", "(II)I"⟩, ⟨zR0, "commit", "(I)I"⟩, ⟨zR0, "abort", "(I)I"⟩, ⟨zR0, "settle", "()I"⟩, ⟨zR0, "flush", "(I)Z"⟩, ⟨zR0, "backup", "(I)Z"⟩, ⟨zR0, "damage", "(I)Z"⟩, ⟨zR0, "crash", "()I"⟩, ⟨zR0, "page", "(II)I"⟩, ⟨zR0, "show", "(II)I"⟩, ⟨zR0, "count", "(I)I"⟩, ⟨zR0, "record", "(II)I"⟩, ⟨zR0, "lock", "(II)I"⟩, ⟨zR0, "isPlace", "(I)Z"⟩, ⟨zR0, "isKey", "(I)Z"⟩, ⟨zR0, "isMade", "(I)Z"⟩, ⟨zR0, "checkPlace", "(I)V"⟩, ⟨zR0, "checkPlaceAndKey", "(II)V"⟩, ⟨zR0, "checkOpen", "(I)V"⟩, ⟨zR0, "isWornOut", "()Z"⟩, ⟨zR0, "close", "(I)V"⟩, ⟨zR0, "rollBack", "(I)I"⟩, ⟨zR0, "putValue", "(IIII)I"⟩, ⟨zR0, "takeOut", "(III)I"⟩, ⟨zR0, "addChange", "(IIIII)LPageKeeper$LogRow;"⟩, ⟨zR0, "goDown", "(I)I"⟩, ⟨zR0, "goDownSplitting", "(I)I"⟩, ⟨zR0, "splitRoot", "(I)I"⟩, ⟨zR0, "splitBelow", "(III)I"⟩, ⟨zR0, "enforce", "(LPageKeeper$LogRow;)V"⟩, ⟨zR0, "fix", "(I)V"⟩, ⟨zR0, "fixNew", "(I)V"⟩, ⟨zR0, "read", "(I)V"⟩, ⟨zR0, "writeIfNewer", "(I)Z"⟩, ⟨zR0, "replayLog", "()V"⟩, ⟨zR0, "findLosers", "()V"⟩, ⟨zR1, "add", "(IIII)LPageKeeper$LogRow;"⟩, ⟨zR1, "startSplit", "()V"⟩, ⟨zR1, "force", "(I)V"⟩, ⟨zR1, "loseUnforced", "()V"⟩, ⟨zR2, "bringHalf", "(LPageKeeper$Contents;I)V"⟩, ⟨zR2, "bringBranch", "(III)V"⟩, ⟨zR2, "bringChild", "(III)V"⟩, ⟨zR2, "isChange", "()Z"⟩, ⟨zR2, "isToUndo", "()Z"⟩, ⟨zR3, "has", "(I)Z"⟩, ⟨zR3, "indexOf", "(I)I"⟩, ⟨zR3, "leavingFor", "(I)I"⟩, ⟨zR3, "touch", "(I)V"⟩, ⟨zR3, "dropAt", "(I)V"⟩, ⟨zR3, "clear", "()V"⟩, ⟨zR4, "takeShared", "(II)V"⟩, ⟨zR4, "takeOwn", "(II)V"⟩, ⟨zR4, "othersHold", "(III)Z"⟩, ⟨zR4, "release", "(I)V"⟩, ⟨zR4, "clearLosers", "()V"⟩, ⟨zR4, "releaseLoser", "(I)V"⟩, ⟨zR4, "leastLoserAbove", "(I)I"⟩, ⟨zR4, "countLosers", "()I"⟩, ⟨zR5, "forgetLogged", "()V"⟩, ⟨zR5, "forgetStored", "()V"⟩, ⟨zR6, "becomeEmptyLeaf", "()V"⟩, ⟨zR6, "becomeWhatBrings", "(LPageKeeper$LogRow;)V"⟩, ⟨zR6, "headAt", "(I)I"⟩, ⟨zR6, "tailAt", "(I)I"⟩, ⟨zR6, "indexOf", "(I)I"⟩, ⟨zR6, "childFor", "(I)I"⟩, ⟨zR6, "middleKey", "()I"⟩, ⟨zR6, "enter", "(II)V"⟩, ⟨zR6, "drop", "(I)V"⟩, ⟨zR6, "link", "(III)V"⟩, ⟨zR6, "shiftUp", "([II)V"⟩, ⟨zR7, "thrown", "()I"⟩, ⟨zR7, "fails", "(I)I"⟩, ⟨zR7, "in", "(III)Z"⟩, ⟨zR7, "latest", "(I)I"⟩, ⟨zR7, "look", "(I)V"⟩, ⟨zR7, "replay", "(I)V"⟩, ⟨zR7, "replayEntry", "(I)V"⟩, ⟨zR7, "entry", "(I)I"⟩, ⟨zR7, "force", "(I)V"⟩, ⟨zR7, "write", "(I)V"⟩, ⟨zR7, "room", "()V"⟩, ⟨zR7, "fix", "(I)V"⟩, ⟨zR7, "newPage", "()I"⟩, ⟨zR7, "append", "(II)I"⟩, ⟨zR7, "format", "(IIII)V"⟩, ⟨zR7, "formatRoot", "(IIII)V"⟩, ⟨zR7, "split", "(III)I"⟩, ⟨zR7, "childFor", "(I)I"⟩, ⟨zR7, "down", "(I)I"⟩, ⟨zR7, "change", "(IIIII)V"⟩, ⟨zR7, "place", "(III)I"⟩, ⟨zR7, "isPlace", "(I)Z"⟩, ⟨zR7, "isOpen", "(I)Z"⟩, ⟨zR7, "isLoser", "(I)Z"⟩, ⟨zR7, "wasUndone", "(I)Z"⟩, ⟨zR7, "rollBack", "(I)I"⟩, ⟨zR7, "clear", "(I)V"⟩, ⟨zR7, "gets", "(III)Z"⟩, ⟨zR7, "leave", "(I)V"⟩, ⟨zR7, "begin", "(I)I"⟩, ⟨zR7, "ready", "(III)I"⟩, ⟨zR7, "get", "(II)I"⟩, ⟨zR7, "put", "(III)I"⟩, ⟨zR7, "remove", "(II)I"⟩, ⟨zR7, "commit", "(I)I"⟩, ⟨zR7, "abort", "(I)I"⟩, ⟨zR7, "settle", "()I"⟩, ⟨zR7, "isPage", "(I)Z"⟩, ⟨zR7, "flush", "(I)Z"⟩, ⟨zR7, "backup", "(I)Z"⟩, ⟨zR7, "damage", "(I)Z"⟩, ⟨zR7, "crash", "()I"⟩, ⟨zR7, "losers", "()I"⟩, ⟨zR7, "page", "(II)I"⟩, ⟨zR7, "show", "(II)I"⟩, ⟨zR7, "count", "(I)I"⟩, ⟨zR7, "record", "(II)I"⟩, ⟨zR7, "lock", "(II)I"⟩]
def zbL : List ByteArray := [prog_1_method_2_code, prog_1_method_3_code, prog_1_method_4_code, prog_1_method_5_code, prog_1_method_6_code, prog_1_method_7_code, prog_1_method_8_code, prog_1_method_9_code, prog_1_method_10_code, prog_1_method_11_code, prog_1_method_12_code, prog_1_method_13_code, prog_1_method_14_code, prog_1_method_15_code, prog_1_method_16_code, prog_1_method_17_code, prog_1_method_18_code, prog_1_method_19_code, prog_1_method_20_code, prog_1_method_21_code, prog_1_method_22_code, prog_1_method_23_code, prog_1_method_24_code, prog_1_method_25_code, prog_1_method_26_code, prog_1_method_27_code, prog_1_method_28_code, prog_1_method_29_code, prog_1_method_30_code, prog_1_method_31_code, prog_1_method_32_code, prog_1_method_33_code, prog_1_method_34_code, prog_1_method_35_code, prog_1_method_36_code, prog_1_method_37_code, prog_1_method_38_code, prog_1_method_39_code, prog_1_method_40_code, prog_4_method_2_code, prog_4_method_3_code, prog_4_method_4_code, prog_4_method_5_code, prog_5_method_2_code, prog_5_method_3_code, prog_5_method_4_code, prog_5_method_5_code, prog_5_method_6_code, prog_7_method_2_code, prog_7_method_3_code, prog_7_method_4_code, prog_7_method_5_code, prog_7_method_6_code, prog_7_method_7_code, prog_3_method_2_code, prog_3_method_3_code, prog_3_method_4_code, prog_3_method_5_code, prog_3_method_6_code, prog_3_method_7_code, prog_3_method_8_code, prog_3_method_9_code, prog_6_method_2_code, prog_6_method_3_code, prog_2_method_2_code, prog_2_method_3_code, prog_2_method_4_code, prog_2_method_5_code, prog_2_method_6_code, prog_2_method_7_code, prog_2_method_8_code, prog_2_method_9_code, prog_2_method_10_code, prog_2_method_11_code, prog_2_method_12_code, prog_9_method_2_code, prog_9_method_3_code, prog_9_method_4_code, prog_9_method_5_code, prog_9_method_6_code, prog_9_method_7_code, prog_9_method_8_code, prog_9_method_9_code, prog_9_method_10_code, prog_9_method_11_code, prog_9_method_12_code, prog_9_method_13_code, prog_9_method_14_code, prog_9_method_15_code, prog_9_method_16_code, prog_9_method_17_code, prog_9_method_18_code, prog_9_method_19_code, prog_9_method_20_code, prog_9_method_21_code, prog_9_method_22_code, prog_9_method_23_code, prog_9_method_24_code, prog_9_method_25_code, prog_9_method_26_code, prog_9_method_27_code, prog_9_method_28_code, prog_9_method_29_code, prog_9_method_30_code, prog_9_method_31_code, prog_9_method_32_code, prog_9_method_33_code, prog_9_method_34_code, prog_9_method_35_code, prog_9_method_36_code, prog_9_method_37_code, prog_9_method_38_code, prog_9_method_39_code, prog_9_method_40_code, prog_9_method_41_code, prog_9_method_42_code, prog_9_method_43_code, prog_9_method_44_code, prog_9_method_45_code, prog_9_method_46_code, prog_9_method_47_code, prog_9_method_48_code, prog_9_method_49_code]
def zretL : List (Option FieldType) := [some .int, some .int, some .int, some .int, some .int, some .int, some .int, some .boolean, some .boolean, some .boolean, some .int, some .int, some .int, some .int, some .int, some .int, some .boolean, some .boolean, some .boolean, none, none, none, some .boolean, none, some .int, some .int, some .int, some (.object "PageKeeper$LogRow"), some .int, some .int, some .int, some .int, none, none, none, none, some .boolean, none, none, some (.object "PageKeeper$LogRow"), none, none, none, none, none, none, some .boolean, some .boolean, some .boolean, some .int, some .int, none, none, none, none, none, some .boolean, none, none, none, some .int, some .int, none, none, none, none, some .int, some .int, some .int, some .int, some .int, none, none, none, none, some .int, some .int, some .boolean, some .int, none, none, none, some .int, none, none, none, none, some .int, some .int, none, none, some .int, some .int, some .int, none, some .int, some .boolean, some .boolean, some .boolean, some .boolean, some .int, none, some .boolean, none, some .int, some .int, some .int, some .int, some .int, some .int, some .int, some .int, some .boolean, some .boolean, some .boolean, some .boolean, some .int, some .int, some .int, some .int, some .int, some .int, some .int]
def zrt (m : Nat) : Option FieldType := zretL.getD m none
def zyy (m : Nat) : MethodName := zyL.getD m ⟨"", "", ""⟩
def zbb (m : Nat) : ByteArray := zbL.getD m ⟨#[]⟩
def zRn (c : Nat) : String := (zcl.getD c ("", zT0, 0)).1
-- where the words stand in the tables
def zclX : List (List Nat) := [[201, 203, 205, 207, 209, 211, 213, 215, 217, 219, 221, 223], [92, 94, 96, 98], [364, 366, 368, 370, 372, 374, 376, 378, 380, 382, 384, 386, 388, 390, 392, 394], [109, 111], [127, 129], [176, 178, 180, 182, 184, 186], [155, 157, 159, 161], [753, 755, 757, 759, 761, 763, 765, 767, 769, 771, 773, 775, 777, 779, 781, 783, 785, 787, 789, 791, 793, 795, 797, 799, 801, 803, 805, 807, 809, 811, 813, 815]]
def zfldX : List (List (Nat × Nat)) := [[(12, 189), (19, 190), (26, 191), (32, 192), (36, 193), (40, 194), (44, 195), (47, 196), (50, 197), (53, 198), (56, 199), (59, 200), (81, 126), (94, 165), (106, 154), (120, 86), (124, 363), (133, 331), (158, 167), (161, 175), (164, 173), (187, 171), (190, 169), (192, 147), (195, 149), (204, 88), (205, 90), (208, 334), (211, 336), (214, 338), (217, 340), (220, 343), (229, 124), (242, 362), (245, 350), (258, 353), (303, 361), (315, 346)], [(11, 85), (17, 87), (21, 89), (24, 91), (28, 330), (31, 332), (34, 335), (37, 337), (40, 339), (43, 341), (46, 344), (50, 347)], [(9, 146), (15, 358), (18, 151), (22, 348), (26, 153), (29, 351), (32, 354), (35, 356), (38, 360), (41, 333), (48, 342), (51, 345)], [(9, 107), (15, 108)], [(11, 123), (16, 125)], [(12, 164), (18, 166), (22, 168), (25, 170), (28, 172), (32, 174)], [(9, 145), (15, 148), (19, 150), (23, 152), (26, 359), (29, 349), (32, 352), (35, 355), (38, 357)], [(7, 724), (13, 725), (16, 726), (20, 727), (23, 728), (27, 729), (31, 730), (34, 731), (37, 732), (40, 734), (43, 735), (47, 736), (50, 737), (53, 738), (56, 739), (59, 747), (62, 748), (65, 749), (68, 752), (71, 721), (74, 722), (77, 745), (81, 746), (91, 723), (101, 742), (110, 741), (113, 744), (116, 743), (119, 740), (126, 733), (152, 751), (180, 750)]]
def zcalX : List (List (Nat × Nat)) := [[(63, 558), (70, 639), (74, 651), (78, 654), (84, 234), (88, 658), (91, 250), (98, 297), (109, 690), (112, 246), (116, 441), (129, 321), (136, 270), (139, 477), (142, 230), (145, 453), (149, 274), (152, 266), (155, 254), (168, 469), (171, 473), (174, 485), (177, 497), (180, 501), (183, 510), (198, 523), (201, 527), (223, 543), (226, 546), (236, 481), (239, 238), (248, 445), (251, 301), (254, 437), (261, 401), (265, 293), (268, 305), (271, 429), (274, 309), (277, 313), (280, 317), (283, 397), (287, 425), (291, 433), (294, 405), (297, 412), (300, 417), (306, 421), (309, 282), (318, 258), (321, 278), (324, 285), (327, 489), (330, 505), (333, 509)], [], [(44, 242)], [(19, 262), (23, 289)], [(20, 662), (27, 514)], [(35, 493)], [(41, 409), (45, 416)], [(84, 904), (88, 908), (94, 888), (98, 896), (104, 892), (107, 884), (122, 932), (129, 880), (132, 924), (136, 928), (140, 936), (143, 900), (146, 912), (149, 916), (155, 876), (158, 920), (162, 940), (166, 833), (170, 860), (174, 868), (177, 872), (183, 856), (186, 864), (189, 852), (192, 829), (195, 836), (198, 848), (201, 844), (204, 956), (207, 972), (210, 988)]]
def zmX : List (Nat × Nat × Nat × Nat) := [(557, 54, 555, 556), (650, 54, 648, 649), (689, 54, 687, 688), (700, 54, 698, 699), (707, 54, 705, 706), (714, 54, 712, 713), (229, 54, 227, 228), (452, 54, 450, 451), (460, 54, 458, 459), (464, 54, 462, 463), (468, 54, 466, 467), (518, 54, 516, 517), (522, 54, 520, 521), (534, 54, 532, 533), (538, 54, 536, 537), (542, 54, 540, 541), (545, 54, 544, 0), (548, 54, 547, 0), (456, 54, 455, 15), (560, 54, 559, 0), (653, 54, 652, 0), (657, 54, 656, 21), (642, 54, 641, 20), (480, 54, 479, 16), (237, 54, 236, 0), (249, 54, 248, 1), (444, 54, 443, 14), (440, 54, 439, 13), (253, 54, 252, 2), (304, 54, 303, 8), (308, 54, 307, 9), (432, 54, 431, 12), (404, 54, 403, 11), (257, 54, 256, 3), (320, 54, 319, 10), (281, 54, 280, 6), (269, 54, 268, 5), (488, 54, 487, 17), (504, 54, 503, 18), (324, 55, 322, 323), (316, 55, 314, 315), (273, 55, 271, 272), (472, 55, 470, 471), (400, 67, 398, 399), (428, 67, 426, 427), (436, 67, 434, 435), (245, 67, 243, 244), (241, 67, 239, 240), (277, 56, 275, 276), (265, 56, 264, 4), (261, 56, 259, 260), (288, 56, 286, 287), (292, 56, 291, 7), (476, 56, 474, 475), (661, 57, 659, 660), (693, 57, 691, 692), (665, 57, 664, 22), (484, 57, 482, 483), (508, 57, 506, 507), (448, 57, 446, 447), (233, 57, 231, 232), (513, 57, 511, 512), (492, 58, 490, 491), (500, 58, 498, 499), (496, 59, 494, 495), (420, 59, 418, 419), (526, 59, 524, 525), (530, 59, 528, 529), (300, 59, 298, 299), (296, 59, 294, 295), (312, 59, 310, 311), (408, 59, 406, 407), (415, 59, 413, 414), (424, 59, 422, 423), (411, 59, 410, 0), (824, 60, 822, 823), (839, 60, 838, 24), (835, 60, 834, 0), (891, 60, 890, 36), (903, 60, 902, 39), (907, 60, 906, 40), (911, 60, 910, 41), (919, 60, 918, 43), (899, 60, 898, 38), (895, 60, 894, 37), (887, 60, 886, 35), (883, 60, 882, 34), (927, 60, 926, 45), (935, 60, 934, 47), (931, 60, 930, 46), (939, 60, 938, 48), (923, 60, 922, 44), (915, 60, 914, 42), (879, 60, 878, 33), (943, 60, 942, 49), (875, 60, 874, 32), (832, 60, 831, 23), (863, 60, 862, 29), (859, 60, 858, 28), (871, 60, 870, 31), (867, 60, 866, 30), (855, 60, 854, 27), (851, 60, 850, 26), (959, 60, 958, 50), (828, 60, 826, 827), (847, 60, 846, 25), (843, 60, 841, 842), (947, 60, 945, 946), (951, 60, 949, 950), (955, 60, 953, 954), (963, 60, 961, 962), (967, 60, 965, 966), (975, 60, 974, 51), (971, 60, 969, 970), (979, 60, 977, 978), (983, 60, 981, 982), (987, 60, 985, 986), (991, 60, 990, 52), (995, 60, 993, 994), (999, 60, 997, 998), (1003, 60, 1001, 1002), (1007, 60, 1005, 1006), (1011, 60, 1009, 1010)]
-- own class, entry of new, entry of the constructor, which throwable
def zxL : List (Nat × Nat × Nat × Nat) := [(0, 67, 69, 2), (0, 103, 105, 3), (0, 233, 235, 1), (4, 24, 26, 2)]
end
section
/-! The small machine: values, state, one instruction, runs. The tables (zkind, zins, zfld, zcal, znew, zmet) stand ahead of this text. -/
-- an int, or a reference: none is null, (k, i) the i-th object of kind k
abbrev zV : Type := Int32 ⊕ Option (Nat × Nat)
-- code (64 * kind + field, 64 * kind for an array), object, place
abbrev zS : Type := Nat → Nat → Nat → Int32
-- and how many log rows are made
abbrev zT : Type := zS × Nat
-- returned, or threw an object of a class with this number
abbrev zO : Type := Option zV ⊕ Nat
-- pc, locals, stack, state
abbrev zC : Type := Nat × List (Option zV) × List zV × zT
-- what one instruction does: goes on if the guard holds; ends; branches; calls (method, arguments, rest of the stack, next pc)
abbrev zR : Type := (Bool × zC) ⊕ ((zO × zT) ⊕ ((Bool × Nat × Nat × List zV) ⊕ (Nat × List zV × List zV × Nat)))
def zu (S : zS) (f i j : Nat) (v : Int32) : zS := fun f' i' j' => if f' = f ∧ i' = i ∧ j' = j then v else S f' i' j'
theorem zu_self (S : zS) (f i j : Nat) (v : Int32) : zu S f i j v f i j = v := by simp [zu]
theorem zu_f (S : zS) {f i j f' i' j' : Nat} (v : Int32) (h : f' ≠ f) : zu S f i j v f' i' j' = S f' i' j' := by simp [zu, h]
theorem zu_i (S : zS) {f i j f' i' j' : Nat} (v : Int32) (h : i' ≠ i) : zu S f i j v f' i' j' = S f' i' j' := by simp [zu, h]
theorem zu_j (S : zS) {f i j f' i' j' : Nat} (v : Int32) (h : j' ≠ j) : zu S f i j v f' i' j' = S f' i' j' := by simp [zu, h]
-- a row of the log that is made anew: all its fields are 0
def zrow (S : zS) (k : Nat) : zS := fun f i j => if f / 64 = 3 ∧ i = k then 0 else S f i j
def zint (n : Int) : Int32 := match n with
  | .ofNat k => nI k
  | .negSucc k => Int32.ofInt (.negSucc k)
def zld (ls : List (Option zV)) (i : Nat) : Option zV := match ls[i]? with
  | some (some v) => some v
  | _ => none
def zpush (v : Option zV) (st : List zV) : List zV := match v with
  | none => st
  | some x => x :: st
def zcmp (c : ClassFile.Cond) (x y : Int32) : Bool := match c with
  | .eq => decide (x = y)
  | .ne => decide (¬ x = y)
  | .lt => decide (x < y)
  | .ge => decide (y ≤ x)
  | .gt => decide (y < x)
  | .le => decide (x ≤ y)
def zsw (d lo hi : Int) (offs : Array Int) (x : Int32) : Option Int := if x.toInt < lo ∨ hi < x.toInt then some d else offs[(x.toInt - lo).toNat]?
def ztgt (pc : Nat) (off : Int) : Nat := ((pc : Int) + off).toNat
def zin (x : Int32) (n : Nat) : Bool := decide (¬ (x < 0 ∨ n ≤ x.toNatClampNeg))
-- valid objects: kind 3 is the log's rows
def zok (made k i : Nat) : Bool := if k = 3 then decide (1 ≤ i ∧ i ≤ made) else decide (i < zcnt k)
-- an element of an array of references of kind k
def zel (made k j : Nat) : Option (Nat × Nat) := if zok made k j = true then some (k, j) else none
def zgo (pc : Nat) (ls : List (Option zV)) (st : List zV) (t : zT) : Option zR := some (.inl (true, pc, ls, st, t))
def zgd (b : Bool) (pc : Nat) (ls : List (Option zV)) (st : List zV) (t : zT) : Option zR := some (.inl (b, pc, ls, st, t))
def zbr (b : Bool) (p1 p2 : Nat) (st : List zV) : Option zR := some (.inr (.inr (.inl (b, p1, p2, st))))
def zend (o : zO) (t : zT) : Option zR := some (.inr (.inl (o, t)))
-- tables used here: zkind k : (class number, fields: 0 int, 1 boolean, q + 2 reference to kind q) or (array type, element: 0 int, 1 byte, 2 short, 3 boolean, q + 4 reference to kind q, length)
-- zfld own index : class number and field; zcal own index : callee and how many arguments with the receiver; znew own index : 0 a log row, x + 1 a throwable of number x
def zcls (k c : Nat) : Bool := match zkind k with
  | .inl (c', _) => Nat.beq c' c
  | .inr _ => false
def zget (k i f : Nat) (t : zT) : Option zV := match zkind k with
  | .inl (_, fs) => match fs[f]? with
    | some 0 => some (.inl (t.1 (64 * k + f) i 0))
    | some 1 => some (.inl (t.1 (64 * k + f) i 0))
    | some (q + 2) => some (.inr (some (q, i)))
    | none => none
  | .inr _ => none
def zload (el pc : Nat) (ls : List (Option zV)) (st : List zV) (t : zT) : Option zR := match st with
  | .inl x :: .inr (some (k, i)) :: r => match zkind k with
    | .inr (_, e, n) => if e = el then zgd (zin x n) (pc + 1) ls (.inl (t.1 (64 * k) i x.toNatClampNeg) :: r) t else none
    | .inl _ => none
  | _ => none
def zstore (el : Nat) (nar : Int32 → Int32) (pc : Nat) (ls : List (Option zV)) (st : List zV) (t : zT) : Option zR := match st with
  | .inl v :: .inl x :: .inr (some (k, i)) :: r => match zkind k with
    | .inr (_, e, n) => if e = el then zgd (zin x n) (pc + 1) ls r (zu t.1 (64 * k) i x.toNatClampNeg (nar v), t.2) else none
    | .inl _ => none
  | _ => none
-- the receiver of a call: an object of the callee's class
def zrecv (m : Nat) (as : List zV) : Bool := match as with
  | .inr (some (k, _)) :: _ => zcls k (zown m)
  | _ => false
def zcall (virt : Bool) (own index pc : Nat) (st : List zV) : Option zR := match zcal own index with
  | none => none
  | some (m, n) => if (Nat.ble n st.length && Nat.ble st.length (n + 8) && (bif virt then zrecv m (st.take n).reverse else true) && (zstat m != virt)) = true then some (.inr (.inr (.inr (m, (st.take n).reverse, st.drop n, pc + 3)))) else none
def zari (f : Int32 → Int32 → Int32) (pc : Nat) (ls : List (Option zV)) (st : List zV) (t : zT) : Option zR := match st with
  | .inl y :: .inl x :: r => zgo (pc + 1) ls (.inl (f x y) :: r) t
  | _ => none
def zmono (f : Int32 → Int32) (pc : Nat) (ls : List (Option zV)) (st : List zV) (t : zT) : Option zR := match st with
  | .inl x :: r => zgo (pc + 1) ls (.inl (f x) :: r) t
  | _ => none
def zil (i len pc : Nat) (ls : List (Option zV)) (st : List zV) (t : zT) : Option zR := match zld ls i with
  | some (.inl x) => zgo (pc + len) ls (.inl x :: st) t
  | _ => none
def zal (i len pc : Nat) (ls : List (Option zV)) (st : List zV) (t : zT) : Option zR := match zld ls i with
  | some (.inr (some r)) => zgo (pc + len) ls (.inr (some r) :: st) t
  | _ => none
def zis (i len pc : Nat) (ls : List (Option zV)) (st : List zV) (t : zT) : Option zR := match st with
  | .inl x :: r => if i < ls.length then zgo (pc + len) (ls.set i (some (.inl x))) r t else none
  | _ => none
def zas (i len pc : Nat) (ls : List (Option zV)) (st : List zV) (t : zT) : Option zR := match st with
  | .inr (some x) :: r => if i < ls.length then zgo (pc + len) (ls.set i (some (.inr (some x)))) r t else none
  | _ => none
-- rt: the method's return type
def zex (own : Nat) (rt : Option FieldType) (pc len : Nat) (i : Instr) (ls : List (Option zV)) (st : List zV) (t : zT) : Option zR := match i with
  | .iconst n => zgo (pc + 1) ls (.inl (zint n) :: st) t
  | .bipush (.ofNat n) => if n < 128 then zgo (pc + 2) ls (.inl (nI n) :: st) t else none
  | .sipush (.ofNat n) => if n < 32768 then zgo (pc + 3) ls (.inl (nI n) :: st) t else none
  | .iload n => zil n len pc ls st t
  | .iload_n n => zil n.val 1 pc ls st t
  | .aload n => zal n len pc ls st t
  | .aload_n n => zal n.val 1 pc ls st t
  | .istore n => zis n len pc ls st t
  | .istore_n n => zis n.val 1 pc ls st t
  | .astore n => zas n len pc ls st t
  | .astore_n n => zas n.val 1 pc ls st t
  | .iinc n d => match zld ls n with
    | some (.inl x) => if n < ls.length then zgo (pc + 3) (ls.set n (some (.inl (x + zint d)))) st t else none
    | _ => none
  | .dup => match st with
    | a :: r => zgo (pc + 1) ls (a :: a :: r) t
    | _ => none
  | .dup_x1 => match st with
    | a :: b :: r => zgo (pc + 1) ls (a :: b :: a :: r) t
    | _ => none
  | .dup2 => match st with
    | a :: b :: r => zgo (pc + 1) ls (a :: b :: a :: b :: r) t
    | _ => none
  | .pop => match st with
    | _ :: r => zgo (pc + 1) ls r t
    | _ => none
  | .iadd => zari (fun x y => x + y) pc ls st t
  | .isub => zari (fun x y => x - y) pc ls st t
  | .imul => zari (fun x y => x * y) pc ls st t
  | .idiv => match st with
    | .inl y :: .inl x :: r => zgd (decide (¬ y = 0)) (pc + 1) ls (.inl (x / y) :: r) t
    | _ => none
  | .irem => match st with
    | .inl y :: .inl x :: r => zgd (decide (¬ y = 0)) (pc + 1) ls (.inl (x - x / y * y) :: r) t
    | _ => none
  | .i2b => zmono (fun x => x.toInt8.toInt32) pc ls st t
  | .i2s => zmono (fun x => x.toInt16.toInt32) pc ls st t
  | .ifCond c off => match st with
    | .inl x :: r => zbr (zcmp c x 0) (ztgt pc off) (pc + 3) r
    | _ => none
  | .if_icmp c off => match st with
    | .inl y :: .inl x :: r => zbr (zcmp c x y) (ztgt pc off) (pc + 3) r
    | _ => none
  | .ifnonnull off => match st with
    | .inr none :: r => zgo (pc + 3) ls r t
    | .inr (some _) :: r => zgo (ztgt pc off) ls r t
    | _ => none
  | .ifnull off => match st with
    | .inr none :: r => zgo (ztgt pc off) ls r t
    | .inr (some _) :: r => zgo (pc + 3) ls r t
    | _ => none
  | .goto off => zgo (ztgt pc off) ls st t
  | .getfield n => match st with
    | .inr (some (k, i)) :: r => match zfld own n with
      | some (c, f) => if zcls k c = true then (match zget k i f t with
        | some v => zgo (pc + 3) ls (v :: r) t
        | none => none) else none
      | none => none
    | _ => none
  | .putfield n => match st with
    | .inl v :: .inr (some (k, i)) :: r => match zfld own n with
      | some (c, f) => match zkind k with
        | .inl (c', fs) => if c' = c then (match fs[f]? with
          | some 0 => zgo (pc + 3) ls r (zu t.1 (64 * k + f) i 0 v, t.2)
          | some 1 => zgd (decide (v = 0 ∨ v = 1)) (pc + 3) ls r (zu t.1 (64 * k + f) i 0 v, t.2)
          | _ => none) else none
        | .inr _ => none
      | none => none
    | _ => none
  | .iaload => zload 0 pc ls st t
  | .saload => zload 2 pc ls st t
  | .baload => match st with
    | .inl _ :: .inr (some (k, _)) :: _ => match zkind k with
      | .inr (_, 3, _) => zload 3 pc ls st t
      | _ => zload 1 pc ls st t
    | _ => none
  | .iastore => zstore 0 (fun x => x) pc ls st t
  | .sastore => zstore 2 (vp_nar .short) pc ls st t
  | .bastore => match st with
    | .inl _ :: .inl _ :: .inr (some (k, _)) :: _ => match zkind k with
      | .inr (_, 3, _) => zstore 3 (vp_nar .boolean) pc ls st t
      | _ => zstore 1 (vp_nar .byte) pc ls st t
    | _ => none
  | .aaload => match st with
    | .inl x :: .inr (some (k, _)) :: r => match zkind k with
      | .inr (_, q + 4, n) => zgd (zin x n) (pc + 1) ls (.inr (zel t.2 q x.toNatClampNeg) :: r) t
      | _ => none
    | _ => none
  | .invokevirtual n => zcall true own n pc st
  | .invokestatic n => match zcal own n with
    | some (999, _) => match st with
      | .inl y :: .inl x :: r => if Nat.ble r.length 8 = true then zgo (pc + 3) ls (.inl (if x < y then y else x) :: r) t else none
      | _ => none
    | _ => zcall false own n pc st
  | .new n => match znew own n with
    | some 0 => match st with
      | .inl x :: .inr (some (2, 0)) :: r => if Nat.ble r.length 4 = true then zgd (decide (x = nI (t.2 + 1) ∧ t.2 + 1 < 1145)) (pc + 8) ls r (zrow t.1 (t.2 + 1), t.2 + 1) else none
      | _ => none
    | some (x + 1) => if Nat.ble st.length 4 = true then zend (.inr x) t else none
    | none => none
  | .ireturn => match st with
    | [.inl x] => match rt with
      | some .int => zend (.inl (some (.inl x))) t
      | some .boolean => if x = 0 ∨ x = 1 then zend (.inl (some (.inl x))) t else none
      | _ => none
    | _ => none
  | .areturn => match st with
    | [.inr (some r)] => match rt with
      | some (.object _) => zend (.inl (some (.inr (some r)))) t
      | some (.array _) => zend (.inl (some (.inr (some r)))) t
      | _ => none
    | _ => none
  | .return_ => match st with
    | [] => match rt with
      | none => zend (.inl none) t
      | some _ => none
    | _ => none
  | .tableswitch d lo hi offs => match st with
    | .inl x :: r => match zsw d lo hi offs x with
      | some off => zgo (ztgt pc off) ls r t
      | none => none
    | _ => none
  | .lookupswitch d ps => match st with
    | .inl x :: r => zgo (ztgt pc (Op.lookupswitch.offset ps.toList d x.toInt)) ls r t
    | _ => none
  | _ => none
def zone (m : Nat) (c : zC) : Option zR := match c with
  | (pc, ls, st, t) => match zins m pc with
    | some (i, len) => zex (zown m) (zrt m) pc len i ls st t
    | none => none
def zent (m : Nat) (as : List zV) : List (Option zV) := as.map some ++ List.replicate (zlocs m - as.length) none
def zrun : Nat → Nat → zC → Option (zO × zT)
  | 0, _, _ => none
  | n + 1, m, (pc, ls, st, t) => match zone m (pc, ls, st, t) with
    | none => none
    | some (.inl (b, c)) => if b = true then zrun n m c else none
    | some (.inr (.inl o)) => some o
    | some (.inr (.inr (.inl (b, p1, p2, st')))) => if b = true then zrun n m (p1, ls, st', t) else zrun n m (p2, ls, st', t)
    | some (.inr (.inr (.inr (m', as, rest, pc')))) => match zrun n m' (0, zent m' as, [], t) with
      | none => none
      | some (.inl v, t') => zrun n m (pc', ls, zpush v rest, t')
      | some (.inr x, t') => some (.inr x, t')
def zwp (m : Nat) (c : zC) (Q : zO → zT → Prop) : Prop := ∃ (n : Nat) (o : zO) (t : zT), zrun n m c = some (o, t) ∧ Q o t
-- steps without guard, branch, call or end
def zblk : Nat → Nat → zC → Option zC
  | 0, _, c => some c
  | n + 1, m, c => match zone m c with
    | some (.inl (true, c')) => zblk n m c'
    | _ => none
end
section
/-! Rules of zwp: what a run of the small machine ends in. -/
theorem zrun_s (n m : Nat) (c : zC) : zrun (n + 1) m c = match zone m c with
    | none => none
    | some (.inl (b, c')) => if b = true then zrun n m c' else none
    | some (.inr (.inl o)) => some o
    | some (.inr (.inr (.inl (b, p1, p2, st')))) => if b = true then zrun n m (p1, c.2.1, st', c.2.2.2) else zrun n m (p2, c.2.1, st', c.2.2.2)
    | some (.inr (.inr (.inr (m', as, rest, pc')))) => match zrun n m' (0, zent m' as, [], c.2.2.2) with
      | none => none
      | some (.inl v, t') => zrun n m (pc', c.2.1, zpush v rest, t')
      | some (.inr x, t') => some (.inr x, t') := rfl
theorem zrun_up : ∀ (n m : Nat) (c : zC) (r : zO × zT), zrun n m c = some r → zrun (n + 1) m c = some r
  | 0, _, _, _, h => by cases h
  | n + 1, m, c, r, h => by
    rw [zrun_s] at h ⊢
    cases hz : zone m c with
    | none => rw [hz] at h; cases h
    | some z =>
      rw [hz] at h
      rcases z with ⟨b, c'⟩ | o | ⟨b, p1, p2, st'⟩ | ⟨m', as, rest, pc'⟩
      · dsimp only at h ⊢
        cases b with
        | false => cases h
        | true => exact zrun_up n m c' r h
      · exact h
      · dsimp only at h ⊢
        cases b with
        | false => exact zrun_up n m _ r h
        | true => exact zrun_up n m _ r h
      · dsimp only at h ⊢
        cases hc : zrun n m' (0, zent m' as, [], c.2.2.2) with
        | none => rw [hc] at h; cases h
        | some q =>
          rw [hc] at h
          rw [zrun_up n m' _ q hc]
          obtain ⟨o, t'⟩ := q
          cases o with
          | inl v => exact zrun_up n m _ r h
          | inr x => exact h
theorem zrun_le {n n' m : Nat} {c : zC} {r : zO × zT} (h : zrun n m c = some r) (hn : n ≤ n') : zrun n' m c = some r := by
  induction hn with
  | refl => exact h
  | step _ ih => exact zrun_up _ _ _ _ ih
theorem zrun_det {n n' m : Nat} {c : zC} {r r' : zO × zT} (h : zrun n m c = some r) (h' : zrun n' m c = some r') : r = r' := by
  have a := zrun_le h (Nat.le_max_left n n')
  have b := zrun_le h' (Nat.le_max_right n n')
  rw [a] at b
  exact Option.some.inj b
theorem zwp_mono {m : Nat} {c : zC} {Q Q' : zO → zT → Prop} (h : zwp m c Q) (hq : ∀ o t, Q o t → Q' o t) : zwp m c Q' := by
  obtain ⟨n, o, t, h1, h2⟩ := h
  exact ⟨n, o, t, h1, hq o t h2⟩
theorem zwp_grd {m : Nat} {c c' : zC} {b : Bool} {Q : zO → zT → Prop} (hz : zone m c = some (.inl (b, c'))) (hb : b = true) (h : zwp m c' Q) : zwp m c Q := by
  obtain ⟨n, o, t, h1, h2⟩ := h
  refine ⟨n + 1, o, t, ?_, h2⟩
  rw [zrun_s, hz]
  subst hb
  exact h1
theorem zwp_blk {m : Nat} {Q : zO → zT → Prop} : ∀ (k : Nat) {c c' : zC}, zblk k m c = some c' → zwp m c' Q → zwp m c Q
  | 0, c, c', hk, h => by
    cases hk
    exact h
  | k + 1, c, c', hk, h => by
    unfold zblk at hk
    split at hk
    · rename_i c1 hz
      exact zwp_grd hz rfl (zwp_blk k hk h)
    · cases hk
theorem zwp_end {m : Nat} {c : zC} {o : zO} {t : zT} {Q : zO → zT → Prop} (hz : zone m c = some (.inr (.inl (o, t)))) (h : Q o t) : zwp m c Q := ⟨1, o, t, by rw [zrun_s, hz], h⟩
theorem zwp_br {m : Nat} {c : zC} {b : Bool} {p1 p2 : Nat} {st' : List zV} {Q : zO → zT → Prop} (hz : zone m c = some (.inr (.inr (.inl (b, p1, p2, st')))))
    (ht : b = true → zwp m (p1, c.2.1, st', c.2.2.2) Q) (hf : b = false → zwp m (p2, c.2.1, st', c.2.2.2) Q) : zwp m c Q := by
  cases b with
  | true =>
    obtain ⟨n, o, t, h1, h2⟩ := ht rfl
    exact ⟨n + 1, o, t, by rw [zrun_s, hz]; exact h1, h2⟩
  | false =>
    obtain ⟨n, o, t, h1, h2⟩ := hf rfl
    exact ⟨n + 1, o, t, by rw [zrun_s, hz]; exact h1, h2⟩
-- what stands behind a call
def zaf (m pc : Nat) (ls : List (Option zV)) (rest : List zV) (Q : zO → zT → Prop) (o : zO) (t : zT) : Prop := match o with
  | .inl v => zwp m (pc, ls, zpush v rest, t) Q
  | .inr x => Q (.inr x) t
theorem zwp_call {m m' pc' : Nat} {c : zC} {as rest : List zV} {Q : zO → zT → Prop} (hz : zone m c = some (.inr (.inr (.inr (m', as, rest, pc')))))
    (h : zwp m' (0, zent m' as, [], c.2.2.2) (zaf m pc' c.2.1 rest Q)) : zwp m c Q := by
  obtain ⟨n, o, t, h1, h2⟩ := h
  cases o with
  | inl v =>
    obtain ⟨n2, o2, t2, h3, h4⟩ := h2
    refine ⟨max n n2 + 1, o2, t2, ?_, h4⟩
    rw [zrun_s, hz]
    dsimp only
    rw [zrun_le h1 (Nat.le_max_left n n2)]
    exact zrun_le h3 (Nat.le_max_right n n2)
  | inr x =>
    refine ⟨n + 1, .inr x, t, ?_, h2⟩
    rw [zrun_s, hz]
    dsimp only
    rw [h1]
-- array accesses, the index a number
theorem zin_nI {j n : Nat} (hj : j < n) (hn : n < 2 ^ 31) : zin (nI j) n = true := by
  unfold zin
  exact decide_eq_true (nI_in hj hn)
theorem zwp_ld {m n j cd i pc' : Nat} {c : zC} {ls : List (Option zV)} {r : List zV} {t : zT} {Q : zO → zT → Prop} (hz : zone m c = some (.inl (zin (nI j) n, pc', ls, .inl (t.1 cd i (nI j).toNatClampNeg) :: r, t))) (hj : j < n) (hn : n < 2 ^ 31) (h : zwp m (pc', ls, .inl (t.1 cd i j) :: r, t) Q) : zwp m c Q := by
  refine zwp_grd hz (zin_nI hj hn) ?_
  rw [nI_clamp (Nat.lt_trans hj hn)]
  exact h
theorem zwp_st {m n j cd i pc' : Nat} {v : Int32} {c : zC} {ls : List (Option zV)} {r : List zV} {t : zT} {Q : zO → zT → Prop} (hz : zone m c = some (.inl (zin (nI j) n, pc', ls, r, (zu t.1 cd i (nI j).toNatClampNeg v, t.2)))) (hj : j < n) (hn : n < 2 ^ 31) (h : zwp m (pc', ls, r, (zu t.1 cd i j v, t.2)) Q) : zwp m c Q := by
  refine zwp_grd hz (zin_nI hj hn) ?_
  rw [nI_clamp (Nat.lt_trans hj hn)]
  exact h
theorem zwp_ald {m n j k pc' : Nat} {c : zC} {ls : List (Option zV)} {r : List zV} {t : zT} {Q : zO → zT → Prop} (hz : zone m c = some (.inl (zin (nI j) n, pc', ls, .inr (zel t.2 k (nI j).toNatClampNeg) :: r, t))) (hj : j < n) (hn : n < 2 ^ 31) (hk : zok t.2 k j = true) (h : zwp m (pc', ls, .inr (some (k, j)) :: r, t) Q) : zwp m c Q := by
  refine zwp_grd hz (zin_nI hj hn) ?_
  rw [nI_clamp (Nat.lt_trans hj hn)]
  unfold zel
  rw [if_pos hk]
  exact h
theorem zwp_ald0 {m n j k pc' : Nat} {c : zC} {ls : List (Option zV)} {r : List zV} {t : zT} {Q : zO → zT → Prop} (hz : zone m c = some (.inl (zin (nI j) n, pc', ls, .inr (zel t.2 k (nI j).toNatClampNeg) :: r, t))) (hj : j < n) (hn : n < 2 ^ 31) (hk : zok t.2 k j = false) (h : zwp m (pc', ls, .inr none :: r, t) Q) : zwp m c Q := by
  refine zwp_grd hz (zin_nI hj hn) ?_
  rw [nI_clamp (Nat.lt_trans hj hn)]
  unfold zel
  rw [hk]
  exact h
-- a boolean's return
theorem zwp_det {m : Nat} {c : zC} {Q Q' : zO → zT → Prop} (h : zwp m c Q) (h' : zwp m c Q') : zwp m c (fun o t => Q o t ∧ Q' o t) := by
  obtain ⟨n, o, t, h1, h2⟩ := h
  obtain ⟨n', o', t', h3, h4⟩ := h'
  have e := zrun_det h1 h3
  cases e
  exact ⟨n, o, t, h1, h2, h4⟩
end
section
/-! The small machine's state as cells of the heap. -/
theorem znbeq {a b : Nat} (h : a ≠ b) : Nat.beq a b = false := by
  cases hb : Nat.beq a b with
  | false => rfl
  | true => exact absurd (Nat.eq_of_beq_eq_true hb) h
-- addresses of the objects, by kind and index
abbrev zA : Type := Nat → Nat → Nat
def zcv (ad : zA) (v : zV) : Value := match v with
  | .inl x => .int x
  | .inr none => .null
  | .inr (some (k, i)) => .ref (ad k i)
theorem zcv_cat (ad : zA) (v : zV) : (zcv ad v).category = 1 := by
  rcases v with x | _ | ⟨k, i⟩ <;> rfl
def zvok (md : Nat) (v : zV) : Bool := match v with
  | .inl _ => true
  | .inr none => true
  | .inr (some (k, i)) => zok md k i
theorem zok_mono {md md' k i : Nat} (h : md ≤ md') (hk : zok md k i = true) : zok md' k i = true := by
  unfold zok at hk ⊢
  by_cases h3 : k = 3
  · rw [if_pos h3] at hk ⊢
    simp only [decide_eq_true_eq] at hk ⊢
    omega
  · rw [if_neg h3] at hk ⊢
    exact hk
theorem zvok_mono {md md' : Nat} {v : zV} (h : md ≤ md') (hk : zvok md v = true) : zvok md' v = true := by
  rcases v with x | _ | ⟨k, i⟩
  · rfl
  · rfl
  · exact zok_mono h hk
def zExt (ad ad' : zA) (md : Nat) : Prop := ∀ k i, zok md k i = true → ad' k i = ad k i
theorem zExt.refl (ad : zA) (md : Nat) : zExt ad ad md := fun _ _ _ => rfl
theorem zExt.trans {ad ad1 ad2 : zA} {md md1 : Nat} (h1 : zExt ad ad1 md) (hm : md ≤ md1) (h2 : zExt ad1 ad2 md1) : zExt ad ad2 md := fun k i hk => (h2 k i (zok_mono hm hk)).trans (h1 k i hk)
theorem zcv_ext {ad ad' : zA} {md : Nat} {v : zV} (h : zExt ad ad' md) (hv : zvok md v = true) : zcv ad' v = zcv ad v := by
  rcases v with x | _ | ⟨k, i⟩
  · rfl
  · rfl
  · show Value.ref _ = Value.ref _
    rw [h k i hv]
theorem zmap_ext {ad ad' : zA} {md : Nat} {st : List zV} (h : zExt ad ad' md) (hv : ∀ v ∈ st, zvok md v = true) : st.map (zcv ad') = st.map (zcv ad) := List.map_congr_left fun v hm => zcv_ext h (hv v hm)
-- a field's value: 0 int, 1 boolean, q + 2 the object of kind q of the same index
def zfv (ad : zA) (S : zS) (k i e f : Nat) : Value := match e with
  | 0 => .int (S (64 * k + f) i 0)
  | 1 => .int (S (64 * k + f) i 0)
  | q + 2 => .ref (ad q i)
def zenF (ad : zA) (S : zS) (k i : Nat) (fs : List Nat) : List Value := (List.range fs.length).map (fun f => zfv ad S k i (fs.getD f 0) f)
theorem zenF_len (ad : zA) (S : zS) (k i : Nat) (fs : List Nat) : (zenF ad S k i fs).length = fs.length := by simp [zenF]
theorem zenF_get {ad : zA} {S : zS} {k i f e : Nat} {fs : List Nat} (h : fs[f]? = some e) : (zenF ad S k i fs)[f]? = some (zfv ad S k i e f) := by
  have hl := (List.getElem?_eq_some_iff.mp h).1
  unfold zenF
  rw [List.getElem?_map, List.getElem?_range hl]
  simp [List.getD, h]
theorem zenF_out {ad : zA} {S : zS} {k i f : Nat} {fs : List Nat} (h : fs[f]? = none) : (zenF ad S k i fs)[f]? = none := by
  rw [List.getElem?_eq_none_iff] at h ⊢
  rw [zenF_len]
  exact h
theorem zfv_zu {ad : zA} {S : zS} {k i k' i' f f' j e : Nat} {v : Int32} (h : ¬ (64 * k' + f' = 64 * k + f ∧ i' = i)) : zfv ad (zu S (64 * k + f) i j v) k' i' e f' = zfv ad S k' i' e f' := by
  have hz : zu S (64 * k + f) i j v (64 * k' + f') i' 0 = S (64 * k' + f') i' 0 := by
    unfold zu
    rw [if_neg (fun q => h ⟨q.1, q.2.1⟩)]
  match e with
  | 0 => exact congrArg Value.int hz
  | 1 => exact congrArg Value.int hz
  | _ + 2 => rfl
theorem zenF_set {ad : zA} {S : zS} {k i f e : Nat} {v : Int32} {fs : List Nat} (h : fs[f]? = some e) (he : e < 2) : (zenF ad S k i fs).set f (.int v) = zenF ad (zu S (64 * k + f) i 0 v) k i fs := by
  have hl := (List.getElem?_eq_some_iff.mp h).1
  apply List.ext_getElem?
  intro j
  by_cases hj : j = f
  · subst hj
    rw [List.getElem?_set_self (by rw [zenF_len]; exact hl), zenF_get h]
    match e, he with
    | 0, _ => simp [zfv, zu]
    | 1, _ => simp [zfv, zu]
  · rw [List.getElem?_set_ne (Ne.symm hj)]
    cases hq : fs[j]? with
    | none => rw [zenF_out hq, zenF_out hq]
    | some e' => rw [zenF_get hq, zenF_get hq, zfv_zu (fun q => hj (by omega))]
theorem zenF_congr {ad ad' : zA} {S S' : zS} {k i : Nat} {fs : List Nat} (h : ∀ f e, fs[f]? = some e → zfv ad' S' k i e f = zfv ad S k i e f) : zenF ad' S' k i fs = zenF ad S k i fs := by
  apply List.ext_getElem?
  intro j
  cases hq : fs[j]? with
  | none => rw [zenF_out hq, zenF_out hq]
  | some e' => rw [zenF_get hq, zenF_get hq, h j e' hq]
def zrefs (ad : zA) (md q : Nat) : Nat → Option Nat := fun j => (zel md q j).map (fun p => ad p.1 p.2)
def zenA (ad : zA) (t : zT) (k i e : Nat) : (Nat → Int32) ⊕ (Nat → Int64) ⊕ (Nat → UInt32) ⊕ (Nat → UInt64) ⊕ (Nat → Option Nat) := match e with
  | 0 => .inl (fun j => t.1 (64 * k) i j)
  | 1 => .inl (fun j => t.1 (64 * k) i j)
  | 2 => .inl (fun j => t.1 (64 * k) i j)
  | 3 => .inl (fun j => t.1 (64 * k) i j)
  | q + 4 => .inr (.inr (.inr (.inr (zrefs ad t.2 q))))
theorem zenA_lt {ad : zA} {t : zT} {k i e : Nat} (h : e < 4) : zenA ad t k i e = .inl (fun j => t.1 (64 * k) i j) := by
  match e, h with
  | 0, _ => rfl
  | 1, _ => rfl
  | 2, _ => rfl
  | 3, _ => rfl
def zenc (ty : Nat → ClassId) (ad : zA) (t : zT) (k i : Nat) : va_E := match zkind k with
  | .inl (c, fs) => .inr (c, zenF ad t.1 k i fs)
  | .inr (a, e, n) => .inl (ty a, n, zenA ad t k i e)
theorem zenc_o {ty : Nat → ClassId} {ad : zA} {t : zT} {k i c : Nat} {fs : List Nat} (h : zkind k = .inl (c, fs)) : zenc ty ad t k i = .inr (c, zenF ad t.1 k i fs) := by
  unfold zenc
  rw [h]
theorem zenc_a {ty : Nat → ClassId} {ad : zA} {t : zT} {k i a e n : Nat} (h : zkind k = .inr (a, e, n)) : zenc ty ad t k i = .inl (ty a, n, zenA ad t k i e) := by
  unfold zenc
  rw [h]
-- what the tables say of the kinds
def zkchk : Bool := (List.range 35).all fun k => match zkind k with
  | .inl (c, fs) => (match zcl[c]? with
    | some r => Nat.beq fs.length r.2.2 && Nat.ble fs.length 60 && (List.range fs.length).all fun f => match fs.getD f 0 with
      | 0 => decide (parseFieldDescriptor (r.2.1 f).2.2.1 = some .int) && !(r.2.1 f).2.2.2
      | 1 => decide (parseFieldDescriptor (r.2.1 f).2.2.1 = some .boolean) && !(r.2.1 f).2.2.2
      | q + 2 => Nat.ble q 34 && !(Nat.beq q 3) && !(Nat.beq k 3) && Nat.beq (zcnt q) (zcnt k)
    | none => false)
  | .inr (a, e, n) => Nat.blt n 2000 && !(Nat.beq k 3) && match e with
    | 0 => Nat.beq a 0
    | 1 => Nat.beq a 1
    | 2 => Nat.beq a 2
    | 3 => Nat.beq a 3
    | q + 4 => (Nat.beq a 4 && Nat.beq q 3 && Nat.beq k 2) || (Nat.beq a 5 && Nat.beq q 11) || (Nat.beq a 6 && Nat.beq q 8)
theorem zkchk_ok : zkchk = true := by decide +kernel
theorem zkind_out {k : Nat} (h : 35 ≤ k) : zkind k = .inr (9, 99, 0) := by
  unfold zkind
  rw [List.getD_eq_getElem?_getD, List.getElem?_eq_none (by exact h)]
  rfl
theorem zkfact {k : Nat} (h : k < 35) : (match zkind k with
  | .inl (c, fs) => (match zcl[c]? with
    | some r => Nat.beq fs.length r.2.2 && Nat.ble fs.length 60 && (List.range fs.length).all fun f => match fs.getD f 0 with
      | 0 => decide (parseFieldDescriptor (r.2.1 f).2.2.1 = some .int) && !(r.2.1 f).2.2.2
      | 1 => decide (parseFieldDescriptor (r.2.1 f).2.2.1 = some .boolean) && !(r.2.1 f).2.2.2
      | q + 2 => Nat.ble q 34 && !(Nat.beq q 3) && !(Nat.beq k 3) && Nat.beq (zcnt q) (zcnt k)
    | none => false)
  | .inr (a, e, n) => Nat.blt n 2000 && !(Nat.beq k 3) && match e with
    | 0 => Nat.beq a 0
    | 1 => Nat.beq a 1
    | 2 => Nat.beq a 2
    | 3 => Nat.beq a 3
    | q + 4 => (Nat.beq a 4 && Nat.beq q 3 && Nat.beq k 2) || (Nat.beq a 5 && Nat.beq q 11) || (Nat.beq a 6 && Nat.beq q 8)) = true := (List.all_eq_true.mp zkchk_ok) k (List.mem_range.mpr h)
theorem zok_lt {md k i : Nat} (h : zok md k i = true) : k < 35 := by
  by_cases hk : k < 35
  · exact hk
  · exfalso
    unfold zok at h
    rw [if_neg (by omega)] at h
    simp only [decide_eq_true_eq] at h
    unfold zcnt at h
    have e1 : Nat.beq k 8 = false := znbeq (by omega)
    have e2 : Nat.ble k 14 = false := by
      cases hb : Nat.ble k 14 with
      | false => rfl
      | true => have := Nat.le_of_ble_eq_true hb; omega
    have e3 : Nat.ble 35 k = true := Nat.ble_eq_true_of_le (by omega)
    rw [e1, e2, e3, Bool.and_false] at h
    simp at h
theorem zkind_o {k c : Nat} {fs : List Nat} (h : zkind k = .inl (c, fs)) : k < 35 ∧ ∃ r : vw_C, zcl[c]? = some r ∧ fs.length = r.2.2 ∧ fs.length ≤ 60 ∧ ∀ f e, fs[f]? = some e → match e with
    | 0 => parseFieldDescriptor (r.2.1 f).2.2.1 = some FieldType.int ∧ (r.2.1 f).2.2.2 = false
    | 1 => parseFieldDescriptor (r.2.1 f).2.2.1 = some FieldType.boolean ∧ (r.2.1 f).2.2.2 = false
    | q + 2 => q < 35 ∧ q ≠ 3 ∧ k ≠ 3 ∧ zcnt q = zcnt k := by
  have hk : k < 35 := by
    by_cases hk : k < 35
    · exact hk
    · rw [zkind_out (by omega)] at h
      cases h
  refine ⟨hk, ?_⟩
  have hf := zkfact hk
  rw [h] at hf
  dsimp only at hf
  cases hc : zcl[c]? with
  | none => rw [hc] at hf; cases hf
  | some r =>
    rw [hc] at hf
    simp only [Bool.and_eq_true] at hf
    refine ⟨r, rfl, Nat.eq_of_beq_eq_true hf.1.1, Nat.le_of_ble_eq_true hf.1.2, fun f e he => ?_⟩
    have hl := (List.getElem?_eq_some_iff.mp he).1
    have h2 := List.all_eq_true.mp hf.2 f (List.mem_range.mpr hl)
    have hg : fs.getD f 0 = e := by simp [List.getD, he]
    rw [hg] at h2
    match e, h2 with
    | 0, h2 =>
      simp only [Bool.and_eq_true, decide_eq_true_eq, Bool.not_eq_true'] at h2
      exact h2
    | 1, h2 =>
      simp only [Bool.and_eq_true, decide_eq_true_eq, Bool.not_eq_true'] at h2
      exact h2
    | q + 2, h2 =>
      simp only [Bool.and_eq_true, Bool.not_eq_true'] at h2
      exact ⟨by have := Nat.le_of_ble_eq_true h2.1.1.1; omega, Nat.ne_of_beq_eq_false h2.1.1.2, Nat.ne_of_beq_eq_false h2.1.2, Nat.eq_of_beq_eq_true h2.2⟩
theorem zkind_a {k a e n : Nat} (h : zkind k = .inr (a, e, n)) (hk : k < 35) : n < 2000 ∧ k ≠ 3 ∧ match e with
    | 0 => a = 0
    | 1 => a = 1
    | 2 => a = 2
    | 3 => a = 3
    | q + 4 => (a = 4 ∧ q = 3 ∧ k = 2) ∨ (a = 5 ∧ q = 11) ∨ (a = 6 ∧ q = 8) := by
  have hf := zkfact hk
  rw [h] at hf
  dsimp only at hf
  simp only [Bool.and_eq_true, Bool.not_eq_true'] at hf
  refine ⟨Nat.le_of_ble_eq_true hf.1.1, Nat.ne_of_beq_eq_false hf.1.2, ?_⟩
  match e, hf.2 with
  | 0, h2 => exact Nat.eq_of_beq_eq_true h2
  | 1, h2 => exact Nat.eq_of_beq_eq_true h2
  | 2, h2 => exact Nat.eq_of_beq_eq_true h2
  | 3, h2 => exact Nat.eq_of_beq_eq_true h2
  | q + 4, h2 =>
    simp only [Bool.or_eq_true, Bool.and_eq_true] at h2
    rcases h2 with (h2 | h2) | h2
    · exact Or.inl ⟨Nat.eq_of_beq_eq_true h2.1.1, Nat.eq_of_beq_eq_true h2.1.2, Nat.eq_of_beq_eq_true h2.2⟩
    · exact Or.inr (Or.inl ⟨Nat.eq_of_beq_eq_true h2.1, Nat.eq_of_beq_eq_true h2.2⟩)
    · exact Or.inr (Or.inr ⟨Nat.eq_of_beq_eq_true h2.1, Nat.eq_of_beq_eq_true h2.2⟩)
-- a write to one object leaves the others as they are
theorem zenc_ne {ty : Nat → ClassId} {ad : zA} {t : zT} {k i k' i' f j : Nat} {v : Int32} (hf : f < 60) (h : ¬ (k' = k ∧ i' = i)) : zenc ty ad (zu t.1 (64 * k + f) i j v, t.2) k' i' = zenc ty ad t k' i' := by
  cases hz : zkind k' with
  | inl q =>
    obtain ⟨c, fs⟩ := q
    rw [zenc_o hz, zenc_o hz]
    have hl : fs.length ≤ 60 := by
      obtain ⟨-, r, -, -, hl, -⟩ := zkind_o hz
      exact hl
    rw [zenF_congr (S := t.1) (ad := ad) fun f' e' he => zfv_zu (fun q => h (by have := (List.getElem?_eq_some_iff.mp he).1; omega))]
  | inr q =>
    obtain ⟨a, e, n⟩ := q
    rw [zenc_a hz, zenc_a hz]
    have hx : (fun j' => zu t.1 (64 * k + f) i j v (64 * k') i' j') = fun j' => t.1 (64 * k') i' j' := by
      funext j'
      unfold zu
      rw [if_neg (fun q => h (by omega))]
    match e with
    | 0 => rw [zenA_lt (by decide), zenA_lt (by decide)]; rw [hx]
    | 1 => rw [zenA_lt (by decide), zenA_lt (by decide)]; rw [hx]
    | 2 => rw [zenA_lt (by decide), zenA_lt (by decide)]; rw [hx]
    | 3 => rw [zenA_lt (by decide), zenA_lt (by decide)]; rw [hx]
    | q + 4 => rfl
def zl (ty : Nat → ClassId) (ad : zA) (t : zT) (L : List (Nat × Nat)) : va_W := L.map (fun p => (ad p.1 p.2, zenc ty ad t p.1 p.2))
abbrev ztys (ty : Nat → ClassId) : List (ClassId × FieldType) := [(ty 0, .int), (ty 1, .byte), (ty 2, .short), (ty 3, .boolean), (ty 4, .object "PageKeeper$LogRow"), (ty 5, .object "PageKeeper$Page"), (ty 6, .array .int)]
-- the cells that may change: the world's, and the new ones
def zAr (ad : zA) (md sz : Nat) : Nat → Prop := fun q => (∃ k i, zok md k i = true ∧ q = ad k i) ∨ sz ≤ q
theorem zAr.ext {ad ad' : zA} {md md' sz q : Nat} (he : zExt ad ad' md) (hm : md ≤ md') (h : zAr ad md sz q) : zAr ad' md' sz q := by
  rcases h with ⟨k, i, h1, h2⟩ | h
  · exact Or.inl ⟨k, i, zok_mono hm h1, by rw [he k i h1]; exact h2⟩
  · exact Or.inr h
def zWL (D : va_G) (ty : Nat → ClassId) (ad : zA) (t : zT) (H : Heap) (L : List (Nat × Nat)) : Prop := (∀ k i, zok t.2 k i = true → (k, i) ∈ L) ∧ (∀ p ∈ L, zok t.2 p.1 p.2 = true) ∧ va_P D zcl (zl ty ad t L) H ∧ va_D (fun _ => True) (zl ty ad t L)
def zW (D : va_G) (ty : Nat → ClassId) (ad : zA) (t : zT) (H : Heap) : Prop := ∃ L : List (Nat × Nat), zWL D ty ad t H L
theorem zl_get {ty : Nat → ClassId} {ad : zA} {t : zT} {L : List (Nat × Nat)} {k i q0 : Nat} (h : L[q0]? = some (k, i)) : (zl ty ad t L)[q0]? = some (ad k i, zenc ty ad t k i) := by
  unfold zl
  rw [List.getElem?_map, h]
  rfl
theorem zl_inv {ty : Nat → ClassId} {ad : zA} {t : zT} {L : List (Nat × Nat)} {q0 : Nat} {x : Nat × va_E} (h : (zl ty ad t L)[q0]? = some x) : ∃ k i, L[q0]? = some (k, i) ∧ x = (ad k i, zenc ty ad t k i) := by
  unfold zl at h
  rw [List.getElem?_map] at h
  cases hp : L[q0]? with
  | none => rw [hp] at h; cases h
  | some p =>
    rw [hp] at h
    exact ⟨p.1, p.2, rfl, (Option.some.inj h).symm⟩
theorem zWL.pos {D : va_G} {ty : Nat → ClassId} {ad : zA} {t : zT} {H : Heap} {L : List (Nat × Nat)} {k i : Nat} (h : zWL D ty ad t H L) (hk : zok t.2 k i = true) : ∃ q0 : Nat, L[q0]? = some (k, i) := List.getElem?_of_mem (h.1 k i hk)
theorem zWL.dd {D : va_G} {ty : Nat → ClassId} {ad : zA} {t : zT} {H : Heap} {L : List (Nat × Nat)} (h : zWL D ty ad t H L) (sz : Nat) : va_D (zAr ad t.2 sz) (zl ty ad t L) := by
  refine ⟨h.2.2.2.1, fun q0 x hx => ?_⟩
  obtain ⟨k, i, h1, h2⟩ := zl_inv hx
  rw [h2]
  exact Or.inl ⟨k, i, h.2.1 (k, i) (List.mem_of_getElem? h1), rfl⟩
theorem zl_set {ty : Nat → ClassId} {ad : zA} {t t' : zT} {L : List (Nat × Nat)} {A : Nat → Prop} {k i q0 : Nat} (hD : va_D A (zl ty ad t L)) (h : L[q0]? = some (k, i)) (he : ∀ k' i', ¬ (k' = k ∧ i' = i) → zenc ty ad t' k' i' = zenc ty ad t k' i') : (zl ty ad t L).set q0 (ad k i, zenc ty ad t' k i) = zl ty ad t' L := by
  apply List.ext_getElem?
  intro j
  by_cases hj : j = q0
  · subst hj
    have hl : j < (zl ty ad t L).length := (List.getElem?_eq_some_iff.mp (zl_get h)).1
    rw [List.getElem?_set_self hl, zl_get h]
  · rw [List.getElem?_set_ne (Ne.symm hj)]
    cases hp : L[j]? with
    | none =>
      unfold zl
      rw [List.getElem?_map, List.getElem?_map, hp]
      rfl
    | some p =>
      obtain ⟨k', i'⟩ := p
      rw [zl_get hp, zl_get hp]
      have hne : ¬ (k' = k ∧ i' = i) := by
        intro e
        rw [e.1, e.2] at hp
        exact hj (hD.1 j q0 _ _ (zl_get hp) (zl_get h) rfl)
      rw [he k' i' hne]
-- the world behind a write
theorem zWL.wr {D : va_G} {ty : Nat → ClassId} {ad : zA} {t : zT} {H H1 : Heap} {L : List (Nat × Nat)} {A : Nat → Prop} {k i f j q0 : Nat} {v : Int32} (h : zWL D ty ad t H L) (hq : L[q0]? = some (k, i)) (hf : f < 60)
    (hP : va_P D zcl ((zl ty ad t L).set q0 (ad k i, zenc ty ad (zu t.1 (64 * k + f) i j v, t.2) k i)) H1) (hD : va_D A ((zl ty ad t L).set q0 (ad k i, zenc ty ad (zu t.1 (64 * k + f) i j v, t.2) k i))) : zW D ty ad (zu t.1 (64 * k + f) i j v, t.2) H1 := by
  have e := zl_set (t' := (zu t.1 (64 * k + f) i j v, t.2)) h.2.2.2 hq (fun k' i' hne => zenc_ne hf hne)
  rw [e] at hP hD
  exact ⟨L, h.1, h.2.1, hP, hD.1, fun _ _ _ => trivial⟩
-- a cell of the world is no statics cell
theorem zW_vm {D : va_G} {ty : Nat → ClassId} {ad : zA} {t : zT} {H : Heap} {k i : Nat} (h : zW D ty ad t H) (hk : zok t.2 k i = true) : ∃ cell : Cell, H[ad k i]? = some cell ∧ cell.vm = .none := by
  obtain ⟨L, hL⟩ := h
  obtain ⟨q0, hq⟩ := hL.pos hk
  have ha := hL.2.2.1 q0 _ (zl_get hq)
  cases hz : zkind k with
  | inl q =>
    obtain ⟨c, fs⟩ := q
    rw [zenc_o hz] at ha
    obtain ⟨r, -, cell, h1, -, h3, -⟩ := ha
    exact ⟨cell, h1, h3⟩
  | inr q =>
    obtain ⟨a, e, n⟩ := q
    rw [zenc_a hz] at ha
    refine ⟨_, ha, ?_⟩
    show (vp_cell _ _).vm = _
    unfold vp_cell
    split <;> rfl
theorem zW_heap {D : va_G} {ty : Nat → ClassId} {ad : zA} {t : zT} {H H1 : Heap} (h : zW D ty ad t H) (hq : ∀ q, q < H.size → H1[q]? = H[q]?) : zW D ty ad t H1 := by
  obtain ⟨L, h1, h2, h3, h4⟩ := h
  exact ⟨L, h1, h2, h3.kept (fun k x hx => hq x.1 ((h3 k x hx).lt)), h4⟩
end
section
/-! A method's point seen as a beginning; throwing; a call whose callee throws. -/
section ZB
variable {p : Program} {l : Launch} {e : Env} {R : Room} {s : State} {m : MethodId} {args : Array Value} {below : List Frame} {meth : Method} {c : Code} {T : State} {locs : List Loc} {cells slots : Nat}
abbrev zbeg (T : State) (m : MethodId) (args : Array Value) (below : List Frame) : State := T.setFrames (.invoking m args :: below)
theorem zrestart (X : Stand p l e R s m args below meth c T locs cells slots) {R' : Room} (hf : R'.frames ≤ R.frames) (hl : R'.locals ≤ R.locals) (hc : cells + R'.cells ≤ R.cells) (hs : slots + R'.slots ≤ R.slots) :
    Stand p l e R' (zbeg T m args below) m args below meth c T [] 0 0 := by
  obtain ⟨g₀, hfr⟩ := X.frames_eq
  have hcur : T.cur < T.threads.size := State.cur_lt_of_frames hfr
  have hF : (zbeg T m args below).frames = .invoking m args :: below := State.frames_setFrames _ hcur
  have hm : T.vm.method? m = some meth := X.method'
  obtain ⟨th, hth, -⟩ := State.frames_cons hfr
  obtain ⟨th0, hth0, -⟩ := State.frames_cons hF
  refine ⟨X.admits, X.cas, X.clock, hF, ?_, ?_, hm, X.code, X.here, X.tail, State.WarmedH.refl _, ?_, ?_, ?_⟩
  · obtain ⟨r1, r2, r3, r4⟩ := State.hasRoom_stack X.room
    have r5 := State.hasRoom_real X.room
    have h := X.room
    simp only [State.hasRoom, Bool.and_eq_true, decide_eq_true_eq] at h
    rw [State.localsInUse_invoking X.frames X.method X.code] at r3 r4 r5
    rw [X.frames, List.length_cons] at r1 r2
    have hU : (zbeg T m args below).localsInUse = stackWeight below + vmFrameWords + (c.maxLocals + 11) := State.localsInUse_invoking hF (meth := meth) (c := c) hm X.code
    have h3 := X.heapSize
    have h4 := X.used
    simp only [State.hasRoom, Bool.and_eq_true, decide_eq_true_eq, hF, hU, List.length_cons, State.stackLimits_setFrames, State.stackBytes_setFrames, X.limits, X.bytes]
    refine ⟨⟨⟨⟨by omega, by omega, by omega, by omega, by omega, h.1.1.1.2.2.2.2.2⟩, ?_⟩, ?_⟩, X.book⟩
    · have := h.1.1.2
      show T.heap.size + R'.cells ≤ _
      omega
    · have := h.1.2
      show T.slotsUsed + R'.slots ≤ _
      omega
  · have h := X.hears
    have hcq : ∀ mm, (zbeg T m args below).code? mm = s.code? mm := fun mm => by
      rw [State.code?_eq, State.code?_eq]
      show (T.vm.method? mm).bind _ = _
      rw [X.warmed.alike.method?]
    have hmq : (zbeg T m args below).vm.method? m = s.vm.method? m := X.warmed.alike.method? m
    rcases below with _ | ⟨f, r⟩
    · simp only [State.hears, hmq] at h ⊢
      exact h
    · cases f <;> simp only [State.hears, hcq, hmq] at h ⊢ <;> exact h
  · rw [State.stackLimits_setFrames]
  · rw [State.stackBytes_setFrames]
  · have h := (State.sameButNew.refl (zbeg T m args below) hth0).setFrames T.frames (State.cur_lt_of_frames hF)
    rw [State.setFrames_setFrames, State.setFrames_self hth] at h
    exact h
-- 'new X; dup; X.<init>(); athrow'
theorem zthrow (X : Stand p l e R s m args below meth c T locs cells slots) (hexec : p.tables.exec = Jvm.exec) (htr : e.platform.stackTraces = false) {own cls : String} {names : List String} {index ic : Nat} {cc : ByteArray} (hb : c.code = cc)
    (hown : s.vm.findClass own = some m.cls) (hcls : Bundle.fit cls = true) (hnames : ∀ n ∈ names, Bundle.fit n = true) (hw : ∀ a ∈ Bundle.ownAtoms0 own ic cls names, a.before args (zbeg T m args below) = true)
    (hcl : (Cond.classLink own index cls).before args (zbeg T m args below) = true) (hini : (Cond.initialized cls).before args (zbeg T m args below) = true)
    {pc : Nat} {ls : Array Slot} {st : List Value} (hsize : ls.size = c.maxLocals) (hd0 : decode cc pc = .ok (.new index, 3)) (hd3 : decode cc (pc + 3) = .ok (.dup, 1)) (hd4 : decode cc (pc + 4) = .ok (.invokespecial ic, 3)) (hd7 : decode cc (pc + 7) = .ok (.athrow, 1))
    (hex : c.exceptionTable.toList = []) (hRf : names.length + 3 < R.frames) (hRl : 1 + (st.map fun v => v.category).sum + (13 * (names.length + 1) + 41) ≤ R.locals) (hcells : cells + 1 ≤ R.cells) (hslots : slots + 6 ≤ R.slots) (hlocks : meth.locks = false) :
    ∃ (U : State) (a : Nat) (ce : Cell), Steps p.tables e below (T.setTop (F0 m pc ls st)) U ∧ U.status = .running ∧ Ended U below (.threw a) ∧ s.WarmedH U.vm ∧ s.sameButNew ({ U with vm := s.vm } : State) locs (cells + 1) (slots + 6) ∧
      (∀ q, q < T.heap.size → U.heap[q]? = T.heap[q]?) ∧ T.heap.size ≤ a ∧ U.heap[a]? = some ce ∧ s.vm.findClass cls = some ce.cls ∧ ce.vm = .none := by
  have X0 := zrestart X (R' := { frames := R.frames, locals := R.locals, cells := 1, slots := 6 }) (Nat.le_refl _) (Nat.le_refl _) hcells hslots
  have hown' : (zbeg T m args below).vm.findClass own = some m.cls := by
    show T.vm.findClass own = _
    rw [X.warmed.alike.findClass]
    exact hown
  have hinst : (Cond.instantiable cls 6).before args (zbeg T m args below) = true := hw _ (by simp [Bundle.ownAtoms0])
  obtain ⟨cC, -, hfc, -⟩ := Cond.instantiable_spec hinst
  have main : W p l e { frames := R.frames, locals := R.locals, cells := 1, slots := 6 } (zbeg T m args below) m args below meth c T.heap [] 0 0 (fun U => ∃ (a : Nat) (ce : Cell), U.status = .running ∧ Ended U below (.threw a) ∧ (zbeg T m args below).WarmedH U.vm ∧ (zbeg T m args below).sameButNew ({ U with vm := (zbeg T m args below).vm } : State) [] 1 6 ∧ T.heap.size ≤ a ∧ U.heap[a]? = some ce ∧ Bundle.OwnCell args (zbeg T m args below) cls a .null ce) (F0 m pc ls st) := by
    refine W.newcK hexec hb hown' hcl hinst hini rfl hd0 (Nat.le_refl _) (Nat.le_refl _) hfc rfl fun H' kC hkC e1 z1 o1 => ?_
    refine lv_dup hexec hb hd3 rfl ?_
    intro T2 hT2 X2
    obtain ⟨U, h1, h2, h3, h4, h5, ce, h6, h7⟩ := X2.ctorThrow0 hexec htr hown' hcls hnames hw (fun x hx => by cases hx) hfc hkC (a := T.heap.size) (by rw [hT2]; exact e1) (Nat.le_refl _) (g := F0 m (pc + 3 + 1) ls (.ref T.heap.size :: .ref T.heap.size :: st)) rfl hsize rfl rfl (rest := st) rfl (by rw [hb]; exact hd4) (by rw [hb]; exact hd7) (fun x hx => by rw [hex] at hx; cases hx) hRf (by simp only [List.map_cons, List.sum_cons]; show 2 * 0 + (1 + _) + _ ≤ _; omega) hlocks
    exact ⟨U, h1, _, ce, h2, h3, h4, h5, Nat.le_refl _, h6, h7⟩
  obtain ⟨U, hst, a, ce, h2, h3, h4, h5, h8, h6, h7⟩ := main T rfl X0
  obtain ⟨g₀, hfr⟩ := X.frames_eq
  have hcur : T.cur < T.threads.size := State.cur_lt_of_frames hfr
  obtain ⟨th, hth, -⟩ := State.frames_cons hfr
  have h9 := (((State.sameButNew.refl T hth).setFrames (.invoking m args :: below) hcur).trans h5)
  refine ⟨U, a, ce, hst, h2, h3, State.WarmedH.trans X.warmed h4, ?_, fun q hq => ?_, h8, h6, ?_, h7.vm⟩
  · have h10 := X.same.trans (h9.setVm s.vm)
    simp only [List.append_nil, List.nil_append, Nat.zero_add] at h10
    exact h10
  · have hq' : T.heap[q]? = some T.heap[q] := Array.getElem?_eq_getElem hq
    rw [hq']
    exact h5.old_cell (show (zbeg T m args below).heap[q]? = some T.heap[q] from hq')
  · have h10 : T.vm.findClass cls = some ce.cls := h7.cls
    rw [X.warmed.alike.findClass] at h10
    exact h10
-- a call, up to the callee's end
theorem zcalled {y : MethodName} {ws : List Cond} {rm : Room} {Pc : Array Value → State → Prop} {Qq : Array Value → State → Outcome → State → Prop} {bytes : ByteArray} {maxL W0 len : Nat} {ret : Option FieldType} {g : JFrame} {ig : Instr} {mk : MethodId} {a : Array Value}
    (X : Stand p l e R s m args below meth c T locs cells slots) (hM : MetFree l y (headSpec ws rm) Pc (fun _ _ _ _ _ => True) Qq) (hframes : rm.frames + 1 ≤ R.frames) (hlocals : W0 + (maxL + 11) + rm.locals ≤ R.locals) (hws : ∀ w ∈ ws, w.before a T = true)
    (hcode : (Cond.code y bytes maxL ret).before a T = true) (hini : (Cond.initialized y.cls).before a T = true) (hcells : cells + rm.cells ≤ R.cells) (hslots : slots + rm.slots ≤ R.slots) (hP : Pc a (T.calling g mk a)) (hg : g.method = m) (hsize : g.locals.size = c.maxLocals)
    (hdg : decode c.code g.pc = .ok (ig, len)) (hW : 2 * g.monitorRoom + (g.stack.map fun v => v.category).sum ≤ W0) (hn : T.methodNamed? y = some mk) :
    ∃ (o : Outcome) (s₂ : State), Steps p.tables e below (doInvoke e (T.setTop g) [] mk a).1 s₂ ∧ Ended s₂ (.java g :: below) o ∧ Qq a (T.calling g mk a) o s₂ := by
  obtain ⟨methY, cY, hmY, hcY, -, hlY, -, -, -, -⟩ := Cond.code_spec hn hcode
  obtain ⟨kY, hkY, -⟩ := className_of_methodNamed hn
  have hinitY : kY.init = .initialized := Cond.initialized_spec (findClass_of_methodNamed hn) hkY hini
  have h : At T g.method c below := by rw [hg]; exact X.here
  have happ : (headSpec ws rm).appliesLoose y e.platform (T.calling g mk a) = true :=
    Spec.appliesLoose_calling (g := g) h hdg hn hkY hinitY (X.room_calling (g := g) (R' := rm) hsize hmY hcY hframes (by rw [hlY]; omega) hcells hslots) (atoms_intro hws)
  obtain ⟨mid, hmid⟩ := h.above
  have hfr : (T.setTop g).frames = (.java g :: mid) ++ below := by rw [State.frames_setTop' g h.top, hmid]; rfl
  obtain ⟨o, s₂, hsteps, -, hend, hq⟩ := Steps.callFree hM p X.admits X.cas X.clock (acts := []) hfr happ hP trivial
  rw [State.frames_setTop' g h.top, X.tail] at hend
  exact ⟨o, s₂, hsteps, hend, hq⟩
-- what the end of a method says of the machine, whichever way it ended
def zFE (first t : State) (L : List Loc) (k n : Nat) : Prop := first.WarmedH t.vm ∧ first.sameButNew ({ t with vm := first.vm } : State) L k n
def zQT (Qt : State → Nat → State → Prop) (mc ms : Nat) (free : State → State → Nat → Prop) : Array Value → State → Outcome → State → Prop := fun _ st o t => (∃ x, o = .threw x ∧ Qt st x t) ∧ ∃ L, zFE st t L mc ms ∧ ∀ q ∈ L, free st t q.base
-- a callee that throws: so does the caller
theorem zpass {y : MethodName} {ws : List Cond} {rm : Room} {Pc : Array Value → State → Prop} {Qt : State → Nat → State → Prop} {free : State → State → Nat → Prop} {mc ms : Nat} {bytes : ByteArray} {maxL W0 len : Nat} {ret : Option FieldType} {g : JFrame} {ig : Instr} {mk : MethodId} {a : Array Value}
    (X : Stand p l e R s m args below meth c T locs cells slots) (hM : MetFree l y (headSpec ws rm) Pc (fun _ _ _ _ _ => True) (zQT Qt mc ms free)) (hframes : rm.frames + 1 ≤ R.frames) (hlocals : W0 + (maxL + 11) + rm.locals ≤ R.locals) (hws : ∀ w ∈ ws, w.before a T = true)
    (hcode : (Cond.code y bytes maxL ret).before a T = true) (hini : (Cond.initialized y.cls).before a T = true) (hcells : cells + rm.cells ≤ R.cells) (hslots : slots + rm.slots ≤ R.slots) (hP : Pc a (T.calling g mk a)) (hg : g.method = m) (hsize : g.locals.size = c.maxLocals)
    (hdg : decode c.code g.pc = .ok (ig, len)) (hW : 2 * g.monitorRoom + (g.stack.map fun v => v.category).sum ≤ W0) (hn : T.methodNamed? y = some mk) (hlocked : g.locked = none) (hentered : g.entered = []) (hex : c.exceptionTable.toList = []) (hlocks : meth.locks = false) :
    ∃ (x : Nat) (u U : State) (L : List Loc), Steps p.tables e below (doInvoke e (T.setTop g) [] mk a).1 U ∧ U.status = .running ∧ Ended U below (.threw x) ∧ s.WarmedH U.vm ∧ s.sameButNew ({ U with vm := s.vm } : State) (locs ++ L) (cells + mc) (slots + ms) ∧
      Qt (T.calling g mk a) x u ∧ (∀ q ∈ L, free (T.calling g mk a) u q.base) ∧ U.heap = u.heap ∧ U.vm = u.vm := by
  obtain ⟨o, s₂, hsteps, hend, ⟨x, rfl, hq⟩, L, hF, hL⟩ := zcalled X hM hframes hlocals hws hcode hini hcells hslots hP hg hsize hdg hW hn
  obtain ⟨T', X', h1, h2, h3⟩ := X.outOfThrown hg hend hF.1 hF.2
  obtain ⟨w1, w2, w3, w4, w5⟩ := X'.leaveThrown x hg hlocked hentered (fun z hz => by rw [hex] at hz; cases hz) hlocks
  refine ⟨x, s₂, _, L, hsteps.trans (by rw [h3]; exact w1), w2, w3, w4, w5, hq, hL, ?_, ?_⟩
  · rw [h3]
    exact (Stand.throwing_heap T' g x).symm
  · rw [h3]
    exact (Stand.throwing_vm T' g x).symm
end ZB
end
section
/-! The words that every method's contract carries, and what the tables say of each instruction. -/
def zgood (w : Cond) : Bool := goodWord w || (w.onTables && w.keepsFace)
theorem zword {args a' : Array Value} {s U : State} (hW : s.WarmedH U.vm) {w : Cond} (hg : zgood w = true) (h : w.before args s = true) : w.before a' U = true := by
  unfold zgood at hg
  rw [Bool.or_eq_true] at hg
  rcases hg with hg | hg
  · exact word_at hW (good_of_word hg) h
  · rw [Bool.and_eq_true] at hg
    have h1 : w.before args (s.setVm U.vm) = true := Cond.before_shiftedFace (State.Shifted.of_warmed hW) w hg.2 h
    have h2 := Cond.onTables_vm (A := args) (A' := a') (U := s) (U' := U) U.vm w hg.1
    rw [h2] at h1
    exact h1
def zWS : List Cond := lw_tbl.filter zgood
def zhas (w : Cond) : Bool := decide (w ∈ lw_tbl) && zgood w
theorem zhas_mem {w : Cond} (h : zhas w = true) : w ∈ zWS := by
  unfold zhas at h
  rw [Bool.and_eq_true, decide_eq_true_eq] at h
  exact List.mem_filter.mpr ⟨h.1, h.2⟩
-- the word at a place
def zhat (i : Nat) (w : Cond) : Bool := decide (lw_tbl[i]? = some w) && zgood w
theorem zhat_mem {i : Nat} {w : Cond} (h : zhat i w = true) : w ∈ zWS := by
  unfold zhat at h
  rw [Bool.and_eq_true, decide_eq_true_eq] at h
  exact List.mem_filter.mpr ⟨List.mem_of_getElem? h.1, h.2⟩
theorem zWS_good {w : Cond} (h : w ∈ zWS) : zgood w = true := (List.mem_filter.mp h).2
-- the classes' fields
def zcchk : Bool := (List.range 8).all fun c => match zcl[c]? with
  | some r => (List.range r.2.2).all fun k => zhat ((zclX.getD c []).getD k 0) (u_lay r.1 r.2.1 k)
  | none => false
theorem zcchk_ok : zcchk = true := by decide +kernel
theorem zcl_in {c : Nat} {r : vw_C} (h : zcl[c]? = some r) : ∀ w ∈ u_ws r.1 r.2.1 r.2.2, w ∈ zWS := by
  intro w hw
  have hc : c < 8 := (List.getElem?_eq_some_iff.mp h).1
  have h1 := List.all_eq_true.mp zcchk_ok c (List.mem_range.mpr hc)
  rw [h] at h1
  obtain ⟨k, hk, rfl⟩ := List.mem_map.mp hw
  exact zhat_mem (List.all_eq_true.mp h1 k hk)
theorem zlook_mem {α : Type} : ∀ {l : List (Nat × α)} {k : Nat} {v : α}, zlook l k = some v → (k, v) ∈ l
  | [], _, _, h => by cases h
  | q :: r, k, v, h => by
    unfold zlook at h
    cases hb : Nat.beq q.1 k with
    | true =>
      rw [hb] at h
      have e1 := Nat.eq_of_beq_eq_true hb
      have e2 : q.2 = v := Option.some.inj h
      rw [← e1, ← e2]
      exact List.mem_cons_self
    | false =>
      rw [hb] at h
      exact List.mem_cons_of_mem _ (zlook_mem h)
def zfchk : Bool := (List.range 8).all fun own => (zfldL.getD own []).all fun q => match zcl[q.2.1]? with
  | some r => Nat.blt q.2.2 r.2.2 && decide ((r.2.1 q.2.2).1 = r.1) && zhat ((zlook (zfldX.getD own []) q.1).getD 0) (.fieldLink (zRn own) q.1 r.1 (r.2.1 q.2.2).2.1 (r.2.1 q.2.2).2.2.1)
  | none => false
theorem zfchk_ok : zfchk = true := by decide +kernel
theorem zfld_ok {own n c f : Nat} (ho : own < 8) (h : zfld own n = some (c, f)) : ∃ r, zcl[c]? = some r ∧ f < r.2.2 ∧ (r.2.1 f).1 = r.1 ∧ Cond.fieldLink (zRn own) n r.1 (r.2.1 f).2.1 (r.2.1 f).2.2.1 ∈ zWS := by
  have h1 := List.all_eq_true.mp (List.all_eq_true.mp zfchk_ok own (List.mem_range.mpr ho)) _ (zlook_mem h)
  dsimp only at h1
  cases hc : zcl[c]? with
  | none => rw [hc] at h1; cases h1
  | some r =>
    rw [hc] at h1
    simp only [Bool.and_eq_true, decide_eq_true_eq] at h1
    exact ⟨r, rfl, Nat.le_of_ble_eq_true h1.1.1, h1.1.2, zhat_mem h1.2⟩
set_option maxRecDepth 20000 in
theorem zcw0 : lw_tbl[557]? = some (.code (zyy 0) (zbb 0) (zlocs 0) (zrt 0)) := rfl
set_option maxRecDepth 20000 in
theorem zcw1 : lw_tbl[650]? = some (.code (zyy 1) (zbb 1) (zlocs 1) (zrt 1)) := rfl
set_option maxRecDepth 20000 in
theorem zcw2 : lw_tbl[689]? = some (.code (zyy 2) (zbb 2) (zlocs 2) (zrt 2)) := rfl
set_option maxRecDepth 20000 in
theorem zcw3 : lw_tbl[700]? = some (.code (zyy 3) (zbb 3) (zlocs 3) (zrt 3)) := rfl
set_option maxRecDepth 20000 in
theorem zcw4 : lw_tbl[707]? = some (.code (zyy 4) (zbb 4) (zlocs 4) (zrt 4)) := rfl
set_option maxRecDepth 20000 in
theorem zcw5 : lw_tbl[714]? = some (.code (zyy 5) (zbb 5) (zlocs 5) (zrt 5)) := rfl
set_option maxRecDepth 20000 in
theorem zcw6 : lw_tbl[229]? = some (.code (zyy 6) (zbb 6) (zlocs 6) (zrt 6)) := rfl
set_option maxRecDepth 20000 in
theorem zcw7 : lw_tbl[452]? = some (.code (zyy 7) (zbb 7) (zlocs 7) (zrt 7)) := rfl
set_option maxRecDepth 20000 in
theorem zcw8 : lw_tbl[460]? = some (.code (zyy 8) (zbb 8) (zlocs 8) (zrt 8)) := rfl
set_option maxRecDepth 20000 in
theorem zcw9 : lw_tbl[464]? = some (.code (zyy 9) (zbb 9) (zlocs 9) (zrt 9)) := rfl
set_option maxRecDepth 20000 in
theorem zcw10 : lw_tbl[468]? = some (.code (zyy 10) (zbb 10) (zlocs 10) (zrt 10)) := rfl
set_option maxRecDepth 20000 in
theorem zcw11 : lw_tbl[518]? = some (.code (zyy 11) (zbb 11) (zlocs 11) (zrt 11)) := rfl
set_option maxRecDepth 20000 in
theorem zcw12 : lw_tbl[522]? = some (.code (zyy 12) (zbb 12) (zlocs 12) (zrt 12)) := rfl
set_option maxRecDepth 20000 in
theorem zcw13 : lw_tbl[534]? = some (.code (zyy 13) (zbb 13) (zlocs 13) (zrt 13)) := rfl
set_option maxRecDepth 20000 in
theorem zcw14 : lw_tbl[538]? = some (.code (zyy 14) (zbb 14) (zlocs 14) (zrt 14)) := rfl
set_option maxRecDepth 20000 in
theorem zcw15 : lw_tbl[542]? = some (.code (zyy 15) (zbb 15) (zlocs 15) (zrt 15)) := rfl
set_option maxRecDepth 20000 in
theorem zcw16 : lw_tbl[545]? = some (.code (zyy 16) (zbb 16) (zlocs 16) (zrt 16)) := rfl
set_option maxRecDepth 20000 in
theorem zcw17 : lw_tbl[548]? = some (.code (zyy 17) (zbb 17) (zlocs 17) (zrt 17)) := rfl
set_option maxRecDepth 20000 in
theorem zcw18 : lw_tbl[456]? = some (.code (zyy 18) (zbb 18) (zlocs 18) (zrt 18)) := rfl
set_option maxRecDepth 20000 in
theorem zcw19 : lw_tbl[560]? = some (.code (zyy 19) (zbb 19) (zlocs 19) (zrt 19)) := rfl
set_option maxRecDepth 20000 in
theorem zcw20 : lw_tbl[653]? = some (.code (zyy 20) (zbb 20) (zlocs 20) (zrt 20)) := rfl
set_option maxRecDepth 20000 in
theorem zcw21 : lw_tbl[657]? = some (.code (zyy 21) (zbb 21) (zlocs 21) (zrt 21)) := rfl
set_option maxRecDepth 20000 in
theorem zcw22 : lw_tbl[642]? = some (.code (zyy 22) (zbb 22) (zlocs 22) (zrt 22)) := rfl
set_option maxRecDepth 20000 in
theorem zcw23 : lw_tbl[480]? = some (.code (zyy 23) (zbb 23) (zlocs 23) (zrt 23)) := rfl
set_option maxRecDepth 20000 in
theorem zcw24 : lw_tbl[237]? = some (.code (zyy 24) (zbb 24) (zlocs 24) (zrt 24)) := rfl
set_option maxRecDepth 20000 in
theorem zcw25 : lw_tbl[249]? = some (.code (zyy 25) (zbb 25) (zlocs 25) (zrt 25)) := rfl
set_option maxRecDepth 20000 in
theorem zcw26 : lw_tbl[444]? = some (.code (zyy 26) (zbb 26) (zlocs 26) (zrt 26)) := rfl
set_option maxRecDepth 20000 in
theorem zcw27 : lw_tbl[440]? = some (.code (zyy 27) (zbb 27) (zlocs 27) (zrt 27)) := rfl
set_option maxRecDepth 20000 in
theorem zcw28 : lw_tbl[253]? = some (.code (zyy 28) (zbb 28) (zlocs 28) (zrt 28)) := rfl
set_option maxRecDepth 20000 in
theorem zcw29 : lw_tbl[304]? = some (.code (zyy 29) (zbb 29) (zlocs 29) (zrt 29)) := rfl
set_option maxRecDepth 20000 in
theorem zcw30 : lw_tbl[308]? = some (.code (zyy 30) (zbb 30) (zlocs 30) (zrt 30)) := rfl
set_option maxRecDepth 20000 in
theorem zcw31 : lw_tbl[432]? = some (.code (zyy 31) (zbb 31) (zlocs 31) (zrt 31)) := rfl
set_option maxRecDepth 20000 in
theorem zcw32 : lw_tbl[404]? = some (.code (zyy 32) (zbb 32) (zlocs 32) (zrt 32)) := rfl
set_option maxRecDepth 20000 in
theorem zcw33 : lw_tbl[257]? = some (.code (zyy 33) (zbb 33) (zlocs 33) (zrt 33)) := rfl
set_option maxRecDepth 20000 in
theorem zcw34 : lw_tbl[320]? = some (.code (zyy 34) (zbb 34) (zlocs 34) (zrt 34)) := rfl
set_option maxRecDepth 20000 in
theorem zcw35 : lw_tbl[281]? = some (.code (zyy 35) (zbb 35) (zlocs 35) (zrt 35)) := rfl
set_option maxRecDepth 20000 in
theorem zcw36 : lw_tbl[269]? = some (.code (zyy 36) (zbb 36) (zlocs 36) (zrt 36)) := rfl
set_option maxRecDepth 20000 in
theorem zcw37 : lw_tbl[488]? = some (.code (zyy 37) (zbb 37) (zlocs 37) (zrt 37)) := rfl
set_option maxRecDepth 20000 in
theorem zcw38 : lw_tbl[504]? = some (.code (zyy 38) (zbb 38) (zlocs 38) (zrt 38)) := rfl
set_option maxRecDepth 20000 in
theorem zcw39 : lw_tbl[324]? = some (.code (zyy 39) (zbb 39) (zlocs 39) (zrt 39)) := rfl
set_option maxRecDepth 20000 in
theorem zcw40 : lw_tbl[316]? = some (.code (zyy 40) (zbb 40) (zlocs 40) (zrt 40)) := rfl
set_option maxRecDepth 20000 in
theorem zcw41 : lw_tbl[273]? = some (.code (zyy 41) (zbb 41) (zlocs 41) (zrt 41)) := rfl
set_option maxRecDepth 20000 in
theorem zcw42 : lw_tbl[472]? = some (.code (zyy 42) (zbb 42) (zlocs 42) (zrt 42)) := rfl
set_option maxRecDepth 20000 in
theorem zcw43 : lw_tbl[400]? = some (.code (zyy 43) (zbb 43) (zlocs 43) (zrt 43)) := rfl
set_option maxRecDepth 20000 in
theorem zcw44 : lw_tbl[428]? = some (.code (zyy 44) (zbb 44) (zlocs 44) (zrt 44)) := rfl
set_option maxRecDepth 20000 in
theorem zcw45 : lw_tbl[436]? = some (.code (zyy 45) (zbb 45) (zlocs 45) (zrt 45)) := rfl
set_option maxRecDepth 20000 in
theorem zcw46 : lw_tbl[245]? = some (.code (zyy 46) (zbb 46) (zlocs 46) (zrt 46)) := rfl
set_option maxRecDepth 20000 in
theorem zcw47 : lw_tbl[241]? = some (.code (zyy 47) (zbb 47) (zlocs 47) (zrt 47)) := rfl
set_option maxRecDepth 20000 in
theorem zcw48 : lw_tbl[277]? = some (.code (zyy 48) (zbb 48) (zlocs 48) (zrt 48)) := rfl
set_option maxRecDepth 20000 in
theorem zcw49 : lw_tbl[265]? = some (.code (zyy 49) (zbb 49) (zlocs 49) (zrt 49)) := rfl
set_option maxRecDepth 20000 in
theorem zcw50 : lw_tbl[261]? = some (.code (zyy 50) (zbb 50) (zlocs 50) (zrt 50)) := rfl
set_option maxRecDepth 20000 in
theorem zcw51 : lw_tbl[288]? = some (.code (zyy 51) (zbb 51) (zlocs 51) (zrt 51)) := rfl
set_option maxRecDepth 20000 in
theorem zcw52 : lw_tbl[292]? = some (.code (zyy 52) (zbb 52) (zlocs 52) (zrt 52)) := rfl
set_option maxRecDepth 20000 in
theorem zcw53 : lw_tbl[476]? = some (.code (zyy 53) (zbb 53) (zlocs 53) (zrt 53)) := rfl
set_option maxRecDepth 20000 in
theorem zcw54 : lw_tbl[661]? = some (.code (zyy 54) (zbb 54) (zlocs 54) (zrt 54)) := rfl
set_option maxRecDepth 20000 in
theorem zcw55 : lw_tbl[693]? = some (.code (zyy 55) (zbb 55) (zlocs 55) (zrt 55)) := rfl
set_option maxRecDepth 20000 in
theorem zcw56 : lw_tbl[665]? = some (.code (zyy 56) (zbb 56) (zlocs 56) (zrt 56)) := rfl
set_option maxRecDepth 20000 in
theorem zcw57 : lw_tbl[484]? = some (.code (zyy 57) (zbb 57) (zlocs 57) (zrt 57)) := rfl
set_option maxRecDepth 20000 in
theorem zcw58 : lw_tbl[508]? = some (.code (zyy 58) (zbb 58) (zlocs 58) (zrt 58)) := rfl
set_option maxRecDepth 20000 in
theorem zcw59 : lw_tbl[448]? = some (.code (zyy 59) (zbb 59) (zlocs 59) (zrt 59)) := rfl
set_option maxRecDepth 20000 in
theorem zcw60 : lw_tbl[233]? = some (.code (zyy 60) (zbb 60) (zlocs 60) (zrt 60)) := rfl
set_option maxRecDepth 20000 in
theorem zcw61 : lw_tbl[513]? = some (.code (zyy 61) (zbb 61) (zlocs 61) (zrt 61)) := rfl
set_option maxRecDepth 20000 in
theorem zcw62 : lw_tbl[492]? = some (.code (zyy 62) (zbb 62) (zlocs 62) (zrt 62)) := rfl
set_option maxRecDepth 20000 in
theorem zcw63 : lw_tbl[500]? = some (.code (zyy 63) (zbb 63) (zlocs 63) (zrt 63)) := rfl
set_option maxRecDepth 20000 in
theorem zcw64 : lw_tbl[496]? = some (.code (zyy 64) (zbb 64) (zlocs 64) (zrt 64)) := rfl
set_option maxRecDepth 20000 in
theorem zcw65 : lw_tbl[420]? = some (.code (zyy 65) (zbb 65) (zlocs 65) (zrt 65)) := rfl
set_option maxRecDepth 20000 in
theorem zcw66 : lw_tbl[526]? = some (.code (zyy 66) (zbb 66) (zlocs 66) (zrt 66)) := rfl
set_option maxRecDepth 20000 in
theorem zcw67 : lw_tbl[530]? = some (.code (zyy 67) (zbb 67) (zlocs 67) (zrt 67)) := rfl
set_option maxRecDepth 20000 in
theorem zcw68 : lw_tbl[300]? = some (.code (zyy 68) (zbb 68) (zlocs 68) (zrt 68)) := rfl
set_option maxRecDepth 20000 in
theorem zcw69 : lw_tbl[296]? = some (.code (zyy 69) (zbb 69) (zlocs 69) (zrt 69)) := rfl
set_option maxRecDepth 20000 in
theorem zcw70 : lw_tbl[312]? = some (.code (zyy 70) (zbb 70) (zlocs 70) (zrt 70)) := rfl
set_option maxRecDepth 20000 in
theorem zcw71 : lw_tbl[408]? = some (.code (zyy 71) (zbb 71) (zlocs 71) (zrt 71)) := rfl
set_option maxRecDepth 20000 in
theorem zcw72 : lw_tbl[415]? = some (.code (zyy 72) (zbb 72) (zlocs 72) (zrt 72)) := rfl
set_option maxRecDepth 20000 in
theorem zcw73 : lw_tbl[424]? = some (.code (zyy 73) (zbb 73) (zlocs 73) (zrt 73)) := rfl
set_option maxRecDepth 20000 in
theorem zcw74 : lw_tbl[411]? = some (.code (zyy 74) (zbb 74) (zlocs 74) (zrt 74)) := rfl
set_option maxRecDepth 20000 in
theorem zcw75 : lw_tbl[824]? = some (.code (zyy 75) (zbb 75) (zlocs 75) (zrt 75)) := rfl
set_option maxRecDepth 20000 in
theorem zcw76 : lw_tbl[839]? = some (.code (zyy 76) (zbb 76) (zlocs 76) (zrt 76)) := rfl
set_option maxRecDepth 20000 in
theorem zcw77 : lw_tbl[835]? = some (.code (zyy 77) (zbb 77) (zlocs 77) (zrt 77)) := rfl
set_option maxRecDepth 20000 in
theorem zcw78 : lw_tbl[891]? = some (.code (zyy 78) (zbb 78) (zlocs 78) (zrt 78)) := rfl
set_option maxRecDepth 20000 in
theorem zcw79 : lw_tbl[903]? = some (.code (zyy 79) (zbb 79) (zlocs 79) (zrt 79)) := rfl
set_option maxRecDepth 20000 in
theorem zcw80 : lw_tbl[907]? = some (.code (zyy 80) (zbb 80) (zlocs 80) (zrt 80)) := rfl
set_option maxRecDepth 20000 in
theorem zcw81 : lw_tbl[911]? = some (.code (zyy 81) (zbb 81) (zlocs 81) (zrt 81)) := rfl
set_option maxRecDepth 20000 in
theorem zcw82 : lw_tbl[919]? = some (.code (zyy 82) (zbb 82) (zlocs 82) (zrt 82)) := rfl
set_option maxRecDepth 20000 in
theorem zcw83 : lw_tbl[899]? = some (.code (zyy 83) (zbb 83) (zlocs 83) (zrt 83)) := rfl
set_option maxRecDepth 20000 in
theorem zcw84 : lw_tbl[895]? = some (.code (zyy 84) (zbb 84) (zlocs 84) (zrt 84)) := rfl
set_option maxRecDepth 20000 in
theorem zcw85 : lw_tbl[887]? = some (.code (zyy 85) (zbb 85) (zlocs 85) (zrt 85)) := rfl
set_option maxRecDepth 20000 in
theorem zcw86 : lw_tbl[883]? = some (.code (zyy 86) (zbb 86) (zlocs 86) (zrt 86)) := rfl
set_option maxRecDepth 20000 in
theorem zcw87 : lw_tbl[927]? = some (.code (zyy 87) (zbb 87) (zlocs 87) (zrt 87)) := rfl
set_option maxRecDepth 20000 in
theorem zcw88 : lw_tbl[935]? = some (.code (zyy 88) (zbb 88) (zlocs 88) (zrt 88)) := rfl
set_option maxRecDepth 20000 in
theorem zcw89 : lw_tbl[931]? = some (.code (zyy 89) (zbb 89) (zlocs 89) (zrt 89)) := rfl
set_option maxRecDepth 20000 in
theorem zcw90 : lw_tbl[939]? = some (.code (zyy 90) (zbb 90) (zlocs 90) (zrt 90)) := rfl
set_option maxRecDepth 20000 in
theorem zcw91 : lw_tbl[923]? = some (.code (zyy 91) (zbb 91) (zlocs 91) (zrt 91)) := rfl
set_option maxRecDepth 20000 in
theorem zcw92 : lw_tbl[915]? = some (.code (zyy 92) (zbb 92) (zlocs 92) (zrt 92)) := rfl
set_option maxRecDepth 20000 in
theorem zcw93 : lw_tbl[879]? = some (.code (zyy 93) (zbb 93) (zlocs 93) (zrt 93)) := rfl
set_option maxRecDepth 20000 in
theorem zcw94 : lw_tbl[943]? = some (.code (zyy 94) (zbb 94) (zlocs 94) (zrt 94)) := rfl
set_option maxRecDepth 20000 in
theorem zcw95 : lw_tbl[875]? = some (.code (zyy 95) (zbb 95) (zlocs 95) (zrt 95)) := rfl
set_option maxRecDepth 20000 in
theorem zcw96 : lw_tbl[832]? = some (.code (zyy 96) (zbb 96) (zlocs 96) (zrt 96)) := rfl
set_option maxRecDepth 20000 in
theorem zcw97 : lw_tbl[863]? = some (.code (zyy 97) (zbb 97) (zlocs 97) (zrt 97)) := rfl
set_option maxRecDepth 20000 in
theorem zcw98 : lw_tbl[859]? = some (.code (zyy 98) (zbb 98) (zlocs 98) (zrt 98)) := rfl
set_option maxRecDepth 20000 in
theorem zcw99 : lw_tbl[871]? = some (.code (zyy 99) (zbb 99) (zlocs 99) (zrt 99)) := rfl
set_option maxRecDepth 20000 in
theorem zcw100 : lw_tbl[867]? = some (.code (zyy 100) (zbb 100) (zlocs 100) (zrt 100)) := rfl
set_option maxRecDepth 20000 in
theorem zcw101 : lw_tbl[855]? = some (.code (zyy 101) (zbb 101) (zlocs 101) (zrt 101)) := rfl
set_option maxRecDepth 20000 in
theorem zcw102 : lw_tbl[851]? = some (.code (zyy 102) (zbb 102) (zlocs 102) (zrt 102)) := rfl
set_option maxRecDepth 20000 in
theorem zcw103 : lw_tbl[959]? = some (.code (zyy 103) (zbb 103) (zlocs 103) (zrt 103)) := rfl
set_option maxRecDepth 20000 in
theorem zcw104 : lw_tbl[828]? = some (.code (zyy 104) (zbb 104) (zlocs 104) (zrt 104)) := rfl
set_option maxRecDepth 20000 in
theorem zcw105 : lw_tbl[847]? = some (.code (zyy 105) (zbb 105) (zlocs 105) (zrt 105)) := rfl
set_option maxRecDepth 20000 in
theorem zcw106 : lw_tbl[843]? = some (.code (zyy 106) (zbb 106) (zlocs 106) (zrt 106)) := rfl
set_option maxRecDepth 20000 in
theorem zcw107 : lw_tbl[947]? = some (.code (zyy 107) (zbb 107) (zlocs 107) (zrt 107)) := rfl
set_option maxRecDepth 20000 in
theorem zcw108 : lw_tbl[951]? = some (.code (zyy 108) (zbb 108) (zlocs 108) (zrt 108)) := rfl
set_option maxRecDepth 20000 in
theorem zcw109 : lw_tbl[955]? = some (.code (zyy 109) (zbb 109) (zlocs 109) (zrt 109)) := rfl
set_option maxRecDepth 20000 in
theorem zcw110 : lw_tbl[963]? = some (.code (zyy 110) (zbb 110) (zlocs 110) (zrt 110)) := rfl
set_option maxRecDepth 20000 in
theorem zcw111 : lw_tbl[967]? = some (.code (zyy 111) (zbb 111) (zlocs 111) (zrt 111)) := rfl
set_option maxRecDepth 20000 in
theorem zcw112 : lw_tbl[975]? = some (.code (zyy 112) (zbb 112) (zlocs 112) (zrt 112)) := rfl
set_option maxRecDepth 20000 in
theorem zcw113 : lw_tbl[971]? = some (.code (zyy 113) (zbb 113) (zlocs 113) (zrt 113)) := rfl
set_option maxRecDepth 20000 in
theorem zcw114 : lw_tbl[979]? = some (.code (zyy 114) (zbb 114) (zlocs 114) (zrt 114)) := rfl
set_option maxRecDepth 20000 in
theorem zcw115 : lw_tbl[983]? = some (.code (zyy 115) (zbb 115) (zlocs 115) (zrt 115)) := rfl
set_option maxRecDepth 20000 in
theorem zcw116 : lw_tbl[987]? = some (.code (zyy 116) (zbb 116) (zlocs 116) (zrt 116)) := rfl
set_option maxRecDepth 20000 in
theorem zcw117 : lw_tbl[991]? = some (.code (zyy 117) (zbb 117) (zlocs 117) (zrt 117)) := rfl
set_option maxRecDepth 20000 in
theorem zcw118 : lw_tbl[995]? = some (.code (zyy 118) (zbb 118) (zlocs 118) (zrt 118)) := rfl
set_option maxRecDepth 20000 in
theorem zcw119 : lw_tbl[999]? = some (.code (zyy 119) (zbb 119) (zlocs 119) (zrt 119)) := rfl
set_option maxRecDepth 20000 in
theorem zcw120 : lw_tbl[1003]? = some (.code (zyy 120) (zbb 120) (zlocs 120) (zrt 120)) := rfl
set_option maxRecDepth 20000 in
theorem zcw121 : lw_tbl[1007]? = some (.code (zyy 121) (zbb 121) (zlocs 121) (zrt 121)) := rfl
set_option maxRecDepth 20000 in
theorem zcw122 : lw_tbl[1011]? = some (.code (zyy 122) (zbb 122) (zlocs 122) (zrt 122)) := rfl
theorem zcwk0 {j : Nat} (hj : j < 10) (h : 0 + j < 123) : ∃ i : Nat, lw_tbl[i]? = some (.code (zyy (0 + j)) (zbb (0 + j)) (zlocs (0 + j)) (zrt (0 + j))) := by
  match j, hj, h with
  | 0, _, _ => exact ⟨_, zcw0⟩
  | 1, _, _ => exact ⟨_, zcw1⟩
  | 2, _, _ => exact ⟨_, zcw2⟩
  | 3, _, _ => exact ⟨_, zcw3⟩
  | 4, _, _ => exact ⟨_, zcw4⟩
  | 5, _, _ => exact ⟨_, zcw5⟩
  | 6, _, _ => exact ⟨_, zcw6⟩
  | 7, _, _ => exact ⟨_, zcw7⟩
  | 8, _, _ => exact ⟨_, zcw8⟩
  | 9, _, _ => exact ⟨_, zcw9⟩
theorem zcwk1 {j : Nat} (hj : j < 10) (h : 10 + j < 123) : ∃ i : Nat, lw_tbl[i]? = some (.code (zyy (10 + j)) (zbb (10 + j)) (zlocs (10 + j)) (zrt (10 + j))) := by
  match j, hj, h with
  | 0, _, _ => exact ⟨_, zcw10⟩
  | 1, _, _ => exact ⟨_, zcw11⟩
  | 2, _, _ => exact ⟨_, zcw12⟩
  | 3, _, _ => exact ⟨_, zcw13⟩
  | 4, _, _ => exact ⟨_, zcw14⟩
  | 5, _, _ => exact ⟨_, zcw15⟩
  | 6, _, _ => exact ⟨_, zcw16⟩
  | 7, _, _ => exact ⟨_, zcw17⟩
  | 8, _, _ => exact ⟨_, zcw18⟩
  | 9, _, _ => exact ⟨_, zcw19⟩
theorem zcwk2 {j : Nat} (hj : j < 10) (h : 20 + j < 123) : ∃ i : Nat, lw_tbl[i]? = some (.code (zyy (20 + j)) (zbb (20 + j)) (zlocs (20 + j)) (zrt (20 + j))) := by
  match j, hj, h with
  | 0, _, _ => exact ⟨_, zcw20⟩
  | 1, _, _ => exact ⟨_, zcw21⟩
  | 2, _, _ => exact ⟨_, zcw22⟩
  | 3, _, _ => exact ⟨_, zcw23⟩
  | 4, _, _ => exact ⟨_, zcw24⟩
  | 5, _, _ => exact ⟨_, zcw25⟩
  | 6, _, _ => exact ⟨_, zcw26⟩
  | 7, _, _ => exact ⟨_, zcw27⟩
  | 8, _, _ => exact ⟨_, zcw28⟩
  | 9, _, _ => exact ⟨_, zcw29⟩
theorem zcwk3 {j : Nat} (hj : j < 10) (h : 30 + j < 123) : ∃ i : Nat, lw_tbl[i]? = some (.code (zyy (30 + j)) (zbb (30 + j)) (zlocs (30 + j)) (zrt (30 + j))) := by
  match j, hj, h with
  | 0, _, _ => exact ⟨_, zcw30⟩
  | 1, _, _ => exact ⟨_, zcw31⟩
  | 2, _, _ => exact ⟨_, zcw32⟩
  | 3, _, _ => exact ⟨_, zcw33⟩
  | 4, _, _ => exact ⟨_, zcw34⟩
  | 5, _, _ => exact ⟨_, zcw35⟩
  | 6, _, _ => exact ⟨_, zcw36⟩
  | 7, _, _ => exact ⟨_, zcw37⟩
  | 8, _, _ => exact ⟨_, zcw38⟩
  | 9, _, _ => exact ⟨_, zcw39⟩
theorem zcwk4 {j : Nat} (hj : j < 10) (h : 40 + j < 123) : ∃ i : Nat, lw_tbl[i]? = some (.code (zyy (40 + j)) (zbb (40 + j)) (zlocs (40 + j)) (zrt (40 + j))) := by
  match j, hj, h with
  | 0, _, _ => exact ⟨_, zcw40⟩
  | 1, _, _ => exact ⟨_, zcw41⟩
  | 2, _, _ => exact ⟨_, zcw42⟩
  | 3, _, _ => exact ⟨_, zcw43⟩
  | 4, _, _ => exact ⟨_, zcw44⟩
  | 5, _, _ => exact ⟨_, zcw45⟩
  | 6, _, _ => exact ⟨_, zcw46⟩
  | 7, _, _ => exact ⟨_, zcw47⟩
  | 8, _, _ => exact ⟨_, zcw48⟩
  | 9, _, _ => exact ⟨_, zcw49⟩
theorem zcwk5 {j : Nat} (hj : j < 10) (h : 50 + j < 123) : ∃ i : Nat, lw_tbl[i]? = some (.code (zyy (50 + j)) (zbb (50 + j)) (zlocs (50 + j)) (zrt (50 + j))) := by
  match j, hj, h with
  | 0, _, _ => exact ⟨_, zcw50⟩
  | 1, _, _ => exact ⟨_, zcw51⟩
  | 2, _, _ => exact ⟨_, zcw52⟩
  | 3, _, _ => exact ⟨_, zcw53⟩
  | 4, _, _ => exact ⟨_, zcw54⟩
  | 5, _, _ => exact ⟨_, zcw55⟩
  | 6, _, _ => exact ⟨_, zcw56⟩
  | 7, _, _ => exact ⟨_, zcw57⟩
  | 8, _, _ => exact ⟨_, zcw58⟩
  | 9, _, _ => exact ⟨_, zcw59⟩
theorem zcwk6 {j : Nat} (hj : j < 10) (h : 60 + j < 123) : ∃ i : Nat, lw_tbl[i]? = some (.code (zyy (60 + j)) (zbb (60 + j)) (zlocs (60 + j)) (zrt (60 + j))) := by
  match j, hj, h with
  | 0, _, _ => exact ⟨_, zcw60⟩
  | 1, _, _ => exact ⟨_, zcw61⟩
  | 2, _, _ => exact ⟨_, zcw62⟩
  | 3, _, _ => exact ⟨_, zcw63⟩
  | 4, _, _ => exact ⟨_, zcw64⟩
  | 5, _, _ => exact ⟨_, zcw65⟩
  | 6, _, _ => exact ⟨_, zcw66⟩
  | 7, _, _ => exact ⟨_, zcw67⟩
  | 8, _, _ => exact ⟨_, zcw68⟩
  | 9, _, _ => exact ⟨_, zcw69⟩
theorem zcwk7 {j : Nat} (hj : j < 10) (h : 70 + j < 123) : ∃ i : Nat, lw_tbl[i]? = some (.code (zyy (70 + j)) (zbb (70 + j)) (zlocs (70 + j)) (zrt (70 + j))) := by
  match j, hj, h with
  | 0, _, _ => exact ⟨_, zcw70⟩
  | 1, _, _ => exact ⟨_, zcw71⟩
  | 2, _, _ => exact ⟨_, zcw72⟩
  | 3, _, _ => exact ⟨_, zcw73⟩
  | 4, _, _ => exact ⟨_, zcw74⟩
  | 5, _, _ => exact ⟨_, zcw75⟩
  | 6, _, _ => exact ⟨_, zcw76⟩
  | 7, _, _ => exact ⟨_, zcw77⟩
  | 8, _, _ => exact ⟨_, zcw78⟩
  | 9, _, _ => exact ⟨_, zcw79⟩
theorem zcwk8 {j : Nat} (hj : j < 10) (h : 80 + j < 123) : ∃ i : Nat, lw_tbl[i]? = some (.code (zyy (80 + j)) (zbb (80 + j)) (zlocs (80 + j)) (zrt (80 + j))) := by
  match j, hj, h with
  | 0, _, _ => exact ⟨_, zcw80⟩
  | 1, _, _ => exact ⟨_, zcw81⟩
  | 2, _, _ => exact ⟨_, zcw82⟩
  | 3, _, _ => exact ⟨_, zcw83⟩
  | 4, _, _ => exact ⟨_, zcw84⟩
  | 5, _, _ => exact ⟨_, zcw85⟩
  | 6, _, _ => exact ⟨_, zcw86⟩
  | 7, _, _ => exact ⟨_, zcw87⟩
  | 8, _, _ => exact ⟨_, zcw88⟩
  | 9, _, _ => exact ⟨_, zcw89⟩
theorem zcwk9 {j : Nat} (hj : j < 10) (h : 90 + j < 123) : ∃ i : Nat, lw_tbl[i]? = some (.code (zyy (90 + j)) (zbb (90 + j)) (zlocs (90 + j)) (zrt (90 + j))) := by
  match j, hj, h with
  | 0, _, _ => exact ⟨_, zcw90⟩
  | 1, _, _ => exact ⟨_, zcw91⟩
  | 2, _, _ => exact ⟨_, zcw92⟩
  | 3, _, _ => exact ⟨_, zcw93⟩
  | 4, _, _ => exact ⟨_, zcw94⟩
  | 5, _, _ => exact ⟨_, zcw95⟩
  | 6, _, _ => exact ⟨_, zcw96⟩
  | 7, _, _ => exact ⟨_, zcw97⟩
  | 8, _, _ => exact ⟨_, zcw98⟩
  | 9, _, _ => exact ⟨_, zcw99⟩
theorem zcwk10 {j : Nat} (hj : j < 10) (h : 100 + j < 123) : ∃ i : Nat, lw_tbl[i]? = some (.code (zyy (100 + j)) (zbb (100 + j)) (zlocs (100 + j)) (zrt (100 + j))) := by
  match j, hj, h with
  | 0, _, _ => exact ⟨_, zcw100⟩
  | 1, _, _ => exact ⟨_, zcw101⟩
  | 2, _, _ => exact ⟨_, zcw102⟩
  | 3, _, _ => exact ⟨_, zcw103⟩
  | 4, _, _ => exact ⟨_, zcw104⟩
  | 5, _, _ => exact ⟨_, zcw105⟩
  | 6, _, _ => exact ⟨_, zcw106⟩
  | 7, _, _ => exact ⟨_, zcw107⟩
  | 8, _, _ => exact ⟨_, zcw108⟩
  | 9, _, _ => exact ⟨_, zcw109⟩
theorem zcwk11 {j : Nat} (hj : j < 10) (h : 110 + j < 123) : ∃ i : Nat, lw_tbl[i]? = some (.code (zyy (110 + j)) (zbb (110 + j)) (zlocs (110 + j)) (zrt (110 + j))) := by
  match j, hj, h with
  | 0, _, _ => exact ⟨_, zcw110⟩
  | 1, _, _ => exact ⟨_, zcw111⟩
  | 2, _, _ => exact ⟨_, zcw112⟩
  | 3, _, _ => exact ⟨_, zcw113⟩
  | 4, _, _ => exact ⟨_, zcw114⟩
  | 5, _, _ => exact ⟨_, zcw115⟩
  | 6, _, _ => exact ⟨_, zcw116⟩
  | 7, _, _ => exact ⟨_, zcw117⟩
  | 8, _, _ => exact ⟨_, zcw118⟩
  | 9, _, _ => exact ⟨_, zcw119⟩
theorem zcwk12 {j : Nat} (hj : j < 10) (h : 120 + j < 123) : ∃ i : Nat, lw_tbl[i]? = some (.code (zyy (120 + j)) (zbb (120 + j)) (zlocs (120 + j)) (zrt (120 + j))) := by
  match j, hj, h with
  | 0, _, _ => exact ⟨_, zcw120⟩
  | 1, _, _ => exact ⟨_, zcw121⟩
  | 2, _, _ => exact ⟨_, zcw122⟩
  | 3, _, h => omega
  | 4, _, h => omega
  | 5, _, h => omega
  | 6, _, h => omega
  | 7, _, h => omega
  | 8, _, h => omega
  | 9, _, h => omega
theorem zcw_ok {m : Nat} (h : m < 123) : Cond.code (zyy m) (zbb m) (zlocs m) (zrt m) ∈ zWS := by
  have hr : m % 10 < 10 := by omega
  have key : ∃ i : Nat, lw_tbl[i]? = some (.code (zyy m) (zbb m) (zlocs m) (zrt m)) := by
    have hq : m = 0 + m % 10 ∨ m = 10 + m % 10 ∨ m = 20 + m % 10 ∨ m = 30 + m % 10 ∨ m = 40 + m % 10 ∨ m = 50 + m % 10 ∨ m = 60 + m % 10 ∨ m = 70 + m % 10 ∨ m = 80 + m % 10 ∨ m = 90 + m % 10 ∨ m = 100 + m % 10 ∨ m = 110 + m % 10 ∨ m = 120 + m % 10 := by omega
    rcases hq with hq | hq | hq | hq | hq | hq | hq | hq | hq | hq | hq | hq | hq
    · rw [hq]
      exact zcwk0 hr (by omega)
    · rw [hq]
      exact zcwk1 hr (by omega)
    · rw [hq]
      exact zcwk2 hr (by omega)
    · rw [hq]
      exact zcwk3 hr (by omega)
    · rw [hq]
      exact zcwk4 hr (by omega)
    · rw [hq]
      exact zcwk5 hr (by omega)
    · rw [hq]
      exact zcwk6 hr (by omega)
    · rw [hq]
      exact zcwk7 hr (by omega)
    · rw [hq]
      exact zcwk8 hr (by omega)
    · rw [hq]
      exact zcwk9 hr (by omega)
    · rw [hq]
      exact zcwk10 hr (by omega)
    · rw [hq]
      exact zcwk11 hr (by omega)
    · rw [hq]
      exact zcwk12 hr (by omega)
  obtain ⟨i, hi⟩ := key
  exact List.mem_filter.mpr ⟨List.mem_of_getElem? hi, rfl⟩
-- the methods
def zpar (y : MethodName) : Option Nat := (parseMethodDescriptor y.desc).map (fun d => d.parameters.length)
def znar (m : Nat) : Nat := (zpar (zyy m)).getD 0 + (bif zstat m then 0 else 1)
def zmx (m : Nat) : Nat × Nat × Nat × Nat := zmX.getD m (0, 0, 0, 0)
def zmchk (m : Nat) : Bool := zhat (zmx m).2.1 (.initialized (zyy m).cls) && decide ((zyy m).cls = zRn (zown m)) && plainName (zyy m).cls && decide ((zyy m).cls ≠ "java/lang/invoke/MethodHandle") && decide ((zyy m).cls ≠ "java/lang/invoke/VarHandle") && (zpar (zyy m)).isSome && Nat.ble (znar m) (zlocs m) && Nat.blt (zown m) 8 &&
  (bif zstat m then zhat (zmx m).2.2.1 (.static (zyy m)) else zhat (zmx m).2.2.1 (.instanceMethod (zyy m)) && zhat (zmx m).2.2.2 (.selects (zyy m).cls (zyy m) (zyy m)))
theorem zmchk_all : (List.range 123).all zmchk = true := by decide +kernel
theorem zmchk_ok {m : Nat} (h : m < 123) : zmchk m = true := List.all_eq_true.mp zmchk_all m (List.mem_range.mpr h)
theorem zm_ok {m : Nat} (h : m < 123) : Cond.code (zyy m) (zbb m) (zlocs m) (zrt m) ∈ zWS ∧ Cond.initialized (zyy m).cls ∈ zWS ∧ (zyy m).cls = zRn (zown m) ∧ plainName (zyy m).cls = true ∧ ((zyy m).cls ≠ "java/lang/invoke/MethodHandle" ∧ (zyy m).cls ≠ "java/lang/invoke/VarHandle") ∧ (∃ k, zpar (zyy m) = some k) ∧ znar m ≤ zlocs m ∧ zown m < 8 ∧
    (zstat m = true → Cond.static (zyy m) ∈ zWS) ∧ (zstat m = false → Cond.instanceMethod (zyy m) ∈ zWS ∧ Cond.selects (zyy m).cls (zyy m) (zyy m) ∈ zWS) := by
  have h1 := zmchk_ok h
  unfold zmchk at h1
  simp only [Bool.and_eq_true, decide_eq_true_eq] at h1
  obtain ⟨⟨⟨⟨⟨⟨⟨⟨a2, a3⟩, a4⟩, a5⟩, a6⟩, a7⟩, a8⟩, a9⟩, a10⟩ := h1
  refine ⟨zcw_ok h, zhat_mem a2, a3, a4, ⟨a5, a6⟩, Option.isSome_iff_exists.mp a7, Nat.le_of_ble_eq_true a8, Nat.le_of_ble_eq_true a9, fun hs => ?_, fun hs => ?_⟩
  · rw [hs] at a10
    exact zhat_mem a10
  · rw [hs] at a10
    simp only [cond_false, Bool.and_eq_true] at a10
    exact ⟨zhat_mem a10.1, zhat_mem a10.2⟩
def zachk : Bool := (List.range 8).all fun own => (zcalL.getD own []).all fun q => bif Nat.beq q.2.1 999 then zhat ((zlook (zcalX.getD own []) q.1).getD 0) (.methodLink (zRn own) q.1 Lib.Math.max.name) && Nat.beq q.2.2 2 else Nat.blt q.2.1 123 && zhat ((zlook (zcalX.getD own []) q.1).getD 0) (.methodLink (zRn own) q.1 (zyy q.2.1)) && Nat.beq (znar q.2.1) q.2.2
theorem zachk_ok : zachk = true := by decide +kernel
theorem zcal_ok {own n m' k : Nat} (ho : own < 8) (h : zcal own n = some (m', k)) (hm : m' ≠ 999) : m' < 123 ∧ Cond.methodLink (zRn own) n (zyy m') ∈ zWS ∧ znar m' = k := by
  have h1 := List.all_eq_true.mp (List.all_eq_true.mp zachk_ok own (List.mem_range.mpr ho)) _ (zlook_mem h)
  dsimp only at h1
  rw [znbeq hm] at h1
  simp only [cond_false, Bool.and_eq_true] at h1
  exact ⟨Nat.le_of_ble_eq_true h1.1.1, zhat_mem h1.1.2, Nat.eq_of_beq_eq_true h1.2⟩
theorem zcal_max {own n k : Nat} (ho : own < 8) (h : zcal own n = some (999, k)) : Cond.methodLink (zRn own) n Lib.Math.max.name ∈ zWS := by
  have h1 := List.all_eq_true.mp (List.all_eq_true.mp zachk_ok own (List.mem_range.mpr ho)) _ (zlook_mem h)
  dsimp only at h1
  simp only [show Nat.beq 999 999 = true from rfl, cond_true, Bool.and_eq_true] at h1
  exact zhat_mem h1.1
theorem zmax_ok : Cond.static Lib.Math.max.name ∈ zWS ∧ Cond.initialized "java/lang/Math" ∈ zWS ∧ Cond.code Lib.Math.max.name Lib.Math.max.code 2 (some .int) ∈ zWS := ⟨zhas_mem (by decide +kernel), zhas_mem (by decide +kernel), zhas_mem (by decide +kernel)⟩
-- the throwables
def zxn (x : Nat) : String := match x with
  | 1 => "java/lang/IllegalArgumentException"
  | 2 => "java/lang/IllegalStateException"
  | _ => "java/util/NoSuchElementException"
abbrev zxs : List String := ["java/lang/RuntimeException", "java/lang/Exception"]
-- those of the throwing bundle that speak of a heap cell
def zthW : List Cond := [.laysStatic Bundle.tN "UNASSIGNED_STACK" Bundle.steD, .laysStatic Bundle.tN "SUPPRESSED_SENTINEL" Bundle.listD, .isRef (.static Bundle.tN "UNASSIGNED_STACK" Bundle.steD), .isRef (.static Bundle.tN "SUPPRESSED_SENTINEL" Bundle.listD)]
def zxchk (own n ic x : Nat) : Bool := zhas (.classLink (zRn own) n (zxn x)) && zhas (.initialized (zxn x)) && Bundle.fit (zxn x) && (Bundle.ownAtoms0 (zRn own) ic (zxn x) zxs).all fun w => decide (w ∈ zthW) || zhas w
theorem zx_ok : ∀ q ∈ zxL, zxchk q.1 q.2.1 q.2.2.1 q.2.2.2 = true := by decide +kernel
-- the log's new row: new, dup, invokespecial, aastore; its constructor
def zrinit : MethodName := ⟨"PageKeeper$LogRow", "<init>", "()V"⟩
def znest : Cond := .methodLinkNest "PageKeeper$Log" zric zrinit "PageKeeper"
def zrchk (m pc n : Nat) : Bool := Nat.beq (zown m) 1 && (match zins m (pc + 3), zins m (pc + 4), zins m (pc + 7) with
  | some (.dup, 1), some (.invokespecial ic, 3), some (.aastore, 1) => Nat.beq ic zric
  | _, _, _ => false) && zhas (.classLink "PageKeeper$Log" n "PageKeeper$LogRow") && Nat.ble 2 (zFr m) && Nat.ble 32 (zLo m)
theorem zrow_ok : Cond.initialized "PageKeeper$LogRow" ∈ zWS ∧ Cond.instantiable "PageKeeper$LogRow" 16 ∈ zWS ∧ Cond.instanceMethod zrinit ∈ zWS ∧ Cond.code zrinit zrcode 1 none ∈ zWS ∧ Cond.methodLink "PageKeeper$LogRow" zrobj Lib.objectInit ∈ zWS ∧ Cond.instanceMethod Lib.objectInit ∈ zWS ∧ Cond.code Lib.objectInit ⟨#[0xb1]⟩ 1 none ∈ zWS :=
  ⟨zhas_mem (by decide +kernel), zhas_mem (by decide +kernel), zhas_mem (by decide +kernel), zhas_mem (by decide +kernel), zhas_mem (by decide +kernel), zhas_mem (by decide +kernel), zhas_mem (by decide +kernel)⟩
-- an instruction's place and length
def zchk (m pc : Nat) (i : Instr) (len : Nat) : Bool := match i with
  | .bipush _ => Nat.beq len 2
  | .sipush _ => Nat.beq len 3
  | .iload _ => Nat.beq len 2
  | .aload _ => Nat.beq len 2
  | .istore _ => Nat.beq len 2
  | .astore _ => Nat.beq len 2
  | .iinc _ _ => Nat.beq len 3
  | .ifCond _ off => Nat.beq len 3 && decide (0 ≤ (pc : Int) + off)
  | .if_icmp _ off => Nat.beq len 3 && decide (0 ≤ (pc : Int) + off)
  | .ifnull off => Nat.beq len 3 && decide (0 ≤ (pc : Int) + off)
  | .ifnonnull off => Nat.beq len 3 && decide (0 ≤ (pc : Int) + off)
  | .goto off => Nat.beq len 3 && decide (0 ≤ (pc : Int) + off)
  | .tableswitch d _ _ offs => decide (0 ≤ (pc : Int) + d) && offs.toList.all (fun off => decide (0 ≤ (pc : Int) + off))
  | .lookupswitch d ps => decide (0 ≤ (pc : Int) + d) && ps.toList.all (fun q => decide (0 ≤ (pc : Int) + q.2)) && (ps.toList.zip (ps.toList.drop 1)).all (fun (a, next) => a.1 < next.1)
  | .getfield _ => Nat.beq len 3
  | .putfield _ => Nat.beq len 3
  | .invokevirtual n => Nat.beq len 3 && match zcal (zown m) n with
    | some (m', _) => Nat.ble (zFr m' + 1) (zFr m) && Nat.ble (8 + (zlocs m' + 11) + zLo m') (zLo m)
    | none => true
  | .invokestatic n => Nat.beq len 3 && match zcal (zown m) n with
    | some (m', _) => bif Nat.beq m' 999 then Nat.ble 1 (zFr m) && Nat.ble 21 (zLo m) else Nat.ble (zFr m' + 1) (zFr m) && Nat.ble (8 + (zlocs m' + 11) + zLo m') (zLo m)
    | none => true
  | .new n => Nat.beq len 3 && match znew (zown m) n with
    | some 0 => zrchk m pc n
    | some (x + 1) => (match zins m (pc + 3), zins m (pc + 4), zins m (pc + 7) with
      | some (.dup, 1), some (.invokespecial ic, 3), some (.athrow, 1) => decide ((zown m, n, ic, x) ∈ zxL)
      | _, _, _ => false) && Nat.ble 6 (zFr m) && Nat.ble 85 (zLo m)
    | none => true
  | .invokespecial _ => true
  | _ => Nat.beq len 1
end
section
def zdq (m : Nat) : Bool := (zinsL.getD m []).all (fun q => decide (decode (zbb m) q.1 = .ok q.2))
theorem zdec0 : (List.range 41).all (fun j => zdq j) = true := by decide +kernel
end
section
theorem zdec1 : (List.range 41).all (fun j => zdq (41 + j)) = true := by decide +kernel
end
section
theorem zdec2 : (List.range 41).all (fun j => zdq (82 + j)) = true := by decide +kernel
end
section
theorem zdq_in {pc : Nat} {i : Instr} {len : Nat} {l : List (Nat × (Instr × Nat))} {b : ByteArray} (h : l.all (fun q => decide (decode b q.1 = .ok q.2)) = true) (hm : (pc, (i, len)) ∈ l) : decode b pc = .ok (i, len) := by
  rw [List.all_eq_true] at h
  have h4 := h _ hm
  simpa only [decide_eq_true_eq] using h4
theorem zdq_ok {m : Nat} (h : m < 123) : zdq m = true := by
  by_cases h1 : m < 41
  · exact List.all_eq_true.mp zdec0 m (List.mem_range.mpr h1)
  · by_cases h3 : m < 82
    · have h2 := List.all_eq_true.mp zdec1 (m - 41) (List.mem_range.mpr (by omega))
      have e : 41 + (m - 41) = m := by omega
      exact e ▸ h2
    · have h2 := List.all_eq_true.mp zdec2 (m - 82) (List.mem_range.mpr (by omega))
      have e : 82 + (m - 82) = m := by omega
      exact e ▸ h2
def zkq (m : Nat) : Bool := (zinsL.getD m []).all (fun q => zchk m q.1 q.2.1 q.2.2)
theorem zkall : (List.range 123).all (fun m => zkq m) = true := by decide +kernel
theorem zkq_in {pc : Nat} {i : Instr} {len : Nat} {l : List (Nat × (Instr × Nat))} {f : Nat → Instr → Nat → Bool} (h : l.all (fun q => f q.1 q.2.1 q.2.2) = true) (hm : (pc, (i, len)) ∈ l) : f pc i len = true := (List.all_eq_true.mp h) _ hm
theorem zins_ok {m pc : Nat} {i : Instr} {len : Nat} (h : zins m pc = some (i, len)) : m < 123 ∧ decode (zbb m) pc = .ok (i, len) ∧ zchk m pc i len = true := by
  have hmem : (pc, (i, len)) ∈ zinsL.getD m [] := zlook_mem h
  have hm : m < 123 := by
    by_cases hm : m < 123
    · exact hm
    · exfalso
      rw [List.getD_eq_getElem?_getD, List.getElem?_eq_none (by show 123 ≤ m; omega)] at hmem
      cases hmem
  exact ⟨hm, zdq_in (zdq_ok hm) hmem, zkq_in (f := zchk m) (List.all_eq_true.mp zkall m (List.mem_range.mpr hm)) hmem⟩
end
section
/-! One instruction of the small machine is one of the machine's. -/
def zLs (ad : zA) (md : Nat) (ls : List (Option zV)) (lsA : Array Slot) (nL : Nat) : Prop := ls.length = nL ∧ lsA.size = nL ∧ lv_wf lsA ∧ ∀ (i : Nat) (v : zV), ls[i]? = some (some v) → zvok md v = true ∧ lsA[i]? = some (.val (zcv ad v))
theorem zld_some {ls : List (Option zV)} {i : Nat} {v : zV} (h : zld ls i = some v) : ls[i]? = some (some v) := by
  unfold zld at h
  split at h
  · rename_i w hw
    rw [hw, Option.some.inj h]
  · cases h
def zlv (ad : zA) (ls : List (Option zV)) : List (Nat × Value) := (List.range ls.length).filterMap (fun i => (zld ls i).map (fun v => (i, zcv ad v)))
theorem zlv_mem {ad : zA} {ls : List (Option zV)} {i : Nat} {v : zV} (h : ls[i]? = some (some v)) : (i, zcv ad v) ∈ zlv ad ls := by
  refine List.mem_filterMap.mpr ⟨i, List.mem_range.mpr (List.getElem?_eq_some_iff.mp h).1, ?_⟩
  have h1 : zld ls i = some v := by
    unfold zld
    rw [h]
  rw [h1]
  rfl
theorem zLs_has {ad : zA} {md nL : Nat} {ls : List (Option zV)} {lsA : Array Slot} (h : zLs ad md ls lsA nL) : lv_has lsA nL (zlv ad ls) := by
  refine ⟨h.2.1, h.2.2.1, fun q hq => ?_⟩
  obtain ⟨i, -, hi⟩ := List.mem_filterMap.mp hq
  cases hz : zld ls i with
  | none => rw [hz] at hi; cases hi
  | some v =>
    rw [hz] at hi
    have e := Option.some.inj hi
    rw [← e]
    exact (h.2.2.2 i v (zld_some hz)).2
theorem zLs_set {ad : zA} {md nL i : Nat} {ls : List (Option zV)} {lsA ls' : Array Slot} {v : zV} (h : zLs ad md ls lsA nL) (hv : zvok md v = true)
    (h' : lv_has ls' nL ((i, zcv ad v) :: (zlv ad ls).filter (fun q => !(q.1 == i) && !(q.1 + 1 == i && q.2.category == 2)))) : zLs ad md (ls.set i (some v)) ls' nL := by
  refine ⟨by rw [List.length_set]; exact h.1, h'.1, h'.2.1, fun j w hw => ?_⟩
  by_cases hj : j = i
  · subst hj
    have hl : j < (ls.set j (some v)).length := (List.getElem?_eq_some_iff.mp hw).1
    rw [List.length_set] at hl
    rw [List.getElem?_set_self hl] at hw
    cases hw
    exact ⟨hv, h'.2.2 (j, zcv ad v) List.mem_cons_self⟩
  · rw [List.getElem?_set_ne (Ne.symm hj)] at hw
    refine ⟨(h.2.2.2 j w hw).1, h'.2.2 (j, zcv ad w) (List.mem_cons_of_mem _ (List.mem_filter.mpr ⟨zlv_mem hw, ?_⟩))⟩
    simp [hj, zcv_cat]
theorem zLs_ext {ad ad' : zA} {md md' nL : Nat} {ls : List (Option zV)} {lsA : Array Slot} (h : zLs ad md ls lsA nL) (he : zExt ad ad' md) (hm : md ≤ md') : zLs ad' md' ls lsA nL :=
  ⟨h.1, h.2.1, h.2.2.1, fun i v hi => ⟨zvok_mono hm (h.2.2.2 i v hi).1, by rw [zcv_ext he (h.2.2.2 i v hi).1]; exact (h.2.2.2 i v hi).2⟩⟩
def zAok (A : Nat → Prop) (s : State) : Prop := (∀ q, s.heap.size ≤ q → A q) ∧ ∀ (q : Nat) (cell : Cell), s.heap[q]? = some cell → cell.vm.isStatics = true → ¬ A q
-- what the state says beside the tables' words
def zTh (U : State) : Prop := va_Nw znest U ∧ ∀ w ∈ zthW, w.before #[] U = true
def zCx (p : Program) (l : Launch) (e : Env) (R : Room) (s : State) (m0 : MethodId) (args : Array Value) (meth : Method) (c : Code) (D : va_G) (ty : Nat → ClassId) (A : Nat → Prop) (m : Nat) : Prop :=
  (p.tables.exec = Jvm.exec ∧ c.code = zbb m ∧ c.maxLocals = zlocs m ∧ meth.sig.returnType = zrt m ∧ meth.locks = false) ∧ (s.vm.findClass (zRn (zown m)) = some m0.cls ∧ (∀ w ∈ zWS, w.before args s = true) ∧ va_K D zcl (ztys ty) s) ∧
  (c.exceptionTable.toList = [] ∧ zFr m ≤ R.frames ∧ zLo m ≤ R.locals ∧ zTh s ∧ e.platform.stackTraces = false) ∧ zAok A s
def zRp (D : va_G) (ty : Nat → ClassId) (A : Nat → Prop) (s : State) (ad : zA) (m : Nat) (ls : List (Option zV)) (st : List zV) (t : zT) (H : Heap) (locs : List Loc) (lsA : Array Slot) : Prop :=
  zLs ad t.2 ls lsA (zlocs m) ∧ (∀ v ∈ st, zvok t.2 v = true) ∧ zW D ty ad t H ∧ (∀ k i, zok t.2 k i = true → A (ad k i)) ∧ va_S A s.heap H locs
def zres (ad : zA) (md : Nat) (o : zO) (oc : Outcome) (st u : State) : Prop := match o with
  | .inl none => oc = .returned none
  | .inl (some v) => oc = .returned (some (zcv ad v)) ∧ zvok md v = true
  | .inr x => ∃ (a : Nat) (ce : Cell), oc = .threw a ∧ u.heap[a]? = some ce ∧ st.vm.findClass (zxn x) = some ce.cls ∧ ce.vm = .none
def zQ (D : va_G) (ty : Nat → ClassId) (A : Nat → Prop) (ad : zA) (md : Nat) (o : zO) (t' : zT) (st : State) (oc : Outcome) (u : State) : Prop :=
  (∃ ad' : zA, zExt ad ad' md ∧ zres ad' t'.2 o oc st u ∧ zW D ty ad' t' u.heap ∧ ∀ k i, zok t'.2 k i = true → A (ad' k i)) ∧ va_F A st u
def zEnd (D : va_G) (ty : Nat → ClassId) (A : Nat → Prop) (s : State) (below : List Frame) (ad : zA) (md : Nat) (o : zO) (t' : zT) (mc ms : Nat) : State → Prop := fun u => ∃ oc, u.status = .running ∧ Ended u below oc ∧ zQ D ty A ad md o t' s oc u ∧ ∃ L, zFE s u L mc ms ∧ ∀ q ∈ L, A q.base
def zth (o : zO) : Nat := match o with
  | .inl _ => 0
  | .inr _ => 1
def zOK (p : Program) (l : Launch) (e : Env) (R : Room) (s : State) (m0 : MethodId) (args : Array Value) (below : List Frame) (meth : Method) (c : Code) (D : va_G) (ty : Nat → ClassId) (A : Nat → Prop) (m pc : Nat) (ls : List (Option zV)) (st : List zV) (t : zT) (o : zO) (t' : zT) : Prop :=
  ∀ (ad : zA) (H : Heap) (locs : List Loc) (cells slots : Nat) (lsA : Array Slot), zRp D ty A s ad m ls st t H locs lsA → cells + (t'.2 - t.2) + zth o ≤ R.cells → slots + 16 * (t'.2 - t.2) + 6 * zth o ≤ R.slots →
    W p l e R s m0 args below meth c H locs cells slots (zEnd D ty A s below ad t.2 o t' (cells + (t'.2 - t.2) + zth o) (slots + 16 * (t'.2 - t.2) + 6 * zth o)) (F0 m0 pc lsA (st.map (zcv ad)))
theorem zRp.st {D : va_G} {ty : Nat → ClassId} {A : Nat → Prop} {s : State} {ad : zA} {m : Nat} {ls : List (Option zV)} {st st' : List zV} {t : zT} {H : Heap} {locs : List Loc} {lsA : Array Slot} (h : zRp D ty A s ad m ls st t H locs lsA) (h' : ∀ v ∈ st', zvok t.2 v = true) : zRp D ty A s ad m ls st' t H locs lsA := ⟨h.1, h', h.2.2⟩
theorem zRp.ls {D : va_G} {ty : Nat → ClassId} {A : Nat → Prop} {s : State} {ad : zA} {m : Nat} {ls ls' : List (Option zV)} {st st' : List zV} {t : zT} {H : Heap} {locs : List Loc} {lsA lsA' : Array Slot} (h : zRp D ty A s ad m ls st t H locs lsA) (hl : zLs ad t.2 ls' lsA' (zlocs m)) (h' : ∀ v ∈ st', zvok t.2 v = true) : zRp D ty A s ad m ls' st' t H locs lsA' := ⟨hl, h', h.2.2⟩
theorem zall_c {md : Nat} {v : zV} {st : List zV} (hv : zvok md v = true) (h : ∀ w ∈ st, zvok md w = true) : ∀ w ∈ v :: st, zvok md w = true := by
  intro w hw
  rcases List.mem_cons.mp hw with rfl | hw
  · exact hv
  · exact h w hw
theorem zall_t {md : Nat} {v : zV} {st : List zV} (h : ∀ w ∈ v :: st, zvok md w = true) : ∀ w ∈ st, zvok md w = true := fun w hw => h w (List.mem_cons_of_mem _ hw)
theorem zall_h {md : Nat} {v : zV} {st : List zV} (h : ∀ w ∈ v :: st, zvok md w = true) : zvok md v = true := h v List.mem_cons_self
theorem zint_ok (n : Int) : Int32.ofInt n = zint n := by
  cases n with
  | ofNat k => exact Int32.ofInt_eq_ofNat
  | negSucc k => rfl
theorem zbip_ok : ∀ n : Nat, n < 128 → (Int8.ofInt (Int.ofNat n)).toInt32 = nI n := by decide +kernel
theorem zsip_ok {n : Nat} (h : n < 32768) : (Int16.ofInt (Int.ofNat n)).toInt32 = nI n := by
  apply Int32.toInt_inj.mp
  rw [nI_toInt (by omega), Int16.toInt_toInt32, Int16.toInt_ofInt]
  rw [show Int16.size = 65536 from rfl]
  exact Int.bmod_eq_of_le (by simp only [Int.ofNat_eq_natCast]; omega) (by simp only [Int.ofNat_eq_natCast]; omega)
theorem ztgt_ok {pc : Nat} {off : Int} (h : 0 ≤ (pc : Int) + off) : (pc : Int) + off = ((ztgt pc off : Nat) : Int) := by
  unfold ztgt
  rw [Int.toNat_of_nonneg h]
theorem zin_ok {x : Int32} {n : Nat} (h : zin x n = true) : vp_in x n := by
  unfold zin at h
  simpa [vp_in] using h
section ZR
variable {p : Program} {l : Launch} {e : Env} {R : Room} {s : State} {m0 : MethodId} {args : Array Value} {below : List Frame} {meth : Method} {c : Code} {D : va_G} {ty : Nat → ClassId} {A : Nat → Prop} {m pc : Nat} {ls : List (Option zV)} {st : List zV} {t t' : zT} {o : zO}
theorem zs_int (C : zCx p l e R s m0 args meth c D ty A m) {n : Int} (hd : decode (zbb m) pc = .ok (.iconst n, 1)) (k : zOK p l e R s m0 args below meth c D ty A m (pc + 1) ls (.inl (zint n) :: st) t o t') : zOK p l e R s m0 args below meth c D ty A m pc ls st t o t' :=
  fun ad H locs cells slots lsA h hc hs => lv_iconst C.1.1 C.1.2.1 hd (zint_ok n) (k ad H locs cells slots lsA (h.st (zall_c rfl h.2.1)) hc hs)
theorem zs_bip (C : zCx p l e R s m0 args meth c D ty A m) {n : Nat} (hn : n < 128) (hd : decode (zbb m) pc = .ok (.bipush (Int.ofNat n), 2)) (k : zOK p l e R s m0 args below meth c D ty A m (pc + 2) ls (.inl (nI n) :: st) t o t') : zOK p l e R s m0 args below meth c D ty A m pc ls st t o t' :=
  fun ad H locs cells slots lsA h hc hs => lv_bipush C.1.1 C.1.2.1 hd (zbip_ok n hn) (k ad H locs cells slots lsA (h.st (zall_c rfl h.2.1)) hc hs)
theorem zs_sip (C : zCx p l e R s m0 args meth c D ty A m) {n : Nat} (hn : n < 32768) (hd : decode (zbb m) pc = .ok (.sipush (Int.ofNat n), 3)) (k : zOK p l e R s m0 args below meth c D ty A m (pc + 3) ls (.inl (nI n) :: st) t o t') : zOK p l e R s m0 args below meth c D ty A m pc ls st t o t' :=
  fun ad H locs cells slots lsA h hc hs => lv_sipush C.1.1 C.1.2.1 hd (zsip_ok hn) (k ad H locs cells slots lsA (h.st (zall_c rfl h.2.1)) hc hs)
theorem zs_il (C : zCx p l e R s m0 args meth c D ty A m) {i : Nat} {x : Int32} (hz : zld ls i = some (.inl x)) (hd : decode (zbb m) pc = .ok (.iload i, 2)) (k : zOK p l e R s m0 args below meth c D ty A m (pc + 2) ls (.inl x :: st) t o t') : zOK p l e R s m0 args below meth c D ty A m pc ls st t o t' :=
  fun ad H locs cells slots lsA h hc hs => lv_iload C.1.1 C.1.2.1 hd (h.1.2.2.2 i _ (zld_some hz)).2 (k ad H locs cells slots lsA (h.st (zall_c rfl h.2.1)) hc hs)
theorem zs_iln (C : zCx p l e R s m0 args meth c D ty A m) {i : Fin 4} {x : Int32} (hz : zld ls i.val = some (.inl x)) (hd : decode (zbb m) pc = .ok (.iload_n i, 1)) (k : zOK p l e R s m0 args below meth c D ty A m (pc + 1) ls (.inl x :: st) t o t') : zOK p l e R s m0 args below meth c D ty A m pc ls st t o t' :=
  fun ad H locs cells slots lsA h hc hs => lv_iload_n C.1.1 C.1.2.1 hd rfl (h.1.2.2.2 i.val _ (zld_some hz)).2 (k ad H locs cells slots lsA (h.st (zall_c rfl h.2.1)) hc hs)
theorem zs_al (C : zCx p l e R s m0 args meth c D ty A m) {i : Nat} {r : Nat × Nat} (hz : zld ls i = some (.inr (some r))) (hd : decode (zbb m) pc = .ok (.aload i, 2)) (k : zOK p l e R s m0 args below meth c D ty A m (pc + 2) ls (.inr (some r) :: st) t o t') : zOK p l e R s m0 args below meth c D ty A m pc ls st t o t' :=
  fun ad H locs cells slots lsA h hc hs => lv_aload C.1.1 C.1.2.1 hd (h.1.2.2.2 i _ (zld_some hz)).2 (k ad H locs cells slots lsA (h.st (zall_c (h.1.2.2.2 i _ (zld_some hz)).1 h.2.1)) hc hs)
theorem zs_aln (C : zCx p l e R s m0 args meth c D ty A m) {i : Fin 4} {r : Nat × Nat} (hz : zld ls i.val = some (.inr (some r))) (hd : decode (zbb m) pc = .ok (.aload_n i, 1)) (k : zOK p l e R s m0 args below meth c D ty A m (pc + 1) ls (.inr (some r) :: st) t o t') : zOK p l e R s m0 args below meth c D ty A m pc ls st t o t' :=
  fun ad H locs cells slots lsA h hc hs => lv_aload_n C.1.1 C.1.2.1 hd rfl (h.1.2.2.2 i.val _ (zld_some hz)).2 (k ad H locs cells slots lsA (h.st (zall_c (h.1.2.2.2 i.val _ (zld_some hz)).1 h.2.1)) hc hs)
theorem zs_is (C : zCx p l e R s m0 args meth c D ty A m) {i : Nat} {x : Int32} (hi : i < ls.length) (hd : decode (zbb m) pc = .ok (.istore i, 2)) (k : zOK p l e R s m0 args below meth c D ty A m (pc + 2) (ls.set i (some (.inl x))) st t o t') : zOK p l e R s m0 args below meth c D ty A m pc ls (.inl x :: st) t o t' :=
  fun ad H locs cells slots lsA h hc hs => lv_istore C.1.1 C.1.2.1 hd (zLs_has h.1) (by rw [← h.1.1]; exact hi) rfl fun ls' h' => k ad H locs cells slots ls' (h.ls (zLs_set h.1 rfl h') (zall_t h.2.1)) hc hs
theorem zs_isn (C : zCx p l e R s m0 args meth c D ty A m) {i : Fin 4} {x : Int32} (hi : i.val < ls.length) (hd : decode (zbb m) pc = .ok (.istore_n i, 1)) (k : zOK p l e R s m0 args below meth c D ty A m (pc + 1) (ls.set i.val (some (.inl x))) st t o t') : zOK p l e R s m0 args below meth c D ty A m pc ls (.inl x :: st) t o t' :=
  fun ad H locs cells slots lsA h hc hs => lv_istore_n C.1.1 C.1.2.1 hd rfl (zLs_has h.1) (by rw [← h.1.1]; exact hi) rfl fun ls' h' => k ad H locs cells slots ls' (h.ls (zLs_set h.1 rfl h') (zall_t h.2.1)) hc hs
theorem zs_as (C : zCx p l e R s m0 args meth c D ty A m) {i : Nat} {r : Nat × Nat} (hi : i < ls.length) (hd : decode (zbb m) pc = .ok (.astore i, 2)) (k : zOK p l e R s m0 args below meth c D ty A m (pc + 2) (ls.set i (some (.inr (some r)))) st t o t') : zOK p l e R s m0 args below meth c D ty A m pc ls (.inr (some r) :: st) t o t' :=
  fun ad H locs cells slots lsA h hc hs => lv_astore C.1.1 C.1.2.1 hd (zLs_has h.1) (by rw [← h.1.1]; exact hi) rfl fun ls' h' => k ad H locs cells slots ls' (h.ls (zLs_set (v := .inr (some r)) h.1 (zall_h h.2.1) h') (zall_t h.2.1)) hc hs
theorem zs_asn (C : zCx p l e R s m0 args meth c D ty A m) {i : Fin 4} {r : Nat × Nat} (hi : i.val < ls.length) (hd : decode (zbb m) pc = .ok (.astore_n i, 1)) (k : zOK p l e R s m0 args below meth c D ty A m (pc + 1) (ls.set i.val (some (.inr (some r)))) st t o t') : zOK p l e R s m0 args below meth c D ty A m pc ls (.inr (some r) :: st) t o t' :=
  fun ad H locs cells slots lsA h hc hs => lv_astore_n C.1.1 C.1.2.1 hd rfl (zLs_has h.1) (by rw [← h.1.1]; exact hi) rfl fun ls' h' => k ad H locs cells slots ls' (h.ls (zLs_set (v := .inr (some r)) h.1 (zall_h h.2.1) h') (zall_t h.2.1)) hc hs
theorem zs_inc (C : zCx p l e R s m0 args meth c D ty A m) {i : Nat} {n : Int} {x : Int32} (hi : i < ls.length) (hz : zld ls i = some (.inl x)) (hd : decode (zbb m) pc = .ok (.iinc i n, 3)) (k : zOK p l e R s m0 args below meth c D ty A m (pc + 3) (ls.set i (some (.inl (x + zint n)))) st t o t') : zOK p l e R s m0 args below meth c D ty A m pc ls st t o t' := by
  intro ad H locs cells slots lsA h hc hs
  obtain ⟨q, hq⟩ := List.getElem?_of_mem (zlv_mem (ad := ad) (zld_some hz))
  exact lv_iinc C.1.1 C.1.2.1 hd (zLs_has h.1) hq (by rw [zint_ok]) (by rw [← h.1.1]; exact hi) rfl fun ls' h' => k ad H locs cells slots ls' (h.ls (zLs_set (v := .inl (x + zint n)) h.1 rfl h') h.2.1) hc hs
theorem zs_dup (C : zCx p l e R s m0 args meth c D ty A m) {a : zV} (hd : decode (zbb m) pc = .ok (.dup, 1)) (k : zOK p l e R s m0 args below meth c D ty A m (pc + 1) ls (a :: a :: st) t o t') : zOK p l e R s m0 args below meth c D ty A m pc ls (a :: st) t o t' :=
  fun ad H locs cells slots lsA h hc hs => lv_dup C.1.1 C.1.2.1 hd (zcv_cat ad a) (k ad H locs cells slots lsA (h.st (zall_c (zall_h h.2.1) h.2.1)) hc hs)
theorem zs_pop (C : zCx p l e R s m0 args meth c D ty A m) {a : zV} (hd : decode (zbb m) pc = .ok (.pop, 1)) (k : zOK p l e R s m0 args below meth c D ty A m (pc + 1) ls st t o t') : zOK p l e R s m0 args below meth c D ty A m pc ls (a :: st) t o t' :=
  fun ad H locs cells slots lsA h hc hs => lv_pop C.1.1 C.1.2.1 hd (zcv_cat ad a) (k ad H locs cells slots lsA (h.st (zall_t h.2.1)) hc hs)
theorem zs_dx1 (C : zCx p l e R s m0 args meth c D ty A m) {a b : zV} (hd : decode (zbb m) pc = .ok (.dup_x1, 1)) (k : zOK p l e R s m0 args below meth c D ty A m (pc + 1) ls (a :: b :: a :: st) t o t') : zOK p l e R s m0 args below meth c D ty A m pc ls (a :: b :: st) t o t' :=
  fun ad H locs cells slots lsA h hc hs => lv_dup_x1 C.1.1 C.1.2.1 hd (zcv_cat ad a) (zcv_cat ad b) (k ad H locs cells slots lsA (h.st (zall_c (zall_h h.2.1) (zall_c (zall_h (zall_t h.2.1)) (zall_c (zall_h h.2.1) (zall_t (zall_t h.2.1)))))) hc hs)
theorem zs_d2 (C : zCx p l e R s m0 args meth c D ty A m) {a b : zV} (hd : decode (zbb m) pc = .ok (.dup2, 1)) (k : zOK p l e R s m0 args below meth c D ty A m (pc + 1) ls (a :: b :: a :: b :: st) t o t') : zOK p l e R s m0 args below meth c D ty A m pc ls (a :: b :: st) t o t' :=
  fun ad H locs cells slots lsA h hc hs => lv_dup2_11 C.1.1 C.1.2.1 hd (zcv_cat ad a) (zcv_cat ad b) (k ad H locs cells slots lsA (h.st (zall_c (zall_h h.2.1) (zall_c (zall_h (zall_t h.2.1)) h.2.1))) hc hs)
theorem zs_add (C : zCx p l e R s m0 args meth c D ty A m) {x y : Int32} (hd : decode (zbb m) pc = .ok (.iadd, 1)) (k : zOK p l e R s m0 args below meth c D ty A m (pc + 1) ls (.inl (x + y) :: st) t o t') : zOK p l e R s m0 args below meth c D ty A m pc ls (.inl y :: .inl x :: st) t o t' :=
  fun ad H locs cells slots lsA h hc hs => lv_iadd C.1.1 C.1.2.1 hd (k ad H locs cells slots lsA (h.st (zall_c rfl (zall_t (zall_t h.2.1)))) hc hs)
theorem zs_sub (C : zCx p l e R s m0 args meth c D ty A m) {x y : Int32} (hd : decode (zbb m) pc = .ok (.isub, 1)) (k : zOK p l e R s m0 args below meth c D ty A m (pc + 1) ls (.inl (x - y) :: st) t o t') : zOK p l e R s m0 args below meth c D ty A m pc ls (.inl y :: .inl x :: st) t o t' :=
  fun ad H locs cells slots lsA h hc hs => lv_isub C.1.1 C.1.2.1 hd (k ad H locs cells slots lsA (h.st (zall_c rfl (zall_t (zall_t h.2.1)))) hc hs)
theorem zs_mul (C : zCx p l e R s m0 args meth c D ty A m) {x y : Int32} (hd : decode (zbb m) pc = .ok (.imul, 1)) (k : zOK p l e R s m0 args below meth c D ty A m (pc + 1) ls (.inl (x * y) :: st) t o t') : zOK p l e R s m0 args below meth c D ty A m pc ls (.inl y :: .inl x :: st) t o t' :=
  fun ad H locs cells slots lsA h hc hs => lv_imul C.1.1 C.1.2.1 hd (k ad H locs cells slots lsA (h.st (zall_c rfl (zall_t (zall_t h.2.1)))) hc hs)
theorem zs_div (C : zCx p l e R s m0 args meth c D ty A m) {x y : Int32} (hy : ¬ y = 0) (hd : decode (zbb m) pc = .ok (.idiv, 1)) (k : zOK p l e R s m0 args below meth c D ty A m (pc + 1) ls (.inl (x / y) :: st) t o t') : zOK p l e R s m0 args below meth c D ty A m pc ls (.inl y :: .inl x :: st) t o t' :=
  fun ad H locs cells slots lsA h hc hs => lv_idiv C.1.1 C.1.2.1 hd hy (k ad H locs cells slots lsA (h.st (zall_c rfl (zall_t (zall_t h.2.1)))) hc hs)
theorem zs_rem (C : zCx p l e R s m0 args meth c D ty A m) {x y : Int32} (hy : ¬ y = 0) (hd : decode (zbb m) pc = .ok (.irem, 1)) (k : zOK p l e R s m0 args below meth c D ty A m (pc + 1) ls (.inl (x - x / y * y) :: st) t o t') : zOK p l e R s m0 args below meth c D ty A m pc ls (.inl y :: .inl x :: st) t o t' :=
  fun ad H locs cells slots lsA h hc hs => lv_irem C.1.1 C.1.2.1 hd hy (k ad H locs cells slots lsA (h.st (zall_c rfl (zall_t (zall_t h.2.1)))) hc hs)
theorem zs_i2b (C : zCx p l e R s m0 args meth c D ty A m) {x : Int32} (hd : decode (zbb m) pc = .ok (.i2b, 1)) (k : zOK p l e R s m0 args below meth c D ty A m (pc + 1) ls (.inl x.toInt8.toInt32 :: st) t o t') : zOK p l e R s m0 args below meth c D ty A m pc ls (.inl x :: st) t o t' :=
  fun ad H locs cells slots lsA h hc hs => lv_i2b C.1.1 C.1.2.1 hd rfl (k ad H locs cells slots lsA (h.st (zall_c rfl (zall_t h.2.1))) hc hs)
theorem zs_i2s (C : zCx p l e R s m0 args meth c D ty A m) {x : Int32} (hd : decode (zbb m) pc = .ok (.i2s, 1)) (k : zOK p l e R s m0 args below meth c D ty A m (pc + 1) ls (.inl x.toInt16.toInt32 :: st) t o t') : zOK p l e R s m0 args below meth c D ty A m pc ls (.inl x :: st) t o t' :=
  fun ad H locs cells slots lsA h hc hs => lv_i2s C.1.1 C.1.2.1 hd rfl (k ad H locs cells slots lsA (h.st (zall_c rfl (zall_t h.2.1))) hc hs)
theorem zs_goto (C : zCx p l e R s m0 args meth c D ty A m) {off : Int} (ho : 0 ≤ (pc : Int) + off) (hd : decode (zbb m) pc = .ok (.goto off, 3)) (k : zOK p l e R s m0 args below meth c D ty A m (ztgt pc off) ls st t o t') : zOK p l e R s m0 args below meth c D ty A m pc ls st t o t' :=
  fun ad H locs cells slots lsA h hc hs => lv_goto C.1.1 C.1.2.1 hd (ztgt_ok ho) (k ad H locs cells slots lsA h hc hs)
theorem zs_nn1 (C : zCx p l e R s m0 args meth c D ty A m) {off : Int} {r : Nat × Nat} (ho : 0 ≤ (pc : Int) + off) (hd : decode (zbb m) pc = .ok (.ifnonnull off, 3)) (k : zOK p l e R s m0 args below meth c D ty A m (ztgt pc off) ls st t o t') : zOK p l e R s m0 args below meth c D ty A m pc ls (.inr (some r) :: st) t o t' :=
  fun ad H locs cells slots lsA h hc hs => lv_ifnonnull C.1.1 C.1.2.1 hd (ztgt_ok ho) (k ad H locs cells slots lsA (h.st (zall_t h.2.1)) hc hs)
theorem zs_nn0 (C : zCx p l e R s m0 args meth c D ty A m) {off : Int} (hd : decode (zbb m) pc = .ok (.ifnonnull off, 3)) (k : zOK p l e R s m0 args below meth c D ty A m (pc + 3) ls st t o t') : zOK p l e R s m0 args below meth c D ty A m pc ls (.inr none :: st) t o t' :=
  fun ad H locs cells slots lsA h hc hs => lv_ifnonnullN C.1.1 C.1.2.1 hd (k ad H locs cells slots lsA (h.st (zall_t h.2.1)) hc hs)
theorem zs_n1 (C : zCx p l e R s m0 args meth c D ty A m) {off : Int} {r : Nat × Nat} (hd : decode (zbb m) pc = .ok (.ifnull off, 3)) (k : zOK p l e R s m0 args below meth c D ty A m (pc + 3) ls st t o t') : zOK p l e R s m0 args below meth c D ty A m pc ls (.inr (some r) :: st) t o t' :=
  fun ad H locs cells slots lsA h hc hs => lv_ifnull C.1.1 C.1.2.1 hd (k ad H locs cells slots lsA (h.st (zall_t h.2.1)) hc hs)
theorem zs_n0 (C : zCx p l e R s m0 args meth c D ty A m) {off : Int} (ho : 0 ≤ (pc : Int) + off) (hd : decode (zbb m) pc = .ok (.ifnull off, 3)) (k : zOK p l e R s m0 args below meth c D ty A m (ztgt pc off) ls st t o t') : zOK p l e R s m0 args below meth c D ty A m pc ls (.inr none :: st) t o t' :=
  fun ad H locs cells slots lsA h hc hs => lv_ifnullN C.1.1 C.1.2.1 hd (ztgt_ok ho) (k ad H locs cells slots lsA (h.st (zall_t h.2.1)) hc hs)
theorem zs_if (C : zCx p l e R s m0 args meth c D ty A m) {q : ClassFile.Cond} {off : Int} {x : Int32} (ho : 0 ≤ (pc : Int) + off) (hd : decode (zbb m) pc = .ok (.ifCond q off, 3))
    (kt : zcmp q x 0 = true → zOK p l e R s m0 args below meth c D ty A m (ztgt pc off) ls st t o t') (kf : zcmp q x 0 = false → zOK p l e R s m0 args below meth c D ty A m (pc + 3) ls st t o t') : zOK p l e R s m0 args below meth c D ty A m pc ls (.inl x :: st) t o t' := by
  intro ad H locs cells slots lsA h hc hs
  have h' := h.st (zall_t h.2.1)
  cases q with
  | eq => exact lv_if_eq C.1.1 C.1.2.1 hd (ztgt_ok ho) (fun z => kt (decide_eq_true z) ad H locs cells slots lsA h' hc hs) (fun z => kf (decide_eq_false z) ad H locs cells slots lsA h' hc hs)
  | ne => exact lv_if_ne C.1.1 C.1.2.1 hd (ztgt_ok ho) (fun z => kt (decide_eq_true z) ad H locs cells slots lsA h' hc hs) (fun z => kf (decide_eq_false (fun q => q z)) ad H locs cells slots lsA h' hc hs)
  | lt => exact lv_if_lt C.1.1 C.1.2.1 hd (ztgt_ok ho) (fun z => kt (decide_eq_true z) ad H locs cells slots lsA h' hc hs) (fun z => kf (decide_eq_false z) ad H locs cells slots lsA h' hc hs)
  | ge => exact lv_if_ge C.1.1 C.1.2.1 hd (ztgt_ok ho) (fun z => kt (decide_eq_true z) ad H locs cells slots lsA h' hc hs) (fun z => kf (decide_eq_false z) ad H locs cells slots lsA h' hc hs)
  | gt => exact lv_if_gt C.1.1 C.1.2.1 hd (ztgt_ok ho) (fun z => kt (decide_eq_true z) ad H locs cells slots lsA h' hc hs) (fun z => kf (decide_eq_false z) ad H locs cells slots lsA h' hc hs)
  | le => exact lv_if_le C.1.1 C.1.2.1 hd (ztgt_ok ho) (fun z => kt (decide_eq_true z) ad H locs cells slots lsA h' hc hs) (fun z => kf (decide_eq_false z) ad H locs cells slots lsA h' hc hs)
theorem zs_cmp (C : zCx p l e R s m0 args meth c D ty A m) {q : ClassFile.Cond} {off : Int} {x y : Int32} (ho : 0 ≤ (pc : Int) + off) (hd : decode (zbb m) pc = .ok (.if_icmp q off, 3))
    (kt : zcmp q x y = true → zOK p l e R s m0 args below meth c D ty A m (ztgt pc off) ls st t o t') (kf : zcmp q x y = false → zOK p l e R s m0 args below meth c D ty A m (pc + 3) ls st t o t') : zOK p l e R s m0 args below meth c D ty A m pc ls (.inl y :: .inl x :: st) t o t' := by
  intro ad H locs cells slots lsA h hc hs
  have h' := h.st (zall_t (zall_t h.2.1))
  cases q with
  | eq => exact lv_icmp_eq C.1.1 C.1.2.1 hd (ztgt_ok ho) (fun z => kt (decide_eq_true z) ad H locs cells slots lsA h' hc hs) (fun z => kf (decide_eq_false z) ad H locs cells slots lsA h' hc hs)
  | ne => exact lv_icmp_ne C.1.1 C.1.2.1 hd (ztgt_ok ho) (fun z => kt (decide_eq_true z) ad H locs cells slots lsA h' hc hs) (fun z => kf (decide_eq_false (fun q => q z)) ad H locs cells slots lsA h' hc hs)
  | lt => exact lv_icmp_lt C.1.1 C.1.2.1 hd (ztgt_ok ho) (fun z => kt (decide_eq_true z) ad H locs cells slots lsA h' hc hs) (fun z => kf (decide_eq_false z) ad H locs cells slots lsA h' hc hs)
  | ge => exact lv_icmp_ge C.1.1 C.1.2.1 hd (ztgt_ok ho) (fun z => kt (decide_eq_true z) ad H locs cells slots lsA h' hc hs) (fun z => kf (decide_eq_false z) ad H locs cells slots lsA h' hc hs)
  | gt => exact lv_icmp_gt C.1.1 C.1.2.1 hd (ztgt_ok ho) (fun z => kt (decide_eq_true z) ad H locs cells slots lsA h' hc hs) (fun z => kf (decide_eq_false z) ad H locs cells slots lsA h' hc hs)
  | le => exact lv_icmp_le C.1.1 C.1.2.1 hd (ztgt_ok ho) (fun z => kt (decide_eq_true z) ad H locs cells slots lsA h' hc hs) (fun z => kf (decide_eq_false z) ad H locs cells slots lsA h' hc hs)
theorem zs_lsw (C : zCx p l e R s m0 args meth c D ty A m) {d : Int} {ps : Array (Int × Int)} {len : Nat} {x : Int32} (hp : (ps.toList.zip (ps.toList.drop 1)).all (fun (a, next) => a.1 < next.1) = true) (ho : 0 ≤ (pc : Int) + Op.lookupswitch.offset ps.toList d x.toInt) (hd : decode (zbb m) pc = .ok (.lookupswitch d ps, len))
    (k : zOK p l e R s m0 args below meth c D ty A m (ztgt pc (Op.lookupswitch.offset ps.toList d x.toInt)) ls st t o t') : zOK p l e R s m0 args below meth c D ty A m pc ls (.inl x :: st) t o t' :=
  fun ad H locs cells slots lsA h hc hs => lv_lookup C.1.1 C.1.2.1 hd hp rfl (ztgt_ok ho) (k ad H locs cells slots lsA (h.st (zall_t h.2.1)) hc hs)
theorem zs_tsw (C : zCx p l e R s m0 args meth c D ty A m) {d lo hi off : Int} {offs : Array Int} {len : Nat} {x : Int32} (hz : zsw d lo hi offs x = some off) (ho : 0 ≤ (pc : Int) + off) (hd : decode (zbb m) pc = .ok (.tableswitch d lo hi offs, len))
    (k : zOK p l e R s m0 args below meth c D ty A m (ztgt pc off) ls st t o t') : zOK p l e R s m0 args below meth c D ty A m pc ls (.inl x :: st) t o t' := by
  intro ad H locs cells slots lsA h hc hs
  have kk := k ad H locs cells slots lsA (h.st (zall_t h.2.1)) hc hs
  unfold zsw at hz
  by_cases hx : x.toInt < lo ∨ hi < x.toInt
  · rw [if_pos hx] at hz
    cases hz
    exact lv_tableOut C.1.1 C.1.2.1 hd hx (ztgt_ok ho) kk
  · rw [if_neg hx] at hz
    exact lv_tableIn C.1.1 C.1.2.1 hd (fun z => hx (Or.inl z)) (fun z => hx (Or.inr z)) hz (ztgt_ok ho) kk
end ZR
end
section
/-! Fields, arrays, returns. -/
theorem zsum (ad : zA) : ∀ st : List zV, ((st.map (zcv ad)).map fun v => v.category).sum = st.length
  | [] => rfl
  | v :: r => by
    simp only [List.map_cons, List.sum_cons, List.length_cons, zsum ad r, zcv_cat]
    omega
theorem zcl_ty {c : Nat} {r : vw_C} (h : zcl[c]? = some r) : (∃ ty0 : Nat → FieldType, ∀ k, k < r.2.2 → parseFieldDescriptor (r.2.1 k).2.2.1 = some (ty0 k)) ∧ ∀ a, a < r.2.2 → ∀ b, b < r.2.2 → a ≠ b → (r.2.1 a).2.1 ≠ (r.2.1 b).2.1 := by
  match c, h with
  | 0, h => cases h; exact ⟨⟨zty0, ztyo0⟩, znm0⟩
  | 1, h => cases h; exact ⟨⟨zty1, ztyo1⟩, znm1⟩
  | 2, h => cases h; exact ⟨⟨zty2, ztyo2⟩, znm2⟩
  | 3, h => cases h; exact ⟨⟨zty3, ztyo3⟩, znm3⟩
  | 4, h => cases h; exact ⟨⟨zty4, ztyo4⟩, znm4⟩
  | 5, h => cases h; exact ⟨⟨zty5, ztyo5⟩, znm5⟩
  | 6, h => cases h; exact ⟨⟨zty6, ztyo6⟩, znm6⟩
  | 7, h => cases h; exact ⟨⟨zty7, ztyo7⟩, znm7⟩
theorem zcls_ok {k c : Nat} (h : zcls k c = true) : ∃ fs, zkind k = .inl (c, fs) := by
  unfold zcls at h
  cases hz : zkind k with
  | inl q =>
    rw [hz] at h
    obtain ⟨c', fs⟩ := q
    have e := Nat.eq_of_beq_eq_true h
    exact ⟨fs, by rw [e]⟩
  | inr q => rw [hz] at h; cases h
theorem zget_ok {ad : zA} {k c i f : Nat} {t : zT} {v : zV} (hc : zcls k c = true) (h : zget k i f t = some v) : ∃ fs e, zkind k = .inl (c, fs) ∧ fs[f]? = some e ∧ zcv ad v = zfv ad t.1 k i e f ∧ (zok t.2 k i = true → zvok t.2 v = true) := by
  obtain ⟨fs, hz⟩ := zcls_ok hc
  unfold zget at h
  rw [hz] at h
  dsimp only at h
  cases he : fs[f]? with
  | none => rw [he] at h; cases h
  | some e =>
    rw [he] at h
    refine ⟨fs, e, hz, he, ?_⟩
    match e, h, he with
    | 0, h, _ => cases h; exact ⟨rfl, fun _ => rfl⟩
    | 1, h, _ => cases h; exact ⟨rfl, fun _ => rfl⟩
    | q + 2, h, he =>
      cases h
      refine ⟨rfl, fun hk => ?_⟩
      obtain ⟨-, r, -, -, -, hf⟩ := zkind_o hz
      obtain ⟨q1, q2, q3, q4⟩ := hf f (q + 2) he
      show zok t.2 q i = true
      unfold zok at hk ⊢
      rw [if_neg q3] at hk
      rw [if_neg q2, q4]
      exact hk
theorem zWL.da {D : va_G} {ty : Nat → ClassId} {ad : zA} {t : zT} {H : Heap} {L : List (Nat × Nat)} {A : Nat → Prop} (h : zWL D ty ad t H L) (hA : ∀ k i, zok t.2 k i = true → A (ad k i)) : va_D A (zl ty ad t L) := by
  refine ⟨h.2.2.2.1, fun q0 x hx => ?_⟩
  obtain ⟨k, i, h1, h2⟩ := zl_inv hx
  rw [h2]
  exact hA k i (h.2.1 (k, i) (List.mem_of_getElem? h1))
section ZR2
variable {p : Program} {l : Launch} {e : Env} {R : Room} {s : State} {m0 : MethodId} {args : Array Value} {below : List Frame} {meth : Method} {c : Code} {D : va_G} {ty : Nat → ClassId} {A : Nat → Prop} {m pc : Nat} {ls : List (Option zV)} {st : List zV} {t t' : zT} {o : zO}
theorem zs_get (C : zCx p l e R s m0 args meth c D ty A m) (ho : zown m < 8) {n ci f k i : Nat} {v : zV} (hz : zfld (zown m) n = some (ci, f)) (hcl : zcls k ci = true) (hg : zget k i f t = some v) (hd : decode (zbb m) pc = .ok (.getfield n, 3))
    (kk : zOK p l e R s m0 args below meth c D ty A m (pc + 3) ls (v :: st) t o t') : zOK p l e R s m0 args below meth c D ty A m pc ls (.inr (some (k, i)) :: st) t o t' := by
  intro ad H locs cells slots lsA h hc hs
  obtain ⟨L, hL⟩ := h.2.2.1
  have hv : zok t.2 k i = true := zall_h h.2.1
  obtain ⟨q0, hq⟩ := hL.pos hv
  obtain ⟨r, hr, hfl, hdecl, hlink⟩ := zfld_ok ho hz
  obtain ⟨fs, e', hkind, hfe, hval, hvok⟩ := zget_ok (ad := ad) hcl hg
  have he : (zl ty ad t L)[q0]? = some (ad k i, .inr (ci, zenF ad t.1 k i fs)) := by rw [zl_get hq, zenc_o hkind]
  exact va_get C.1.1 C.1.2.1 (own := zRn (zown m)) (ref := r.1) (C := r.1) (T := r.2.1) (N := r.2.2) (ci := ci) (Ts := zWS) C.2.1.2.1 (zcl_in hr) C.2.1.1 C.2.1.2.2 hL.2.2.1 q0 he hr f hfl (C.2.1.2.1 _ hlink) (fun x hx => by rw [hdecl] at hx; exact hx) (v := zcv ad v) (by rw [hval]; exact zenF_get hfe) hd
    (kk ad H locs cells slots lsA (h.st (zall_c (hvok hv) (zall_t h.2.1))) hc hs)
theorem zfit_b {v : Int32} (h : v = 0 ∨ v = 1) : narrow .boolean (.int v) = .int v ∧ fits .boolean (.int v) = true := by
  rcases h with rfl | rfl
  · exact ⟨by decide +kernel, by decide +kernel⟩
  · exact ⟨by decide +kernel, by decide +kernel⟩
theorem zs_put (C : zCx p l e R s m0 args meth c D ty A m) (ho : zown m < 8) {n ci f k i e0 : Nat} {fs : List Nat} {v : Int32} (hz : zfld (zown m) n = some (ci, f)) (hkind : zkind k = .inl (ci, fs)) (hfe : fs[f]? = some e0) (he0 : e0 = 0 ∨ (e0 = 1 ∧ (v = 0 ∨ v = 1))) (hd : decode (zbb m) pc = .ok (.putfield n, 3))
    (kk : zOK p l e R s m0 args below meth c D ty A m (pc + 3) ls st (zu t.1 (64 * k + f) i 0 v, t.2) o t') : zOK p l e R s m0 args below meth c D ty A m pc ls (.inl v :: .inr (some (k, i)) :: st) t o t' := by
  intro ad H locs cells slots lsA h hc hs
  obtain ⟨L, hL⟩ := h.2.2.1
  have hv : zok t.2 k i = true := zall_h (zall_t h.2.1)
  obtain ⟨q0, hq⟩ := hL.pos hv
  obtain ⟨r, hr, hfl, hdecl, hlink⟩ := zfld_ok ho hz
  have he : (zl ty ad t L)[q0]? = some (ad k i, .inr (ci, zenF ad t.1 k i fs)) := by rw [zl_get hq, zenc_o hkind]
  obtain ⟨-, r', hr', hlen, hl60, hfs⟩ := zkind_o hkind
  cases hr.symm.trans hr'
  obtain ⟨⟨ty0, hty⟩, hnm⟩ := zcl_ty hr
  have hff := hfs f e0 hfe
  have hf60 : f < 60 := by omega
  have hty1 : ∃ tt, parseFieldDescriptor (r.2.1 f).2.2.1 = some tt ∧ narrow tt (.int v) = .int v ∧ fits tt (.int v) = true ∧ (r.2.1 f).2.2.2 = false ∧ e0 < 2 := by
    rcases he0 with rfl | ⟨rfl, hb⟩
    · exact ⟨.int, hff.1, rfl, rfl, hff.2, by decide⟩
    · exact ⟨.boolean, hff.1, (zfit_b hb).1, (zfit_b hb).2, hff.2, by decide⟩
  obtain ⟨tt, hp1, hp2, hp3, hp4, he2⟩ := hty1
  refine va_put C.1.1 C.1.2.1 (own := zRn (zown m)) (ref := r.1) (C := r.1) (T := r.2.1) (N := r.2.2) (ci := ci) (Ts := zWS) C.2.1.2.1 (zcl_in hr) ty0 hty hnm C.2.1.1 C.2.1.2.2 hL.2.2.1 (hL.da h.2.2.2.1) h.2.2.2.2 q0 he hr f hfl (C.2.1.2.1 _ hlink) (fun x hx => by rw [hdecl] at hx; exact hx) hp4 (v := .int v) hp1 hp2 hp3 (by rw [zenF_len]; omega) hd fun H1 locs1 hP1 hD1 hS1 => ?_
  rw [zenF_set hfe he2, ← zenc_o (ty := ty) (t := (zu t.1 (64 * k + f) i 0 v, t.2)) hkind] at hP1 hD1
  exact kk ad H1 locs1 cells slots lsA ⟨h.1, zall_t (zall_t h.2.1), hL.wr hq hf60 hP1 hD1, h.2.2.2.1, hS1⟩ hc hs
theorem zs_ld (C : zCx p l e R s m0 args meth c D ty A m) {i : Instr} {el k j n a : Nat} {x : Int32} (hk : zkind k = .inr (a, el, n)) (hi : (i = .iaload ∧ el = 0) ∨ (i = .baload ∧ el = 1) ∨ (i = .saload ∧ el = 2) ∨ (i = .baload ∧ el = 3)) (hin : zin x n = true) (hd : decode (zbb m) pc = .ok (i, 1))
    (kk : zOK p l e R s m0 args below meth c D ty A m (pc + 1) ls (.inl (t.1 (64 * k) j x.toNatClampNeg) :: st) t o t') : zOK p l e R s m0 args below meth c D ty A m pc ls (.inl x :: .inr (some (k, j)) :: st) t o t' := by
  intro ad H locs cells slots lsA h hc hs
  obtain ⟨L, hL⟩ := h.2.2.1
  have hv : zok t.2 k j = true := zall_h (zall_t h.2.1)
  obtain ⟨q0, hq⟩ := hL.pos hv
  obtain ⟨-, -, ha⟩ := zkind_a hk (zok_lt hv)
  have k2 := kk ad H locs cells slots lsA (h.st (zall_c rfl (zall_t (zall_t h.2.1)))) hc hs
  rcases hi with ⟨rfl, rfl⟩ | ⟨rfl, rfl⟩ | ⟨rfl, rfl⟩ | ⟨rfl, rfl⟩
  · have ha' : a = 0 := ha
    subst ha'
    exact va_iald C.1.1 C.1.2.1 C.2.1.2.2 hL.2.2.1 q0 0 (by rw [zl_get hq, zenc_a hk]; rfl) rfl (zin_ok hin) hd k2
  · have ha' : a = 1 := ha
    subst ha'
    exact va_bald C.1.1 C.1.2.1 C.2.1.2.2 hL.2.2.1 q0 1 (by rw [zl_get hq, zenc_a hk]; rfl) rfl (zin_ok hin) hd k2
  · have ha' : a = 2 := ha
    subst ha'
    exact va_sald C.1.1 C.1.2.1 C.2.1.2.2 hL.2.2.1 q0 2 (by rw [zl_get hq, zenc_a hk]; rfl) rfl (zin_ok hin) hd k2
  · have ha' : a = 3 := ha
    subst ha'
    exact va_zald C.1.1 C.1.2.1 C.2.1.2.2 hL.2.2.1 q0 3 (by rw [zl_get hq, zenc_a hk]; rfl) rfl (zin_ok hin) hd k2
theorem zupd (S : zS) (k j q : Nat) (v : Int32) : upd (fun x => S (64 * k) j x) q v = fun x => zu S (64 * k) j q v (64 * k) j x := by
  funext x
  by_cases hx : x = q
  · subst hx
    simp [upd, zu]
  · simp [upd, zu, hx]
def znr (el : Nat) (v : Int32) : Int32 := match el with
  | 0 => v
  | 1 => vp_nar .byte v
  | 2 => vp_nar .short v
  | _ => vp_nar .boolean v
theorem zs_st (C : zCx p l e R s m0 args meth c D ty A m) {i : Instr} {el k j n a : Nat} {x v : Int32} (hk : zkind k = .inr (a, el, n)) (hi : (i = .iastore ∧ el = 0) ∨ (i = .bastore ∧ el = 1) ∨ (i = .sastore ∧ el = 2) ∨ (i = .bastore ∧ el = 3)) (hin : zin x n = true) (hd : decode (zbb m) pc = .ok (i, 1))
    (kk : zOK p l e R s m0 args below meth c D ty A m (pc + 1) ls st (zu t.1 (64 * k) j x.toNatClampNeg (znr el v), t.2) o t') : zOK p l e R s m0 args below meth c D ty A m pc ls (.inl v :: .inl x :: .inr (some (k, j)) :: st) t o t' := by
  intro ad H locs cells slots lsA h hc hs
  obtain ⟨L, hL⟩ := h.2.2.1
  have hv : zok t.2 k j = true := zall_h (zall_t (zall_t h.2.1))
  obtain ⟨q0, hq⟩ := hL.pos hv
  obtain ⟨-, -, ha⟩ := zkind_a hk (zok_lt hv)
  have hel : el < 4 := by rcases hi with ⟨-, rfl⟩ | ⟨-, rfl⟩ | ⟨-, rfl⟩ | ⟨-, rfl⟩ <;> decide
  have key : ∀ (H1 : Heap) (locs1 : List Loc), va_P D zcl ((zl ty ad t L).set q0 (ad k j, .inl (ty a, n, .inl (upd (fun y => t.1 (64 * k) j y) x.toNatClampNeg (znr el v))))) H1 → va_D A ((zl ty ad t L).set q0 (ad k j, .inl (ty a, n, .inl (upd (fun y => t.1 (64 * k) j y) x.toNatClampNeg (znr el v))))) → va_S A s.heap H1 locs1 →
      W p l e R s m0 args below meth c H1 locs1 cells slots (zEnd D ty A s below ad t.2 o t' (cells + (t'.2 - t.2) + zth o) (slots + 16 * (t'.2 - t.2) + 6 * zth o)) (F0 m0 (pc + 1) lsA (st.map (zcv ad))) := by
    intro H1 locs1 hP1 hD1 hS1
    have e1 : ((ad k j, .inl (ty a, n, .inl (upd (fun y => t.1 (64 * k) j y) x.toNatClampNeg (znr el v)))) : Nat × va_E) = (ad k j, zenc ty ad (zu t.1 (64 * k + 0) j x.toNatClampNeg (znr el v), t.2) k j) := by
      rw [zenc_a hk, zenA_lt hel, zupd]
      rfl
    rw [e1] at hP1 hD1
    exact kk ad H1 locs1 cells slots lsA ⟨h.1, zall_t (zall_t (zall_t h.2.1)), hL.wr hq (by decide) hP1 hD1, h.2.2.2.1, hS1⟩ hc hs
  rcases hi with ⟨rfl, rfl⟩ | ⟨rfl, rfl⟩ | ⟨rfl, rfl⟩ | ⟨rfl, rfl⟩
  · have ha' : a = 0 := ha
    subst ha'
    exact va_iast C.1.1 C.1.2.1 C.2.1.2.2 hL.2.2.1 (hL.da h.2.2.2.1) h.2.2.2.2 q0 0 (by rw [zl_get hq, zenc_a hk]; rfl) rfl (zin_ok hin) hd key
  · have ha' : a = 1 := ha
    subst ha'
    exact va_bast C.1.1 C.1.2.1 C.2.1.2.2 hL.2.2.1 (hL.da h.2.2.2.1) h.2.2.2.2 q0 1 (by rw [zl_get hq, zenc_a hk]; rfl) rfl (zin_ok hin) hd key
  · have ha' : a = 2 := ha
    subst ha'
    exact va_sast C.1.1 C.1.2.1 C.2.1.2.2 hL.2.2.1 (hL.da h.2.2.2.1) h.2.2.2.2 q0 2 (by rw [zl_get hq, zenc_a hk]; rfl) rfl (zin_ok hin) hd key
  · have ha' : a = 3 := ha
    subst ha'
    exact va_zast C.1.1 C.1.2.1 C.2.1.2.2 hL.2.2.1 (hL.da h.2.2.2.1) h.2.2.2.2 q0 3 (by rw [zl_get hq, zenc_a hk]; rfl) rfl (zin_ok hin) hd key
theorem zel_cv (ad : zA) (md q j : Nat) : va_rf (zrefs ad md q j) = zcv ad (.inr (zel md q j)) := by
  unfold zrefs zel
  by_cases h : zok md q j = true
  · rw [if_pos h]
    rfl
  · rw [if_neg h]
    rfl
theorem zel_ok (md q j : Nat) : zvok md (.inr (zel md q j)) = true := by
  unfold zel
  by_cases h : zok md q j = true
  · rw [if_pos h]
    exact h
  · rw [if_neg h]
    rfl
theorem zs_ald (C : zCx p l e R s m0 args meth c D ty A m) {q k j n a : Nat} {x : Int32} (hk : zkind k = .inr (a, q + 4, n)) (hin : zin x n = true) (hd : decode (zbb m) pc = .ok (.aaload, 1))
    (kk : zOK p l e R s m0 args below meth c D ty A m (pc + 1) ls (.inr (zel t.2 q x.toNatClampNeg) :: st) t o t') : zOK p l e R s m0 args below meth c D ty A m pc ls (.inl x :: .inr (some (k, j)) :: st) t o t' := by
  intro ad H locs cells slots lsA h hc hs
  obtain ⟨L, hL⟩ := h.2.2.1
  have hv : zok t.2 k j = true := zall_h (zall_t h.2.1)
  obtain ⟨q0, hq⟩ := hL.pos hv
  obtain ⟨-, -, ha⟩ := zkind_a hk (zok_lt hv)
  have k2 := kk ad H locs cells slots lsA (h.st (zall_c (zel_ok t.2 q x.toNatClampNeg) (zall_t (zall_t h.2.1)))) hc hs
  have hcell : H[ad k j]? = some (arrV (ty a) n (fun y => va_rf (zrefs ad t.2 q y))) := by
    have h1 := hL.2.2.1 q0 _ (zl_get hq)
    rw [zenc_a hk] at h1
    exact h1
  have hx := zin_ok hin
  have hlt : x.toNatClampNeg < n := Nat.not_le.mp fun z => hx (Or.inr z)
  have hty : ∃ tt, (ztys ty)[a]? = some (ty a, tt) ∧ tt.isReference = true := by
    rcases ha with ⟨rfl, -, -⟩ | ⟨rfl, -⟩ | ⟨rfl, -⟩
    · exact ⟨_, rfl, rfl⟩
    · exact ⟨_, rfl, rfl⟩
    · exact ⟨_, rfl, rfl⟩
  obtain ⟨tt, ht1, ht2⟩ := hty
  exact W.aald (v := va_rf (zrefs ad t.2 q x.toNatClampNeg)) (ty := tt) C.1.1 C.1.2.1 hcell ((C.2.1.2.2.2 a _ ht1).1 n (fun y => va_rf (zrefs ad t.2 q y))) ht2 (fun z => by cases z) (by rw [arrV_size]; exact hx) (by rw [arrV_read _ _ hlt]) rfl rfl hd (by rw [zel_cv]; exact k2)
theorem zs_max (C : zCx p l e R s m0 args meth c D ty A m) (ho : zown m < 8) {n k : Nat} {x y : Int32} (hz : zcal (zown m) n = some (999, k)) (hf : 1 ≤ zFr m) (hw : 21 ≤ zLo m) (hr : st.length ≤ 8) (hd : decode (zbb m) pc = .ok (.invokestatic n, 3))
    (kk : zOK p l e R s m0 args below meth c D ty A m (pc + 3) ls (.inl (if x < y then y else x) :: st) t o t') : zOK p l e R s m0 args below meth c D ty A m pc ls (.inl y :: .inl x :: st) t o t' := by
  intro ad H locs cells slots lsA h hc hs
  have hsum := zsum ad st
  have hfr := C.2.2.1.2.1
  have hlo := C.2.2.1.2.2.1
  exact va_mmax C.1.1 C.1.2.1 (by rw [C.1.2.2.1, h.1.2.1]) C.2.1.1 (C.2.1.2.1 _ (zcal_max ho hz)) (C.2.1.2.1 _ zmax_ok.1) (C.2.1.2.1 _ zmax_ok.2.1) (C.2.1.2.1 _ zmax_ok.2.2) (by omega) (by rw [hsum]; omega) (by omega) (by omega) hd
    (kk ad H locs cells slots lsA (h.st (zall_c rfl (zall_t (zall_t h.2.1)))) hc hs)
theorem zW_mono {H : Heap} {locs : List Loc} {cells slots : Nat} {Q Q' : State → Prop} {g : JFrame} (h : W p l e R s m0 args below meth c H locs cells slots Q g) (hq : ∀ u, Q u → Q' u) : W p l e R s m0 args below meth c H locs cells slots Q' g := by
  intro T hT X
  obtain ⟨u, a, b⟩ := h T hT X
  exact ⟨u, a, hq u b⟩
theorem zend_of {below : List Frame} {v : Option zV} {ad : zA} {cells slots : Nat} {u : State} (h : MQ below (fun _ st oc u => zQ D ty A ad t.2 (.inl v) t st oc u) args s cells slots A u) : zEnd D ty A s below ad t.2 (.inl v) t (cells + (t.2 - t.2) + zth (.inl v)) (slots + 16 * (t.2 - t.2) + 6 * zth (.inl v)) u := by
  obtain ⟨oc, h1, h2, h3, L, h4, h5⟩ := h
  refine ⟨oc, h1, h2, h3, L, ?_, h5⟩
  have e1 : cells + (t.2 - t.2) + zth (.inl v) = cells := by simp [zth]
  have e2 : slots + 16 * (t.2 - t.2) + 6 * zth (.inl v) = slots := by simp [zth]
  rw [e1, e2]
  exact ⟨h4.2.1, h4.2.2⟩
theorem zs_ret {x : Int32} (C : zCx p l e R s m0 args meth c D ty A m) (hr : zrt m = some .int ∨ (zrt m = some .boolean ∧ (x = 0 ∨ x = 1))) (hd : decode (zbb m) pc = .ok (.ireturn, 1)) : zOK p l e R s m0 args below meth c D ty A m pc ls [.inl x] t (.inl (some (.inl x))) t := by
  intro ad H locs cells slots lsA h hc hs
  have hq : ∀ u : State, u.heap = H → s.WarmedH u.vm → zQ D ty A ad t.2 (.inl (some (.inl x))) t s (.returned (some (.int x))) u := fun u hu _ => ⟨⟨ad, zExt.refl _ _, ⟨rfl, rfl⟩, by rw [hu]; exact h.2.2.1, h.2.2.2.1⟩, h.2.2.2.2.F hu⟩
  rcases hr with hr | ⟨hr, hb⟩
  · exact zW_mono (W.iret (Qc := fun _ st oc u => zQ D ty A ad t.2 (.inl (some (.inl x))) t st oc u) C.1.1 C.1.2.1 (C.1.2.2.2.1.trans hr) hq h.2.2.2.2.2.2 hd C.1.2.2.2.2) fun u hu => zend_of hu
  · exact zW_mono (W.zret (Qc := fun _ st oc u => zQ D ty A ad t.2 (.inl (some (.inl x))) t st oc u) C.1.1 C.1.2.1 (C.1.2.2.2.1.trans hr) (zfit_b hb).1 hq h.2.2.2.2.2.2 hd C.1.2.2.2.2) fun u hu => zend_of hu
theorem zs_vret (C : zCx p l e R s m0 args meth c D ty A m) (hr : zrt m = none) (hd : decode (zbb m) pc = .ok (.return_, 1)) : zOK p l e R s m0 args below meth c D ty A m pc ls [] t (.inl none) t := by
  intro ad H locs cells slots lsA h hc hs
  have hq : ∀ u : State, u.heap = H → s.WarmedH u.vm → zQ D ty A ad t.2 (.inl none) t s (.returned none) u := fun u hu _ => ⟨⟨ad, zExt.refl _ _, rfl, by rw [hu]; exact h.2.2.1, h.2.2.2.1⟩, h.2.2.2.2.F hu⟩
  exact zW_mono (W.vret (Qc := fun _ st oc u => zQ D ty A ad t.2 (.inl none) t st oc u) C.1.1 C.1.2.1 (C.1.2.2.2.1.trans hr) hq h.2.2.2.2.2.2 hd C.1.2.2.2.2) fun u hu => zend_of hu
theorem zs_aret {r : Nat × Nat} {rt : FieldType} (C : zCx p l e R s m0 args meth c D ty A m) (hr : zrt m = some rt) (hrt : (∃ n, rt = .object n) ∨ ∃ y, rt = .array y) (hd : decode (zbb m) pc = .ok (.areturn, 1)) : zOK p l e R s m0 args below meth c D ty A m pc ls [.inr (some r)] t (.inl (some (.inr (some r)))) t := by
  intro ad H locs cells slots lsA h hc hs
  have hq : ∀ u : State, u.heap = H → s.WarmedH u.vm → zQ D ty A ad t.2 (.inl (some (.inr (some r)))) t s (.returned (some (zcv ad (.inr (some r))))) u := fun u hu _ => ⟨⟨ad, zExt.refl _ _, ⟨rfl, zall_h h.2.1⟩, by rw [hu]; exact h.2.2.1, h.2.2.2.1⟩, h.2.2.2.2.F hu⟩
  exact zW_mono (W.aret (Qc := fun _ st oc u => zQ D ty A ad t.2 (.inl (some (.inr (some r)))) t st oc u) C.1.1 C.1.2.1 (C.1.2.2.2.1.trans hr) hrt (Or.inr ⟨_, rfl⟩) hq h.2.2.2.2.2.2 hd C.1.2.2.2.2) fun u hu => zend_of hu
end ZR2
end
section
/-! Contracts out of the small machine's runs; calls; throws. -/
def zws (m : Nat) : List Cond := Cond.code (zyy m) (zbb m) (zlocs m) (zrt m) :: zWS
def zrm (m mc ms : Nat) : Room := { frames := zFr m, locals := zLo m, cells := mc, slots := ms }
def zPc (D : va_G) (ty : Nat → ClassId) (ad : zA) (t : zT) (as : List zV) (sz : Nat) : Array Value → State → Prop := fun a U => a = (as.map (zcv ad)).toArray ∧ U.heap.size = sz ∧ zW D ty ad t U.heap ∧ va_K D zcl (ztys ty) U ∧ zTh U
-- words that speak of a statics cell
theorem zkeepR {C n d : String} {a a' : Array Value} {u U : State} (hvm : U.vm = u.vm) (hh : ∀ (q : Nat) (cell : Cell), u.heap[q]? = some cell → cell.vm.isStatics = true → U.heap[q]? = some cell) (h : (Cond.isRef (.static C n d)).before a u = true) : (Cond.isRef (.static C n d)).before a' U = true := by
  have hf : U.fieldNamed? C n d true = u.fieldNamed? C n d true := by
    unfold State.fieldNamed? State.fieldFound?
    rw [hvm]
  simp only [Cond.before, Cond.holds, Cond.value, Term.eval, hf] at h ⊢
  cases hq : u.fieldNamed? C n d true with
  | none => simp [hq] at h
  | some x =>
    obtain ⟨c0, k, slot⟩ := x
    cases hs : k.statics with
    | none => simp [hq, hs] at h
    | some a0 =>
      cases hc : u.heap[a0]? with
      | none => simp [hq, hs, hc] at h
      | some cell =>
        by_cases hi : cell.vm.isStatics = true
        · have := hh a0 cell hc hi
          simpa [hq, hs, hc, this] using h
        · simp [hq, hs, hc, hi] at h
theorem zkeepL {C n d : String} {a a' : Array Value} {u U : State} (hvm : U.vm = u.vm) (hh : ∀ (q : Nat) (cell : Cell), u.heap[q]? = some cell → cell.vm.isStatics = true → U.heap[q]? = some cell) (h : (Cond.laysStatic C n d).before a u = true) : (Cond.laysStatic C n d).before a' U = true := by
  have hf : U.fieldFound? C n d = u.fieldFound? C n d := by
    unfold State.fieldFound?
    rw [hvm]
  simp only [Cond.before, Cond.holds, Cond.value, hf, hvm] at h ⊢
  cases h1 : u.vm.findClass C with
  | none => simp [h1] at h
  | some c0 =>
    cases h2 : u.fieldFound? C n d with
    | none => simp [h1, h2] at h
    | some x =>
      obtain ⟨c', k, i, f⟩ := x
      cases hs : k.statics with
      | none => simp [h1, h2, hs] at h
      | some a0 =>
        cases hc : u.heap[a0]? with
        | none => simp [h1, h2, hs, hc] at h
        | some cell =>
          by_cases hi : cell.vm.isStatics = true
          · have := hh a0 cell hc hi
            simpa [h1, h2, hs, hc, this] using h
          · simp [h1, h2, hs, hc, hi] at h
theorem zkeepW {w : Cond} (hw : w ∈ zthW) {a a' : Array Value} {u U : State} (hvm : U.vm = u.vm) (hh : ∀ (q : Nat) (cell : Cell), u.heap[q]? = some cell → cell.vm.isStatics = true → U.heap[q]? = some cell) (h : w.before a u = true) : w.before a' U = true := by
  simp only [zthW, List.mem_cons, List.not_mem_nil, or_false] at hw
  rcases hw with rfl | rfl | rfl | rfl
  · exact zkeepL hvm hh h
  · exact zkeepL hvm hh h
  · exact zkeepR hvm hh h
  · exact zkeepR hvm hh h
theorem zthW_keeps {w : Cond} (hw : w ∈ zthW) : w.keeps = true := by
  simp only [zthW, List.mem_cons, List.not_mem_nil, or_false] at hw
  rcases hw with rfl | rfl | rfl | rfl <;> rfl
theorem zthW_at {w : Cond} (hw : w ∈ zthW) {a' : Array Value} {u U : State} (hW : u.WarmedH U.vm) (hh : ∀ (q : Nat) (cell : Cell), u.heap[q]? = some cell → cell.vm.isStatics = true → U.heap[q]? = some cell) (h : zTh u) : w.before a' U = true := by
  have h1 : w.before #[] (u.setVm U.vm) = true := Cond.holds_shifted (State.Shifted.of_warmed hW) w [] (zthW_keeps hw) (h.2 w hw)
  exact zkeepW hw (u := u.setVm U.vm) rfl hh h1
theorem zTh.moved {u U : State} (hW : u.WarmedH U.vm) (hh : ∀ (q : Nat) (cell : Cell), u.heap[q]? = some cell → cell.vm.isStatics = true → U.heap[q]? = some cell) (h : zTh u) : zTh U := ⟨va_Nw.warmM hW h.1, fun w hw => zthW_at hw hW hh h⟩
theorem zTh.same {u U : State} (hvm : U.vm = u.vm) (hh : U.heap = u.heap) (h : zTh u) : zTh U := ⟨va_Nw.same rfl hvm.symm h.1, fun w hw => zkeepW hw hvm (fun q cell hq _ => by rw [hh]; exact hq) (h.2 w hw)⟩
theorem zPc_blind (D : va_G) (ty : Nat → ClassId) (ad : zA) (t : zT) (as : List zV) (sz : Nat) : FrameBlind (zPc D ty ad t as sz) := by
  intro a U g mk h
  exact ⟨h.1, h.2.1, h.2.2.1, h.2.2.2.1.moved (Vm.Alike.refl _), zTh.same (u := U) (U := U.calling g mk a) rfl rfl h.2.2.2.2⟩
theorem zAr_ok {D : va_G} {ty : Nat → ClassId} {ad : zA} {t : zT} {s : State} (h : zW D ty ad t s.heap) : zAok (zAr ad t.2 s.heap.size) s := by
  refine ⟨fun q hq => Or.inr hq, fun q cell hq hs hA => ?_⟩
  rcases hA with ⟨k, i, h1, h2⟩ | hA
  · obtain ⟨cell', h3, h4⟩ := zW_vm h h1
    rw [← h2, hq] at h3
    cases h3
    rw [h4] at hs
    cases hs
  · have := (Array.getElem?_eq_some_iff.mp hq).1
    omega
theorem zent_ls {ad : zA} {md m : Nat} {as : List zV} (ha : as.length ≤ zlocs m) (hv : ∀ v ∈ as, zvok md v = true) : zLs ad md (zent m as) (((as.map (zcv ad)).map Slot.val ++ List.replicate (zlocs m - (as.map (zcv ad)).length) Slot.unset).toArray) (zlocs m) := by
  have hget : ∀ (i : Nat) (x : Slot), (((as.map (zcv ad)).map Slot.val ++ List.replicate (zlocs m - (as.map (zcv ad)).length) Slot.unset).toArray)[i]? = some x → x = .unset ∨ ∃ v, x = .val (zcv ad v) := by
    intro i x hx
    rw [List.getElem?_toArray] at hx
    rcases List.mem_append.mp (List.mem_of_getElem? hx) with h | h
    · obtain ⟨y, hy, rfl⟩ := List.mem_map.mp h
      obtain ⟨v, -, rfl⟩ := List.mem_map.mp hy
      exact Or.inr ⟨v, rfl⟩
    · exact Or.inl (List.eq_of_mem_replicate h)
  refine ⟨?_, ?_, ⟨fun i v hi hc => ?_, fun i hi => ?_⟩, fun i v hi => ?_⟩
  · simp [zent]
    omega
  · simp
    omega
  · exfalso
    rcases hget i _ hi with h | ⟨w, h⟩
    · cases h
    · cases h
      rw [zcv_cat] at hc
      omega
  · exfalso
    rcases hget i _ hi with h | ⟨w, h⟩
    · cases h
    · cases h
  · unfold zent at hi
    by_cases hl : i < as.length
    · rw [List.getElem?_append_left (by simpa using hl), List.getElem?_map] at hi
      cases hq : as[i]? with
      | none => rw [hq] at hi; cases hi
      | some w =>
        rw [hq] at hi
        have e : w = v := by simpa using hi
        subst e
        refine ⟨hv w (List.mem_of_getElem? hq), ?_⟩
        rw [List.getElem?_toArray, List.getElem?_append_left (by simpa using hl), List.getElem?_map, List.getElem?_map, hq]
        rfl
    · rw [List.getElem?_append_right (by simpa using Nat.not_lt.mp hl)] at hi
      have := List.eq_of_mem_replicate (List.mem_of_getElem? hi)
      cases this
-- a callee's soundness, in whatever surroundings
def zCal (l : Launch) (D : va_G) (ty : Nat → ClassId) (m : Nat) (as : List zV) (t : zT) (o : zO) (t1 : zT) : Prop := ∀ (p : Program) (e : Env) (R : Room) (s : State) (m0 : MethodId) (args : Array Value) (below : List Frame) (meth : Method) (c : Code) (A : Nat → Prop), zCx p l e R s m0 args meth c D ty A m → zOK p l e R s m0 args below meth c D ty A m 0 (zent m as) [] t o t1
theorem zbody {l : Launch} {D : va_G} {ty : Nat → ClassId} {m sz mc ms : Nat} {as : List zV} {t t1 : zT} {o : zO} {ad : zA} (htr : ∀ e, l.admits e → e.platform.stackTraces = false) (hm : m < 123) (hc : zCal l D ty m as t o t1) (has : as.length = znar m) (hok : ∀ v ∈ as, zvok t.2 v = true) (hmc : mc = t1.2 - t.2 + zth o) (hms : ms = 16 * (t1.2 - t.2) + 6 * zth o)
    {p : Program} {e : Env} {s : State} {m0 : MethodId} {args : Array Value} {below : List Frame} {meth : Method} {c : Code} {s₁ : State} (B : BodyLoose p l (zyy m) (headSpec (zws m) (zrm m mc ms)) (zbb m) (zlocs m) (zrt m) e s m0 args below meth c s₁) (hml : c.maxLocals = zlocs m) (hP : zPc D ty ad t as sz args s) :
    W p l e (zrm m mc ms) s m0 args below meth c s.heap [] 0 0 (zEnd D ty (zAr ad t.2 sz) s below ad t.2 o t1 mc ms) (entryFrame m0 args (zlocs m)) := by
  obtain ⟨ha, hsz, hw, hK, hT⟩ := hP
  have hws : ∀ w ∈ zws m, w.before args s = true := atoms_spec B.pre
  have hk := zm_ok hm
  have C : zCx p l e (zrm m mc ms) s m0 args meth c D ty (zAr ad t.2 sz) m := by
    refine ⟨⟨B.exec, B.bytes, hml, B.returns, B.notSynchronized⟩, ⟨?_, fun w hw => hws w (List.mem_cons_of_mem _ hw), hK⟩, ⟨?_, Nat.le_refl _, Nat.le_refl _, hT, htr e B.admits⟩, ?_⟩
    · rw [← hk.2.2.1]
      exact findClass_of_methodNamed B.named
    · have := B.noHandlers (hws _ List.mem_cons_self)
      simpa using this
    · rw [← hsz]
      exact zAr_ok hw
  have hlen : as.length ≤ zlocs m := by rw [has]; exact hk.2.2.2.2.2.2.1
  rw [ha, entry_eq m0 (as.map (zcv ad)) (fun v hv => by obtain ⟨w, -, rfl⟩ := List.mem_map.mp hv; exact zcv_cat ad w) (zlocs m), ← ha]
  have key := hc p e (zrm m mc ms) s m0 args below meth c (zAr ad t.2 sz) C ad s.heap [] 0 0 _ ⟨zent_ls hlen hok, (fun v hv => by cases hv), hw, fun k i hki => Or.inl ⟨k, i, hki, rfl⟩, va_S.rf⟩ (by rw [Nat.zero_add, ← hmc]; exact Nat.le_refl _) (by rw [Nat.zero_add, ← hms]; exact Nat.le_refl _)
  rw [Nat.zero_add, Nat.zero_add, ← hmc, ← hms] at key
  exact key
theorem zmetR {l : Launch} {D : va_G} {ty : Nat → ClassId} {m sz mc ms : Nat} {as : List zV} {t t1 : zT} {v : Option zV} {ad : zA} (htr : ∀ e, l.admits e → e.platform.stackTraces = false) (hm : m < 123) (hc : zCal l D ty m as t (.inl v) t1) (has : as.length = znar m) (hok : ∀ v ∈ as, zvok t.2 v = true) (hmc : mc = t1.2 - t.2) (hms : ms = 16 * (t1.2 - t.2)) :
    Met l (zyy m) (zws m) (zrm m mc ms) (zPc D ty ad t as sz) (fun _ st oc u => zQ D ty (zAr ad t.2 sz) ad t.2 (.inl v) t1 st oc u) mc ms (zAr ad t.2 sz) := by
  refine Met.ofW (cc := zbb m) (maxL := zlocs m) (ret := zrt m) (zm_ok hm).2.2.2.1 rfl ?_
  intro p e s m0 args below meth c s₁ B hml hP
  refine zW_mono (zbody (mc := mc) (ms := ms) htr hm hc has hok hmc hms B hml hP) fun u hu => ?_
  obtain ⟨oc, h1, h2, h3, L, h4, h5⟩ := hu
  refine ⟨oc, h1, h2, h3, L, ⟨?_, h4⟩, h5⟩
  obtain ⟨⟨ad', -, hr, -⟩, -⟩ := h3
  cases v with
  | none => exact ⟨_, hr⟩
  | some w => exact ⟨_, hr.1⟩
theorem zmetT {l : Launch} {D : va_G} {ty : Nat → ClassId} {m sz mc ms x : Nat} {as : List zV} {t t1 : zT} {ad : zA} (htr : ∀ e, l.admits e → e.platform.stackTraces = false) (hm : m < 123) (hc : zCal l D ty m as t (.inr x) t1) (has : as.length = znar m) (hok : ∀ v ∈ as, zvok t.2 v = true) (hmc : mc = t1.2 - t.2 + 1) (hms : ms = 16 * (t1.2 - t.2) + 6) :
    MetFree l (zyy m) (headSpec (zws m) (zrm m mc ms)) (zPc D ty ad t as sz) (fun _ _ _ _ _ => True) (zQT (fun st a u => zQ D ty (zAr ad t.2 sz) ad t.2 (.inr x) t1 st (.threw a) u) mc ms (fun _ _ => zAr ad t.2 sz)) := by
  refine MetFree.of_bodyS (code := zbb m) (maxLocals := zlocs m) (ret := zrt m) (zm_ok hm).2.2.2.1 ?_ ?_
  · intro args s m0 h hn
    obtain ⟨meth, c, h1, h2, h3, h4, h5, h6, -, -⟩ := Cond.code_spec hn (atoms_spec (ws := zws m) h _ List.mem_cons_self)
    exact ⟨meth, c, h1, h2, h3, h4, h5, h6⟩
  · intro p e s m0 args below meth c s₁ B hml hP _
    have hh0 : s₁.heap = s.heap := by rw [B.state]; rfl
    obtain ⟨u, a1, oc, b1, b2, b3, L, b4, b5⟩ := zbody (mc := mc) (ms := ms) (o := .inr x) htr hm hc has hok hmc hms B hml hP s₁ hh0 (Stand.of_body B)
    have b3' := b3
    obtain ⟨⟨ad', -, ⟨a, ce, hr, -⟩, -⟩, -⟩ := b3'
    rw [hr] at b2 b3
    exact ⟨u, .threw a, a1, b1, b2, ⟨a, rfl, b3⟩, L, b4, b5⟩
section ZC
variable {p : Program} {l : Launch} {e : Env} {R : Room} {s : State} {m0 : MethodId} {args : Array Value} {below : List Frame} {meth : Method} {c : Code} {D : va_G} {ty : Nat → ClassId} {A : Nat → Prop} {m pc : Nat} {ls : List (Option zV)} {st : List zV} {t t' t1 : zT} {o : zO}
theorem zA_sub {ad : zA} {H : Heap} {locs : List Loc} {lsA : Array Slot} (C : zCx p l e R s m0 args meth c D ty A m) (h : zRp D ty A s ad m ls st t H locs lsA) {q : Nat} (hq : zAr ad t.2 H.size q) : A q := by
  rcases hq with ⟨k, i, h1, h2⟩ | hq
  · rw [h2]
    exact h.2.2.2.1 k i h1
  · exact C.2.2.2.1 q (Nat.le_trans h.2.2.2.2.1 hq)
theorem zTh_at {H : Heap} {locs : List Loc} (C : zCx p l e R s m0 args meth c D ty A m) (hS : va_S A s.heap H locs) {U : State} (hU : U.heap = H) (hW : s.WarmedH U.vm) : zTh U :=
  C.2.2.1.2.2.2.1.moved hW fun q cell hq hst => by
    rw [hU, hS.2.1 q (Array.getElem?_eq_some_iff.mp hq).1 (C.2.2.2.2 q cell hq hst)]
    exact hq
theorem zPc_at {ad : zA} {H : Heap} {locs : List Loc} {lsA : Array Slot} {as : List zV} (C : zCx p l e R s m0 args meth c D ty A m) (h : zRp D ty A s ad m ls st t H locs lsA) {U : State} (hU : U.heap = H) (hW : s.WarmedH U.vm) : zPc D ty ad t as H.size (as.map (zcv ad)).toArray U :=
  ⟨rfl, by rw [hU], by rw [hU]; exact h.2.2.1, C.2.1.2.2.moved hW.alike, zTh_at C h.2.2.2.2 hU hW⟩
-- behind a callee's return
theorem zafter {ad : zA} {H : Heap} {locs : List Loc} {cells slots mc ms : Nat} {lsA : Array Slot} {v : Option zV} {rest : List zV} {a : Array Value} (C : zCx p l e R s m0 args meth c D ty A m) (h : zRp D ty A s ad m ls st t H locs lsA) (hrest : ∀ w ∈ rest, zvok t.2 w = true) (hm1 : t.2 ≤ t1.2) (hm2 : t1.2 ≤ t'.2) (hmc : mc = t1.2 - t.2) (hms : ms = 16 * (t1.2 - t.2))
    (hc : cells + (t'.2 - t.2) + zth o ≤ R.cells) (hs : slots + 16 * (t'.2 - t.2) + 6 * zth o ≤ R.slots)
    (hr : va_Run p l e R s m0 args below meth c H locs cells slots mc ms (F0 m0 pc lsA (st.map (zcv ad))) (rest.map (zcv ad)) ((fun _ st oc u => zQ D ty (zAr ad t.2 H.size) ad t.2 (.inl v) t1 st oc u) a) (zAr ad t.2 H.size))
    (kk : zOK p l e R s m0 args below meth c D ty A m (pc + 3) ls (zpush v rest) t1 o t') :
    W p l e R s m0 args below meth c H locs cells slots (zEnd D ty A s below ad t.2 o t' (cells + (t'.2 - t.2) + zth o) (slots + 16 * (t'.2 - t.2) + 6 * zth o)) (F0 m0 pc lsA (st.map (zcv ad))) := by
  intro T hT X
  obtain ⟨w, st₀, u, T', L, h0, X', hL, e1, e2, ⟨⟨ad', hx, hres, hw', hA'⟩, hF⟩, go⟩ := hr T hT X
  have hsub : ∀ q, zAr ad t.2 H.size q → A q := fun q hq => zA_sub C h hq
  have hS' : va_S A s.heap T'.heap (locs ++ L) := by
    have hS := h.2.2.2.2
    refine ⟨Nat.le_trans hS.1 (by rw [e1, ← h0]; exact hF.1), fun q h1 h2 => ?_, fun q hq => ?_⟩
    · have hq : q < H.size := Nat.lt_of_lt_of_le h1 hS.1
      rw [e1, hF.2 q (by rw [h0]; exact hq) (fun z => h2 (hsub q z)), h0]
      exact hS.2.1 q h1 h2
    · rcases List.mem_append.mp hq with hq | hq
      · exact hS.2.2 q hq
      · exact hsub _ (hL q hq)
  have hrest' : ∀ w ∈ rest, zvok t1.2 w = true := fun w hw => zvok_mono hm1 (hrest w hw)
  have hpush : (∀ w ∈ zpush v rest, zvok t1.2 w = true) ∧ w.toList ++ rest.map (zcv ad) = (zpush v rest).map (zcv ad') := by
    have e3 := zmap_ext hx hrest
    cases v with
    | none =>
      have hres : Outcome.returned w = .returned none := hres
      cases hres
      exact ⟨hrest', e3.symm⟩
    | some v0 =>
      obtain ⟨hr1, hr2⟩ := hres
      cases hr1
      refine ⟨zall_c hr2 hrest', ?_⟩
      simp only [Option.toList_some, List.cons_append, List.nil_append, zpush, List.map_cons, e3]
  have k2 := kk ad' T'.heap (locs ++ L) (cells + mc) (slots + ms) lsA ⟨zLs_ext h.1 hx hm1, hpush.1, by rw [e1]; exact hw', fun k i hki => hsub _ (hA' k i hki), hS'⟩ (by omega) (by omega) T' rfl X'
  obtain ⟨u2, g1, oc, g2, g3, ⟨⟨ad2, g4, g5, g6, g7⟩, g8⟩, L2, g9, g10⟩ := k2
  rw [← hpush.2] at g1
  refine ⟨u2, go u2 g1, oc, g2, g3, ⟨⟨ad2, hx.trans hm1 g4, g5, g6, g7⟩, g8⟩, L2, ?_, g10⟩
  rw [show cells + (t'.2 - t.2) + zth o = cells + mc + (t'.2 - t1.2) + zth o by omega, show slots + 16 * (t'.2 - t.2) + 6 * zth o = slots + ms + 16 * (t'.2 - t1.2) + 6 * zth o by omega]
  exact g9
theorem zCB {mc ms n m' : Nat} (C : zCx p l e R s m0 args meth c D ty A m) (ho : zown m < 8) (hm' : m' < 123) (hl : Cond.methodLink (zRn (zown m)) n (zyy m') ∈ zWS) (hf : zFr m' + 1 ≤ zFr m) (hw : 8 + (zlocs m' + 11) + zLo m' ≤ zLo m) {k : Nat} (hk : zpar (zyy m') = some k) : CallB R s args (zRn (zown m)) n (zyy m') (zbb m') (zlocs m') (zrt m') (zws m') (zrm m' mc ms) mc ms k := by
  have h := zm_ok hm'
  have hall : ∀ w ∈ zws m', ∀ (a' : Array Value) (U : State), s.WarmedH U.vm → w.before a' U = true := by
    intro w hw a' U hW
    rcases List.mem_cons.mp hw with rfl | hw
    · exact zword hW (zWS_good h.1) (C.2.1.2.1 _ h.1)
    · exact zword hW (zWS_good hw) (C.2.1.2.1 _ hw)
  have hfr := C.2.2.1.2.1
  have hlo := C.2.2.1.2.2.1
  refine ⟨rfl, rfl, Nat.le_trans hf hfr, Nat.le_trans hw hlo, hall, List.mem_cons_self, C.2.1.2.1 _ h.1, C.2.1.2.1 _ h.2.1, h.2.2.2.2.1, fun sig hs => ?_, C.2.1.2.1 _ hl⟩
  unfold zpar at hk
  rw [hs] at hk
  exact (Option.some.inj hk).symm
theorem zsplit {as rest : List zV} {n : Nat} {ad : zA} (hn : n ≤ st.length) (ha : as = (st.take n).reverse) (hr : rest = st.drop n) : st.map (zcv ad) = (as.map (zcv ad)).reverse ++ rest.map (zcv ad) := by
  rw [ha, hr, List.map_reverse, List.reverse_reverse, ← List.map_append, List.take_append_drop]
theorem zs_callS {as rest : List zV} {n k m' : Nat} {v : Option zV} (htr : ∀ e, l.admits e → e.platform.stackTraces = false) (C : zCx p l e R s m0 args meth c D ty A m) (ho : zown m < 8) (hz : zcal (zown m) n = some (m', k)) (h9 : m' ≠ 999) (hst : zstat m' = true) (hn : k ≤ st.length) (hn8 : st.length ≤ k + 8) (ha : as = (st.take k).reverse) (hr : rest = st.drop k)
    (hf : zFr m' + 1 ≤ zFr m) (hw : 8 + (zlocs m' + 11) + zLo m' ≤ zLo m) (hd : decode (zbb m) pc = .ok (.invokestatic n, 3)) (hm1 : t.2 ≤ t1.2) (hm2 : t1.2 ≤ t'.2) (hcal : zCal l D ty m' as t (.inl v) t1) (kk : zOK p l e R s m0 args below meth c D ty A m (pc + 3) ls (zpush v rest) t1 o t') : zOK p l e R s m0 args below meth c D ty A m pc ls st t o t' := by
  intro ad H locs cells slots lsA h hc hs
  obtain ⟨hm', hl, hna⟩ := zcal_ok ho hz h9
  have hk := zm_ok hm'
  obtain ⟨k0, hk0⟩ := hk.2.2.2.2.2.1
  have hok : ∀ v ∈ as, zvok t.2 v = true := fun w hw => h.2.1 w (by rw [ha] at hw; exact List.mem_of_mem_take (List.mem_reverse.mp hw))
  have hrok : ∀ v ∈ rest, zvok t.2 v = true := fun w hw => h.2.1 w (by rw [hr] at hw; exact List.mem_of_mem_drop hw)
  have hlen : as.length = k := by rw [ha, List.length_reverse, List.length_take]; omega
  have hk1 : k0 = k := by
    unfold znar at hna
    rw [hst, hk0] at hna
    simpa using hna
  refine zafter (mc := t1.2 - t.2) (ms := 16 * (t1.2 - t.2)) (rest := rest) (v := v) (a := (as.map (zcv ad)).toArray) C h hrok hm1 hm2 rfl rfl hc hs ?_ kk
  exact va_runS (cc := zbb m) (nL := zlocs m) (Ts := zWS) (own := zRn (zown m)) (As := as.map (zcv ad)) ⟨C.1.1, C.1.2.1, C.1.2.2.1, C.2.1.1, C.2.1.2.1⟩ (zmetR (sz := H.size) (ad := ad) htr hm' hcal (by rw [hlen, hna]) hok rfl rfl) ⟨zCB C ho hm' hl hf hw hk0, C.2.1.2.1 _ (hk.2.2.2.2.2.2.2.2.1 hst)⟩ ⟨zPc_blind _ _ _ _ _ _, fun U hU hW => zPc_at C h hU hW⟩ rfl (by rw [List.length_map, hlen, hk1]) h.1.2.1 (zsplit hn ha hr)
    (by show 2 * 0 + _ ≤ 8; rw [zsum, hr, List.length_drop]; omega) hd ⟨by omega, by omega⟩
theorem zs_callV {as rest : List zV} {n k m' : Nat} {v : Option zV} (htr : ∀ e, l.admits e → e.platform.stackTraces = false) (C : zCx p l e R s m0 args meth c D ty A m) (ho : zown m < 8) (hz : zcal (zown m) n = some (m', k)) (h9 : m' ≠ 999) (hst : zstat m' = false) (hrv : zrecv m' as = true) (hn : k ≤ st.length) (hn8 : st.length ≤ k + 8) (ha : as = (st.take k).reverse) (hr : rest = st.drop k)
    (hf : zFr m' + 1 ≤ zFr m) (hw : 8 + (zlocs m' + 11) + zLo m' ≤ zLo m) (hd : decode (zbb m) pc = .ok (.invokevirtual n, 3)) (hm1 : t.2 ≤ t1.2) (hm2 : t1.2 ≤ t'.2) (hcal : zCal l D ty m' as t (.inl v) t1) (kk : zOK p l e R s m0 args below meth c D ty A m (pc + 3) ls (zpush v rest) t1 o t') : zOK p l e R s m0 args below meth c D ty A m pc ls st t o t' := by
  intro ad H locs cells slots lsA h hc hs
  obtain ⟨hm', hl, hna⟩ := zcal_ok ho hz h9
  have hk := zm_ok hm'
  obtain ⟨k0, hk0⟩ := hk.2.2.2.2.2.1
  have hok : ∀ v ∈ as, zvok t.2 v = true := fun w hw => h.2.1 w (by rw [ha] at hw; exact List.mem_of_mem_take (List.mem_reverse.mp hw))
  have hrok : ∀ v ∈ rest, zvok t.2 v = true := fun w hw => h.2.1 w (by rw [hr] at hw; exact List.mem_of_mem_drop hw)
  have hlen : as.length = k := by rw [ha, List.length_reverse, List.length_take]; omega
  have hk1 : k0 + 1 = k := by
    unfold znar at hna
    rw [hst, hk0] at hna
    simpa using hna
  have hsp : st.map (zcv ad) = (as.map (zcv ad)).reverse ++ rest.map (zcv ad) := zsplit hn ha hr
  refine zafter (mc := t1.2 - t.2) (ms := 16 * (t1.2 - t.2)) (rest := rest) (v := v) (a := (as.map (zcv ad)).toArray) C h hrok hm1 hm2 rfl rfl hc hs ?_ kk
  match as, hrv, hok, hlen, hsp, hcal with
  | .inr (some (kk0, i)) :: as', hrv, hok, hlen, hsp, hcal =>
    obtain ⟨fs, hkind⟩ := zcls_ok hrv
    obtain ⟨L, hL⟩ := h.2.2.1
    have hv : zok t.2 kk0 i = true := zall_h hok
    obtain ⟨q0, hq⟩ := hL.pos hv
    obtain ⟨-, r, hr1, -⟩ := zkind_o hkind
    have hrec := va_recv (a := ad kk0 i) C.2.1.2.2 hL.2.2.1 hr1 (q0 := q0) (fs := zenF ad t.1 kk0 i fs) (by rw [zl_get hq, zenc_o hkind])
    have hrn : r.1 = (zyy m').cls := by
      rw [hk.2.2.1]
      unfold zRn
      rw [List.getD_eq_getElem?_getD, hr1]
      rfl
    rw [hrn] at hrec
    exact va_runV (cc := zbb m) (nL := zlocs m) (Ts := zWS) (own := zRn (zown m)) (C := (zyy m').cls) (b := ad kk0 i) (As := as'.map (zcv ad)) ⟨C.1.1, C.1.2.1, C.1.2.2.1, C.2.1.1, C.2.1.2.1⟩ (zmetR (sz := H.size) (ad := ad) htr hm' hcal (by rw [hlen, hna]) hok rfl rfl)
      ⟨zCB C ho hm' hl hf hw hk0, C.2.1.2.1 _ (hk.2.2.2.2.2.2.2.2.2 hst).1, C.2.1.2.1 _ (hk.2.2.2.2.2.2.2.2.2 hst).2⟩ ⟨zPc_blind _ _ _ _ _ _, hrec, fun U hU hW => zPc_at (as := .inr (some (kk0, i)) :: as') C h hU hW⟩ rfl (by rw [List.length_map]; simp only [List.length_cons] at hlen; omega) h.1.2.1 (by show st.map (zcv ad) = _; rw [hsp]; simp [zcv])
      (by show 2 * 0 + _ ≤ 8; rw [zsum, hr, List.length_drop]; omega) hd ⟨by omega, by omega⟩
end ZC
end
section
/-! Throws, and calls that throw. -/
section ZT
variable {p : Program} {l : Launch} {e : Env} {R : Room} {s : State} {m0 : MethodId} {args : Array Value} {below : List Frame} {meth : Method} {c : Code} {D : va_G} {ty : Nat → ClassId} {A : Nat → Prop} {m pc : Nat} {ls : List (Option zV)} {st : List zV} {t t' t1 : zT} {o : zO}
theorem zs_thr {n ic x : Nat} (C : zCx p l e R s m0 args meth c D ty A m) (hx : zxchk (zown m) n ic x = true) (hd0 : decode (zbb m) pc = .ok (.new n, 3)) (hd3 : decode (zbb m) (pc + 3) = .ok (.dup, 1)) (hd4 : decode (zbb m) (pc + 4) = .ok (.invokespecial ic, 3)) (hd7 : decode (zbb m) (pc + 7) = .ok (.athrow, 1))
    (hf : 6 ≤ zFr m) (hl : 85 ≤ zLo m) (hst : st.length ≤ 4) : zOK p l e R s m0 args below meth c D ty A m pc ls st t (.inr x) t := by
  intro ad H locs cells slots lsA h hc hs T hT X
  have hW : s.WarmedH (zbeg T m0 args below).vm := X.warmed
  unfold zxchk at hx
  simp only [Bool.and_eq_true] at hx
  obtain ⟨⟨⟨x1, x2⟩, x3⟩, x4⟩ := hx
  have hkeep : ∀ (q : Nat) (cell : Cell), s.heap[q]? = some cell → cell.vm.isStatics = true → (zbeg T m0 args below).heap[q]? = some cell := fun q cell hq hst => by
    show T.heap[q]? = _
    rw [hT, h.2.2.2.2.2.1 q (Array.getElem?_eq_some_iff.mp hq).1 (C.2.2.2.2 q cell hq hst)]
    exact hq
  have hat : ∀ w ∈ zWS, w.before args (zbeg T m0 args below) = true := fun w hw => zword hW (zWS_good hw) (C.2.1.2.1 w hw)
  have hw : ∀ a ∈ Bundle.ownAtoms0 (zRn (zown m)) ic (zxn x) zxs, a.before args (zbeg T m0 args below) = true := by
    intro a ha
    have h1 := List.all_eq_true.mp x4 a ha
    rw [Bool.or_eq_true, decide_eq_true_eq] at h1
    rcases h1 with h1 | h1
    · exact zthW_at h1 hW hkeep C.2.2.1.2.2.2.1
    · exact hat a (zhas_mem h1)
  have hfr := C.2.2.1.2.1
  have hlo := C.2.2.1.2.2.1
  have e1 : cells + (t.2 - t.2) + zth (.inr x) = cells + 1 := by simp [zth]
  have e2 : slots + 16 * (t.2 - t.2) + 6 * zth (.inr x) = slots + 6 := by simp [zth]
  rw [e1] at hc
  rw [e2] at hs
  obtain ⟨U, a, ce, g1, g2, g3, g4, g5, g6, g7, g8, g9, g10⟩ := zthrow X C.1.1 C.2.2.1.2.2.2.2 (own := zRn (zown m)) (cls := zxn x) (names := zxs) C.1.2.1 C.2.1.1 x3 (by decide +kernel) hw (hat _ (zhas_mem x1)) (hat _ (zhas_mem x2)) (pc := pc) (ls := lsA) (st := st.map (zcv ad)) (by rw [h.1.2.1, C.1.2.2.1]) hd0 hd3 hd4 hd7 C.2.2.1.1
    (by show 2 + 3 < R.frames; omega) (by rw [zsum]; show 1 + st.length + (13 * (2 + 1) + 41) ≤ R.locals; omega) hc hs C.1.2.2.2.2
  refine ⟨U, g1, .threw a, g2, g3, ⟨⟨ad, zExt.refl _ _, ⟨a, ce, rfl, g8, g9, g10⟩, zW_heap h.2.2.1 (fun q hq => by rw [g6 q (by rw [hT]; exact hq), hT]), h.2.2.2.1⟩, ?_, fun q h1 h2 => ?_⟩, locs, ?_, h.2.2.2.2.2.2⟩
  · have h3 := h.2.2.2.2.1
    have h4 := (Array.getElem?_eq_some_iff.mp g8).1
    rw [hT] at g7
    omega
  · rw [g6 q (by rw [hT]; exact Nat.lt_of_lt_of_le h1 h.2.2.2.2.1), hT]
    exact h.2.2.2.2.2.1 q h1 h2
  · rw [e1, e2]
    exact ⟨g4, g5⟩
-- behind a callee's throw
theorem zpassed {ad : zA} {H : Heap} {locs L : List Loc} {cells slots mc ms x a : Nat} {lsA : Array Slot} {st₀ u U : State} (C : zCx p l e R s m0 args meth c D ty A m) (h : zRp D ty A s ad m ls st t H locs lsA) (hmc : mc = t1.2 - t.2 + 1) (hms : ms = 16 * (t1.2 - t.2) + 6)
    (h0 : st₀.heap = H) (h1 : s.vm.Alike st₀.vm) (hrun : U.status = .running) (hend : Ended U below (.threw a)) (hW : s.WarmedH U.vm) (hsame : s.sameButNew ({ U with vm := s.vm } : State) (locs ++ L) (cells + mc) (slots + ms))
    (hq : zQ D ty (zAr ad t.2 H.size) ad t.2 (.inr x) t1 st₀ (.threw a) u) (hL : ∀ q ∈ L, zAr ad t.2 H.size q.base) (hU : U.heap = u.heap) : zEnd D ty A s below ad t.2 (.inr x) t1 (cells + (t1.2 - t.2) + zth (.inr x)) (slots + 16 * (t1.2 - t.2) + 6 * zth (.inr x)) U := by
  obtain ⟨⟨ad', hx, ⟨a', ce, q1, q2, q3, q4⟩, hw', hA'⟩, hF⟩ := hq
  cases q1
  have hsub : ∀ q, zAr ad t.2 H.size q → A q := fun q hq => zA_sub C h hq
  have hS := h.2.2.2.2
  refine ⟨.threw a, hrun, hend, ⟨⟨ad', hx, ⟨a, ce, rfl, by rw [hU]; exact q2, by rw [← h1.findClass]; exact q3, q4⟩, by rw [hU]; exact hw', fun k i hki => hsub _ (hA' k i hki)⟩, ?_, fun q h2 h3 => ?_⟩, locs ++ L, ?_, fun q hq => ?_⟩
  · rw [hU]
    exact Nat.le_trans hS.1 (by rw [← h0]; exact hF.1)
  · have hq : q < H.size := Nat.lt_of_lt_of_le h2 hS.1
    rw [hU, hF.2 q (by rw [h0]; exact hq) (fun z => h3 (hsub q z)), h0]
    exact hS.2.1 q h2 h3
  · rw [show cells + (t1.2 - t.2) + zth (.inr x) = cells + mc by rw [hmc]; simp only [zth]; omega, show slots + 16 * (t1.2 - t.2) + 6 * zth (.inr x) = slots + ms by rw [hms]; simp only [zth]; omega]
    exact ⟨hW, hsame⟩
  · rcases List.mem_append.mp hq with hq | hq
    · exact hS.2.2 q hq
    · exact hsub _ (hL q hq)
theorem zs_thrS {as rest : List zV} {n k m' x : Nat} (htr : ∀ e, l.admits e → e.platform.stackTraces = false) (C : zCx p l e R s m0 args meth c D ty A m) (ho : zown m < 8) (hz : zcal (zown m) n = some (m', k)) (h9 : m' ≠ 999) (hst : zstat m' = true) (hn : k ≤ st.length) (hn8 : st.length ≤ k + 8) (ha : as = (st.take k).reverse) (hr : rest = st.drop k)
    (hf : zFr m' + 1 ≤ zFr m) (hw : 8 + (zlocs m' + 11) + zLo m' ≤ zLo m) (hd : decode (zbb m) pc = .ok (.invokestatic n, 3)) (hcal : zCal l D ty m' as t (.inr x) t1) : zOK p l e R s m0 args below meth c D ty A m pc ls st t (.inr x) t1 := by
  intro ad H locs cells slots lsA h hc hs T hT X
  obtain ⟨hm', hl, hna⟩ := zcal_ok ho hz h9
  have hk := zm_ok hm'
  obtain ⟨k0, hk0⟩ := hk.2.2.2.2.2.1
  have hok : ∀ v ∈ as, zvok t.2 v = true := fun w hw => h.2.1 w (by rw [ha] at hw; exact List.mem_of_mem_take (List.mem_reverse.mp hw))
  have hlen : as.length = k := by rw [ha, List.length_reverse, List.length_take]; omega
  have hk1 : k0 = k := by
    unfold znar at hna
    rw [hst, hk0] at hna
    simpa using hna
  have e1 : cells + (t1.2 - t.2) + zth (.inr x) = cells + (t1.2 - t.2 + 1) := by simp only [zth]; omega
  have e2 : slots + 16 * (t1.2 - t.2) + 6 * zth (.inr x) = slots + (16 * (t1.2 - t.2) + 6) := by simp only [zth]; omega
  have hcb := zCB (mc := t1.2 - t.2 + 1) (ms := 16 * (t1.2 - t.2) + 6) C ho hm' hl hf hw hk0
  obtain ⟨-, -, hRf, hRl, hws, -, hcode, hini, hy, hpar, hlink⟩ := hcb
  have hsp := zsplit (ad := ad) hn ha hr
  obtain ⟨mk, hnamed⟩ := Cond.code_named hcode
  obtain ⟨methM, cM, hmethM, -, -, -, -, -, -, hsigM⟩ := Cond.code_spec hnamed hcode
  have hstatic : methM.isStatic = true := Cond.static_spec hnamed hmethM (C.2.1.2.1 _ (hk.2.2.2.2.2.2.2.2.1 hst))
  obtain ⟨kP, hkP, -⟩ := className_of_methodNamed hnamed
  have hinitP : kP.init = .initialized := Cond.initialized_spec (findClass_of_methodNamed hnamed) hkP hini
  obtain ⟨vm₁, X₁, hstep₁⟩ := X.invokestatic C.1.1 C.2.1.1 hlink hnamed hmethM hstatic hkP hinitP hy (g := F0 m0 pc lsA (st.map (zcv ad))) rfl (argsL := as.map (zcv ad)) (rest := rest.map (zcv ad)) (by rw [List.length_map, hlen, ← hk1]; exact hpar _ hsigM) hsp (by rw [C.1.2.1]; exact hd)
  have hcw := hws _ List.mem_cons_self (as.map (zcv ad)).toArray (T.setVm vm₁) X₁.warmed
  obtain ⟨a, u, U, L, g1, g2, g3, g4, g5, g6, g7, g8, g9⟩ := zpass (g := { F0 m0 pc lsA (st.map (zcv ad)) with stack := rest.map (zcv ad) }) (W0 := 8) (bytes := zbb m') (maxL := zlocs m') (ret := zrt m') X₁ (zmetT (sz := H.size) (ad := ad) htr hm' hcal (by rw [hlen, hna]) hok rfl rfl) hRf hRl (fun w hw => hws w hw _ _ X₁.warmed) hcw (hws _ (List.mem_cons_of_mem _ hk.2.1) _ _ X₁.warmed) (by rw [e1] at hc; exact hc) (by rw [e2] at hs; exact hs)
    (zPc_blind _ _ _ _ _ _ _ _ _ _ (zPc_at (as := as) C h (U := T.setVm vm₁) hT X₁.warmed)) rfl (by show lsA.size = _; rw [h.1.2.1, C.1.2.2.1]) (by rw [C.1.2.1]; exact hd) (by show 2 * 0 + _ ≤ 8; rw [zsum, hr, List.length_drop]; omega) (X₁.named hnamed) rfl rfl C.2.2.1.1 C.1.2.2.2.2
  exact ⟨U, hstep₁ U (fun acts => by rw [doInvoke_state]; exact g1), zpassed (st₀ := (T.setVm vm₁).calling { F0 m0 pc lsA (st.map (zcv ad)) with stack := rest.map (zcv ad) } mk (as.map (zcv ad)).toArray) C h rfl rfl hT X₁.warmed.alike g2 g3 g4 g5 g6 g7 g8⟩
theorem zs_thrV {as rest : List zV} {n k m' x : Nat} (htr : ∀ e, l.admits e → e.platform.stackTraces = false) (C : zCx p l e R s m0 args meth c D ty A m) (ho : zown m < 8) (hz : zcal (zown m) n = some (m', k)) (h9 : m' ≠ 999) (hst : zstat m' = false) (hrv : zrecv m' as = true) (hn : k ≤ st.length) (hn8 : st.length ≤ k + 8) (ha : as = (st.take k).reverse) (hr : rest = st.drop k)
    (hf : zFr m' + 1 ≤ zFr m) (hw : 8 + (zlocs m' + 11) + zLo m' ≤ zLo m) (hd : decode (zbb m) pc = .ok (.invokevirtual n, 3)) (hcal : zCal l D ty m' as t (.inr x) t1) : zOK p l e R s m0 args below meth c D ty A m pc ls st t (.inr x) t1 := by
  intro ad H locs cells slots lsA h hc hs T hT X
  obtain ⟨hm', hl, hna⟩ := zcal_ok ho hz h9
  have hk := zm_ok hm'
  obtain ⟨k0, hk0⟩ := hk.2.2.2.2.2.1
  have hok : ∀ v ∈ as, zvok t.2 v = true := fun w hw => h.2.1 w (by rw [ha] at hw; exact List.mem_of_mem_take (List.mem_reverse.mp hw))
  have hlen : as.length = k := by rw [ha, List.length_reverse, List.length_take]; omega
  have hk1 : k0 + 1 = k := by
    unfold znar at hna
    rw [hst, hk0] at hna
    simpa using hna
  have e1 : cells + (t1.2 - t.2) + zth (.inr x) = cells + (t1.2 - t.2 + 1) := by simp only [zth]; omega
  have e2 : slots + 16 * (t1.2 - t.2) + 6 * zth (.inr x) = slots + (16 * (t1.2 - t.2) + 6) := by simp only [zth]; omega
  have hcb := zCB (mc := t1.2 - t.2 + 1) (ms := 16 * (t1.2 - t.2) + 6) C ho hm' hl hf hw hk0
  obtain ⟨-, -, hRf, hRl, hws, -, hcode, hini, hy, hpar, hlink⟩ := hcb
  have hsp := zsplit (ad := ad) hn ha hr
  match as, hrv, hok, hlen, hsp, hcal with
  | .inr (some (kk0, i)) :: as', hrv, hok, hlen, hsp, hcal =>
    obtain ⟨fs, hkind⟩ := zcls_ok hrv
    obtain ⟨L0, hL0⟩ := h.2.2.1
    have hv : zok t.2 kk0 i = true := zall_h hok
    obtain ⟨q0, hq⟩ := hL0.pos hv
    obtain ⟨-, r, hr1, -⟩ := zkind_o hkind
    have hrec := va_recv (a := ad kk0 i) C.2.1.2.2 hL0.2.2.1 hr1 (q0 := q0) (fs := zenF ad t.1 kk0 i fs) (by rw [zl_get hq, zenc_o hkind])
    have hrn : r.1 = (zyy m').cls := by
      rw [hk.2.2.1]
      unfold zRn
      rw [List.getD_eq_getElem?_getD, hr1]
      rfl
    rw [hrn] at hrec
    obtain ⟨cellB, hcell, hobj, hcls⟩ := hrec
    obtain ⟨mk, methM, hnamed, hmethM, hstM, habM⟩ := Cond.instanceMethod_spec (C.2.1.2.1 _ (hk.2.2.2.2.2.2.2.2.2 hst).1)
    obtain ⟨methM', cM, hmethM', -, -, -, -, -, -, hsigM⟩ := Cond.code_spec hnamed hcode
    cases hmethM.symm.trans hmethM'
    obtain ⟨c2, r2, m2, q1, q2, q3, q4, kP, hkP, hkPi⟩ := Cond.selects_spec (C.2.1.2.1 _ (hk.2.2.2.2.2.2.2.2.2 hst).2)
    cases hcls.symm.trans q1
    cases (State.methodFound?_of_named hnamed hy).symm.trans q2
    cases hnamed.symm.trans q3
    have hselP : selectMethod e.platform s.vm cellB.cls mk = .method mk := by rw [Launch.admits_selectMethod X.admits]; exact q4
    have hsp' : (F0 m0 pc lsA (st.map (zcv ad))).stack = (as'.map (zcv ad)).reverse ++ .ref (ad kk0 i) :: rest.map (zcv ad) := by
      show st.map (zcv ad) = _
      rw [hsp]
      simp [zcv]
    obtain ⟨vm₁, X₁, hstep₁⟩ := X.invokevirtual C.1.1 C.2.1.1 hlink hnamed hmethM hstM hkP hkPi hy (a := ad kk0 i) (cell := cellB) (by rw [hT]; exact hcell) (fun z h => by rw [h] at hobj; cases hobj) hselP hmethM habM hkP hkPi (g := F0 m0 pc lsA (st.map (zcv ad))) rfl (argsL := as'.map (zcv ad)) (rest := rest.map (zcv ad)) (by rw [List.length_map, ← hpar _ hsigM]; simp only [List.length_cons] at hlen; omega) hsp' (by rw [C.1.2.1]; exact hd)
    have hcw := hws _ List.mem_cons_self ((Sum.inr (some (kk0, i)) :: as' : List zV).map (zcv ad)).toArray (T.setVm vm₁) X₁.warmed
    obtain ⟨a, u, U, L, g1, g2, g3, g4, g5, g6, g7, g8, g9⟩ := zpass (g := { F0 m0 pc lsA (st.map (zcv ad)) with stack := rest.map (zcv ad) }) (W0 := 8) (bytes := zbb m') (maxL := zlocs m') (ret := zrt m') X₁ (zmetT (sz := H.size) (ad := ad) htr hm' hcal (by rw [hlen, hna]) hok rfl rfl) hRf hRl (fun w hw => hws w hw _ _ X₁.warmed) hcw (hws _ (List.mem_cons_of_mem _ hk.2.1) _ _ X₁.warmed) (by rw [e1] at hc; exact hc) (by rw [e2] at hs; exact hs)
      (zPc_blind _ _ _ _ _ _ _ _ _ _ (zPc_at (as := Sum.inr (some (kk0, i)) :: as') C h (U := T.setVm vm₁) hT X₁.warmed)) rfl (by show lsA.size = _; rw [h.1.2.1, C.1.2.2.1]) (by rw [C.1.2.1]; exact hd) (by show 2 * 0 + _ ≤ 8; rw [zsum, hr, List.length_drop]; omega) (X₁.named hnamed) rfl rfl C.2.2.1.1 C.1.2.2.2.2
    exact ⟨U, hstep₁ U (fun acts => by rw [doInvoke_state]; exact g1), zpassed (st₀ := (T.setVm vm₁).calling { F0 m0 pc lsA (st.map (zcv ad)) with stack := rest.map (zcv ad) } mk ((Sum.inr (some (kk0, i)) :: as' : List zV).map (zcv ad)).toArray) C h rfl rfl hT X₁.warmed.alike g2 g3 g4 g5 g6 g7 g8⟩
end ZT
end
section
/-! The log's new row: new, dup, its constructor, aastore. -/
def zadd (ad : zA) (md q : Nat) : zA := fun k i => if k = 3 ∧ i = md + 1 then q else ad k i
theorem zadd_ext (ad : zA) (md q : Nat) : zExt ad (zadd ad md q) md := by
  intro k i hk
  unfold zadd
  rw [if_neg]
  intro h
  rw [h.1, h.2] at hk
  unfold zok at hk
  rw [if_pos rfl] at hk
  simp only [decide_eq_true_eq] at hk
  omega
theorem zadd_new (ad : zA) (md q : Nat) : zadd ad md q 3 (md + 1) = q := by simp [zadd]
theorem zok_new {md k i : Nat} (h : zok (md + 1) k i = true) : zok md k i = true ∨ (k = 3 ∧ i = md + 1) := by
  unfold zok at h ⊢
  by_cases h3 : k = 3
  · rw [if_pos h3] at h ⊢
    simp only [decide_eq_true_eq] at h ⊢
    omega
  · rw [if_neg h3] at h ⊢
    exact Or.inl h
theorem zok_ne3 {md md' k i : Nat} (h3 : k ≠ 3) : zok md k i = zok md' k i := by
  unfold zok
  rw [if_neg h3, if_neg h3]
theorem zrefs_ne3 {ad : zA} {md q k : Nat} (h3 : k ≠ 3) : zrefs (zadd ad md q) (md + 1) k = zrefs ad md k := by
  funext j
  unfold zrefs zel
  rw [zok_ne3 (md := md + 1) (md' := md) h3]
  by_cases h : zok md k j = true
  · rw [if_pos h]
    show some (zadd ad md q k j) = some (ad k j)
    rw [zadd_ext ad md q k j h]
  · rw [if_neg h]
    rfl
theorem zrefs_3 {ad : zA} {md q : Nat} : zrefs (zadd ad md q) (md + 1) 3 = va_up (zrefs ad md 3) (md + 1) (some q) := by
  funext j
  by_cases hj : j = md + 1
  · subst hj
    rw [va_up_self]
    unfold zrefs zel
    rw [if_pos (by unfold zok; simp)]
    show some (zadd ad md q 3 (md + 1)) = _
    rw [zadd_new]
  · rw [va_up_ne _ _ hj]
    unfold zrefs zel
    by_cases h : zok md 3 j = true
    · rw [if_pos h, if_pos (zok_mono (Nat.le_succ md) h)]
      show some (zadd ad md q 3 j) = some (ad 3 j)
      rw [zadd_ext ad md q 3 j h]
    · rw [if_neg h, if_neg]
      · rfl
      · intro h2
        rcases zok_new h2 with h2 | h2
        · exact h h2
        · exact hj h2.2
theorem zenc_row {ty : Nat → ClassId} {ad : zA} {t : zT} {k i q : Nat} (hk : zok t.2 k i = true) (hne : ¬ (k = 2 ∧ i = 0)) : zenc ty (zadd ad t.2 q) (zrow t.1 (t.2 + 1), t.2 + 1) k i = zenc ty ad t k i := by
  have hi3 : k = 3 → i ≠ t.2 + 1 := by
    intro h3 hi
    rw [h3, hi] at hk
    unfold zok at hk
    rw [if_pos rfl] at hk
    simp only [decide_eq_true_eq] at hk
    omega
  cases hz : zkind k with
  | inl x =>
    obtain ⟨c, fs⟩ := x
    rw [zenc_o hz, zenc_o hz]
    obtain ⟨-, r, -, -, hl, hf⟩ := zkind_o hz
    rw [zenF_congr (S := t.1) (ad := ad) fun f e he => ?_]
    have hf60 := (List.getElem?_eq_some_iff.mp he).1
    have hrow : zrow t.1 (t.2 + 1) (64 * k + f) i 0 = t.1 (64 * k + f) i 0 := by
      unfold zrow
      rw [if_neg]
      intro h
      exact hi3 (by omega) h.2
    match e, hf f e he with
    | 0, _ => exact congrArg Value.int hrow
    | 1, _ => exact congrArg Value.int hrow
    | q' + 2, h4 =>
      show Value.ref (zadd ad t.2 q q' i) = Value.ref (ad q' i)
      unfold zadd
      rw [if_neg (fun h => h4.2.1 h.1)]
  | inr x =>
    obtain ⟨a, e, n⟩ := x
    rw [zenc_a hz, zenc_a hz]
    obtain ⟨-, h3, he⟩ := zkind_a hz (zok_lt hk)
    have hrow : (fun j => zrow t.1 (t.2 + 1) (64 * k) i j) = fun j => t.1 (64 * k) i j := by
      funext j
      unfold zrow
      rw [if_neg]
      intro h
      omega
    by_cases h4 : e < 4
    · rw [zenA_lt h4, zenA_lt h4]
      rw [hrow]
    · obtain ⟨q', rfl⟩ : ∃ q', e = q' + 4 := ⟨e - 4, by omega⟩
      have he' : (a = 4 ∧ q' = 3 ∧ k = 2) ∨ (a = 5 ∧ q' = 11) ∨ (a = 6 ∧ q' = 8) := he
      have hr : zrefs (zadd ad t.2 q) (t.2 + 1) q' = zrefs ad t.2 q' := by
        rcases he' with ⟨-, -, h2⟩ | ⟨-, h2⟩ | ⟨-, h2⟩
        · exfalso
          apply hne
          refine ⟨h2, ?_⟩
          rw [h2] at hk
          unfold zok at hk
          rw [if_neg (by decide)] at hk
          simp only [decide_eq_true_eq] at hk
          have : zcnt 2 = 1 := by decide
          omega
        · exact zrefs_ne3 (by omega)
        · exact zrefs_ne3 (by omega)
      show Sum.inl (ty a, n, Sum.inr (Sum.inr (Sum.inr (Sum.inr (zrefs (zadd ad t.2 q) (t.2 + 1) q'))))) = Sum.inl (ty a, n, Sum.inr (Sum.inr (Sum.inr (Sum.inr (zrefs ad t.2 q')))))
      rw [hr]
-- the world with the new row
theorem zW_row {D : va_G} {ty : Nat → ClassId} {ad : zA} {t : zT} {H H2 : Heap} {L : List (Nat × Nat)} {A : Nat → Prop} {q q0 n : Nat} {fs : List Nat} (hL : zWL D ty ad t H L) (hq : L[q0]? = some (2, 0)) (hk2 : zkind 2 = .inr (4, 7, n)) (hk3 : zkind 3 = .inl (2, fs)) 
    (hP : va_P D zcl ((zl ty ad t L ++ ([(q, Sum.inr (2, zenF ad (zrow t.1 (t.2 + 1)) 3 (t.2 + 1) fs))] : va_W)).set q0 (ad 2 0, .inl (ty 4, n, .inr (.inr (.inr (.inr (va_up (zrefs ad t.2 3) (t.2 + 1) (some q)))))))) H2)
    (hD : va_D A ((zl ty ad t L ++ ([(q, Sum.inr (2, zenF ad (zrow t.1 (t.2 + 1)) 3 (t.2 + 1) fs))] : va_W)).set q0 (ad 2 0, .inl (ty 4, n, .inr (.inr (.inr (.inr (va_up (zrefs ad t.2 3) (t.2 + 1) (some q))))))))) :
    zW D ty (zadd ad t.2 q) (zrow t.1 (t.2 + 1), t.2 + 1) H2 := by
  have hlen : (zl ty ad t L).length = L.length := by simp [zl]
  have hq0 : q0 < L.length := (List.getElem?_eq_some_iff.mp hq).1
  have key : (zl ty ad t L ++ ([(q, Sum.inr (2, zenF ad (zrow t.1 (t.2 + 1)) 3 (t.2 + 1) fs))] : va_W)).set q0 (ad 2 0, .inl (ty 4, n, .inr (.inr (.inr (.inr (va_up (zrefs ad t.2 3) (t.2 + 1) (some q))))))) = zl ty (zadd ad t.2 q) (zrow t.1 (t.2 + 1), t.2 + 1) (L ++ [(3, t.2 + 1)]) := by
    apply List.ext_getElem?
    intro j
    by_cases hj : j = q0
    · subst hj
      rw [List.getElem?_set_self (by rw [List.length_append, hlen]; omega)]
      rw [zl_get (k := 2) (i := 0) (by rw [List.getElem?_append_left hq0]; exact hq), zenc_a hk2]
      show some _ = some (zadd ad t.2 q 2 0, _)
      have e1 : zadd ad t.2 q 2 0 = ad 2 0 := by simp [zadd]
      have e2 : zenA (zadd ad t.2 q) (zrow t.1 (t.2 + 1), t.2 + 1) 2 0 7 = .inr (.inr (.inr (.inr (zrefs (zadd ad t.2 q) (t.2 + 1) 3)))) := rfl
      rw [e1, e2, zrefs_3]
    · rw [List.getElem?_set_ne (Ne.symm hj)]
      by_cases hjl : j < L.length
      · rw [List.getElem?_append_left (by rw [hlen]; exact hjl)]
        cases hp : L[j]? with
        | none =>
          have := List.getElem?_eq_none_iff.mp hp
          omega
        | some x =>
          obtain ⟨k', i'⟩ := x
          have hv : zok t.2 k' i' = true := hL.2.1 _ (List.mem_of_getElem? hp)
          rw [zl_get hp, zl_get (k := k') (i := i') (by rw [List.getElem?_append_left hjl]; exact hp)]
          have hne : ¬ (k' = 2 ∧ i' = 0) := by
            intro e
            rw [e.1, e.2] at hp
            exact hj (hL.2.2.2.1 j q0 _ _ (zl_get hp) (zl_get hq) rfl)
          rw [zenc_row hv hne, zadd_ext ad t.2 q k' i' hv]
      · by_cases hjl2 : j = L.length
        · subst hjl2
          rw [List.getElem?_append_right (by rw [hlen]; exact Nat.le_refl _), hlen, Nat.sub_self]
          rw [zl_get (k := 3) (i := t.2 + 1) (by rw [List.getElem?_append_right (Nat.le_refl _), Nat.sub_self]; rfl), zenc_o hk3, zadd_new]
          rw [zenF_congr (ad := ad) (ad' := zadd ad t.2 q) (S := zrow t.1 (t.2 + 1)) fun f e he => ?_]
          · rfl
          · obtain ⟨-, r, -, -, -, hf⟩ := zkind_o hk3
            match e, hf f e he with
            | 0, _ => rfl
            | 1, _ => rfl
            | _ + 2, h4 => exact absurd rfl h4.2.2.1
        · rw [List.getElem?_eq_none (by rw [List.length_append, hlen]; simp; omega), List.getElem?_eq_none (by simp [zl]; omega)]
  rw [key] at hP hD
  refine ⟨L ++ [(3, t.2 + 1)], fun k i hk => ?_, fun x hx => ?_, hP, hD.1, fun _ _ _ => trivial⟩
  · rcases zok_new hk with h | ⟨rfl, rfl⟩
    · exact List.mem_append_left _ (hL.1 k i h)
    · exact List.mem_append_right _ List.mem_cons_self
  · rcases List.mem_append.mp hx with h | h
    · exact zok_mono (Nat.le_succ _) (hL.2.1 x h)
    · simp only [List.mem_cons, List.not_mem_nil, or_false] at h
      rw [h]
      unfold zok
      simp
theorem zrow_d1 : decode zrcode 1 = .ok (.invokespecial zrobj, 3) := by decide +kernel
theorem zrow_d4 : decode zrcode 4 = .ok (.return_, 1) := by decide +kernel
theorem zrow_met (l : Launch) (b : Nat) : Met l zrinit (Cond.code zrinit zrcode 1 none :: zWS) { frames := 1, locals := 12 } (fun v _ => v = #[.ref b]) (fun _ st oc u => oc = .returned none ∧ u.heap = st.heap) 0 0 (fun _ => False) := by
  refine Met.ofW (cc := zrcode) (maxL := 1) (ret := none) (by decide +kernel) rfl ?_
  intro p e s m args below meth c s₁ B hml hP
  have hws : ∀ w ∈ Cond.code zrinit zrcode 1 none :: zWS, w.before args s = true := atoms_spec B.pre
  have hat : ∀ w ∈ zWS, w.before args s = true := fun w hw => hws w (List.mem_cons_of_mem _ hw)
  have hown : s.vm.findClass "PageKeeper$LogRow" = some m.cls := findClass_of_methodNamed B.named
  have hP' : args = ([Value.ref b] : List Value).toArray := hP
  rw [show entryFrame m args 1 = F0 m 0 (([Value.ref b].map Slot.val ++ List.replicate (1 - 1) Slot.unset).toArray) [] by rw [hP']; exact entry_eq m [.ref b] (fun v hv => by simp at hv; rw [hv]; rfl) 1]
  refine lv_aload_n (k := 0) (i := 0) (x := b) B.exec B.bytes (by decide +kernel) rfl rfl ?_
  refine W.objInit B.exec B.bytes hown (hat _ zrow_ok.2.2.2.2.1) (hat _ zrow_ok.2.2.2.2.2.1) (hat _ zrow_ok.2.2.2.2.2.2) rfl (by rw [hml]; rfl) rfl zrow_d1 (Nat.le_refl _) (Nat.le_refl _) ?_
  exact W.vret (Qc := fun _ st oc u => oc = .returned none ∧ u.heap = st.heap) B.exec B.bytes B.returns (fun u hu _ => ⟨rfl, hu⟩) (fun q hq => by cases hq) zrow_d4 B.notSynchronized
section ZN
variable {p : Program} {l : Launch} {e : Env} {R : Room} {s : State} {m0 : MethodId} {args : Array Value} {below : List Frame} {meth : Method} {c : Code} {D : va_G} {ty : Nat → ClassId} {A : Nat → Prop} {m pc : Nat} {ls : List (Option zV)} {st : List zV} {t t' : zT} {o : zO}
theorem zs_row {n : Nat} {x : Int32} (C : zCx p l e R s m0 args meth c D ty A m) (hk : zrchk m pc n = true) (hd : decode (zbb m) pc = .ok (.new n, 3)) (hi : ∀ {q : Nat} {j : Instr} {ln : Nat}, zins m q = some (j, ln) → decode (zbb m) q = .ok (j, ln)) (hx : x = nI (t.2 + 1)) (hlt : t.2 + 1 < 1145) (hst : st.length ≤ 4) (hmono : t.2 + 1 ≤ t'.2)
    (K : zOK p l e R s m0 args below meth c D ty A m (pc + 8) ls st (zrow t.1 (t.2 + 1), t.2 + 1) o t') : zOK p l e R s m0 args below meth c D ty A m pc ls (.inl x :: .inr (some (2, 0)) :: st) t o t' := by
  unfold zrchk at hk
  simp only [Bool.and_eq_true] at hk
  obtain ⟨⟨⟨⟨k1, k2⟩, k3⟩, k4⟩, k5⟩ := hk
  have hown : zRn (zown m) = "PageKeeper$Log" := by rw [Nat.eq_of_beq_eq_true k1]; rfl
  have hf := Nat.le_of_ble_eq_true k4
  have hw := Nat.le_of_ble_eq_true k5
  have hfr := C.2.2.1.2.1
  have hlo := C.2.2.1.2.2.1
  split at k2
  · rename_i ic h3 h4 h7
    have hic := Nat.eq_of_beq_eq_true k2
    subst hic
    intro ad H locs cells slots lsA h hc hs
    obtain ⟨L, hL⟩ := h.2.2.1
    have hv : zok t.2 2 0 = true := zall_h (zall_t h.2.1)
    obtain ⟨q0, hq⟩ := hL.pos hv
    have hk2 : zkind 2 = .inr (4, 7, 1145) := by decide +kernel
    have hk3 : zkind 3 = .inl (2, zrfs) := by decide +kernel
    have hr : zcl[2]? = some (zR2, zT2, 16) := rfl
    obtain ⟨⟨ty0, hty⟩, hnm⟩ := zcl_ty hr
    obtain ⟨-, r', hr', hlen, -, hfs⟩ := zkind_o hk3
    cases hr.symm.trans hr'
    have hlen : zrfs.length = 16 := hlen
    have hown' : s.vm.findClass "PageKeeper$Log" = some m0.cls := by rw [← hown]; exact C.2.1.1
    have hq0 : q0 < L.length := (List.getElem?_eq_some_iff.mp hq).1
    have hzl : (zl ty ad t L).length = L.length := by simp [zl]
    refine va_new (c0 := c) C.1.1 C.1.2.1 (own := "PageKeeper$Log") (C := zR2) (T := zT2) (N := 16) (ci := 2) (Ts := zWS) C.2.1.2.1 (zcl_in hr) ty0 hty hown' (C.2.1.2.1 _ (zhas_mem k3)) (C.2.1.2.1 _ zrow_ok.2.1) (C.2.1.2.1 _ zrow_ok.1) C.2.1.2.2 hL.2.2.1 (hL.da h.2.2.2.1) h.2.2.2.2 C.2.2.2.1 hr (fs := zenF ad (zrow t.1 (t.2 + 1)) 3 (t.2 + 1) zrfs) (fun j hj => ?_) (by omega) (by omega) hd fun q H1 hP1 hD1 hS1 => ?_
    · have hj' : j < zrfs.length := by omega
      have he : zrfs[j]? = some zrfs[j] := List.getElem?_eq_getElem hj'
      have hz : zrow t.1 (t.2 + 1) (64 * 3 + j) (t.2 + 1) 0 = 0 := by
        unfold zrow
        rw [if_pos ⟨by omega, rfl⟩]
      have hV : vp_V (zenF ad (zrow t.1 (t.2 + 1)) 3 (t.2 + 1) zrfs) j = zfv ad (zrow t.1 (t.2 + 1)) 3 (t.2 + 1) zrfs[j] j := by
        unfold vp_V
        rw [List.getD_eq_getElem?_getD, zenF_get he]
        rfl
      rw [hV]
      have hff := hfs j _ he
      have htj := hty j hj
      match zrfs[j], hff with
      | 0, hff =>
        rw [hff.1] at htj
        rw [← Option.some.inj htj]
        show _ = Value.int _
        rw [hz]
        rfl
      | 1, hff =>
        rw [hff.1] at htj
        rw [← Option.some.inj htj]
        show _ = Value.int _
        rw [hz]
        rfl
      | _ + 2, hff => exact absurd rfl hff.2.2.1
    · refine lv_dup C.1.1 C.1.2.1 (hi h3) rfl ?_
      have hall : ∀ w ∈ Cond.code zrinit zrcode 1 none :: zWS, ∀ (a' : Array Value) (U : State), s.WarmedH U.vm → w.before a' U = true := by
        intro w hw a' U hW
        rcases List.mem_cons.mp hw with rfl | hw
        · exact zword hW (zWS_good zrow_ok.2.2.2.1) (C.2.1.2.1 _ zrow_ok.2.2.2.1)
        · exact zword hW (zWS_good hw) (C.2.1.2.1 _ hw)
      have hpar : ∀ sig, parseMethodDescriptor zrinit.desc = some sig → 0 = sig.parameters.length := by
        intro sig e1
        have e2 : (parseMethodDescriptor zrinit.desc).map (fun d => d.parameters.length) = some 0 := by decide +kernel
        rw [e1] at e2
        exact (Option.some.inj e2).symm
      have hrun := va_runIN (n := 0) (mc := 0) (ms := 0) (cells := cells + 1) (slots := slots + 16) (H := H1) (locs := locs) (cc := zbb m) (nL := zlocs m) (Ts := zWS) (own := "PageKeeper$Log") (host := "PageKeeper") (index := zric) (bytes := zrcode) (maxL := 1) (b := q) (As := []) (rest := .ref q :: .int x :: .ref (ad 2 0) :: st.map (zcv ad)) (g := F0 m0 (pc + 3 + 1) lsA (.ref q :: .ref q :: .int x :: .ref (ad 2 0) :: st.map (zcv ad))) (below := below) (meth := meth) (R := R) (e := e)
        ⟨C.1.1, C.1.2.1, C.1.2.2.1, hown', C.2.1.2.1⟩ (zrow_met l q)
        ⟨⟨⟨rfl, rfl, by show 1 + 1 ≤ R.frames; omega, by show 8 + (1 + 11) + 12 ≤ R.locals; omega, hall, List.mem_cons_self⟩, C.2.1.2.1 _ zrow_ok.2.2.2.1, C.2.1.2.1 _ zrow_ok.1, by decide +kernel, hpar, va_Nw.use rfl C.2.2.1.2.2.2.1.1⟩, rfl, C.2.1.2.1 _ zrow_ok.2.2.1⟩
        ⟨fun a U g mk hq => hq, fun U hU hW => rfl⟩ rfl rfl h.1.2.1 rfl (by show 2 * 0 + _ ≤ 8; simp only [List.map_cons, List.sum_cons]; rw [zsum]; simp only [Value.category]; omega) (hi h4) ⟨by omega, by omega⟩
      intro T hT X
      obtain ⟨v, st₀, u, T', L2, h0, X', hL2, e1, e2, ⟨g1, g2⟩, go⟩ := hrun T hT X
      cases g1
      have hT' : T'.heap = H1 := by rw [e1, g2, h0]
      have hS2 : va_S A s.heap H1 (locs ++ L2) := ⟨hS1.1, hS1.2.1, fun y hy => by
        rcases List.mem_append.mp hy with hy | hy
        · exact hS1.2.2 y hy
        · exact (hL2 y hy).elim⟩
      have hxc : x.toNatClampNeg = t.2 + 1 := by rw [hx]; exact nI_clamp (by omega)
      have hAq : A q := by
        have := hD1.2 L.length (q, .inr (2, zenF ad (zrow t.1 (t.2 + 1)) 3 (t.2 + 1) zrfs)) (by rw [List.getElem?_append_right (by rw [hzl]; exact Nat.le_refl _), hzl, Nat.sub_self]; rfl)
        exact this
      have hfin : W p l e R s m0 args below meth c H1 (locs ++ L2) (cells + 1 + 0) (slots + 16 + 0) (zEnd D ty A s below ad t.2 o t' (cells + (t'.2 - t.2) + zth o) (slots + 16 * (t'.2 - t.2) + 6 * zth o)) (F0 m0 (pc + 7) lsA (.ref q :: .int x :: .ref (ad 2 0) :: st.map (zcv ad))) := by
        refine va_astq (r := (zR2, zT2, 16)) (n := 1145) (f := zrefs ad t.2 3) C.1.1 C.1.2.1 C.2.1.2.2 hP1 hD1 hS2 q0 4 L.length 2 (by rw [List.getElem?_append_left (by rw [hzl]; exact hq0), zl_get hq, zenc_a hk2]; rfl) rfl (vs := zenF ad (zrow t.1 (t.2 + 1)) 3 (t.2 + 1) zrfs) (by rw [List.getElem?_append_right (by rw [hzl]; exact Nat.le_refl _), hzl, Nat.sub_self]; rfl) hr (by rw [hx]; exact nI_in hlt (by decide)) (hi h7) fun H2 locs2 hP2 hD2 hS3 => ?_
        rw [hxc] at hP2 hD2
        have hw2 := zW_row hL hq hk2 hk3 hP2 hD2
        have hext := zadd_ext ad t.2 q
        have k2 := K (zadd ad t.2 q) H2 locs2 (cells + 1 + 0) (slots + 16 + 0) lsA ⟨zLs_ext h.1 hext (Nat.le_succ _), fun w hw => zvok_mono (Nat.le_succ _) (zall_t (zall_t h.2.1) w hw), hw2, fun k i hki => ?_, hS3⟩ (by show cells + 1 + 0 + (t'.2 - (t.2 + 1)) + zth o ≤ _; omega) (by show slots + 16 + 0 + 16 * (t'.2 - (t.2 + 1)) + 6 * zth o ≤ _; omega)
        · rw [zmap_ext hext (zall_t (zall_t h.2.1))] at k2
          refine zW_mono k2 fun u2 hu2 => ?_
          obtain ⟨oc, g2, g3, ⟨⟨ad2, g4, g5, g6, g7⟩, g8⟩, L3, g9, g10⟩ := hu2
          refine ⟨oc, g2, g3, ⟨⟨ad2, hext.trans (Nat.le_succ _) g4, g5, g6, g7⟩, g8⟩, L3, ?_, g10⟩
          have e5 : cells + (t'.2 - t.2) + zth o = cells + 1 + 0 + (t'.2 - (t.2 + 1)) + zth o := by omega
          have e6 : slots + 16 * (t'.2 - t.2) + 6 * zth o = slots + 16 + 0 + 16 * (t'.2 - (t.2 + 1)) + 6 * zth o := by omega
          rw [e5, e6]
          exact g9
        · rcases zok_new hki with hki | ⟨rfl, rfl⟩
          · rw [hext k i hki]
            exact h.2.2.2.1 k i hki
          · rw [zadd_new]
            exact hAq
      obtain ⟨t2, a1, b1⟩ := hfin T' hT' X'
      exact ⟨t2, go t2 a1, b1⟩
  · cases k2
end ZN
end
section
/-! The small machine is sound. -/
section ZS
variable {p : Program} {l : Launch} {e : Env} {R : Room} {s : State} {m0 : MethodId} {args : Array Value} {below : List Frame} {meth : Method} {c : Code} {D : va_G} {ty : Nat → ClassId} {A : Nat → Prop} {m pc len : Nat} {ls : List (Option zV)} {st : List zV} {t t' t1 : zT} {o : zO}
def zCont (p : Program) (l : Launch) (e : Env) (R : Room) (s : State) (m0 : MethodId) (args : Array Value) (below : List Frame) (meth : Method) (c : Code) (D : va_G) (ty : Nat → ClassId) (A : Nat → Prop) (m : Nat) (ls : List (Option zV)) (t : zT) (o : zO) (t' : zT) (r : zR) : Prop := match r with
  | .inl (b, pc', ls', st', t1) => b = true ∧ t1.2 ≤ t'.2 ∧ zOK p l e R s m0 args below meth c D ty A m pc' ls' st' t1 o t'
  | .inr (.inl (o1, t1)) => o1 = o ∧ t1 = t'
  | .inr (.inr (.inl (b, p1, p2, st'))) => (b = true → zOK p l e R s m0 args below meth c D ty A m p1 ls st' t o t') ∧ (b = false → zOK p l e R s m0 args below meth c D ty A m p2 ls st' t o t')
  | .inr (.inr (.inr (m', as, rest, pc'))) => (∃ v t1, t.2 ≤ t1.2 ∧ t1.2 ≤ t'.2 ∧ zCal l D ty m' as t (.inl v) t1 ∧ zOK p l e R s m0 args below meth c D ty A m pc' ls (zpush v rest) t1 o t') ∨ ∃ x, o = .inr x ∧ zCal l D ty m' as t (.inr x) t'
theorem zK_go {b : Bool} {pc' : Nat} {ls' : List (Option zV)} {st' : List zV} (K : zCont p l e R s m0 args below meth c D ty A m ls t o t' (.inl (b, pc', ls', st', t1))) : zOK p l e R s m0 args below meth c D ty A m pc' ls' st' t1 o t' := K.2.2
theorem zK_md {b : Bool} {pc' : Nat} {ls' : List (Option zV)} {st' : List zV} (K : zCont p l e R s m0 args below meth c D ty A m ls t o t' (.inl (b, pc', ls', st', t1))) : t1.2 ≤ t'.2 := K.2.1
theorem zK_gd {b : Bool} {pc' : Nat} {ls' : List (Option zV)} {st' : List zV} (K : zCont p l e R s m0 args below meth c D ty A m ls t o t' (.inl (b, pc', ls', st', t1))) : b = true ∧ zOK p l e R s m0 args below meth c D ty A m pc' ls' st' t1 o t' := ⟨K.1, K.2.2⟩
theorem zK_end {o1 : zO} (K : zCont p l e R s m0 args below meth c D ty A m ls t o t' (.inr (.inl (o1, t1)))) : o1 = o ∧ t1 = t' := K
theorem zK_br {b : Bool} {p1 p2 : Nat} {st' : List zV} (K : zCont p l e R s m0 args below meth c D ty A m ls t o t' (.inr (.inr (.inl (b, p1, p2, st'))))) : (b = true → zOK p l e R s m0 args below meth c D ty A m p1 ls st' t o t') ∧ (b = false → zOK p l e R s m0 args below meth c D ty A m p2 ls st' t o t') := K
theorem zK_call {m' pc' : Nat} {as rest : List zV} (K : zCont p l e R s m0 args below meth c D ty A m ls t o t' (.inr (.inr (.inr (m', as, rest, pc'))))) : (∃ v t1, t.2 ≤ t1.2 ∧ t1.2 ≤ t'.2 ∧ zCal l D ty m' as t (.inl v) t1 ∧ zOK p l e R s m0 args below meth c D ty A m pc' ls (zpush v rest) t1 o t') ∨ ∃ x, o = .inr x ∧ zCal l D ty m' as t (.inr x) t' := K
theorem zgo_r {pc : Nat} {ls : List (Option zV)} {st : List zV} {t : zT} {r : zR} (h : zgo pc ls st t = some r) : r = .inl (true, pc, ls, st, t) := (Option.some.inj h).symm
theorem zgd_r {b : Bool} {pc : Nat} {ls : List (Option zV)} {st : List zV} {t : zT} {r : zR} (h : zgd b pc ls st t = some r) : r = .inl (b, pc, ls, st, t) := (Option.some.inj h).symm
theorem zend_r {o : zO} {t : zT} {r : zR} (h : zend o t = some r) : r = .inr (.inl (o, t)) := (Option.some.inj h).symm
theorem zbr_r {b : Bool} {p1 p2 : Nat} {st : List zV} {r : zR} (h : zbr b p1 p2 st = some r) : r = .inr (.inr (.inl (b, p1, p2, st))) := (Option.some.inj h).symm
theorem zcall_r {virt : Bool} {own index pc : Nat} {st : List zV} {r : zR} (h : zcall virt own index pc st = some r) : ∃ m' n as rest, r = .inr (.inr (.inr (m', as, rest, pc + 3))) ∧ zcal own index = some (m', n) ∧ n ≤ st.length ∧ st.length ≤ n + 8 ∧ (virt = true → zrecv m' as = true) ∧ zstat m' = !virt ∧ as = (st.take n).reverse ∧ rest = st.drop n := by
  unfold zcall at h
  split at h
  · cases h
  · rename_i m1 n hz
    split at h
    · rename_i hb
      have hr := (Option.some.inj h).symm
      simp only [Bool.and_eq_true] at hb
      refine ⟨m1, n, _, _, hr, hz, Nat.le_of_ble_eq_true hb.1.1.1, Nat.le_of_ble_eq_true hb.1.1.2, fun hv => ?_, ?_, rfl, rfl⟩
      · have h2 := hb.1.2
        rw [hv] at h2
        exact h2
      · have := hb.2
        cases virt <;> cases hs : zstat m1 <;> simp [hs] at this ⊢
    · cases h
theorem zload_in {el pc : Nat} {st : List zV} {r : zR} (h : zload el pc ls st t = some r) : ∃ x k i st1 a n, st = .inl x :: .inr (some (k, i)) :: st1 ∧ zkind k = .inr (a, el, n) ∧ zgd (zin x n) (pc + 1) ls (.inl (t.1 (64 * k) i x.toNatClampNeg) :: st1) t = some r := by
  unfold zload at h
  split at h
  · rename_i x k i r'
    split at h
    · rename_i a e n hk
      by_cases he : e = el
      · rw [if_pos he] at h
        subst he
        exact ⟨x, k, i, r', a, n, rfl, hk, h⟩
      · rw [if_neg he] at h
        cases h
    · cases h
  · cases h
theorem zstore_in {el pc : Nat} {nar : Int32 → Int32} {st : List zV} {r : zR} (h : zstore el nar pc ls st t = some r) : ∃ v x k i st1 a n, st = .inl v :: .inl x :: .inr (some (k, i)) :: st1 ∧ zkind k = .inr (a, el, n) ∧ zgd (zin x n) (pc + 1) ls st1 (zu t.1 (64 * k) i x.toNatClampNeg (nar v), t.2) = some r := by
  unfold zstore at h
  split at h
  · rename_i v x k i r'
    split at h
    · rename_i a e n hk
      by_cases he : e = el
      · rw [if_pos he] at h
        subst he
        exact ⟨v, x, k, i, r', a, n, rfl, hk, h⟩
      · rw [if_neg he] at h
        cases h
    · cases h
  · cases h
-- one step
theorem zstep {i : Instr} {r : zR} (htr : ∀ e, l.admits e → e.platform.stackTraces = false) (C : zCx p l e R s m0 args meth c D ty A m) (ho : zown m < 8) (hd : decode (zbb m) pc = .ok (i, len)) (hk : zchk m pc i len = true) (hi : ∀ {q : Nat} {j : Instr} {ln : Nat}, zins m q = some (j, ln) → decode (zbb m) q = .ok (j, ln)) (hx : zex (zown m) (zrt m) pc len i ls st t = some r)
    (K : zCont p l e R s m0 args below meth c D ty A m ls t o t' r) : zOK p l e R s m0 args below meth c D ty A m pc ls st t o t' := by
  cases i with
  | iconst n =>
    obtain rfl : len = 1 := Nat.eq_of_beq_eq_true hk
    obtain rfl := zgo_r hx
    replace K := zK_go K
    exact zs_int C hd K
  | bipush n =>
    obtain rfl : len = 2 := Nat.eq_of_beq_eq_true hk
    cases n with
    | ofNat n =>
      change (if n < 128 then zgo _ _ _ _ else none) = _ at hx
      split at hx
      · rename_i hn
        obtain rfl := zgo_r hx
        replace K := zK_go K
        exact zs_bip C hn hd K
      · cases hx
    | negSucc n => cases hx
  | sipush n =>
    obtain rfl : len = 3 := Nat.eq_of_beq_eq_true hk
    cases n with
    | ofNat n =>
      change (if n < 32768 then zgo _ _ _ _ else none) = _ at hx
      split at hx
      · rename_i hn
        obtain rfl := zgo_r hx
        replace K := zK_go K
        exact zs_sip C hn hd K
      · cases hx
    | negSucc n => cases hx
  | iload n =>
    obtain rfl : len = 2 := Nat.eq_of_beq_eq_true hk
    change zil n 2 pc ls st t = _ at hx
    unfold zil at hx
    split at hx
    · rename_i x hl
      obtain rfl := zgo_r hx
      replace K := zK_go K
      exact zs_il C hl hd K
    · cases hx
  | iload_n n =>
    obtain rfl : len = 1 := Nat.eq_of_beq_eq_true hk
    change zil n.val 1 pc ls st t = _ at hx
    unfold zil at hx
    split at hx
    · rename_i x hl
      obtain rfl := zgo_r hx
      replace K := zK_go K
      exact zs_iln C hl hd K
    · cases hx
  | aload n =>
    obtain rfl : len = 2 := Nat.eq_of_beq_eq_true hk
    change zal n 2 pc ls st t = _ at hx
    unfold zal at hx
    split at hx
    · rename_i x hl
      obtain rfl := zgo_r hx
      replace K := zK_go K
      exact zs_al C hl hd K
    · cases hx
  | aload_n n =>
    obtain rfl : len = 1 := Nat.eq_of_beq_eq_true hk
    change zal n.val 1 pc ls st t = _ at hx
    unfold zal at hx
    split at hx
    · rename_i x hl
      obtain rfl := zgo_r hx
      replace K := zK_go K
      exact zs_aln C hl hd K
    · cases hx
  | istore n =>
    obtain rfl : len = 2 := Nat.eq_of_beq_eq_true hk
    change zis n 2 pc ls st t = _ at hx
    unfold zis at hx
    split at hx
    · split at hx
      · rename_i hl
        obtain rfl := zgo_r hx
        replace K := zK_go K
        exact zs_is C hl hd K
      · cases hx
    · cases hx
  | istore_n n =>
    obtain rfl : len = 1 := Nat.eq_of_beq_eq_true hk
    change zis n.val 1 pc ls st t = _ at hx
    unfold zis at hx
    split at hx
    · split at hx
      · rename_i hl
        obtain rfl := zgo_r hx
        replace K := zK_go K
        exact zs_isn C hl hd K
      · cases hx
    · cases hx
  | astore n =>
    obtain rfl : len = 2 := Nat.eq_of_beq_eq_true hk
    change zas n 2 pc ls st t = _ at hx
    unfold zas at hx
    split at hx
    · split at hx
      · rename_i hl
        obtain rfl := zgo_r hx
        replace K := zK_go K
        exact zs_as C hl hd K
      · cases hx
    · cases hx
  | astore_n n =>
    obtain rfl : len = 1 := Nat.eq_of_beq_eq_true hk
    change zas n.val 1 pc ls st t = _ at hx
    unfold zas at hx
    split at hx
    · split at hx
      · rename_i hl
        obtain rfl := zgo_r hx
        replace K := zK_go K
        exact zs_asn C hl hd K
      · cases hx
    · cases hx
  | iinc n d =>
    obtain rfl : len = 3 := Nat.eq_of_beq_eq_true hk
    change (match zld ls n with
      | some (.inl x) => if n < ls.length then zgo (pc + 3) (ls.set n (some (.inl (x + zint d)))) st t else none
      | _ => none) = _ at hx
    split at hx
    · rename_i x hl
      split at hx
      · rename_i hn
        obtain rfl := zgo_r hx
        replace K := zK_go K
        exact zs_inc C hn hl hd K
      · cases hx
    · cases hx
  | dup =>
    obtain rfl : len = 1 := Nat.eq_of_beq_eq_true hk
    match st, hx with
    | a :: r, hx =>
      obtain rfl := zgo_r hx
      replace K := zK_go K
      exact zs_dup C hd K
  | dup_x1 =>
    obtain rfl : len = 1 := Nat.eq_of_beq_eq_true hk
    match st, hx with
    | a :: b :: r, hx =>
      obtain rfl := zgo_r hx
      replace K := zK_go K
      exact zs_dx1 C hd K
  | dup2 =>
    obtain rfl : len = 1 := Nat.eq_of_beq_eq_true hk
    match st, hx with
    | a :: b :: r, hx =>
      obtain rfl := zgo_r hx
      replace K := zK_go K
      exact zs_d2 C hd K
  | pop =>
    obtain rfl : len = 1 := Nat.eq_of_beq_eq_true hk
    match st, hx with
    | a :: r, hx =>
      obtain rfl := zgo_r hx
      replace K := zK_go K
      exact zs_pop C hd K
  | iadd =>
    obtain rfl : len = 1 := Nat.eq_of_beq_eq_true hk
    match st, hx with
    | .inl y :: .inl x :: r, hx =>
      obtain rfl := zgo_r hx
      replace K := zK_go K
      exact zs_add C hd K
  | isub =>
    obtain rfl : len = 1 := Nat.eq_of_beq_eq_true hk
    match st, hx with
    | .inl y :: .inl x :: r, hx =>
      obtain rfl := zgo_r hx
      replace K := zK_go K
      exact zs_sub C hd K
  | imul =>
    obtain rfl : len = 1 := Nat.eq_of_beq_eq_true hk
    match st, hx with
    | .inl y :: .inl x :: r, hx =>
      obtain rfl := zgo_r hx
      replace K := zK_go K
      exact zs_mul C hd K
  | idiv =>
    obtain rfl : len = 1 := Nat.eq_of_beq_eq_true hk
    match st, hx with
    | .inl y :: .inl x :: r, hx =>
      obtain rfl := zgd_r hx
      have hb := (zK_gd K).1.symm
      replace K := (zK_gd K).2
      exact zs_div C (of_decide_eq_true hb.symm) hd K
  | irem =>
    obtain rfl : len = 1 := Nat.eq_of_beq_eq_true hk
    match st, hx with
    | .inl y :: .inl x :: r, hx =>
      obtain rfl := zgd_r hx
      have hb := (zK_gd K).1.symm
      replace K := (zK_gd K).2
      exact zs_rem C (of_decide_eq_true hb.symm) hd K
  | i2b =>
    obtain rfl : len = 1 := Nat.eq_of_beq_eq_true hk
    match st, hx with
    | .inl x :: r, hx =>
      obtain rfl := zgo_r hx
      replace K := zK_go K
      exact zs_i2b C hd K
  | i2s =>
    obtain rfl : len = 1 := Nat.eq_of_beq_eq_true hk
    match st, hx with
    | .inl x :: r, hx =>
      obtain rfl := zgo_r hx
      replace K := zK_go K
      exact zs_i2s C hd K
  | ifnonnull off =>
    have hk2 := Bool.and_eq_true_iff.mp hk
    obtain rfl : len = 3 := Nat.eq_of_beq_eq_true hk2.1
    match st, hx with
    | .inr none :: r, hx =>
      obtain rfl := zgo_r hx
      replace K := zK_go K
      exact zs_nn0 C hd K
    | .inr (some q) :: r, hx =>
      obtain rfl := zgo_r hx
      replace K := zK_go K
      exact zs_nn1 C (of_decide_eq_true hk2.2) hd K
  | ifnull off =>
    have hk2 := Bool.and_eq_true_iff.mp hk
    obtain rfl : len = 3 := Nat.eq_of_beq_eq_true hk2.1
    match st, hx with
    | .inr none :: r, hx =>
      obtain rfl := zgo_r hx
      replace K := zK_go K
      exact zs_n0 C (of_decide_eq_true hk2.2) hd K
    | .inr (some q) :: r, hx =>
      obtain rfl := zgo_r hx
      replace K := zK_go K
      exact zs_n1 C hd K
  | goto off =>
    have hk2 := Bool.and_eq_true_iff.mp hk
    obtain rfl : len = 3 := Nat.eq_of_beq_eq_true hk2.1
    obtain rfl := zgo_r hx
    replace K := zK_go K
    exact zs_goto C (of_decide_eq_true hk2.2) hd K
  | getfield n =>
    obtain rfl : len = 3 := Nat.eq_of_beq_eq_true hk
    match st, hx with
    | .inr (some (k, i)) :: r, hx =>
      change (match zfld (zown m) n with
        | some (c, f) => if zcls k c = true then (match zget k i f t with
          | some v => zgo (pc + 3) ls (v :: r) t
          | none => none) else none
        | none => none) = _ at hx
      split at hx
      · rename_i ci f hz
        split at hx
        · rename_i hcl
          split at hx
          · rename_i v hg
            obtain rfl := zgo_r hx
            replace K := zK_go K
            exact zs_get C ho hz hcl hg hd K
          · cases hx
        · cases hx
      · cases hx
  | putfield n =>
    obtain rfl : len = 3 := Nat.eq_of_beq_eq_true hk
    match st, hx with
    | .inl v :: .inr (some (k, i)) :: r, hx =>
      change (match zfld (zown m) n with
        | some (c, f) => match zkind k with
          | .inl (c', fs) => if c' = c then (match fs[f]? with
            | some 0 => zgo (pc + 3) ls r (zu t.1 (64 * k + f) i 0 v, t.2)
            | some 1 => zgd (decide (v = 0 ∨ v = 1)) (pc + 3) ls r (zu t.1 (64 * k + f) i 0 v, t.2)
            | _ => none) else none
          | .inr _ => none
        | none => none) = _ at hx
      split at hx
      · rename_i ci f hz
        split at hx
        · rename_i c' fs hkk
          split at hx
          · rename_i hcc
            subst hcc
            split at hx
            · rename_i hf
              obtain rfl := zgo_r hx
              replace K := zK_go K
              exact zs_put C ho hz hkk hf (Or.inl rfl) hd K
            · rename_i hf
              obtain rfl := zgd_r hx
              have hb := (zK_gd K).1.symm
              replace K := (zK_gd K).2
              exact zs_put C ho hz hkk hf (Or.inr ⟨rfl, of_decide_eq_true hb.symm⟩) hd K
            · cases hx
          · cases hx
        · cases hx
      · cases hx
  | iaload =>
    obtain rfl : len = 1 := Nat.eq_of_beq_eq_true hk
    obtain ⟨x, k, i, st1, a, n, rfl, hkk, hx⟩ := zload_in (el := 0) hx
    obtain rfl := zgd_r hx
    have hb := (zK_gd K).1.symm
    replace K := (zK_gd K).2
    exact zs_ld C hkk (Or.inl ⟨rfl, rfl⟩) hb.symm hd K
  | saload =>
    obtain rfl : len = 1 := Nat.eq_of_beq_eq_true hk
    obtain ⟨x, k, i, st1, a, n, rfl, hkk, hx⟩ := zload_in (el := 2) hx
    obtain rfl := zgd_r hx
    have hb := (zK_gd K).1.symm
    replace K := (zK_gd K).2
    exact zs_ld C hkk (Or.inr (Or.inr (Or.inl ⟨rfl, rfl⟩))) hb.symm hd K
  | baload =>
    obtain rfl : len = 1 := Nat.eq_of_beq_eq_true hk
    match st, hx with
    | .inl x0 :: .inr (some (k0, i0)) :: r, hx =>
      change (match zkind k0 with
        | .inr (_, 3, _) => zload 3 pc ls (.inl x0 :: .inr (some (k0, i0)) :: r) t
        | _ => zload 1 pc ls (.inl x0 :: .inr (some (k0, i0)) :: r) t) = _ at hx
      split at hx
      · obtain ⟨x, k, i, st1, a, n, e1, hkk, hx⟩ := zload_in (el := 3) hx
        cases e1
        obtain rfl := zgd_r hx
        have hb := (zK_gd K).1.symm
        replace K := (zK_gd K).2
        exact zs_ld C hkk (Or.inr (Or.inr (Or.inr ⟨rfl, rfl⟩))) hb.symm hd K
      · obtain ⟨x, k, i, st1, a, n, e1, hkk, hx⟩ := zload_in (el := 1) hx
        cases e1
        obtain rfl := zgd_r hx
        have hb := (zK_gd K).1.symm
        replace K := (zK_gd K).2
        exact zs_ld C hkk (Or.inr (Or.inl ⟨rfl, rfl⟩)) hb.symm hd K
  | iastore =>
    obtain rfl : len = 1 := Nat.eq_of_beq_eq_true hk
    obtain ⟨v, x, k, i, st1, a, n, rfl, hkk, hx⟩ := zstore_in (el := 0) hx
    obtain rfl := zgd_r hx
    have hb := (zK_gd K).1.symm
    replace K := (zK_gd K).2
    exact zs_st C hkk (Or.inl ⟨rfl, rfl⟩) hb.symm hd K
  | sastore =>
    obtain rfl : len = 1 := Nat.eq_of_beq_eq_true hk
    obtain ⟨v, x, k, i, st1, a, n, rfl, hkk, hx⟩ := zstore_in (el := 2) hx
    obtain rfl := zgd_r hx
    have hb := (zK_gd K).1.symm
    replace K := (zK_gd K).2
    exact zs_st C hkk (Or.inr (Or.inr (Or.inl ⟨rfl, rfl⟩))) hb.symm hd K
  | bastore =>
    obtain rfl : len = 1 := Nat.eq_of_beq_eq_true hk
    match st, hx with
    | .inl v0 :: .inl x0 :: .inr (some (k0, i0)) :: r, hx =>
      change (match zkind k0 with
        | .inr (_, 3, _) => zstore 3 (vp_nar .boolean) pc ls (.inl v0 :: .inl x0 :: .inr (some (k0, i0)) :: r) t
        | _ => zstore 1 (vp_nar .byte) pc ls (.inl v0 :: .inl x0 :: .inr (some (k0, i0)) :: r) t) = _ at hx
      split at hx
      · obtain ⟨v, x, k, i, st1, a, n, e1, hkk, hx⟩ := zstore_in (el := 3) hx
        cases e1
        obtain rfl := zgd_r hx
        have hb := (zK_gd K).1.symm
        replace K := (zK_gd K).2
        exact zs_st C hkk (Or.inr (Or.inr (Or.inr ⟨rfl, rfl⟩))) hb.symm hd K
      · obtain ⟨v, x, k, i, st1, a, n, e1, hkk, hx⟩ := zstore_in (el := 1) hx
        cases e1
        obtain rfl := zgd_r hx
        have hb := (zK_gd K).1.symm
        replace K := (zK_gd K).2
        exact zs_st C hkk (Or.inr (Or.inl ⟨rfl, rfl⟩)) hb.symm hd K
  | aaload =>
    obtain rfl : len = 1 := Nat.eq_of_beq_eq_true hk
    match st, hx with
    | .inl x :: .inr (some (k, i)) :: r, hx =>
      change (match zkind k with
        | .inr (_, q + 4, n) => zgd (zin x n) (pc + 1) ls (.inr (zel t.2 q x.toNatClampNeg) :: r) t
        | _ => none) = _ at hx
      split at hx
      · rename_i a q n hkk
        obtain rfl := zgd_r hx
        have hb := (zK_gd K).1.symm
        replace K := (zK_gd K).2
        exact zs_ald C hkk hb.symm hd K
      · cases hx
  | invokestatic n =>
    have hk2 := Bool.and_eq_true_iff.mp hk
    obtain rfl : len = 3 := Nat.eq_of_beq_eq_true hk2.1
    change (match zcal (zown m) n with
      | some (999, _) => match st with
        | .inl y :: .inl x :: r => if Nat.ble r.length 8 = true then zgo (pc + 3) ls (.inl (if x < y then y else x) :: r) t else none
        | _ => none
      | _ => zcall false (zown m) n pc st) = _ at hx
    split at hx
    · rename_i k0 hz
      split at hx
      · rename_i y x r
        split at hx
        · rename_i hr
          obtain rfl := zgo_r hx
          replace K := zK_go K
          have hk3 := hk2.2
          rw [hz] at hk3
          have hk4 := Bool.and_eq_true_iff.mp hk3
          exact zs_max C ho hz (Nat.le_of_ble_eq_true hk4.1) (Nat.le_of_ble_eq_true hk4.2) (Nat.le_of_ble_eq_true hr) hd K
        · cases hx
      · cases hx
    · rename_i hne
      obtain ⟨m', n0, as, rest, rfl, hz, h1, h2, -, h4, h5, h6⟩ := zcall_r hx
      have h9 : m' ≠ 999 := by
        intro h
        subst h
        exact hne n0 hz
      have hk3 := hk2.2
      rw [hz] at hk3
      simp only [znbeq h9, cond_false, Bool.and_eq_true] at hk3
      rcases zK_call K with ⟨v, t1, g1, g2, g3, g4⟩ | ⟨x, rfl, g3⟩
      · exact zs_callS htr C ho hz h9 h4 h1 h2 h5 h6 (Nat.le_of_ble_eq_true hk3.1) (Nat.le_of_ble_eq_true hk3.2) hd g1 g2 g3 g4
      · exact zs_thrS htr C ho hz h9 h4 h1 h2 h5 h6 (Nat.le_of_ble_eq_true hk3.1) (Nat.le_of_ble_eq_true hk3.2) hd g3
  | invokevirtual n =>
    have hk2 := Bool.and_eq_true_iff.mp hk
    obtain rfl : len = 3 := Nat.eq_of_beq_eq_true hk2.1
    change zcall true (zown m) n pc st = _ at hx
    obtain ⟨m', n0, as, rest, rfl, hz, h1, h2, h3, h4, h5, h6⟩ := zcall_r hx
    have h9 : m' ≠ 999 := by
      intro h
      subst h
      have h3' := h3 rfl
      unfold zrecv at h3'
      split at h3'
      · have h10 : zown 999 = 99 := by decide +kernel
        rw [h10] at h3'
        obtain ⟨fs, hkk⟩ := zcls_ok h3'
        obtain ⟨-, r, hr, -⟩ := zkind_o hkk
        cases hr
      · cases h3'
    have hk3 := hk2.2
    rw [hz] at hk3
    simp only [Bool.and_eq_true] at hk3
    rcases zK_call K with ⟨v, t1, g1, g2, g3, g4⟩ | ⟨x, rfl, g3⟩
    · exact zs_callV htr C ho hz h9 h4 (h3 rfl) h1 h2 h5 h6 (Nat.le_of_ble_eq_true hk3.1) (Nat.le_of_ble_eq_true hk3.2) hd g1 g2 g3 g4
    · exact zs_thrV htr C ho hz h9 h4 (h3 rfl) h1 h2 h5 h6 (Nat.le_of_ble_eq_true hk3.1) (Nat.le_of_ble_eq_true hk3.2) hd g3
  | new n =>
    have hk2 := Bool.and_eq_true_iff.mp hk
    obtain rfl : len = 3 := Nat.eq_of_beq_eq_true hk2.1
    have hk3 := hk2.2
    change (match znew (zown m) n with
      | some 0 => match st with
        | .inl x :: .inr (some (2, 0)) :: r => if Nat.ble r.length 4 = true then zgd (decide (x = nI (t.2 + 1) ∧ t.2 + 1 < 1145)) (pc + 8) ls r (zrow t.1 (t.2 + 1), t.2 + 1) else none
        | _ => none
      | some (x + 1) => if Nat.ble st.length 4 = true then zend (.inr x) t else none
      | none => none) = _ at hx
    split at hx
    · rename_i hz
      split at hx
      · rename_i x r
        split at hx
        · rename_i hr
          obtain rfl := zgd_r hx
          rw [hz] at hk3
          have hb := (zK_gd K).1
          exact zs_row C hk3 hd hi (of_decide_eq_true hb).1 (of_decide_eq_true hb).2 (Nat.le_of_ble_eq_true hr) (zK_md K) (zK_gd K).2
        · cases hx
      · cases hx
    · rename_i x hz
      split at hx
      · rename_i hst
        obtain rfl := zend_r hx
        obtain ⟨rfl, rfl⟩ := zK_end K
        rw [hz] at hk3
        have hk4 := Bool.and_eq_true_iff.mp hk3
        have hk5 := Bool.and_eq_true_iff.mp hk4.1
        have hk6 := hk5.1
        split at hk6
        · rename_i ic h3 h4 h7
          exact zs_thr C (zx_ok _ (of_decide_eq_true hk6)) hd (hi h3) (hi h4) (hi h7) (Nat.le_of_ble_eq_true hk5.2) (Nat.le_of_ble_eq_true hk4.2) (Nat.le_of_ble_eq_true hst)
        · cases hk6
      · cases hx
    · cases hx
  | tableswitch d lo hi offs =>
    have hk2 := Bool.and_eq_true_iff.mp hk
    match st, hx with
    | .inl x :: r, hx =>
      change (match zsw d lo hi offs x with
        | some off => zgo (ztgt pc off) ls r t
        | none => none) = _ at hx
      split at hx
      · rename_i off hz
        obtain rfl := zgo_r hx
        replace K := zK_go K
        refine zs_tsw C hz ?_ hd K
        unfold zsw at hz
        split at hz
        · cases hz
          exact of_decide_eq_true hk2.1
        · have hmem : off ∈ offs.toList := by
            have := Array.mem_of_getElem? hz
            simpa using this
          exact of_decide_eq_true (List.all_eq_true.mp hk2.2 off hmem)
      · cases hx
  | lookupswitch d ps =>
    have hk2 := Bool.and_eq_true_iff.mp hk
    have hk3 := Bool.and_eq_true_iff.mp hk2.1
    match st, hx with
    | .inl x :: r, hx =>
      obtain rfl := zgo_r hx
      replace K := zK_go K
      refine zs_lsw C hk2.2 ?_ hd K
      have key : ∀ l : List (Int × Int), (∀ q ∈ l, 0 ≤ (pc : Int) + q.2) → 0 ≤ (pc : Int) + Op.lookupswitch.offset l d x.toInt := by
        intro l
        induction l with
        | nil => intro _; exact of_decide_eq_true hk3.1
        | cons q r ih =>
          intro hq
          obtain ⟨a, b⟩ := q
          rw [Op.lookupswitch.offset_cons]
          split
          · exact hq (a, b) List.mem_cons_self
          · exact ih fun q hq' => hq q (List.mem_cons_of_mem _ hq')
      exact key _ fun q hq => of_decide_eq_true (List.all_eq_true.mp hk3.2 q hq)
  | ifCond q off =>
    have hk2 := Bool.and_eq_true_iff.mp hk
    obtain rfl : len = 3 := Nat.eq_of_beq_eq_true hk2.1
    match st, hx with
    | .inl x :: r, hx =>
      obtain rfl := zbr_r hx
      exact zs_if C (of_decide_eq_true hk2.2) hd (zK_br K).1 (zK_br K).2
  | if_icmp q off =>
    have hk2 := Bool.and_eq_true_iff.mp hk
    obtain rfl : len = 3 := Nat.eq_of_beq_eq_true hk2.1
    match st, hx with
    | .inl y :: .inl x :: r, hx =>
      obtain rfl := zbr_r hx
      exact zs_cmp C (of_decide_eq_true hk2.2) hd (zK_br K).1 (zK_br K).2
  | ireturn =>
    obtain rfl : len = 1 := Nat.eq_of_beq_eq_true hk
    change (match st with
      | [.inl x] => match zrt m with
        | some .int => zend (.inl (some (.inl x))) t
        | some .boolean => if x = 0 ∨ x = 1 then zend (.inl (some (.inl x))) t else none
        | _ => none
      | _ => none) = _ at hx
    split at hx
    · split at hx
      · rename_i hr
        obtain rfl := zend_r hx
        obtain ⟨rfl, rfl⟩ := zK_end K
        exact zs_ret C (Or.inl hr) hd
      · rename_i hr
        split at hx
        · rename_i hb
          obtain rfl := zend_r hx
          obtain ⟨rfl, rfl⟩ := zK_end K
          exact zs_ret C (Or.inr ⟨hr, hb⟩) hd
        · cases hx
      · cases hx
    · cases hx
  | areturn =>
    obtain rfl : len = 1 := Nat.eq_of_beq_eq_true hk
    change (match st with
      | [.inr (some r)] => match zrt m with
        | some (.object _) => zend (.inl (some (.inr (some r)))) t
        | some (.array _) => zend (.inl (some (.inr (some r)))) t
        | _ => none
      | _ => none) = _ at hx
    split at hx
    · split at hx
      · rename_i hr
        obtain rfl := zend_r hx
        obtain ⟨rfl, rfl⟩ := zK_end K
        exact zs_aret C hr (Or.inl ⟨_, rfl⟩) hd
      · rename_i hr
        obtain rfl := zend_r hx
        obtain ⟨rfl, rfl⟩ := zK_end K
        exact zs_aret C hr (Or.inr ⟨_, rfl⟩) hd
      · cases hx
    · cases hx
  | return_ =>
    obtain rfl : len = 1 := Nat.eq_of_beq_eq_true hk
    change (match st with
      | [] => match zrt m with
        | none => zend (.inl none) t
        | some _ => none
      | _ => none) = _ at hx
    split at hx
    · split at hx
      · rename_i hr
        obtain rfl := zend_r hx
        obtain ⟨rfl, rfl⟩ := zK_end K
        exact zs_vret C hr hd
      · cases hx
    · cases hx
  | _ => cases hx
end ZS
end
section
/-! The theorem: what the small machine does, the machine does. -/
def zmd (md : Nat) (r : zR) : Prop := match r with
  | .inl (_, c) => md ≤ c.2.2.2.2
  | .inr (.inl (_, t)) => md ≤ t.2
  | _ => True
theorem zmd_of {own pc len : Nat} {rt : Option FieldType} {i : Instr} {ls : List (Option zV)} {st : List zV} {t : zT} {r : zR} (h : zex own rt pc len i ls st t = some r) : zmd t.2 r := by
  cases i
  all_goals first
    | (cases h; done)
    | skip
  all_goals simp only [zex, zil, zal, zis, zas, zari, zmono, zload, zstore, zcall, zgo, zgd, zbr, zend] at h
  all_goals (repeat' split at h)
  all_goals first
    | (cases h; done)
    | (cases h; exact Nat.le_refl _)
    | (cases h; exact Nat.le_succ _)
    | (cases h; exact trivial)
theorem zrun_md : ∀ (n m : Nat) (c : zC) (o : zO) (t' : zT), zrun n m c = some (o, t') → c.2.2.2.2 ≤ t'.2
  | 0, _, _, _, _, h => by cases h
  | n + 1, m, (pc, ls, st, t), o, t', h => by
    rw [zrun_s] at h
    cases hz : zone m (pc, ls, st, t) with
    | none => rw [hz] at h; cases h
    | some r =>
      rw [hz] at h
      have hmd : zmd t.2 r := by
        unfold zone at hz
        dsimp only at hz
        split at hz
        · exact zmd_of hz
        · cases hz
      rcases r with ⟨b, c'⟩ | ⟨o1, t1⟩ | ⟨b, p1, p2, st'⟩ | ⟨m', as, rest, pc'⟩
      · dsimp only at h
        cases b with
        | false => cases h
        | true => exact Nat.le_trans hmd (zrun_md n m c' o t' h)
      · cases h
        exact hmd
      · dsimp only at h
        cases b with
        | false => exact zrun_md n m (p2, ls, st', t) o t' h
        | true => exact zrun_md n m (p1, ls, st', t) o t' h
      · dsimp only at h
        cases hc : zrun n m' (0, zent m' as, [], t) with
        | none => rw [hc] at h; cases h
        | some q =>
          obtain ⟨o1, t1⟩ := q
          rw [hc] at h
          have h1 := zrun_md n m' _ o1 t1 hc
          cases o1 with
          | inl v => exact Nat.le_trans h1 (zrun_md n m (pc', ls, zpush v rest, t1) o t' h)
          | inr x =>
            cases h
            exact h1
theorem zsound {l : Launch} (htr : ∀ e, l.admits e → e.platform.stackTraces = false) (D : va_G) (ty : Nat → ClassId) : ∀ (n m pc : Nat) (ls : List (Option zV)) (st : List zV) (t : zT) (o : zO) (t' : zT), zrun n m (pc, ls, st, t) = some (o, t') →
    ∀ (p : Program) (e : Env) (R : Room) (s : State) (m0 : MethodId) (args : Array Value) (below : List Frame) (meth : Method) (c : Code) (A : Nat → Prop), zCx p l e R s m0 args meth c D ty A m → zOK p l e R s m0 args below meth c D ty A m pc ls st t o t'
  | 0, _, _, _, _, _, _, _, h => by cases h
  | n + 1, m, pc, ls, st, t, o, t', h => by
    intro p e R s m0 args below meth c A C
    rw [zrun_s] at h
    cases hz : zone m (pc, ls, st, t) with
    | none => rw [hz] at h; cases h
    | some r =>
      rw [hz] at h
      unfold zone at hz
      dsimp only at hz
      split at hz
      · rename_i i len hi
        obtain ⟨hm, hd, hk⟩ := zins_ok hi
        refine zstep htr C (zm_ok hm).2.2.2.2.2.2.2.1 hd hk (fun hq => (zins_ok hq).2.1) hz ?_
        rcases r with ⟨b, pc', ls', st', t1⟩ | ⟨o1, t1⟩ | ⟨b, p1, p2, st'⟩ | ⟨m', as, rest, pc'⟩
        · dsimp only at h
          cases b with
          | false => cases h
          | true => exact ⟨rfl, zrun_md n m _ o t' h, zsound htr D ty n m pc' ls' st' t1 o t' h p e R s m0 args below meth c A C⟩
        · cases h
          exact ⟨rfl, rfl⟩
        · dsimp only at h
          refine ⟨fun hb => ?_, fun hb => ?_⟩
          · subst hb
            exact zsound htr D ty n m p1 ls st' t o t' h p e R s m0 args below meth c A C
          · subst hb
            exact zsound htr D ty n m p2 ls st' t o t' h p e R s m0 args below meth c A C
        · dsimp only at h
          cases hc : zrun n m' (0, zent m' as, [], t) with
          | none => rw [hc] at h; cases h
          | some q =>
            obtain ⟨o1, t1⟩ := q
            rw [hc] at h
            cases o1 with
            | inl v => exact Or.inl ⟨v, t1, zrun_md n m' _ _ t1 hc, zrun_md n m _ o t' h, fun p e R s m0 args below meth c A C => zsound htr D ty n m' 0 (zent m' as) [] t (.inl v) t1 hc p e R s m0 args below meth c A C, zsound htr D ty n m pc' ls (zpush v rest) t1 o t' h p e R s m0 args below meth c A C⟩
            | inr x =>
              cases h
              exact Or.inr ⟨x, rfl, fun p e R s m0 args below meth c A C => zsound htr D ty n m' 0 (zent m' as) [] t (.inr x) t' hc p e R s m0 args below meth c A C⟩
      · cases hz
end
section
/-! Rules that the printed rows of the methods use. -/
theorem zwp_ldx {m n j cd i pc' : Nat} {x : Int32} {c : zC} {ls : List (Option zV)} {r : List zV} {t : zT} {Q : zO → zT → Prop} (hz : zone m c = some (.inl (zin x n, pc', ls, .inl (t.1 cd i x.toNatClampNeg) :: r, t))) (hx : x = nI j) (hj : j < n) (hn : n < 2 ^ 31) (h : zwp m (pc', ls, .inl (t.1 cd i j) :: r, t) Q) : zwp m c Q := by
  rw [hx] at hz
  exact zwp_ld hz hj hn h
theorem zwp_stx {m n j cd i pc' : Nat} {x v : Int32} {c : zC} {ls : List (Option zV)} {r : List zV} {t : zT} {Q : zO → zT → Prop} (hz : zone m c = some (.inl (zin x n, pc', ls, r, (zu t.1 cd i x.toNatClampNeg v, t.2)))) (hx : x = nI j) (hj : j < n) (hn : n < 2 ^ 31) (h : zwp m (pc', ls, r, (zu t.1 cd i j v, t.2)) Q) : zwp m c Q := by
  rw [hx] at hz
  exact zwp_st hz hj hn h
theorem zwp_aldx {m n j k pc' : Nat} {x : Int32} {c : zC} {ls : List (Option zV)} {r : List zV} {t : zT} {Q : zO → zT → Prop} (hz : zone m c = some (.inl (zin x n, pc', ls, .inr (zel t.2 k x.toNatClampNeg) :: r, t))) (hx : x = nI j) (hj : j < n) (hn : n < 2 ^ 31) (hk : zok t.2 k j = true) (h : zwp m (pc', ls, .inr (some (k, j)) :: r, t) Q) : zwp m c Q := by
  rw [hx] at hz
  exact zwp_ald hz hj hn hk h
theorem zwp_aldn {m n j k pc' : Nat} {x : Int32} {c : zC} {ls : List (Option zV)} {r : List zV} {t : zT} {Q : zO → zT → Prop} (hz : zone m c = some (.inl (zin x n, pc', ls, .inr (zel t.2 k x.toNatClampNeg) :: r, t))) (hx : x = nI j) (hj : j < n) (hn : n < 2 ^ 31) (hk : zok t.2 k j = false) (h : zwp m (pc', ls, .inr none :: r, t) Q) : zwp m c Q := by
  rw [hx] at hz
  exact zwp_ald0 hz hj hn hk h
theorem zok_8 {d j : Nat} (h : j < 4) : zok d 8 j = true := by
  unfold zok
  rw [if_neg (by decide)]
  exact decide_eq_true h
theorem zok_11 {d j : Nat} (h : j < 40) : zok d 11 j = true := by
  unfold zok
  rw [if_neg (by decide)]
  exact decide_eq_true h
theorem zok_3 {d j : Nat} (h : 1 ≤ j ∧ j ≤ d) : zok d 3 j = true := by
  unfold zok
  rw [if_pos rfl]
  exact decide_eq_true h
theorem zok_n3 {d j : Nat} (h : ¬ (1 ≤ j ∧ j ≤ d)) : zok d 3 j = false := by
  unfold zok
  rw [if_pos rfl]
  exact decide_eq_false h
theorem zne_t {x y : Int32} (h : zcmp .ne x y = true) : ¬ x = y := of_decide_eq_true h
theorem zne_f {x y : Int32} (h : zcmp .ne x y = false) : x = y := Decidable.not_not.mp (of_decide_eq_false h)
theorem zwp_ret01 {m : Nat} {c : zC} {x : Int32} {o : zO} {t : zT} {Q : zO → zT → Prop} (hz : zone m c = if x = 0 ∨ x = 1 then zend o t else none) (hx : x = 0 ∨ x = 1) (h : Q o t) : zwp m c Q := by
  rw [if_pos hx] at hz
  exact zwp_end hz h
theorem zwp_sw {m pc pc' : Nat} {d lo hi off : Int} {offs : Array Int} {x : Int32} {c : zC} {ls : List (Option zV)} {r : List zV} {t : zT} {Q : zO → zT → Prop} (hz : zone m c = match zsw d lo hi offs x with
    | some off => zgo (ztgt pc off) ls r t
    | none => none) (hs : zsw d lo hi offs x = some off) (hp : ztgt pc off = pc') (h : zwp m (pc', ls, r, t) Q) : zwp m c Q := by
  rw [hs] at hz
  rw [← hp] at h
  exact zwp_grd hz rfl h
theorem zsw_d {d lo hi : Int} {offs : Array Int} {x : Int32} {a b : Nat} (hlo : lo = (a : Int)) (hhi : hi = (b : Int)) (h : ∀ k : Nat, a ≤ k → k ≤ b → ¬ x = nI k) : zsw d lo hi offs x = some d := by
  unfold zsw
  rw [if_pos]
  by_cases h1 : x.toInt < lo
  · exact Or.inl h1
  · by_cases h2 : hi < x.toInt
    · exact Or.inr h2
    · exfalso
      have h3 := Int32.toInt_lt x
      have h4 : x.toInt < 2 ^ 31 := h3
      refine h x.toInt.toNat (by omega) (by omega) (Int32.toInt_inj.mp ?_)
      rw [nI_toInt (by omega)]
      omega
end
section
-- 39 PageKeeper$Log.add
theorem w39_0 {S : zS} {d : Nat} {Q : zO → zT → Prop} {x1 : Int32} {x2 : Int32} {x3 : Int32} {x4 : Int32} (h : ((nI 1144) ≤ (S 65 0 0) → zwp 39 (20, [some (.inr (some (1, 0))), some (.inl x1), some (.inl x2), some (.inl x3), some (.inl x4), none], [], (S, d)) Q) ∧ (¬ (nI 1144) ≤ (S 65 0 0) → zwp 39 (20, [some (.inr (some (1, 0))), some (.inl x1), some (.inl x2), some (.inl x3), some (.inl x4), none], [], (zu S 65 0 0 ((S 65 0 0) + (nI 1)), d)) Q)) : zwp 39 (0, [some (.inr (some (1, 0))), some (.inl x1), some (.inl x2), some (.inl x3), some (.inl x4), none], [], (S, d)) Q := by
  refine zwp_blk 3 (c' := (7, [some (.inr (some (1, 0))), some (.inl x1), some (.inl x2), some (.inl x3), some (.inl x4), none], [.inl (nI 1144), .inl (S 65 0 0)], (S, d))) rfl ?_
  refine zwp_br rfl (fun hb => ?_) (fun hb => ?_)
  · show zwp 39 (20, [some (.inr (some (1, 0))), some (.inl x1), some (.inl x2), some (.inl x3), some (.inl x4), none], [], (S, d)) Q
    replace h := h.1 (of_decide_eq_true hb)
    exact h
  · show zwp 39 (10, [some (.inr (some (1, 0))), some (.inl x1), some (.inl x2), some (.inl x3), some (.inl x4), none], [], (S, d)) Q
    replace h := h.2 (of_decide_eq_false hb)
    refine zwp_blk 6 (c' := (20, [some (.inr (some (1, 0))), some (.inl x1), some (.inl x2), some (.inl x3), some (.inl x4), none], [], (zu S 65 0 0 ((S 65 0 0) + (nI 1)), d))) rfl ?_
    exact h
theorem w39_20 {S : zS} {d : Nat} {Q : zO → zT → Prop} {x1 : Int32} {x2 : Int32} {x3 : Int32} {x4 : Int32} (h : ∃ j1 : Nat, S 65 0 0 = nI j1 ∧ j1 < 1145 ∧ ((1 ≤ j1 ∧ j1 ≤ d → zwp 39 (48, [some (.inr (some (1, 0))), some (.inl x1), some (.inl x2), some (.inl x3), some (.inl x4), none], [], (S, d)) Q) ∧ (¬ (1 ≤ j1 ∧ j1 ≤ d) → (S 65 0 0 = nI (d + 1) ∧ d + 1 < 1145) ∧ (zwp 39 (48, [some (.inr (some (1, 0))), some (.inl x1), some (.inl x2), some (.inl x3), some (.inl x4), none], [], (zrow S (d + 1), d + 1)) Q)))) : zwp 39 (20, [some (.inr (some (1, 0))), some (.inl x1), some (.inl x2), some (.inl x3), some (.inl x4), none], [], (S, d)) Q := by
  refine zwp_blk 4 (c' := (28, [some (.inr (some (1, 0))), some (.inl x1), some (.inl x2), some (.inl x3), some (.inl x4), none], [.inl (S 65 0 0), .inr (some (2, 0))], (S, d))) rfl ?_
  obtain ⟨j1, ej1, lj1, h⟩ := h
  by_cases hz : 1 ≤ j1 ∧ j1 ≤ d
  · replace h := h.1 hz
    refine zwp_aldx (n := 1145) (k := 3) (pc' := 29) (ls := [some (.inr (some (1, 0))), some (.inl x1), some (.inl x2), some (.inl x3), some (.inl x4), none]) (r := []) (t := (S, d)) rfl ej1 lj1 (by decide) (zok_3 hz) ?_
    refine zwp_blk 1 (c' := (48, [some (.inr (some (1, 0))), some (.inl x1), some (.inl x2), some (.inl x3), some (.inl x4), none], [], (S, d))) rfl ?_
    exact h
  · replace h := h.2 hz
    refine zwp_aldn (n := 1145) (k := 3) (pc' := 29) (ls := [some (.inr (some (1, 0))), some (.inl x1), some (.inl x2), some (.inl x3), some (.inl x4), none]) (r := []) (t := (S, d)) rfl ej1 lj1 (by decide) (zok_n3 hz) ?_
    refine zwp_blk 1 (c' := (32, [some (.inr (some (1, 0))), some (.inl x1), some (.inl x2), some (.inl x3), some (.inl x4), none], [], (S, d))) rfl ?_
    refine zwp_blk 4 (c' := (40, [some (.inr (some (1, 0))), some (.inl x1), some (.inl x2), some (.inl x3), some (.inl x4), none], [.inl (S 65 0 0), .inr (some (2, 0))], (S, d))) rfl ?_
    refine zwp_grd (c' := (48, [some (.inr (some (1, 0))), some (.inl x1), some (.inl x2), some (.inl x3), some (.inl x4), none], [], (zrow S (d + 1), d + 1))) rfl (decide_eq_true h.1) ?_
    replace h := h.2
    exact h
theorem w39_48 {S : zS} {d : Nat} {Q : zO → zT → Prop} {x1 : Int32} {x2 : Int32} {x3 : Int32} {x4 : Int32} (h : ∃ j1 : Nat, S 65 0 0 = nI j1 ∧ j1 < 1145 ∧ (1 ≤ j1 ∧ j1 ≤ d) ∧ ((((zu (zu (zu (zu (zu (zu (zu S 192 j1 0 (S 65 0 0)) 193 j1 0 x1) 194 j1 0 x2) 195 j1 0 x3) 196 j1 0 x4) 197 j1 0 (nI 0)) 198 j1 0 (nI 0)) 67 0 0) ≤ ((zu (zu (zu (zu (zu (zu (zu S 192 j1 0 (S 65 0 0)) 193 j1 0 x1) 194 j1 0 x2) 195 j1 0 x3) 196 j1 0 x4) 197 j1 0 (nI 0)) 198 j1 0 (nI 0)) 65 0 0) → Q (.inl (some (.inr (some (3, j1))))) (zu (zu (zu (zu (zu (zu (zu (zu S 192 j1 0 (S 65 0 0)) 193 j1 0 x1) 194 j1 0 x2) 195 j1 0 x3) 196 j1 0 x4) 197 j1 0 (nI 0)) 198 j1 0 (nI 0)) 199 j1 0 ((zu (zu (zu (zu (zu (zu (zu S 192 j1 0 (S 65 0 0)) 193 j1 0 x1) 194 j1 0 x2) 195 j1 0 x3) 196 j1 0 x4) 197 j1 0 (nI 0)) 198 j1 0 (nI 0)) 65 0 0), d)) ∧ (¬ ((zu (zu (zu (zu (zu (zu (zu S 192 j1 0 (S 65 0 0)) 193 j1 0 x1) 194 j1 0 x2) 195 j1 0 x3) 196 j1 0 x4) 197 j1 0 (nI 0)) 198 j1 0 (nI 0)) 67 0 0) ≤ ((zu (zu (zu (zu (zu (zu (zu S 192 j1 0 (S 65 0 0)) 193 j1 0 x1) 194 j1 0 x2) 195 j1 0 x3) 196 j1 0 x4) 197 j1 0 (nI 0)) 198 j1 0 (nI 0)) 65 0 0) → Q (.inl (some (.inr (some (3, j1))))) (zu (zu (zu (zu (zu (zu (zu (zu S 192 j1 0 (S 65 0 0)) 193 j1 0 x1) 194 j1 0 x2) 195 j1 0 x3) 196 j1 0 x4) 197 j1 0 (nI 0)) 198 j1 0 (nI 0)) 199 j1 0 ((zu (zu (zu (zu (zu (zu (zu S 192 j1 0 (S 65 0 0)) 193 j1 0 x1) 194 j1 0 x2) 195 j1 0 x3) 196 j1 0 x4) 197 j1 0 (nI 0)) 198 j1 0 (nI 0)) 67 0 0), d)))) : zwp 39 (48, [some (.inr (some (1, 0))), some (.inl x1), some (.inl x2), some (.inl x3), some (.inl x4), none], [], (S, d)) Q := by
  refine zwp_blk 4 (c' := (56, [some (.inr (some (1, 0))), some (.inl x1), some (.inl x2), some (.inl x3), some (.inl x4), none], [.inl (S 65 0 0), .inr (some (2, 0))], (S, d))) rfl ?_
  obtain ⟨j1, ej1, lj1, h⟩ := h
  refine zwp_aldx (n := 1145) (k := 3) (pc' := 57) (ls := [some (.inr (some (1, 0))), some (.inl x1), some (.inl x2), some (.inl x3), some (.inl x4), none]) (r := []) (t := (S, d)) rfl ej1 lj1 (by decide) (zok_3 h.1) ?_
  replace h := h.2
  refine zwp_blk 22 (c' := (102, [some (.inr (some (1, 0))), some (.inl x1), some (.inl x2), some (.inl x3), some (.inl x4), some (.inr (some (3, j1)))], [.inl (nI 0), .inr (some (3, j1))], (zu (zu (zu (zu (zu (zu S 192 j1 0 (S 65 0 0)) 193 j1 0 x1) 194 j1 0 x2) 195 j1 0 x3) 196 j1 0 x4) 197 j1 0 (nI 0), d))) rfl ?_
  refine zwp_grd (c' := (105, [some (.inr (some (1, 0))), some (.inl x1), some (.inl x2), some (.inl x3), some (.inl x4), some (.inr (some (3, j1)))], [], (zu (zu (zu (zu (zu (zu (zu S 192 j1 0 (S 65 0 0)) 193 j1 0 x1) 194 j1 0 x2) 195 j1 0 x3) 196 j1 0 x4) 197 j1 0 (nI 0)) 198 j1 0 (nI 0), d))) rfl (by decide) ?_
  refine zwp_blk 5 (c' := (115, [some (.inr (some (1, 0))), some (.inl x1), some (.inl x2), some (.inl x3), some (.inl x4), some (.inr (some (3, j1)))], [.inl ((zu (zu (zu (zu (zu (zu (zu S 192 j1 0 (S 65 0 0)) 193 j1 0 x1) 194 j1 0 x2) 195 j1 0 x3) 196 j1 0 x4) 197 j1 0 (nI 0)) 198 j1 0 (nI 0)) 67 0 0), .inl ((zu (zu (zu (zu (zu (zu (zu S 192 j1 0 (S 65 0 0)) 193 j1 0 x1) 194 j1 0 x2) 195 j1 0 x3) 196 j1 0 x4) 197 j1 0 (nI 0)) 198 j1 0 (nI 0)) 65 0 0), .inr (some (3, j1))], (zu (zu (zu (zu (zu (zu (zu S 192 j1 0 (S 65 0 0)) 193 j1 0 x1) 194 j1 0 x2) 195 j1 0 x3) 196 j1 0 x4) 197 j1 0 (nI 0)) 198 j1 0 (nI 0), d))) rfl ?_
  refine zwp_br rfl (fun hb => ?_) (fun hb => ?_)
  · show zwp 39 (125, [some (.inr (some (1, 0))), some (.inl x1), some (.inl x2), some (.inl x3), some (.inl x4), some (.inr (some (3, j1)))], [.inr (some (3, j1))], (zu (zu (zu (zu (zu (zu (zu S 192 j1 0 (S 65 0 0)) 193 j1 0 x1) 194 j1 0 x2) 195 j1 0 x3) 196 j1 0 x4) 197 j1 0 (nI 0)) 198 j1 0 (nI 0), d)) Q
    replace h := h.1 (of_decide_eq_true hb)
    refine zwp_blk 4 (c' := (134, [some (.inr (some (1, 0))), some (.inl x1), some (.inl x2), some (.inl x3), some (.inl x4), some (.inr (some (3, j1)))], [.inr (some (3, j1))], (zu (zu (zu (zu (zu (zu (zu (zu S 192 j1 0 (S 65 0 0)) 193 j1 0 x1) 194 j1 0 x2) 195 j1 0 x3) 196 j1 0 x4) 197 j1 0 (nI 0)) 198 j1 0 (nI 0)) 199 j1 0 ((zu (zu (zu (zu (zu (zu (zu S 192 j1 0 (S 65 0 0)) 193 j1 0 x1) 194 j1 0 x2) 195 j1 0 x3) 196 j1 0 x4) 197 j1 0 (nI 0)) 198 j1 0 (nI 0)) 65 0 0), d))) rfl ?_
    exact zwp_end rfl h
  · show zwp 39 (118, [some (.inr (some (1, 0))), some (.inl x1), some (.inl x2), some (.inl x3), some (.inl x4), some (.inr (some (3, j1)))], [.inr (some (3, j1))], (zu (zu (zu (zu (zu (zu (zu S 192 j1 0 (S 65 0 0)) 193 j1 0 x1) 194 j1 0 x2) 195 j1 0 x3) 196 j1 0 x4) 197 j1 0 (nI 0)) 198 j1 0 (nI 0), d)) Q
    replace h := h.2 (of_decide_eq_false hb)
    refine zwp_blk 5 (c' := (134, [some (.inr (some (1, 0))), some (.inl x1), some (.inl x2), some (.inl x3), some (.inl x4), some (.inr (some (3, j1)))], [.inr (some (3, j1))], (zu (zu (zu (zu (zu (zu (zu (zu S 192 j1 0 (S 65 0 0)) 193 j1 0 x1) 194 j1 0 x2) 195 j1 0 x3) 196 j1 0 x4) 197 j1 0 (nI 0)) 198 j1 0 (nI 0)) 199 j1 0 ((zu (zu (zu (zu (zu (zu (zu S 192 j1 0 (S 65 0 0)) 193 j1 0 x1) 194 j1 0 x2) 195 j1 0 x3) 196 j1 0 x4) 197 j1 0 (nI 0)) 198 j1 0 (nI 0)) 67 0 0), d))) rfl ?_
    exact zwp_end rfl h
-- 40 PageKeeper$Log.startSplit
theorem w40_0 {S : zS} {d : Nat} {Q : zO → zT → Prop}  (h : Q (.inl none) (zu S 67 0 0 ((S 65 0 0) + (nI 3)), d)) : zwp 40 (0, [some (.inr (some (1, 0)))], [], (S, d)) Q := by
  refine zwp_blk 6 (c' := (10, [some (.inr (some (1, 0)))], [], (zu S 67 0 0 ((S 65 0 0) + (nI 3)), d))) rfl ?_
  exact zwp_end rfl h
-- 41 PageKeeper$Log.force
theorem w41_0 {S : zS} {d : Nat} {Q : zO → zT → Prop} {x1 : Int32} (h : (x1 ≤ 0 → Q (.inl none) (S, d)) ∧ (¬ x1 ≤ 0 → ((S 65 0 0) < x1 → Q (.inl none) (S, d)) ∧ (¬ (S 65 0 0) < x1 → ∃ j1 : Nat, x1 = nI j1 ∧ j1 < 1145 ∧ (1 ≤ j1 ∧ j1 ≤ d) ∧ (((S 199 j1 0) ≤ (S 66 0 0) → Q (.inl none) (S, d)) ∧ (¬ (S 199 j1 0) ≤ (S 66 0 0) → ∃ j2 : Nat, x1 = nI j2 ∧ j2 < 1145 ∧ (1 ≤ j2 ∧ j2 ≤ d) ∧ (Q (.inl none) (zu S 66 0 0 (S 199 j2 0), d))))))) : zwp 41 (0, [some (.inr (some (1, 0))), some (.inl x1)], [], (S, d)) Q := by
  refine zwp_blk 1 (c' := (1, [some (.inr (some (1, 0))), some (.inl x1)], [.inl x1], (S, d))) rfl ?_
  refine zwp_br rfl (fun hb => ?_) (fun hb => ?_)
  · show zwp 41 (41, [some (.inr (some (1, 0))), some (.inl x1)], [], (S, d)) Q
    replace h := h.1 (of_decide_eq_true hb)
    exact zwp_end rfl h
  · show zwp 41 (4, [some (.inr (some (1, 0))), some (.inl x1)], [], (S, d)) Q
    replace h := h.2 (of_decide_eq_false hb)
    refine zwp_blk 3 (c' := (9, [some (.inr (some (1, 0))), some (.inl x1)], [.inl (S 65 0 0), .inl x1], (S, d))) rfl ?_
    refine zwp_br rfl (fun hb => ?_) (fun hb => ?_)
    · show zwp 41 (41, [some (.inr (some (1, 0))), some (.inl x1)], [], (S, d)) Q
      replace h := h.1 (of_decide_eq_true hb)
      exact zwp_end rfl h
    · show zwp 41 (12, [some (.inr (some (1, 0))), some (.inl x1)], [], (S, d)) Q
      replace h := h.2 (of_decide_eq_false hb)
      refine zwp_blk 3 (c' := (17, [some (.inr (some (1, 0))), some (.inl x1)], [.inl x1, .inr (some (2, 0))], (S, d))) rfl ?_
      obtain ⟨j1, ej1, lj1, h⟩ := h
      refine zwp_aldx (n := 1145) (k := 3) (pc' := 18) (ls := [some (.inr (some (1, 0))), some (.inl x1)]) (r := []) (t := (S, d)) rfl ej1 lj1 (by decide) (zok_3 h.1) ?_
      replace h := h.2
      refine zwp_blk 3 (c' := (25, [some (.inr (some (1, 0))), some (.inl x1)], [.inl (S 66 0 0), .inl (S 199 j1 0)], (S, d))) rfl ?_
      refine zwp_br rfl (fun hb => ?_) (fun hb => ?_)
      · show zwp 41 (41, [some (.inr (some (1, 0))), some (.inl x1)], [], (S, d)) Q
        replace h := h.1 (of_decide_eq_true hb)
        exact zwp_end rfl h
      · show zwp 41 (28, [some (.inr (some (1, 0))), some (.inl x1)], [], (S, d)) Q
        replace h := h.2 (of_decide_eq_false hb)
        refine zwp_blk 4 (c' := (34, [some (.inr (some (1, 0))), some (.inl x1)], [.inl x1, .inr (some (2, 0)), .inr (some (1, 0))], (S, d))) rfl ?_
        obtain ⟨j2, ej2, lj2, h⟩ := h
        refine zwp_aldx (n := 1145) (k := 3) (pc' := 35) (ls := [some (.inr (some (1, 0))), some (.inl x1)]) (r := [.inr (some (1, 0))]) (t := (S, d)) rfl ej2 lj2 (by decide) (zok_3 h.1) ?_
        replace h := h.2
        refine zwp_blk 2 (c' := (41, [some (.inr (some (1, 0))), some (.inl x1)], [], (zu S 66 0 0 (S 199 j2 0), d))) rfl ?_
        exact zwp_end rfl h
-- 42 PageKeeper$Log.loseUnforced
theorem w42_0 {S : zS} {d : Nat} {Q : zO → zT → Prop}  (h : Q (.inl none) (zu (zu S 65 0 0 (S 66 0 0)) 67 0 0 (nI 0), d)) : zwp 42 (0, [some (.inr (some (1, 0)))], [], (S, d)) Q := by
  refine zwp_blk 7 (c' := (13, [some (.inr (some (1, 0)))], [], (zu (zu S 65 0 0 (S 66 0 0)) 67 0 0 (nI 0), d))) rfl ?_
  exact zwp_end rfl h
-- 43 PageKeeper$LogRow.bringHalf
theorem w43_0 {S : zS} {d : Nat} {Q : zO → zT → Prop} {x0 : Nat} {x1 : Nat} {x2 : Int32} (h : (x2 < 0 → Q (.inl none) (S, d)) ∧ (¬ x2 < 0 → (x2 ≤ (nI 2) → ((S 768 x1 0) = 0 ∨ (S 768 x1 0) = 1) ∧ (∃ j1 : Nat, x2 = nI j1 ∧ j1 < 4 ∧ (∃ j2 : Nat, x2 = nI j2 ∧ j2 < 4 ∧ (∃ j3 : Nat, x2 + (nI 1) = nI j3 ∧ j3 < 4 ∧ (∃ j4 : Nat, x2 + (nI 1) = nI j4 ∧ j4 < 4 ∧ (Q (.inl none) (zu (zu (zu (zu (zu S 204 x0 0 (S 768 x1 0)) 200 x0 0 ((zu S 204 x0 0 (S 768 x1 0)) 832 x1 j1)) 201 x0 0 ((zu (zu S 204 x0 0 (S 768 x1 0)) 200 x0 0 ((zu S 204 x0 0 (S 768 x1 0)) 832 x1 j1)) 896 x1 j2)) 202 x0 0 ((zu (zu (zu S 204 x0 0 (S 768 x1 0)) 200 x0 0 ((zu S 204 x0 0 (S 768 x1 0)) 832 x1 j1)) 201 x0 0 ((zu (zu S 204 x0 0 (S 768 x1 0)) 200 x0 0 ((zu S 204 x0 0 (S 768 x1 0)) 832 x1 j1)) 896 x1 j2)) 832 x1 j3)) 203 x0 0 ((zu (zu (zu (zu S 204 x0 0 (S 768 x1 0)) 200 x0 0 ((zu S 204 x0 0 (S 768 x1 0)) 832 x1 j1)) 201 x0 0 ((zu (zu S 204 x0 0 (S 768 x1 0)) 200 x0 0 ((zu S 204 x0 0 (S 768 x1 0)) 832 x1 j1)) 896 x1 j2)) 202 x0 0 ((zu (zu (zu S 204 x0 0 (S 768 x1 0)) 200 x0 0 ((zu S 204 x0 0 (S 768 x1 0)) 832 x1 j1)) 201 x0 0 ((zu (zu S 204 x0 0 (S 768 x1 0)) 200 x0 0 ((zu S 204 x0 0 (S 768 x1 0)) 832 x1 j1)) 896 x1 j2)) 832 x1 j3)) 896 x1 j4), d))))))) ∧ (¬ x2 ≤ (nI 2) → Q (.inl none) (S, d)))) : zwp 43 (0, [some (.inr (some (3, x0))), some (.inr (some (12, x1))), some (.inl x2)], [], (S, d)) Q := by
  refine zwp_blk 1 (c' := (1, [some (.inr (some (3, x0))), some (.inr (some (12, x1))), some (.inl x2)], [.inl x2], (S, d))) rfl ?_
  refine zwp_br rfl (fun hb => ?_) (fun hb => ?_)
  · show zwp 43 (9, [some (.inr (some (3, x0))), some (.inr (some (12, x1))), some (.inl x2)], [], (S, d)) Q
    replace h := h.1 (of_decide_eq_true hb)
    exact zwp_end rfl h
  · show zwp 43 (4, [some (.inr (some (3, x0))), some (.inr (some (12, x1))), some (.inl x2)], [], (S, d)) Q
    replace h := h.2 (of_decide_eq_false hb)
    refine zwp_blk 2 (c' := (6, [some (.inr (some (3, x0))), some (.inr (some (12, x1))), some (.inl x2)], [.inl (nI 2), .inl x2], (S, d))) rfl ?_
    refine zwp_br rfl (fun hb => ?_) (fun hb => ?_)
    · show zwp 43 (10, [some (.inr (some (3, x0))), some (.inr (some (12, x1))), some (.inl x2)], [], (S, d)) Q
      replace h := h.1 (of_decide_eq_true hb)
      refine zwp_blk 3 (c' := (15, [some (.inr (some (3, x0))), some (.inr (some (12, x1))), some (.inl x2)], [.inl (S 768 x1 0), .inr (some (3, x0))], (S, d))) rfl ?_
      refine zwp_grd (c' := (18, [some (.inr (some (3, x0))), some (.inr (some (12, x1))), some (.inl x2)], [], (zu S 204 x0 0 (S 768 x1 0), d))) rfl (decide_eq_true h.1) ?_
      replace h := h.2
      refine zwp_blk 4 (c' := (24, [some (.inr (some (3, x0))), some (.inr (some (12, x1))), some (.inl x2)], [.inl x2, .inr (some (13, x1)), .inr (some (3, x0))], (zu S 204 x0 0 (S 768 x1 0), d))) rfl ?_
      obtain ⟨j1, ej1, lj1, h⟩ := h
      refine zwp_ldx (n := 4) (cd := 832) (i := x1) (pc' := 25) (ls := [some (.inr (some (3, x0))), some (.inr (some (12, x1))), some (.inl x2)]) (r := [.inr (some (3, x0))]) (t := (zu S 204 x0 0 (S 768 x1 0), d)) rfl ej1 lj1 (by decide) ?_
      refine zwp_blk 5 (c' := (34, [some (.inr (some (3, x0))), some (.inr (some (12, x1))), some (.inl x2)], [.inl x2, .inr (some (14, x1)), .inr (some (3, x0))], (zu (zu S 204 x0 0 (S 768 x1 0)) 200 x0 0 ((zu S 204 x0 0 (S 768 x1 0)) 832 x1 j1), d))) rfl ?_
      obtain ⟨j2, ej2, lj2, h⟩ := h
      refine zwp_ldx (n := 4) (cd := 896) (i := x1) (pc' := 35) (ls := [some (.inr (some (3, x0))), some (.inr (some (12, x1))), some (.inl x2)]) (r := [.inr (some (3, x0))]) (t := (zu (zu S 204 x0 0 (S 768 x1 0)) 200 x0 0 ((zu S 204 x0 0 (S 768 x1 0)) 832 x1 j1), d)) rfl ej2 lj2 (by decide) ?_
      refine zwp_blk 7 (c' := (46, [some (.inr (some (3, x0))), some (.inr (some (12, x1))), some (.inl x2)], [.inl (x2 + (nI 1)), .inr (some (13, x1)), .inr (some (3, x0))], (zu (zu (zu S 204 x0 0 (S 768 x1 0)) 200 x0 0 ((zu S 204 x0 0 (S 768 x1 0)) 832 x1 j1)) 201 x0 0 ((zu (zu S 204 x0 0 (S 768 x1 0)) 200 x0 0 ((zu S 204 x0 0 (S 768 x1 0)) 832 x1 j1)) 896 x1 j2), d))) rfl ?_
      obtain ⟨j3, ej3, lj3, h⟩ := h
      refine zwp_ldx (n := 4) (cd := 832) (i := x1) (pc' := 47) (ls := [some (.inr (some (3, x0))), some (.inr (some (12, x1))), some (.inl x2)]) (r := [.inr (some (3, x0))]) (t := (zu (zu (zu S 204 x0 0 (S 768 x1 0)) 200 x0 0 ((zu S 204 x0 0 (S 768 x1 0)) 832 x1 j1)) 201 x0 0 ((zu (zu S 204 x0 0 (S 768 x1 0)) 200 x0 0 ((zu S 204 x0 0 (S 768 x1 0)) 832 x1 j1)) 896 x1 j2), d)) rfl ej3 lj3 (by decide) ?_
      refine zwp_blk 7 (c' := (58, [some (.inr (some (3, x0))), some (.inr (some (12, x1))), some (.inl x2)], [.inl (x2 + (nI 1)), .inr (some (14, x1)), .inr (some (3, x0))], (zu (zu (zu (zu S 204 x0 0 (S 768 x1 0)) 200 x0 0 ((zu S 204 x0 0 (S 768 x1 0)) 832 x1 j1)) 201 x0 0 ((zu (zu S 204 x0 0 (S 768 x1 0)) 200 x0 0 ((zu S 204 x0 0 (S 768 x1 0)) 832 x1 j1)) 896 x1 j2)) 202 x0 0 ((zu (zu (zu S 204 x0 0 (S 768 x1 0)) 200 x0 0 ((zu S 204 x0 0 (S 768 x1 0)) 832 x1 j1)) 201 x0 0 ((zu (zu S 204 x0 0 (S 768 x1 0)) 200 x0 0 ((zu S 204 x0 0 (S 768 x1 0)) 832 x1 j1)) 896 x1 j2)) 832 x1 j3), d))) rfl ?_
      obtain ⟨j4, ej4, lj4, h⟩ := h
      refine zwp_ldx (n := 4) (cd := 896) (i := x1) (pc' := 59) (ls := [some (.inr (some (3, x0))), some (.inr (some (12, x1))), some (.inl x2)]) (r := [.inr (some (3, x0))]) (t := (zu (zu (zu (zu S 204 x0 0 (S 768 x1 0)) 200 x0 0 ((zu S 204 x0 0 (S 768 x1 0)) 832 x1 j1)) 201 x0 0 ((zu (zu S 204 x0 0 (S 768 x1 0)) 200 x0 0 ((zu S 204 x0 0 (S 768 x1 0)) 832 x1 j1)) 896 x1 j2)) 202 x0 0 ((zu (zu (zu S 204 x0 0 (S 768 x1 0)) 200 x0 0 ((zu S 204 x0 0 (S 768 x1 0)) 832 x1 j1)) 201 x0 0 ((zu (zu S 204 x0 0 (S 768 x1 0)) 200 x0 0 ((zu S 204 x0 0 (S 768 x1 0)) 832 x1 j1)) 896 x1 j2)) 832 x1 j3), d)) rfl ej4 lj4 (by decide) ?_
      refine zwp_blk 1 (c' := (62, [some (.inr (some (3, x0))), some (.inr (some (12, x1))), some (.inl x2)], [], (zu (zu (zu (zu (zu S 204 x0 0 (S 768 x1 0)) 200 x0 0 ((zu S 204 x0 0 (S 768 x1 0)) 832 x1 j1)) 201 x0 0 ((zu (zu S 204 x0 0 (S 768 x1 0)) 200 x0 0 ((zu S 204 x0 0 (S 768 x1 0)) 832 x1 j1)) 896 x1 j2)) 202 x0 0 ((zu (zu (zu S 204 x0 0 (S 768 x1 0)) 200 x0 0 ((zu S 204 x0 0 (S 768 x1 0)) 832 x1 j1)) 201 x0 0 ((zu (zu S 204 x0 0 (S 768 x1 0)) 200 x0 0 ((zu S 204 x0 0 (S 768 x1 0)) 832 x1 j1)) 896 x1 j2)) 832 x1 j3)) 203 x0 0 ((zu (zu (zu (zu S 204 x0 0 (S 768 x1 0)) 200 x0 0 ((zu S 204 x0 0 (S 768 x1 0)) 832 x1 j1)) 201 x0 0 ((zu (zu S 204 x0 0 (S 768 x1 0)) 200 x0 0 ((zu S 204 x0 0 (S 768 x1 0)) 832 x1 j1)) 896 x1 j2)) 202 x0 0 ((zu (zu (zu S 204 x0 0 (S 768 x1 0)) 200 x0 0 ((zu S 204 x0 0 (S 768 x1 0)) 832 x1 j1)) 201 x0 0 ((zu (zu S 204 x0 0 (S 768 x1 0)) 200 x0 0 ((zu S 204 x0 0 (S 768 x1 0)) 832 x1 j1)) 896 x1 j2)) 832 x1 j3)) 896 x1 j4), d))) rfl ?_
      exact zwp_end rfl h
    · show zwp 43 (9, [some (.inr (some (3, x0))), some (.inr (some (12, x1))), some (.inl x2)], [], (S, d)) Q
      replace h := h.2 (of_decide_eq_false hb)
      exact zwp_end rfl h
-- 44 PageKeeper$LogRow.bringBranch
theorem w44_0 {S : zS} {d : Nat} {Q : zO → zT → Prop} {x0 : Nat} {x1 : Int32} {x2 : Int32} {x3 : Int32} (h : Q (.inl none) (zu (zu (zu (zu S 204 x0 0 (nI 1)) 200 x0 0 x1) 201 x0 0 x2) 202 x0 0 x3, d)) : zwp 44 (0, [some (.inr (some (3, x0))), some (.inl x1), some (.inl x2), some (.inl x3)], [], (S, d)) Q := by
  refine zwp_blk 2 (c' := (2, [some (.inr (some (3, x0))), some (.inl x1), some (.inl x2), some (.inl x3)], [.inl (nI 1), .inr (some (3, x0))], (S, d))) rfl ?_
  refine zwp_grd (c' := (5, [some (.inr (some (3, x0))), some (.inl x1), some (.inl x2), some (.inl x3)], [], (zu S 204 x0 0 (nI 1), d))) rfl (by decide) ?_
  refine zwp_blk 9 (c' := (20, [some (.inr (some (3, x0))), some (.inl x1), some (.inl x2), some (.inl x3)], [], (zu (zu (zu (zu S 204 x0 0 (nI 1)) 200 x0 0 x1) 201 x0 0 x2) 202 x0 0 x3, d))) rfl ?_
  exact zwp_end rfl h
-- 45 PageKeeper$LogRow.bringChild
theorem w45_0 {S : zS} {d : Nat} {Q : zO → zT → Prop} {x0 : Nat} {x1 : Int32} {x2 : Int32} {x3 : Int32} (h : Q (.inl none) (zu (zu (zu S 200 x0 0 x2) 201 x0 0 x1) 205 x0 0 x3, d)) : zwp 45 (0, [some (.inr (some (3, x0))), some (.inl x1), some (.inl x2), some (.inl x3)], [], (S, d)) Q := by
  refine zwp_blk 9 (c' := (15, [some (.inr (some (3, x0))), some (.inl x1), some (.inl x2), some (.inl x3)], [], (zu (zu (zu S 200 x0 0 x2) 201 x0 0 x1) 205 x0 0 x3, d))) rfl ?_
  exact zwp_end rfl h
-- 46 PageKeeper$LogRow.isChange
theorem w46_0 {S : zS} {d : Nat} {Q : zO → zT → Prop} {x0 : Nat} (h : ((S 193 x0 0) = (nI 1) → Q (.inl (some (.inl (nI 1)))) (S, d)) ∧ (¬ (S 193 x0 0) = (nI 1) → ((S 193 x0 0) = (nI 2) → Q (.inl (some (.inl (nI 1)))) (S, d)) ∧ (¬ (S 193 x0 0) = (nI 2) → Q (.inl (some (.inl (nI 0)))) (S, d)))) : zwp 46 (0, [some (.inr (some (3, x0)))], [], (S, d)) Q := by
  refine zwp_blk 3 (c' := (5, [some (.inr (some (3, x0)))], [.inl (nI 1), .inl (S 193 x0 0)], (S, d))) rfl ?_
  refine zwp_br rfl (fun hb => ?_) (fun hb => ?_)
  · show zwp 46 (16, [some (.inr (some (3, x0)))], [], (S, d)) Q
    replace h := h.1 (of_decide_eq_true hb)
    refine zwp_blk 2 (c' := (21, [some (.inr (some (3, x0)))], [.inl (nI 1)], (S, d))) rfl ?_
    exact zwp_ret01 (x := nI 1) rfl (by decide) h
  · show zwp 46 (8, [some (.inr (some (3, x0)))], [], (S, d)) Q
    replace h := h.2 (of_decide_eq_false hb)
    refine zwp_blk 3 (c' := (13, [some (.inr (some (3, x0)))], [.inl (nI 2), .inl (S 193 x0 0)], (S, d))) rfl ?_
    refine zwp_br rfl (fun hb => ?_) (fun hb => ?_)
    · show zwp 46 (20, [some (.inr (some (3, x0)))], [], (S, d)) Q
      replace h := h.2 (zne_t hb)
      refine zwp_blk 1 (c' := (21, [some (.inr (some (3, x0)))], [.inl (nI 0)], (S, d))) rfl ?_
      exact zwp_ret01 (x := nI 0) rfl (by decide) h
    · show zwp 46 (16, [some (.inr (some (3, x0)))], [], (S, d)) Q
      replace h := h.1 (zne_f hb)
      refine zwp_blk 2 (c' := (21, [some (.inr (some (3, x0)))], [.inl (nI 1)], (S, d))) rfl ?_
      exact zwp_ret01 (x := nI 1) rfl (by decide) h
-- 47 PageKeeper$LogRow.isToUndo
theorem w47_0 {S : zS} {d : Nat} {Q : zO → zT → Prop} {x0 : Nat} (h : zwp 46 (0, zent 46 [.inr (some (3, x0))], [], (S, d)) (zaf 47 4 [some (.inr (some (3, x0)))] [] Q)) : zwp 47 (0, [some (.inr (some (3, x0)))], [], (S, d)) Q := by
  refine zwp_blk 1 (c' := (1, [some (.inr (some (3, x0)))], [.inr (some (3, x0))], (S, d))) rfl ?_
  exact zwp_call rfl h
theorem w47_4 {S : zS} {d : Nat} {Q : zO → zT → Prop} {x0 : Nat} {y0 : Int32} (h : (y0 = 0 → Q (.inl (some (.inl (nI 0)))) (S, d)) ∧ (¬ y0 = 0 → ((S 197 x0 0) = 0 → ((S 198 x0 0) = 0 → Q (.inl (some (.inl (nI 1)))) (S, d)) ∧ (¬ (S 198 x0 0) = 0 → Q (.inl (some (.inl (nI 0)))) (S, d))) ∧ (¬ (S 197 x0 0) = 0 → Q (.inl (some (.inl (nI 0)))) (S, d)))) : zwp 47 (4, [some (.inr (some (3, x0)))], [.inl y0], (S, d)) Q := by
  refine zwp_br rfl (fun hb => ?_) (fun hb => ?_)
  · show zwp 47 (25, [some (.inr (some (3, x0)))], [], (S, d)) Q
    replace h := h.1 (of_decide_eq_true hb)
    refine zwp_blk 1 (c' := (26, [some (.inr (some (3, x0)))], [.inl (nI 0)], (S, d))) rfl ?_
    exact zwp_ret01 (x := nI 0) rfl (by decide) h
  · show zwp 47 (7, [some (.inr (some (3, x0)))], [], (S, d)) Q
    replace h := h.2 (of_decide_eq_false hb)
    refine zwp_blk 2 (c' := (11, [some (.inr (some (3, x0)))], [.inl (S 197 x0 0)], (S, d))) rfl ?_
    refine zwp_br rfl (fun hb => ?_) (fun hb => ?_)
    · show zwp 47 (25, [some (.inr (some (3, x0)))], [], (S, d)) Q
      replace h := h.2 (zne_t hb)
      refine zwp_blk 1 (c' := (26, [some (.inr (some (3, x0)))], [.inl (nI 0)], (S, d))) rfl ?_
      exact zwp_ret01 (x := nI 0) rfl (by decide) h
    · show zwp 47 (14, [some (.inr (some (3, x0)))], [], (S, d)) Q
      replace h := h.1 (zne_f hb)
      refine zwp_blk 2 (c' := (18, [some (.inr (some (3, x0)))], [.inl (S 198 x0 0)], (S, d))) rfl ?_
      refine zwp_br rfl (fun hb => ?_) (fun hb => ?_)
      · show zwp 47 (25, [some (.inr (some (3, x0)))], [], (S, d)) Q
        replace h := h.2 (zne_t hb)
        refine zwp_blk 1 (c' := (26, [some (.inr (some (3, x0)))], [.inl (nI 0)], (S, d))) rfl ?_
        exact zwp_ret01 (x := nI 0) rfl (by decide) h
      · show zwp 47 (21, [some (.inr (some (3, x0)))], [], (S, d)) Q
        replace h := h.1 (zne_f hb)
        refine zwp_blk 2 (c' := (26, [some (.inr (some (3, x0)))], [.inl (nI 1)], (S, d))) rfl ?_
        exact zwp_ret01 (x := nI 1) rfl (by decide) h
-- 48 PageKeeper$Pool.has
theorem w48_0 {S : zS} {d : Nat} {Q : zO → zT → Prop} {x1 : Int32} (h : zwp 49 (0, zent 49 [.inr (some (4, 0)), .inl x1], [], (S, d)) (zaf 48 5 [some (.inr (some (4, 0))), some (.inl x1)] [] Q)) : zwp 48 (0, [some (.inr (some (4, 0))), some (.inl x1)], [], (S, d)) Q := by
  refine zwp_blk 2 (c' := (2, [some (.inr (some (4, 0))), some (.inl x1)], [.inl x1, .inr (some (4, 0))], (S, d))) rfl ?_
  exact zwp_call rfl h
theorem w48_5 {S : zS} {d : Nat} {Q : zO → zT → Prop} {x1 : Int32} {y0 : Int32} (h : (y0 = (zint (-1)) → Q (.inl (some (.inl (nI 0)))) (S, d)) ∧ (¬ y0 = (zint (-1)) → Q (.inl (some (.inl (nI 1)))) (S, d))) : zwp 48 (5, [some (.inr (some (4, 0))), some (.inl x1)], [.inl y0], (S, d)) Q := by
  refine zwp_blk 1 (c' := (6, [some (.inr (some (4, 0))), some (.inl x1)], [.inl (zint (-1)), .inl y0], (S, d))) rfl ?_
  refine zwp_br rfl (fun hb => ?_) (fun hb => ?_)
  · show zwp 48 (13, [some (.inr (some (4, 0))), some (.inl x1)], [], (S, d)) Q
    replace h := h.1 (of_decide_eq_true hb)
    refine zwp_blk 1 (c' := (14, [some (.inr (some (4, 0))), some (.inl x1)], [.inl (nI 0)], (S, d))) rfl ?_
    exact zwp_ret01 (x := nI 0) rfl (by decide) h
  · show zwp 48 (9, [some (.inr (some (4, 0))), some (.inl x1)], [], (S, d)) Q
    replace h := h.2 (of_decide_eq_false hb)
    refine zwp_blk 2 (c' := (14, [some (.inr (some (4, 0))), some (.inl x1)], [.inl (nI 1)], (S, d))) rfl ?_
    exact zwp_ret01 (x := nI 1) rfl (by decide) h
-- 49 PageKeeper$Pool.indexOf
theorem w49_0 {S : zS} {d : Nat} {Q : zO → zT → Prop} {x1 : Int32} (h : zwp 49 (2, [some (.inr (some (4, 0))), some (.inl x1), some (.inl (nI 0))], [], (S, d)) Q) : zwp 49 (0, [some (.inr (some (4, 0))), some (.inl x1), none], [], (S, d)) Q := by
  refine zwp_blk 2 (c' := (2, [some (.inr (some (4, 0))), some (.inl x1), some (.inl (nI 0))], [], (S, d))) rfl ?_
  exact h
theorem w49_2 {S : zS} {d : Nat} {Q : zO → zT → Prop} {x1 : Int32} {x2 : Int32} (h : ((S 257 0 0) ≤ x2 → Q (.inl (some (.inl (zint (-1))))) (S, d)) ∧ (¬ (S 257 0 0) ≤ x2 → ∃ j1 : Nat, x2 = nI j1 ∧ j1 < 6 ∧ (((S 320 0 j1) = x1 → Q (.inl (some (.inl x2))) (S, d)) ∧ (¬ (S 320 0 j1) = x1 → zwp 49 (2, [some (.inr (some (4, 0))), some (.inl x1), some (.inl (x2 + nI 1))], [], (S, d)) Q)))) : zwp 49 (2, [some (.inr (some (4, 0))), some (.inl x1), some (.inl x2)], [], (S, d)) Q := by
  refine zwp_blk 3 (c' := (7, [some (.inr (some (4, 0))), some (.inl x1), some (.inl x2)], [.inl (S 257 0 0), .inl x2], (S, d))) rfl ?_
  refine zwp_br rfl (fun hb => ?_) (fun hb => ?_)
  · show zwp 49 (28, [some (.inr (some (4, 0))), some (.inl x1), some (.inl x2)], [], (S, d)) Q
    replace h := h.1 (of_decide_eq_true hb)
    refine zwp_blk 1 (c' := (29, [some (.inr (some (4, 0))), some (.inl x1), some (.inl x2)], [.inl (zint (-1))], (S, d))) rfl ?_
    exact zwp_end rfl h
  · show zwp 49 (10, [some (.inr (some (4, 0))), some (.inl x1), some (.inl x2)], [], (S, d)) Q
    replace h := h.2 (of_decide_eq_false hb)
    refine zwp_blk 3 (c' := (15, [some (.inr (some (4, 0))), some (.inl x1), some (.inl x2)], [.inl x2, .inr (some (5, 0))], (S, d))) rfl ?_
    obtain ⟨j1, ej1, lj1, h⟩ := h
    refine zwp_ldx (n := 6) (cd := 320) (i := 0) (pc' := 16) (ls := [some (.inr (some (4, 0))), some (.inl x1), some (.inl x2)]) (r := []) (t := (S, d)) rfl ej1 lj1 (by decide) ?_
    refine zwp_blk 1 (c' := (17, [some (.inr (some (4, 0))), some (.inl x1), some (.inl x2)], [.inl x1, .inl (S 320 0 j1)], (S, d))) rfl ?_
    refine zwp_br rfl (fun hb => ?_) (fun hb => ?_)
    · show zwp 49 (22, [some (.inr (some (4, 0))), some (.inl x1), some (.inl x2)], [], (S, d)) Q
      replace h := h.2 (zne_t hb)
      refine zwp_blk 2 (c' := (2, [some (.inr (some (4, 0))), some (.inl x1), some (.inl (x2 + nI 1))], [], (S, d))) rfl ?_
      exact h
    · show zwp 49 (20, [some (.inr (some (4, 0))), some (.inl x1), some (.inl x2)], [], (S, d)) Q
      replace h := h.1 (zne_f hb)
      refine zwp_blk 1 (c' := (21, [some (.inr (some (4, 0))), some (.inl x1), some (.inl x2)], [.inl x2], (S, d))) rfl ?_
      exact zwp_end rfl h
-- 50 PageKeeper$Pool.leavingFor
theorem w50_0 {S : zS} {d : Nat} {Q : zO → zT → Prop} {x1 : Int32} (h : ((S 257 0 0) < (nI 6) → Q (.inl (some (.inl (zint (-1))))) (S, d)) ∧ (¬ (S 257 0 0) < (nI 6) → zwp 49 (0, zent 49 [.inr (some (4, 0)), .inl x1], [], (S, d)) (zaf 50 14 [some (.inr (some (4, 0))), some (.inl x1)] [] Q))) : zwp 50 (0, [some (.inr (some (4, 0))), some (.inl x1)], [], (S, d)) Q := by
  refine zwp_blk 3 (c' := (6, [some (.inr (some (4, 0))), some (.inl x1)], [.inl (nI 6), .inl (S 257 0 0)], (S, d))) rfl ?_
  refine zwp_br rfl (fun hb => ?_) (fun hb => ?_)
  · show zwp 50 (18, [some (.inr (some (4, 0))), some (.inl x1)], [], (S, d)) Q
    replace h := h.1 (of_decide_eq_true hb)
    refine zwp_blk 2 (c' := (28, [some (.inr (some (4, 0))), some (.inl x1)], [.inl (zint (-1))], (S, d))) rfl ?_
    exact zwp_end rfl h
  · show zwp 50 (9, [some (.inr (some (4, 0))), some (.inl x1)], [], (S, d)) Q
    replace h := h.2 (of_decide_eq_false hb)
    refine zwp_blk 2 (c' := (11, [some (.inr (some (4, 0))), some (.inl x1)], [.inl x1, .inr (some (4, 0))], (S, d))) rfl ?_
    exact zwp_call rfl h
theorem w50_14 {S : zS} {d : Nat} {Q : zO → zT → Prop} {x1 : Int32} {y0 : Int32} (h : (y0 = (zint (-1)) → ∃ j1 : Nat, nI 0 = nI j1 ∧ j1 < 6 ∧ (Q (.inl (some (.inl (S 320 0 j1)))) (S, d))) ∧ (¬ y0 = (zint (-1)) → Q (.inl (some (.inl (zint (-1))))) (S, d))) : zwp 50 (14, [some (.inr (some (4, 0))), some (.inl x1)], [.inl y0], (S, d)) Q := by
  refine zwp_blk 1 (c' := (15, [some (.inr (some (4, 0))), some (.inl x1)], [.inl (zint (-1)), .inl y0], (S, d))) rfl ?_
  refine zwp_br rfl (fun hb => ?_) (fun hb => ?_)
  · show zwp 50 (22, [some (.inr (some (4, 0))), some (.inl x1)], [], (S, d)) Q
    replace h := h.1 (of_decide_eq_true hb)
    refine zwp_blk 3 (c' := (27, [some (.inr (some (4, 0))), some (.inl x1)], [.inl (nI 0), .inr (some (5, 0))], (S, d))) rfl ?_
    obtain ⟨j1, ej1, lj1, h⟩ := h
    refine zwp_ldx (n := 6) (cd := 320) (i := 0) (pc' := 28) (ls := [some (.inr (some (4, 0))), some (.inl x1)]) (r := []) (t := (S, d)) rfl ej1 lj1 (by decide) ?_
    exact zwp_end rfl h
  · show zwp 50 (18, [some (.inr (some (4, 0))), some (.inl x1)], [], (S, d)) Q
    replace h := h.2 (of_decide_eq_false hb)
    refine zwp_blk 2 (c' := (28, [some (.inr (some (4, 0))), some (.inl x1)], [.inl (zint (-1))], (S, d))) rfl ?_
    exact zwp_end rfl h
-- 51 PageKeeper$Pool.touch
theorem w51_0 {S : zS} {d : Nat} {Q : zO → zT → Prop} {x1 : Int32} (h : zwp 49 (0, zent 49 [.inr (some (4, 0)), .inl x1], [], (S, d)) (zaf 51 5 [some (.inr (some (4, 0))), some (.inl x1), none] [] Q)) : zwp 51 (0, [some (.inr (some (4, 0))), some (.inl x1), none], [], (S, d)) Q := by
  refine zwp_blk 2 (c' := (2, [some (.inr (some (4, 0))), some (.inl x1), none], [.inl x1, .inr (some (4, 0))], (S, d))) rfl ?_
  exact zwp_call rfl h
theorem w51_5 {S : zS} {d : Nat} {Q : zO → zT → Prop} {x1 : Int32} {y0 : Int32} (h : (y0 = (zint (-1)) → ((S 257 0 0) = (nI 6) → zwp 52 (0, zent 52 [.inr (some (4, 0)), .inl (nI 0)], [], (S, d)) (zaf 51 33 [some (.inr (some (4, 0))), some (.inl x1), some (.inl y0)] [] Q)) ∧ (¬ (S 257 0 0) = (nI 6) → zwp 51 (33, [some (.inr (some (4, 0))), some (.inl x1), some (.inl y0)], [], (S, d)) Q)) ∧ (¬ y0 = (zint (-1)) → zwp 52 (0, zent 52 [.inr (some (4, 0)), .inl y0], [], (S, d)) (zaf 51 16 [some (.inr (some (4, 0))), some (.inl x1), some (.inl y0)] [] Q))) : zwp 51 (5, [some (.inr (some (4, 0))), some (.inl x1), none], [.inl y0], (S, d)) Q := by
  refine zwp_blk 3 (c' := (8, [some (.inr (some (4, 0))), some (.inl x1), some (.inl y0)], [.inl (zint (-1)), .inl y0], (S, d))) rfl ?_
  refine zwp_br rfl (fun hb => ?_) (fun hb => ?_)
  · show zwp 51 (19, [some (.inr (some (4, 0))), some (.inl x1), some (.inl y0)], [], (S, d)) Q
    replace h := h.1 (of_decide_eq_true hb)
    refine zwp_blk 3 (c' := (25, [some (.inr (some (4, 0))), some (.inl x1), some (.inl y0)], [.inl (nI 6), .inl (S 257 0 0)], (S, d))) rfl ?_
    refine zwp_br rfl (fun hb => ?_) (fun hb => ?_)
    · show zwp 51 (33, [some (.inr (some (4, 0))), some (.inl x1), some (.inl y0)], [], (S, d)) Q
      replace h := h.2 (zne_t hb)
      exact h
    · show zwp 51 (28, [some (.inr (some (4, 0))), some (.inl x1), some (.inl y0)], [], (S, d)) Q
      replace h := h.1 (zne_f hb)
      refine zwp_blk 2 (c' := (30, [some (.inr (some (4, 0))), some (.inl x1), some (.inl y0)], [.inl (nI 0), .inr (some (4, 0))], (S, d))) rfl ?_
      exact zwp_call rfl h
  · show zwp 51 (11, [some (.inr (some (4, 0))), some (.inl x1), some (.inl y0)], [], (S, d)) Q
    replace h := h.2 (of_decide_eq_false hb)
    refine zwp_blk 2 (c' := (13, [some (.inr (some (4, 0))), some (.inl x1), some (.inl y0)], [.inl y0, .inr (some (4, 0))], (S, d))) rfl ?_
    exact zwp_call rfl h
theorem w51_16 {S : zS} {d : Nat} {Q : zO → zT → Prop} {x1 : Int32} {x2 : Int32} (h : zwp 51 (33, [some (.inr (some (4, 0))), some (.inl x1), some (.inl x2)], [], (S, d)) Q) : zwp 51 (16, [some (.inr (some (4, 0))), some (.inl x1), some (.inl x2)], [], (S, d)) Q := by
  refine zwp_blk 1 (c' := (33, [some (.inr (some (4, 0))), some (.inl x1), some (.inl x2)], [], (S, d))) rfl ?_
  exact h
theorem w51_33 {S : zS} {d : Nat} {Q : zO → zT → Prop} {x1 : Int32} {x2 : Int32} (h : ∃ j1 : Nat, S 257 0 0 = nI j1 ∧ j1 < 6 ∧ (Q (.inl none) (zu (zu S 320 0 j1 x1) 257 0 0 (((zu S 320 0 j1 x1) 257 0 0) + (nI 1)), d))) : zwp 51 (33, [some (.inr (some (4, 0))), some (.inl x1), some (.inl x2)], [], (S, d)) Q := by
  refine zwp_blk 5 (c' := (42, [some (.inr (some (4, 0))), some (.inl x1), some (.inl x2)], [.inl x1, .inl (S 257 0 0), .inr (some (5, 0))], (S, d))) rfl ?_
  obtain ⟨j1, ej1, lj1, h⟩ := h
  refine zwp_stx (n := 6) (cd := 320) (i := 0) (v := x1) (pc' := 43) (ls := [some (.inr (some (4, 0))), some (.inl x1), some (.inl x2)]) (r := []) (t := (S, d)) rfl ej1 lj1 (by decide) ?_
  refine zwp_blk 6 (c' := (53, [some (.inr (some (4, 0))), some (.inl x1), some (.inl x2)], [], (zu (zu S 320 0 j1 x1) 257 0 0 (((zu S 320 0 j1 x1) 257 0 0) + (nI 1)), d))) rfl ?_
  exact zwp_end rfl h
-- 52 PageKeeper$Pool.dropAt
theorem w52_0 {S : zS} {d : Nat} {Q : zO → zT → Prop} {x1 : Int32} (h : zwp 52 (12, [some (.inr (some (4, 0))), some (.inl x1), some (.inl x1)], [], (zu S 257 0 0 ((S 257 0 0) - (nI 1)), d)) Q) : zwp 52 (0, [some (.inr (some (4, 0))), some (.inl x1), none], [], (S, d)) Q := by
  refine zwp_blk 8 (c' := (12, [some (.inr (some (4, 0))), some (.inl x1), some (.inl x1)], [], (zu S 257 0 0 ((S 257 0 0) - (nI 1)), d))) rfl ?_
  exact h
theorem w52_12 {S : zS} {d : Nat} {Q : zO → zT → Prop} {x1 : Int32} {x2 : Int32} (h : ((S 257 0 0) ≤ x2 → Q (.inl none) (S, d)) ∧ (¬ (S 257 0 0) ≤ x2 → ∃ j1 : Nat, x2 + (nI 1) = nI j1 ∧ j1 < 6 ∧ (∃ j2 : Nat, x2 = nI j2 ∧ j2 < 6 ∧ (zwp 52 (12, [some (.inr (some (4, 0))), some (.inl x1), some (.inl (x2 + nI 1))], [], (zu S 320 0 j2 ((S 320 0 j1)), d)) Q)))) : zwp 52 (12, [some (.inr (some (4, 0))), some (.inl x1), some (.inl x2)], [], (S, d)) Q := by
  refine zwp_blk 3 (c' := (17, [some (.inr (some (4, 0))), some (.inl x1), some (.inl x2)], [.inl (S 257 0 0), .inl x2], (S, d))) rfl ?_
  refine zwp_br rfl (fun hb => ?_) (fun hb => ?_)
  · show zwp 52 (40, [some (.inr (some (4, 0))), some (.inl x1), some (.inl x2)], [], (S, d)) Q
    replace h := h.1 (of_decide_eq_true hb)
    exact zwp_end rfl h
  · show zwp 52 (20, [some (.inr (some (4, 0))), some (.inl x1), some (.inl x2)], [], (S, d)) Q
    replace h := h.2 (of_decide_eq_false hb)
    refine zwp_blk 8 (c' := (32, [some (.inr (some (4, 0))), some (.inl x1), some (.inl x2)], [.inl (x2 + (nI 1)), .inr (some (5, 0)), .inl x2, .inr (some (5, 0))], (S, d))) rfl ?_
    obtain ⟨j1, ej1, lj1, h⟩ := h
    refine zwp_ldx (n := 6) (cd := 320) (i := 0) (pc' := 33) (ls := [some (.inr (some (4, 0))), some (.inl x1), some (.inl x2)]) (r := [.inl x2, .inr (some (5, 0))]) (t := (S, d)) rfl ej1 lj1 (by decide) ?_
    obtain ⟨j2, ej2, lj2, h⟩ := h
    refine zwp_stx (n := 6) (cd := 320) (i := 0) (v := (S 320 0 j1)) (pc' := 34) (ls := [some (.inr (some (4, 0))), some (.inl x1), some (.inl x2)]) (r := []) (t := (S, d)) rfl ej2 lj2 (by decide) ?_
    refine zwp_blk 2 (c' := (12, [some (.inr (some (4, 0))), some (.inl x1), some (.inl (x2 + nI 1))], [], (zu S 320 0 j2 ((S 320 0 j1)), d))) rfl ?_
    exact h
-- 53 PageKeeper$Pool.clear
theorem w53_0 {S : zS} {d : Nat} {Q : zO → zT → Prop}  (h : Q (.inl none) (zu S 257 0 0 (nI 0), d)) : zwp 53 (0, [some (.inr (some (4, 0)))], [], (S, d)) Q := by
  refine zwp_blk 3 (c' := (5, [some (.inr (some (4, 0)))], [], (zu S 257 0 0 (nI 0), d))) rfl ?_
  exact zwp_end rfl h
-- 54 PageKeeper$Locks.takeShared
theorem w54_0 {S : zS} {d : Nat} {Q : zO → zT → Prop} {x1 : Int32} {x2 : Int32} (h : ∃ j1 : Nat, x1 = nI j1 ∧ j1 < 4 ∧ (∃ j2 : Nat, x2 = nI j2 ∧ j2 < 40 ∧ (((S 512 j1 j2) = 0 → zwp 56 (0, zent 56 [.inr (some (6, 0)), .inl x1, .inl x2, .inl (nI 2)], [], (S, d)) (zaf 54 19 [some (.inr (some (6, 0))), some (.inl x1), some (.inl x2)] [] Q)) ∧ (¬ (S 512 j1 j2) = 0 → Q (.inl none) (S, d))))) : zwp 54 (0, [some (.inr (some (6, 0))), some (.inl x1), some (.inl x2)], [], (S, d)) Q := by
  refine zwp_blk 3 (c' := (5, [some (.inr (some (6, 0))), some (.inl x1), some (.inl x2)], [.inl x1, .inr (some (7, 0))], (S, d))) rfl ?_
  obtain ⟨j1, ej1, lj1, h⟩ := h
  refine zwp_aldx (n := 4) (k := 8) (pc' := 6) (ls := [some (.inr (some (6, 0))), some (.inl x1), some (.inl x2)]) (r := []) (t := (S, d)) rfl ej1 lj1 (by decide) (zok_8 lj1) ?_
  refine zwp_blk 1 (c' := (7, [some (.inr (some (6, 0))), some (.inl x1), some (.inl x2)], [.inl x2, .inr (some (8, j1))], (S, d))) rfl ?_
  obtain ⟨j2, ej2, lj2, h⟩ := h
  refine zwp_ldx (n := 40) (cd := 512) (i := j1) (pc' := 8) (ls := [some (.inr (some (6, 0))), some (.inl x1), some (.inl x2)]) (r := []) (t := (S, d)) rfl ej2 lj2 (by decide) ?_
  refine zwp_br rfl (fun hb => ?_) (fun hb => ?_)
  · show zwp 54 (12, [some (.inr (some (6, 0))), some (.inl x1), some (.inl x2)], [], (S, d)) Q
    replace h := h.1 (of_decide_eq_true hb)
    refine zwp_blk 4 (c' := (16, [some (.inr (some (6, 0))), some (.inl x1), some (.inl x2)], [.inl (nI 2), .inl x2, .inl x1, .inr (some (6, 0))], (S, d))) rfl ?_
    exact zwp_call rfl h
  · show zwp 54 (11, [some (.inr (some (6, 0))), some (.inl x1), some (.inl x2)], [], (S, d)) Q
    replace h := h.2 (of_decide_eq_false hb)
    exact zwp_end rfl h
theorem w54_19 {S : zS} {d : Nat} {Q : zO → zT → Prop} {x1 : Int32} {x2 : Int32} {y0 : Int32} (h : (y0 = 0 → ∃ j1 : Nat, x1 = nI j1 ∧ j1 < 4 ∧ (∃ j2 : Nat, x2 = nI j2 ∧ j2 < 40 ∧ (Q (.inl none) (zu S 512 j1 j2 ((nI 1)), d)))) ∧ (¬ y0 = 0 → Q (.inr 2) (S, d))) : zwp 54 (19, [some (.inr (some (6, 0))), some (.inl x1), some (.inl x2)], [.inl y0], (S, d)) Q := by
  refine zwp_br rfl (fun hb => ?_) (fun hb => ?_)
  · show zwp 54 (30, [some (.inr (some (6, 0))), some (.inl x1), some (.inl x2)], [], (S, d)) Q
    replace h := h.1 (of_decide_eq_true hb)
    refine zwp_blk 3 (c' := (35, [some (.inr (some (6, 0))), some (.inl x1), some (.inl x2)], [.inl x1, .inr (some (7, 0))], (S, d))) rfl ?_
    obtain ⟨j1, ej1, lj1, h⟩ := h
    refine zwp_aldx (n := 4) (k := 8) (pc' := 36) (ls := [some (.inr (some (6, 0))), some (.inl x1), some (.inl x2)]) (r := []) (t := (S, d)) rfl ej1 lj1 (by decide) (zok_8 lj1) ?_
    refine zwp_blk 2 (c' := (38, [some (.inr (some (6, 0))), some (.inl x1), some (.inl x2)], [.inl (nI 1), .inl x2, .inr (some (8, j1))], (S, d))) rfl ?_
    obtain ⟨j2, ej2, lj2, h⟩ := h
    refine zwp_stx (n := 40) (cd := 512) (i := j1) (v := (nI 1)) (pc' := 39) (ls := [some (.inr (some (6, 0))), some (.inl x1), some (.inl x2)]) (r := []) (t := (S, d)) rfl ej2 lj2 (by decide) ?_
    exact zwp_end rfl h
  · show zwp 54 (22, [some (.inr (some (6, 0))), some (.inl x1), some (.inl x2)], [], (S, d)) Q
    replace h := h.2 (of_decide_eq_false hb)
    exact zwp_end rfl h
-- 55 PageKeeper$Locks.takeOwn
theorem w55_0 {S : zS} {d : Nat} {Q : zO → zT → Prop} {x1 : Int32} {x2 : Int32} (h : zwp 56 (0, zent 56 [.inr (some (6, 0)), .inl x1, .inl x2, .inl (nI 1)], [], (S, d)) (zaf 55 7 [some (.inr (some (6, 0))), some (.inl x1), some (.inl x2)] [] Q)) : zwp 55 (0, [some (.inr (some (6, 0))), some (.inl x1), some (.inl x2)], [], (S, d)) Q := by
  refine zwp_blk 4 (c' := (4, [some (.inr (some (6, 0))), some (.inl x1), some (.inl x2)], [.inl (nI 1), .inl x2, .inl x1, .inr (some (6, 0))], (S, d))) rfl ?_
  exact zwp_call rfl h
theorem w55_7 {S : zS} {d : Nat} {Q : zO → zT → Prop} {x1 : Int32} {x2 : Int32} {y0 : Int32} (h : (y0 = 0 → ∃ j1 : Nat, x1 = nI j1 ∧ j1 < 4 ∧ (∃ j2 : Nat, x2 = nI j2 ∧ j2 < 40 ∧ (Q (.inl none) (zu S 512 j1 j2 ((nI 2)), d)))) ∧ (¬ y0 = 0 → Q (.inr 2) (S, d))) : zwp 55 (7, [some (.inr (some (6, 0))), some (.inl x1), some (.inl x2)], [.inl y0], (S, d)) Q := by
  refine zwp_br rfl (fun hb => ?_) (fun hb => ?_)
  · show zwp 55 (18, [some (.inr (some (6, 0))), some (.inl x1), some (.inl x2)], [], (S, d)) Q
    replace h := h.1 (of_decide_eq_true hb)
    refine zwp_blk 3 (c' := (23, [some (.inr (some (6, 0))), some (.inl x1), some (.inl x2)], [.inl x1, .inr (some (7, 0))], (S, d))) rfl ?_
    obtain ⟨j1, ej1, lj1, h⟩ := h
    refine zwp_aldx (n := 4) (k := 8) (pc' := 24) (ls := [some (.inr (some (6, 0))), some (.inl x1), some (.inl x2)]) (r := []) (t := (S, d)) rfl ej1 lj1 (by decide) (zok_8 lj1) ?_
    refine zwp_blk 2 (c' := (26, [some (.inr (some (6, 0))), some (.inl x1), some (.inl x2)], [.inl (nI 2), .inl x2, .inr (some (8, j1))], (S, d))) rfl ?_
    obtain ⟨j2, ej2, lj2, h⟩ := h
    refine zwp_stx (n := 40) (cd := 512) (i := j1) (v := (nI 2)) (pc' := 27) (ls := [some (.inr (some (6, 0))), some (.inl x1), some (.inl x2)]) (r := []) (t := (S, d)) rfl ej2 lj2 (by decide) ?_
    exact zwp_end rfl h
  · show zwp 55 (10, [some (.inr (some (6, 0))), some (.inl x1), some (.inl x2)], [], (S, d)) Q
    replace h := h.2 (of_decide_eq_false hb)
    exact zwp_end rfl h
-- 56 PageKeeper$Locks.othersHold
theorem w56_0 {S : zS} {d : Nat} {Q : zO → zT → Prop} {x1 : Int32} {x2 : Int32} {x3 : Int32} (h : zwp 56 (3, [some (.inr (some (6, 0))), some (.inl x1), some (.inl x2), some (.inl x3), some (.inl (nI 0))], [], (S, d)) Q) : zwp 56 (0, [some (.inr (some (6, 0))), some (.inl x1), some (.inl x2), some (.inl x3), none], [], (S, d)) Q := by
  refine zwp_blk 2 (c' := (3, [some (.inr (some (6, 0))), some (.inl x1), some (.inl x2), some (.inl x3), some (.inl (nI 0))], [], (S, d))) rfl ?_
  exact h
theorem w56_3 {S : zS} {d : Nat} {Q : zO → zT → Prop} {x1 : Int32} {x2 : Int32} {x3 : Int32} {x4 : Int32} (h : ((nI 4) ≤ x4 → Q (.inl (some (.inl (nI 0)))) (S, d)) ∧ (¬ (nI 4) ≤ x4 → (x4 = x1 → zwp 56 (3, [some (.inr (some (6, 0))), some (.inl x1), some (.inl x2), some (.inl x3), some (.inl (x4 + nI 1))], [], (S, d)) Q) ∧ (¬ x4 = x1 → ∃ j1 : Nat, x4 = nI j1 ∧ j1 < 4 ∧ (∃ j2 : Nat, x2 = nI j2 ∧ j2 < 40 ∧ (((S 512 j1 j2) < x3 → zwp 56 (3, [some (.inr (some (6, 0))), some (.inl x1), some (.inl x2), some (.inl x3), some (.inl (x4 + nI 1))], [], (S, d)) Q) ∧ (¬ (S 512 j1 j2) < x3 → Q (.inl (some (.inl (nI 1)))) (S, d))))))) : zwp 56 (3, [some (.inr (some (6, 0))), some (.inl x1), some (.inl x2), some (.inl x3), some (.inl x4)], [], (S, d)) Q := by
  refine zwp_blk 2 (c' := (6, [some (.inr (some (6, 0))), some (.inl x1), some (.inl x2), some (.inl x3), some (.inl x4)], [.inl (nI 4), .inl x4], (S, d))) rfl ?_
  refine zwp_br rfl (fun hb => ?_) (fun hb => ?_)
  · show zwp 56 (36, [some (.inr (some (6, 0))), some (.inl x1), some (.inl x2), some (.inl x3), some (.inl x4)], [], (S, d)) Q
    replace h := h.1 (of_decide_eq_true hb)
    refine zwp_blk 1 (c' := (37, [some (.inr (some (6, 0))), some (.inl x1), some (.inl x2), some (.inl x3), some (.inl x4)], [.inl (nI 0)], (S, d))) rfl ?_
    exact zwp_ret01 (x := nI 0) rfl (by decide) h
  · show zwp 56 (9, [some (.inr (some (6, 0))), some (.inl x1), some (.inl x2), some (.inl x3), some (.inl x4)], [], (S, d)) Q
    replace h := h.2 (of_decide_eq_false hb)
    refine zwp_blk 2 (c' := (12, [some (.inr (some (6, 0))), some (.inl x1), some (.inl x2), some (.inl x3), some (.inl x4)], [.inl x1, .inl x4], (S, d))) rfl ?_
    refine zwp_br rfl (fun hb => ?_) (fun hb => ?_)
    · show zwp 56 (30, [some (.inr (some (6, 0))), some (.inl x1), some (.inl x2), some (.inl x3), some (.inl x4)], [], (S, d)) Q
      replace h := h.1 (of_decide_eq_true hb)
      refine zwp_blk 2 (c' := (3, [some (.inr (some (6, 0))), some (.inl x1), some (.inl x2), some (.inl x3), some (.inl (x4 + nI 1))], [], (S, d))) rfl ?_
      exact h
    · show zwp 56 (15, [some (.inr (some (6, 0))), some (.inl x1), some (.inl x2), some (.inl x3), some (.inl x4)], [], (S, d)) Q
      replace h := h.2 (of_decide_eq_false hb)
      refine zwp_blk 3 (c' := (21, [some (.inr (some (6, 0))), some (.inl x1), some (.inl x2), some (.inl x3), some (.inl x4)], [.inl x4, .inr (some (7, 0))], (S, d))) rfl ?_
      obtain ⟨j1, ej1, lj1, h⟩ := h
      refine zwp_aldx (n := 4) (k := 8) (pc' := 22) (ls := [some (.inr (some (6, 0))), some (.inl x1), some (.inl x2), some (.inl x3), some (.inl x4)]) (r := []) (t := (S, d)) rfl ej1 lj1 (by decide) (zok_8 lj1) ?_
      refine zwp_blk 1 (c' := (23, [some (.inr (some (6, 0))), some (.inl x1), some (.inl x2), some (.inl x3), some (.inl x4)], [.inl x2, .inr (some (8, j1))], (S, d))) rfl ?_
      obtain ⟨j2, ej2, lj2, h⟩ := h
      refine zwp_ldx (n := 40) (cd := 512) (i := j1) (pc' := 24) (ls := [some (.inr (some (6, 0))), some (.inl x1), some (.inl x2), some (.inl x3), some (.inl x4)]) (r := []) (t := (S, d)) rfl ej2 lj2 (by decide) ?_
      refine zwp_blk 1 (c' := (25, [some (.inr (some (6, 0))), some (.inl x1), some (.inl x2), some (.inl x3), some (.inl x4)], [.inl x3, .inl (S 512 j1 j2)], (S, d))) rfl ?_
      refine zwp_br rfl (fun hb => ?_) (fun hb => ?_)
      · show zwp 56 (30, [some (.inr (some (6, 0))), some (.inl x1), some (.inl x2), some (.inl x3), some (.inl x4)], [], (S, d)) Q
        replace h := h.1 (of_decide_eq_true hb)
        refine zwp_blk 2 (c' := (3, [some (.inr (some (6, 0))), some (.inl x1), some (.inl x2), some (.inl x3), some (.inl (x4 + nI 1))], [], (S, d))) rfl ?_
        exact h
      · show zwp 56 (28, [some (.inr (some (6, 0))), some (.inl x1), some (.inl x2), some (.inl x3), some (.inl x4)], [], (S, d)) Q
        replace h := h.2 (of_decide_eq_false hb)
        refine zwp_blk 1 (c' := (29, [some (.inr (some (6, 0))), some (.inl x1), some (.inl x2), some (.inl x3), some (.inl x4)], [.inl (nI 1)], (S, d))) rfl ?_
        exact zwp_ret01 (x := nI 1) rfl (by decide) h
-- 57 PageKeeper$Locks.release
theorem w57_0 {S : zS} {d : Nat} {Q : zO → zT → Prop} {x1 : Int32} (h : zwp 57 (2, [some (.inr (some (6, 0))), some (.inl x1), some (.inl (nI 0))], [], (S, d)) Q) : zwp 57 (0, [some (.inr (some (6, 0))), some (.inl x1), none], [], (S, d)) Q := by
  refine zwp_blk 2 (c' := (2, [some (.inr (some (6, 0))), some (.inl x1), some (.inl (nI 0))], [], (S, d))) rfl ?_
  exact h
theorem w57_2 {S : zS} {d : Nat} {Q : zO → zT → Prop} {x1 : Int32} {x2 : Int32} (h : ((nI 40) ≤ x2 → Q (.inl none) (S, d)) ∧ (¬ (nI 40) ≤ x2 → ∃ j1 : Nat, x1 = nI j1 ∧ j1 < 4 ∧ (∃ j2 : Nat, x2 = nI j2 ∧ j2 < 40 ∧ (zwp 57 (2, [some (.inr (some (6, 0))), some (.inl x1), some (.inl (x2 + nI 1))], [], (zu S 512 j1 j2 ((nI 0)), d)) Q)))) : zwp 57 (2, [some (.inr (some (6, 0))), some (.inl x1), some (.inl x2)], [], (S, d)) Q := by
  refine zwp_blk 2 (c' := (5, [some (.inr (some (6, 0))), some (.inl x1), some (.inl x2)], [.inl (nI 40), .inl x2], (S, d))) rfl ?_
  refine zwp_br rfl (fun hb => ?_) (fun hb => ?_)
  · show zwp 57 (23, [some (.inr (some (6, 0))), some (.inl x1), some (.inl x2)], [], (S, d)) Q
    replace h := h.1 (of_decide_eq_true hb)
    exact zwp_end rfl h
  · show zwp 57 (8, [some (.inr (some (6, 0))), some (.inl x1), some (.inl x2)], [], (S, d)) Q
    replace h := h.2 (of_decide_eq_false hb)
    refine zwp_blk 3 (c' := (13, [some (.inr (some (6, 0))), some (.inl x1), some (.inl x2)], [.inl x1, .inr (some (7, 0))], (S, d))) rfl ?_
    obtain ⟨j1, ej1, lj1, h⟩ := h
    refine zwp_aldx (n := 4) (k := 8) (pc' := 14) (ls := [some (.inr (some (6, 0))), some (.inl x1), some (.inl x2)]) (r := []) (t := (S, d)) rfl ej1 lj1 (by decide) (zok_8 lj1) ?_
    refine zwp_blk 2 (c' := (16, [some (.inr (some (6, 0))), some (.inl x1), some (.inl x2)], [.inl (nI 0), .inl x2, .inr (some (8, j1))], (S, d))) rfl ?_
    obtain ⟨j2, ej2, lj2, h⟩ := h
    refine zwp_stx (n := 40) (cd := 512) (i := j1) (v := (nI 0)) (pc' := 17) (ls := [some (.inr (some (6, 0))), some (.inl x1), some (.inl x2)]) (r := []) (t := (S, d)) rfl ej2 lj2 (by decide) ?_
    refine zwp_blk 2 (c' := (2, [some (.inr (some (6, 0))), some (.inl x1), some (.inl (x2 + nI 1))], [], (zu S 512 j1 j2 ((nI 0)), d))) rfl ?_
    exact h
-- 58 PageKeeper$Locks.clearLosers
theorem w58_0 {S : zS} {d : Nat} {Q : zO → zT → Prop}  (h : zwp 58 (2, [some (.inr (some (6, 0))), some (.inl (nI 0))], [], (S, d)) Q) : zwp 58 (0, [some (.inr (some (6, 0))), none], [], (S, d)) Q := by
  refine zwp_blk 2 (c' := (2, [some (.inr (some (6, 0))), some (.inl (nI 0))], [], (S, d))) rfl ?_
  exact h
theorem w58_2 {S : zS} {d : Nat} {Q : zO → zT → Prop} {x1 : Int32} (h : ((nI 40) ≤ x1 → Q (.inl none) (S, d)) ∧ (¬ (nI 40) ≤ x1 → ∃ j1 : Nat, x1 = nI j1 ∧ j1 < 40 ∧ (zwp 58 (2, [some (.inr (some (6, 0))), some (.inl (x1 + nI 1))], [], (zu S 576 0 j1 ((nI 0)), d)) Q))) : zwp 58 (2, [some (.inr (some (6, 0))), some (.inl x1)], [], (S, d)) Q := by
  refine zwp_blk 2 (c' := (5, [some (.inr (some (6, 0))), some (.inl x1)], [.inl (nI 40), .inl x1], (S, d))) rfl ?_
  refine zwp_br rfl (fun hb => ?_) (fun hb => ?_)
  · show zwp 58 (21, [some (.inr (some (6, 0))), some (.inl x1)], [], (S, d)) Q
    replace h := h.1 (of_decide_eq_true hb)
    exact zwp_end rfl h
  · show zwp 58 (8, [some (.inr (some (6, 0))), some (.inl x1)], [], (S, d)) Q
    replace h := h.2 (of_decide_eq_false hb)
    refine zwp_blk 4 (c' := (14, [some (.inr (some (6, 0))), some (.inl x1)], [.inl (nI 0), .inl x1, .inr (some (9, 0))], (S, d))) rfl ?_
    obtain ⟨j1, ej1, lj1, h⟩ := h
    refine zwp_stx (n := 40) (cd := 576) (i := 0) (v := (nI 0)) (pc' := 15) (ls := [some (.inr (some (6, 0))), some (.inl x1)]) (r := []) (t := (S, d)) rfl ej1 lj1 (by decide) ?_
    refine zwp_blk 2 (c' := (2, [some (.inr (some (6, 0))), some (.inl (x1 + nI 1))], [], (zu S 576 0 j1 ((nI 0)), d))) rfl ?_
    exact h
-- 59 PageKeeper$Locks.releaseLoser
theorem w59_0 {S : zS} {d : Nat} {Q : zO → zT → Prop} {x1 : Int32} (h : zwp 59 (2, [some (.inr (some (6, 0))), some (.inl x1), some (.inl (nI 0))], [], (S, d)) Q) : zwp 59 (0, [some (.inr (some (6, 0))), some (.inl x1), none], [], (S, d)) Q := by
  refine zwp_blk 2 (c' := (2, [some (.inr (some (6, 0))), some (.inl x1), some (.inl (nI 0))], [], (S, d))) rfl ?_
  exact h
theorem w59_2 {S : zS} {d : Nat} {Q : zO → zT → Prop} {x1 : Int32} {x2 : Int32} (h : ((nI 40) ≤ x2 → Q (.inl none) (S, d)) ∧ (¬ (nI 40) ≤ x2 → ∃ j1 : Nat, x2 = nI j1 ∧ j1 < 40 ∧ (((S 576 0 j1) = x1 → ∃ j2 : Nat, x2 = nI j2 ∧ j2 < 40 ∧ (zwp 59 (2, [some (.inr (some (6, 0))), some (.inl x1), some (.inl (x2 + nI 1))], [], (zu S 576 0 j2 ((nI 0)), d)) Q)) ∧ (¬ (S 576 0 j1) = x1 → zwp 59 (2, [some (.inr (some (6, 0))), some (.inl x1), some (.inl (x2 + nI 1))], [], (S, d)) Q)))) : zwp 59 (2, [some (.inr (some (6, 0))), some (.inl x1), some (.inl x2)], [], (S, d)) Q := by
  refine zwp_blk 2 (c' := (5, [some (.inr (some (6, 0))), some (.inl x1), some (.inl x2)], [.inl (nI 40), .inl x2], (S, d))) rfl ?_
  refine zwp_br rfl (fun hb => ?_) (fun hb => ?_)
  · show zwp 59 (31, [some (.inr (some (6, 0))), some (.inl x1), some (.inl x2)], [], (S, d)) Q
    replace h := h.1 (of_decide_eq_true hb)
    exact zwp_end rfl h
  · show zwp 59 (8, [some (.inr (some (6, 0))), some (.inl x1), some (.inl x2)], [], (S, d)) Q
    replace h := h.2 (of_decide_eq_false hb)
    refine zwp_blk 3 (c' := (13, [some (.inr (some (6, 0))), some (.inl x1), some (.inl x2)], [.inl x2, .inr (some (9, 0))], (S, d))) rfl ?_
    obtain ⟨j1, ej1, lj1, h⟩ := h
    refine zwp_ldx (n := 40) (cd := 576) (i := 0) (pc' := 14) (ls := [some (.inr (some (6, 0))), some (.inl x1), some (.inl x2)]) (r := []) (t := (S, d)) rfl ej1 lj1 (by decide) ?_
    refine zwp_blk 1 (c' := (15, [some (.inr (some (6, 0))), some (.inl x1), some (.inl x2)], [.inl x1, .inl (S 576 0 j1)], (S, d))) rfl ?_
    refine zwp_br rfl (fun hb => ?_) (fun hb => ?_)
    · show zwp 59 (25, [some (.inr (some (6, 0))), some (.inl x1), some (.inl x2)], [], (S, d)) Q
      replace h := h.2 (zne_t hb)
      refine zwp_blk 2 (c' := (2, [some (.inr (some (6, 0))), some (.inl x1), some (.inl (x2 + nI 1))], [], (S, d))) rfl ?_
      exact h
    · show zwp 59 (18, [some (.inr (some (6, 0))), some (.inl x1), some (.inl x2)], [], (S, d)) Q
      replace h := h.1 (zne_f hb)
      refine zwp_blk 4 (c' := (24, [some (.inr (some (6, 0))), some (.inl x1), some (.inl x2)], [.inl (nI 0), .inl x2, .inr (some (9, 0))], (S, d))) rfl ?_
      obtain ⟨j2, ej2, lj2, h⟩ := h
      refine zwp_stx (n := 40) (cd := 576) (i := 0) (v := (nI 0)) (pc' := 25) (ls := [some (.inr (some (6, 0))), some (.inl x1), some (.inl x2)]) (r := []) (t := (S, d)) rfl ej2 lj2 (by decide) ?_
      refine zwp_blk 2 (c' := (2, [some (.inr (some (6, 0))), some (.inl x1), some (.inl (x2 + nI 1))], [], (zu S 576 0 j2 ((nI 0)), d))) rfl ?_
      exact h
-- 60 PageKeeper$Locks.leastLoserAbove
theorem w60_0 {S : zS} {d : Nat} {Q : zO → zT → Prop} {x1 : Int32} (h : zwp 60 (4, [some (.inr (some (6, 0))), some (.inl x1), some (.inl (nI 0)), some (.inl (nI 0)), none], [], (S, d)) Q) : zwp 60 (0, [some (.inr (some (6, 0))), some (.inl x1), none, none, none], [], (S, d)) Q := by
  refine zwp_blk 4 (c' := (4, [some (.inr (some (6, 0))), some (.inl x1), some (.inl (nI 0)), some (.inl (nI 0)), none], [], (S, d))) rfl ?_
  exact h
theorem w60_4 {S : zS} {d : Nat} {Q : zO → zT → Prop} {x1 : Int32} {x2 : Int32} {x3 : Int32} {x4 : Option zV} (h : ((nI 40) ≤ x3 → Q (.inl (some (.inl x2))) (S, d)) ∧ (¬ (nI 40) ≤ x3 → ∃ j1 : Nat, x3 = nI j1 ∧ j1 < 40 ∧ (((S 576 0 j1) ≤ x1 → zwp 60 (4, [some (.inr (some (6, 0))), some (.inl x1), some (.inl x2), some (.inl (x3 + nI 1)), some (.inl (S 576 0 j1))], [], (S, d)) Q) ∧ (¬ (S 576 0 j1) ≤ x1 → (x2 = 0 → zwp 60 (4, [some (.inr (some (6, 0))), some (.inl x1), some (.inl (S 576 0 j1)), some (.inl (x3 + nI 1)), some (.inl (S 576 0 j1))], [], (S, d)) Q) ∧ (¬ x2 = 0 → (x2 ≤ (S 576 0 j1) → zwp 60 (4, [some (.inr (some (6, 0))), some (.inl x1), some (.inl x2), some (.inl (x3 + nI 1)), some (.inl (S 576 0 j1))], [], (S, d)) Q) ∧ (¬ x2 ≤ (S 576 0 j1) → zwp 60 (4, [some (.inr (some (6, 0))), some (.inl x1), some (.inl (S 576 0 j1)), some (.inl (x3 + nI 1)), some (.inl (S 576 0 j1))], [], (S, d)) Q)))))) : zwp 60 (4, [some (.inr (some (6, 0))), some (.inl x1), some (.inl x2), some (.inl x3), x4], [], (S, d)) Q := by
  refine zwp_blk 2 (c' := (7, [some (.inr (some (6, 0))), some (.inl x1), some (.inl x2), some (.inl x3), x4], [.inl (nI 40), .inl x3], (S, d))) rfl ?_
  refine zwp_br rfl (fun hb => ?_) (fun hb => ?_)
  · show zwp 60 (43, [some (.inr (some (6, 0))), some (.inl x1), some (.inl x2), some (.inl x3), x4], [], (S, d)) Q
    replace h := h.1 (of_decide_eq_true hb)
    refine zwp_blk 1 (c' := (44, [some (.inr (some (6, 0))), some (.inl x1), some (.inl x2), some (.inl x3), x4], [.inl x2], (S, d))) rfl ?_
    exact zwp_end rfl h
  · show zwp 60 (10, [some (.inr (some (6, 0))), some (.inl x1), some (.inl x2), some (.inl x3), x4], [], (S, d)) Q
    replace h := h.2 (of_decide_eq_false hb)
    refine zwp_blk 3 (c' := (15, [some (.inr (some (6, 0))), some (.inl x1), some (.inl x2), some (.inl x3), x4], [.inl x3, .inr (some (9, 0))], (S, d))) rfl ?_
    obtain ⟨j1, ej1, lj1, h⟩ := h
    refine zwp_ldx (n := 40) (cd := 576) (i := 0) (pc' := 16) (ls := [some (.inr (some (6, 0))), some (.inl x1), some (.inl x2), some (.inl x3), x4]) (r := []) (t := (S, d)) rfl ej1 lj1 (by decide) ?_
    refine zwp_blk 3 (c' := (21, [some (.inr (some (6, 0))), some (.inl x1), some (.inl x2), some (.inl x3), some (.inl (S 576 0 j1))], [.inl x1, .inl (S 576 0 j1)], (S, d))) rfl ?_
    refine zwp_br rfl (fun hb => ?_) (fun hb => ?_)
    · show zwp 60 (37, [some (.inr (some (6, 0))), some (.inl x1), some (.inl x2), some (.inl x3), some (.inl (S 576 0 j1))], [], (S, d)) Q
      replace h := h.1 (of_decide_eq_true hb)
      refine zwp_blk 2 (c' := (4, [some (.inr (some (6, 0))), some (.inl x1), some (.inl x2), some (.inl (x3 + nI 1)), some (.inl (S 576 0 j1))], [], (S, d))) rfl ?_
      exact h
    · show zwp 60 (24, [some (.inr (some (6, 0))), some (.inl x1), some (.inl x2), some (.inl x3), some (.inl (S 576 0 j1))], [], (S, d)) Q
      replace h := h.2 (of_decide_eq_false hb)
      refine zwp_blk 1 (c' := (25, [some (.inr (some (6, 0))), some (.inl x1), some (.inl x2), some (.inl x3), some (.inl (S 576 0 j1))], [.inl x2], (S, d))) rfl ?_
      refine zwp_br rfl (fun hb => ?_) (fun hb => ?_)
      · show zwp 60 (34, [some (.inr (some (6, 0))), some (.inl x1), some (.inl x2), some (.inl x3), some (.inl (S 576 0 j1))], [], (S, d)) Q
        replace h := h.1 (of_decide_eq_true hb)
        refine zwp_blk 4 (c' := (4, [some (.inr (some (6, 0))), some (.inl x1), some (.inl (S 576 0 j1)), some (.inl (x3 + nI 1)), some (.inl (S 576 0 j1))], [], (S, d))) rfl ?_
        exact h
      · show zwp 60 (28, [some (.inr (some (6, 0))), some (.inl x1), some (.inl x2), some (.inl x3), some (.inl (S 576 0 j1))], [], (S, d)) Q
        replace h := h.2 (of_decide_eq_false hb)
        refine zwp_blk 2 (c' := (31, [some (.inr (some (6, 0))), some (.inl x1), some (.inl x2), some (.inl x3), some (.inl (S 576 0 j1))], [.inl x2, .inl (S 576 0 j1)], (S, d))) rfl ?_
        refine zwp_br rfl (fun hb => ?_) (fun hb => ?_)
        · show zwp 60 (37, [some (.inr (some (6, 0))), some (.inl x1), some (.inl x2), some (.inl x3), some (.inl (S 576 0 j1))], [], (S, d)) Q
          replace h := h.1 (of_decide_eq_true hb)
          refine zwp_blk 2 (c' := (4, [some (.inr (some (6, 0))), some (.inl x1), some (.inl x2), some (.inl (x3 + nI 1)), some (.inl (S 576 0 j1))], [], (S, d))) rfl ?_
          exact h
        · show zwp 60 (34, [some (.inr (some (6, 0))), some (.inl x1), some (.inl x2), some (.inl x3), some (.inl (S 576 0 j1))], [], (S, d)) Q
          replace h := h.2 (of_decide_eq_false hb)
          refine zwp_blk 4 (c' := (4, [some (.inr (some (6, 0))), some (.inl x1), some (.inl (S 576 0 j1)), some (.inl (x3 + nI 1)), some (.inl (S 576 0 j1))], [], (S, d))) rfl ?_
          exact h
-- 61 PageKeeper$Locks.countLosers
theorem w61_0 {S : zS} {d : Nat} {Q : zO → zT → Prop}  (h : zwp 60 (0, zent 60 [.inr (some (6, 0)), .inl (nI 0)], [], (S, d)) (zaf 61 7 [some (.inr (some (6, 0))), some (.inl (nI 0)), none] [] Q)) : zwp 61 (0, [some (.inr (some (6, 0))), none, none], [], (S, d)) Q := by
  refine zwp_blk 4 (c' := (4, [some (.inr (some (6, 0))), some (.inl (nI 0)), none], [.inl (nI 0), .inr (some (6, 0))], (S, d))) rfl ?_
  exact zwp_call rfl h
theorem w61_7 {S : zS} {d : Nat} {Q : zO → zT → Prop} {x1 : Int32} {y0 : Int32} (h : zwp 61 (8, [some (.inr (some (6, 0))), some (.inl x1), some (.inl y0)], [], (S, d)) Q) : zwp 61 (7, [some (.inr (some (6, 0))), some (.inl x1), none], [.inl y0], (S, d)) Q := by
  refine zwp_blk 1 (c' := (8, [some (.inr (some (6, 0))), some (.inl x1), some (.inl y0)], [], (S, d))) rfl ?_
  exact h
theorem w61_8 {S : zS} {d : Nat} {Q : zO → zT → Prop} {x1 : Int32} {x2 : Int32} (h : ((nI 40) ≤ x1 → Q (.inl (some (.inl x1))) (S, d)) ∧ (¬ (nI 40) ≤ x1 → (x2 = 0 → Q (.inl (some (.inl x1))) (S, d)) ∧ (¬ x2 = 0 → zwp 60 (0, zent 60 [.inr (some (6, 0)), .inl x2], [], (S, d)) (zaf 61 26 [some (.inr (some (6, 0))), some (.inl (x1 + nI 1)), some (.inl x2)] [] Q)))) : zwp 61 (8, [some (.inr (some (6, 0))), some (.inl x1), some (.inl x2)], [], (S, d)) Q := by
  refine zwp_blk 2 (c' := (11, [some (.inr (some (6, 0))), some (.inl x1), some (.inl x2)], [.inl (nI 40), .inl x1], (S, d))) rfl ?_
  refine zwp_br rfl (fun hb => ?_) (fun hb => ?_)
  · show zwp 61 (30, [some (.inr (some (6, 0))), some (.inl x1), some (.inl x2)], [], (S, d)) Q
    replace h := h.1 (of_decide_eq_true hb)
    refine zwp_blk 1 (c' := (31, [some (.inr (some (6, 0))), some (.inl x1), some (.inl x2)], [.inl x1], (S, d))) rfl ?_
    exact zwp_end rfl h
  · show zwp 61 (14, [some (.inr (some (6, 0))), some (.inl x1), some (.inl x2)], [], (S, d)) Q
    replace h := h.2 (of_decide_eq_false hb)
    refine zwp_blk 1 (c' := (15, [some (.inr (some (6, 0))), some (.inl x1), some (.inl x2)], [.inl x2], (S, d))) rfl ?_
    refine zwp_br rfl (fun hb => ?_) (fun hb => ?_)
    · show zwp 61 (30, [some (.inr (some (6, 0))), some (.inl x1), some (.inl x2)], [], (S, d)) Q
      replace h := h.1 (of_decide_eq_true hb)
      refine zwp_blk 1 (c' := (31, [some (.inr (some (6, 0))), some (.inl x1), some (.inl x2)], [.inl x1], (S, d))) rfl ?_
      exact zwp_end rfl h
    · show zwp 61 (18, [some (.inr (some (6, 0))), some (.inl x1), some (.inl x2)], [], (S, d)) Q
      replace h := h.2 (of_decide_eq_false hb)
      refine zwp_blk 3 (c' := (23, [some (.inr (some (6, 0))), some (.inl (x1 + nI 1)), some (.inl x2)], [.inl x2, .inr (some (6, 0))], (S, d))) rfl ?_
      exact zwp_call rfl h
theorem w61_26 {S : zS} {d : Nat} {Q : zO → zT → Prop} {x1 : Int32} {x2 : Int32} {y0 : Int32} (h : zwp 61 (8, [some (.inr (some (6, 0))), some (.inl x1), some (.inl y0)], [], (S, d)) Q) : zwp 61 (26, [some (.inr (some (6, 0))), some (.inl x1), some (.inl x2)], [.inl y0], (S, d)) Q := by
  refine zwp_blk 2 (c' := (8, [some (.inr (some (6, 0))), some (.inl x1), some (.inl y0)], [], (S, d))) rfl ?_
  exact h
-- 62 PageKeeper$Page.forgetLogged
theorem w62_0 {S : zS} {d : Nat} {Q : zO → zT → Prop} {x0 : Nat} (h : zwp 64 (0, zent 64 [.inr (some (12, x0))], [], (S, d)) (zaf 62 7 [some (.inr (some (11, x0)))] [] Q)) : zwp 62 (0, [some (.inr (some (11, x0)))], [], (S, d)) Q := by
  refine zwp_blk 2 (c' := (4, [some (.inr (some (11, x0)))], [.inr (some (12, x0))], (S, d))) rfl ?_
  exact zwp_call rfl h
theorem w62_7 {S : zS} {d : Nat} {Q : zO → zT → Prop} {x0 : Nat} (h : Q (.inl none) (zu (zu S 705 x0 0 (nI 0)) 706 x0 0 (nI 0), d)) : zwp 62 (7, [some (.inr (some (11, x0)))], [], (S, d)) Q := by
  refine zwp_blk 6 (c' := (17, [some (.inr (some (11, x0)))], [], (zu (zu S 705 x0 0 (nI 0)) 706 x0 0 (nI 0), d))) rfl ?_
  exact zwp_end rfl h
-- 63 PageKeeper$Page.forgetStored
theorem w63_0 {S : zS} {d : Nat} {Q : zO → zT → Prop} {x0 : Nat} (h : Q (.inl none) (zu (zu (zu S 707 x0 0 (nI 0)) 708 x0 0 (nI 0)) 709 x0 0 (zint (-1)), d)) : zwp 63 (0, [some (.inr (some (11, x0)))], [], (S, d)) Q := by
  refine zwp_blk 5 (c' := (7, [some (.inr (some (11, x0)))], [.inl (nI 0), .inr (some (11, x0))], (zu S 707 x0 0 (nI 0), d))) rfl ?_
  refine zwp_grd (c' := (10, [some (.inr (some (11, x0)))], [], (zu (zu S 707 x0 0 (nI 0)) 708 x0 0 (nI 0), d))) rfl (by decide) ?_
  refine zwp_blk 3 (c' := (15, [some (.inr (some (11, x0)))], [], (zu (zu (zu S 707 x0 0 (nI 0)) 708 x0 0 (nI 0)) 709 x0 0 (zint (-1)), d))) rfl ?_
  exact zwp_end rfl h
-- 64 PageKeeper$Contents.becomeEmptyLeaf
theorem w64_0 {S : zS} {d : Nat} {Q : zO → zT → Prop} {x0 : Nat} (h : Q (.inl none) (zu (zu S 768 x0 0 (nI 0)) 769 x0 0 (nI 0), d)) : zwp 64 (0, [some (.inr (some (12, x0)))], [], (S, d)) Q := by
  refine zwp_blk 2 (c' := (2, [some (.inr (some (12, x0)))], [.inl (nI 0), .inr (some (12, x0))], (S, d))) rfl ?_
  refine zwp_grd (c' := (5, [some (.inr (some (12, x0)))], [], (zu S 768 x0 0 (nI 0), d))) rfl (by decide) ?_
  refine zwp_blk 3 (c' := (10, [some (.inr (some (12, x0)))], [], (zu (zu S 768 x0 0 (nI 0)) 769 x0 0 (nI 0), d))) rfl ?_
  exact zwp_end rfl h
-- 65 PageKeeper$Contents.becomeWhatBrings
theorem w65_0 {S : zS} {d : Nat} {Q : zO → zT → Prop} {x0 : Nat} {x1 : Nat} (h : ((S 204 x1 0) = 0 ∨ (S 204 x1 0) = 1) ∧ (∃ j1 : Nat, nI 0 = nI j1 ∧ j1 < 4 ∧ (∃ j2 : Nat, nI 0 = nI j2 ∧ j2 < 4 ∧ (∃ j3 : Nat, nI 1 = nI j3 ∧ j3 < 4 ∧ (∃ j4 : Nat, nI 1 = nI j4 ∧ j4 < 4 ∧ (Q (.inl none) (zu (zu (zu (zu (zu (zu S 768 x0 0 (S 204 x1 0)) 769 x0 0 (nI 2)) 832 x0 j1 (((zu (zu S 768 x0 0 (S 204 x1 0)) 769 x0 0 (nI 2)) 200 x1 0))) 896 x0 j2 (((zu (zu (zu S 768 x0 0 (S 204 x1 0)) 769 x0 0 (nI 2)) 832 x0 j1 (((zu (zu S 768 x0 0 (S 204 x1 0)) 769 x0 0 (nI 2)) 200 x1 0))) 201 x1 0))) 832 x0 j3 (((zu (zu (zu (zu S 768 x0 0 (S 204 x1 0)) 769 x0 0 (nI 2)) 832 x0 j1 (((zu (zu S 768 x0 0 (S 204 x1 0)) 769 x0 0 (nI 2)) 200 x1 0))) 896 x0 j2 (((zu (zu (zu S 768 x0 0 (S 204 x1 0)) 769 x0 0 (nI 2)) 832 x0 j1 (((zu (zu S 768 x0 0 (S 204 x1 0)) 769 x0 0 (nI 2)) 200 x1 0))) 201 x1 0))) 202 x1 0))) 896 x0 j4 (((zu (zu (zu (zu (zu S 768 x0 0 (S 204 x1 0)) 769 x0 0 (nI 2)) 832 x0 j1 (((zu (zu S 768 x0 0 (S 204 x1 0)) 769 x0 0 (nI 2)) 200 x1 0))) 896 x0 j2 (((zu (zu (zu S 768 x0 0 (S 204 x1 0)) 769 x0 0 (nI 2)) 832 x0 j1 (((zu (zu S 768 x0 0 (S 204 x1 0)) 769 x0 0 (nI 2)) 200 x1 0))) 201 x1 0))) 832 x0 j3 (((zu (zu (zu (zu S 768 x0 0 (S 204 x1 0)) 769 x0 0 (nI 2)) 832 x0 j1 (((zu (zu S 768 x0 0 (S 204 x1 0)) 769 x0 0 (nI 2)) 200 x1 0))) 896 x0 j2 (((zu (zu (zu S 768 x0 0 (S 204 x1 0)) 769 x0 0 (nI 2)) 832 x0 j1 (((zu (zu S 768 x0 0 (S 204 x1 0)) 769 x0 0 (nI 2)) 200 x1 0))) 201 x1 0))) 202 x1 0))) 203 x1 0)), d))))))) : zwp 65 (0, [some (.inr (some (12, x0))), some (.inr (some (3, x1)))], [], (S, d)) Q := by
  refine zwp_blk 3 (c' := (5, [some (.inr (some (12, x0))), some (.inr (some (3, x1)))], [.inl (S 204 x1 0), .inr (some (12, x0))], (S, d))) rfl ?_
  refine zwp_grd (c' := (8, [some (.inr (some (12, x0))), some (.inr (some (3, x1)))], [], (zu S 768 x0 0 (S 204 x1 0), d))) rfl (decide_eq_true h.1) ?_
  replace h := h.2
  refine zwp_blk 8 (c' := (22, [some (.inr (some (12, x0))), some (.inr (some (3, x1)))], [.inl ((zu (zu S 768 x0 0 (S 204 x1 0)) 769 x0 0 (nI 2)) 200 x1 0), .inl (nI 0), .inr (some (13, x0))], (zu (zu S 768 x0 0 (S 204 x1 0)) 769 x0 0 (nI 2), d))) rfl ?_
  obtain ⟨j1, ej1, lj1, h⟩ := h
  refine zwp_stx (n := 4) (cd := 832) (i := x0) (v := ((zu (zu S 768 x0 0 (S 204 x1 0)) 769 x0 0 (nI 2)) 200 x1 0)) (pc' := 23) (ls := [some (.inr (some (12, x0))), some (.inr (some (3, x1)))]) (r := []) (t := (zu (zu S 768 x0 0 (S 204 x1 0)) 769 x0 0 (nI 2), d)) rfl ej1 lj1 (by decide) ?_
  refine zwp_blk 5 (c' := (32, [some (.inr (some (12, x0))), some (.inr (some (3, x1)))], [.inl ((zu (zu (zu S 768 x0 0 (S 204 x1 0)) 769 x0 0 (nI 2)) 832 x0 j1 (((zu (zu S 768 x0 0 (S 204 x1 0)) 769 x0 0 (nI 2)) 200 x1 0))) 201 x1 0), .inl (nI 0), .inr (some (14, x0))], (zu (zu (zu S 768 x0 0 (S 204 x1 0)) 769 x0 0 (nI 2)) 832 x0 j1 (((zu (zu S 768 x0 0 (S 204 x1 0)) 769 x0 0 (nI 2)) 200 x1 0)), d))) rfl ?_
  obtain ⟨j2, ej2, lj2, h⟩ := h
  refine zwp_stx (n := 4) (cd := 896) (i := x0) (v := ((zu (zu (zu S 768 x0 0 (S 204 x1 0)) 769 x0 0 (nI 2)) 832 x0 j1 (((zu (zu S 768 x0 0 (S 204 x1 0)) 769 x0 0 (nI 2)) 200 x1 0))) 201 x1 0)) (pc' := 33) (ls := [some (.inr (some (12, x0))), some (.inr (some (3, x1)))]) (r := []) (t := (zu (zu (zu S 768 x0 0 (S 204 x1 0)) 769 x0 0 (nI 2)) 832 x0 j1 (((zu (zu S 768 x0 0 (S 204 x1 0)) 769 x0 0 (nI 2)) 200 x1 0)), d)) rfl ej2 lj2 (by decide) ?_
  refine zwp_blk 5 (c' := (42, [some (.inr (some (12, x0))), some (.inr (some (3, x1)))], [.inl ((zu (zu (zu (zu S 768 x0 0 (S 204 x1 0)) 769 x0 0 (nI 2)) 832 x0 j1 (((zu (zu S 768 x0 0 (S 204 x1 0)) 769 x0 0 (nI 2)) 200 x1 0))) 896 x0 j2 (((zu (zu (zu S 768 x0 0 (S 204 x1 0)) 769 x0 0 (nI 2)) 832 x0 j1 (((zu (zu S 768 x0 0 (S 204 x1 0)) 769 x0 0 (nI 2)) 200 x1 0))) 201 x1 0))) 202 x1 0), .inl (nI 1), .inr (some (13, x0))], (zu (zu (zu (zu S 768 x0 0 (S 204 x1 0)) 769 x0 0 (nI 2)) 832 x0 j1 (((zu (zu S 768 x0 0 (S 204 x1 0)) 769 x0 0 (nI 2)) 200 x1 0))) 896 x0 j2 (((zu (zu (zu S 768 x0 0 (S 204 x1 0)) 769 x0 0 (nI 2)) 832 x0 j1 (((zu (zu S 768 x0 0 (S 204 x1 0)) 769 x0 0 (nI 2)) 200 x1 0))) 201 x1 0)), d))) rfl ?_
  obtain ⟨j3, ej3, lj3, h⟩ := h
  refine zwp_stx (n := 4) (cd := 832) (i := x0) (v := ((zu (zu (zu (zu S 768 x0 0 (S 204 x1 0)) 769 x0 0 (nI 2)) 832 x0 j1 (((zu (zu S 768 x0 0 (S 204 x1 0)) 769 x0 0 (nI 2)) 200 x1 0))) 896 x0 j2 (((zu (zu (zu S 768 x0 0 (S 204 x1 0)) 769 x0 0 (nI 2)) 832 x0 j1 (((zu (zu S 768 x0 0 (S 204 x1 0)) 769 x0 0 (nI 2)) 200 x1 0))) 201 x1 0))) 202 x1 0)) (pc' := 43) (ls := [some (.inr (some (12, x0))), some (.inr (some (3, x1)))]) (r := []) (t := (zu (zu (zu (zu S 768 x0 0 (S 204 x1 0)) 769 x0 0 (nI 2)) 832 x0 j1 (((zu (zu S 768 x0 0 (S 204 x1 0)) 769 x0 0 (nI 2)) 200 x1 0))) 896 x0 j2 (((zu (zu (zu S 768 x0 0 (S 204 x1 0)) 769 x0 0 (nI 2)) 832 x0 j1 (((zu (zu S 768 x0 0 (S 204 x1 0)) 769 x0 0 (nI 2)) 200 x1 0))) 201 x1 0)), d)) rfl ej3 lj3 (by decide) ?_
  refine zwp_blk 5 (c' := (52, [some (.inr (some (12, x0))), some (.inr (some (3, x1)))], [.inl ((zu (zu (zu (zu (zu S 768 x0 0 (S 204 x1 0)) 769 x0 0 (nI 2)) 832 x0 j1 (((zu (zu S 768 x0 0 (S 204 x1 0)) 769 x0 0 (nI 2)) 200 x1 0))) 896 x0 j2 (((zu (zu (zu S 768 x0 0 (S 204 x1 0)) 769 x0 0 (nI 2)) 832 x0 j1 (((zu (zu S 768 x0 0 (S 204 x1 0)) 769 x0 0 (nI 2)) 200 x1 0))) 201 x1 0))) 832 x0 j3 (((zu (zu (zu (zu S 768 x0 0 (S 204 x1 0)) 769 x0 0 (nI 2)) 832 x0 j1 (((zu (zu S 768 x0 0 (S 204 x1 0)) 769 x0 0 (nI 2)) 200 x1 0))) 896 x0 j2 (((zu (zu (zu S 768 x0 0 (S 204 x1 0)) 769 x0 0 (nI 2)) 832 x0 j1 (((zu (zu S 768 x0 0 (S 204 x1 0)) 769 x0 0 (nI 2)) 200 x1 0))) 201 x1 0))) 202 x1 0))) 203 x1 0), .inl (nI 1), .inr (some (14, x0))], (zu (zu (zu (zu (zu S 768 x0 0 (S 204 x1 0)) 769 x0 0 (nI 2)) 832 x0 j1 (((zu (zu S 768 x0 0 (S 204 x1 0)) 769 x0 0 (nI 2)) 200 x1 0))) 896 x0 j2 (((zu (zu (zu S 768 x0 0 (S 204 x1 0)) 769 x0 0 (nI 2)) 832 x0 j1 (((zu (zu S 768 x0 0 (S 204 x1 0)) 769 x0 0 (nI 2)) 200 x1 0))) 201 x1 0))) 832 x0 j3 (((zu (zu (zu (zu S 768 x0 0 (S 204 x1 0)) 769 x0 0 (nI 2)) 832 x0 j1 (((zu (zu S 768 x0 0 (S 204 x1 0)) 769 x0 0 (nI 2)) 200 x1 0))) 896 x0 j2 (((zu (zu (zu S 768 x0 0 (S 204 x1 0)) 769 x0 0 (nI 2)) 832 x0 j1 (((zu (zu S 768 x0 0 (S 204 x1 0)) 769 x0 0 (nI 2)) 200 x1 0))) 201 x1 0))) 202 x1 0)), d))) rfl ?_
  obtain ⟨j4, ej4, lj4, h⟩ := h
  refine zwp_stx (n := 4) (cd := 896) (i := x0) (v := ((zu (zu (zu (zu (zu S 768 x0 0 (S 204 x1 0)) 769 x0 0 (nI 2)) 832 x0 j1 (((zu (zu S 768 x0 0 (S 204 x1 0)) 769 x0 0 (nI 2)) 200 x1 0))) 896 x0 j2 (((zu (zu (zu S 768 x0 0 (S 204 x1 0)) 769 x0 0 (nI 2)) 832 x0 j1 (((zu (zu S 768 x0 0 (S 204 x1 0)) 769 x0 0 (nI 2)) 200 x1 0))) 201 x1 0))) 832 x0 j3 (((zu (zu (zu (zu S 768 x0 0 (S 204 x1 0)) 769 x0 0 (nI 2)) 832 x0 j1 (((zu (zu S 768 x0 0 (S 204 x1 0)) 769 x0 0 (nI 2)) 200 x1 0))) 896 x0 j2 (((zu (zu (zu S 768 x0 0 (S 204 x1 0)) 769 x0 0 (nI 2)) 832 x0 j1 (((zu (zu S 768 x0 0 (S 204 x1 0)) 769 x0 0 (nI 2)) 200 x1 0))) 201 x1 0))) 202 x1 0))) 203 x1 0)) (pc' := 53) (ls := [some (.inr (some (12, x0))), some (.inr (some (3, x1)))]) (r := []) (t := (zu (zu (zu (zu (zu S 768 x0 0 (S 204 x1 0)) 769 x0 0 (nI 2)) 832 x0 j1 (((zu (zu S 768 x0 0 (S 204 x1 0)) 769 x0 0 (nI 2)) 200 x1 0))) 896 x0 j2 (((zu (zu (zu S 768 x0 0 (S 204 x1 0)) 769 x0 0 (nI 2)) 832 x0 j1 (((zu (zu S 768 x0 0 (S 204 x1 0)) 769 x0 0 (nI 2)) 200 x1 0))) 201 x1 0))) 832 x0 j3 (((zu (zu (zu (zu S 768 x0 0 (S 204 x1 0)) 769 x0 0 (nI 2)) 832 x0 j1 (((zu (zu S 768 x0 0 (S 204 x1 0)) 769 x0 0 (nI 2)) 200 x1 0))) 896 x0 j2 (((zu (zu (zu S 768 x0 0 (S 204 x1 0)) 769 x0 0 (nI 2)) 832 x0 j1 (((zu (zu S 768 x0 0 (S 204 x1 0)) 769 x0 0 (nI 2)) 200 x1 0))) 201 x1 0))) 202 x1 0)), d)) rfl ej4 lj4 (by decide) ?_
  exact zwp_end rfl h
-- 66 PageKeeper$Contents.headAt
theorem w66_0 {S : zS} {d : Nat} {Q : zO → zT → Prop} {x0 : Nat} {x1 : Int32} (h : (x1 < 0 → Q (.inl (some (.inl (zint (-1))))) (S, d)) ∧ (¬ x1 < 0 → ((S 769 x0 0) ≤ x1 → Q (.inl (some (.inl (zint (-1))))) (S, d)) ∧ (¬ (S 769 x0 0) ≤ x1 → ∃ j1 : Nat, x1 = nI j1 ∧ j1 < 4 ∧ (Q (.inl (some (.inl (S 832 x0 j1)))) (S, d))))) : zwp 66 (0, [some (.inr (some (12, x0))), some (.inl x1)], [], (S, d)) Q := by
  refine zwp_blk 1 (c' := (1, [some (.inr (some (12, x0))), some (.inl x1)], [.inl x1], (S, d))) rfl ?_
  refine zwp_br rfl (fun hb => ?_) (fun hb => ?_)
  · show zwp 66 (21, [some (.inr (some (12, x0))), some (.inl x1)], [], (S, d)) Q
    replace h := h.1 (of_decide_eq_true hb)
    refine zwp_blk 1 (c' := (22, [some (.inr (some (12, x0))), some (.inl x1)], [.inl (zint (-1))], (S, d))) rfl ?_
    exact zwp_end rfl h
  · show zwp 66 (4, [some (.inr (some (12, x0))), some (.inl x1)], [], (S, d)) Q
    replace h := h.2 (of_decide_eq_false hb)
    refine zwp_blk 3 (c' := (9, [some (.inr (some (12, x0))), some (.inl x1)], [.inl (S 769 x0 0), .inl x1], (S, d))) rfl ?_
    refine zwp_br rfl (fun hb => ?_) (fun hb => ?_)
    · show zwp 66 (21, [some (.inr (some (12, x0))), some (.inl x1)], [], (S, d)) Q
      replace h := h.1 (of_decide_eq_true hb)
      refine zwp_blk 1 (c' := (22, [some (.inr (some (12, x0))), some (.inl x1)], [.inl (zint (-1))], (S, d))) rfl ?_
      exact zwp_end rfl h
    · show zwp 66 (12, [some (.inr (some (12, x0))), some (.inl x1)], [], (S, d)) Q
      replace h := h.2 (of_decide_eq_false hb)
      refine zwp_blk 3 (c' := (17, [some (.inr (some (12, x0))), some (.inl x1)], [.inl x1, .inr (some (13, x0))], (S, d))) rfl ?_
      obtain ⟨j1, ej1, lj1, h⟩ := h
      refine zwp_ldx (n := 4) (cd := 832) (i := x0) (pc' := 18) (ls := [some (.inr (some (12, x0))), some (.inl x1)]) (r := []) (t := (S, d)) rfl ej1 lj1 (by decide) ?_
      refine zwp_blk 1 (c' := (22, [some (.inr (some (12, x0))), some (.inl x1)], [.inl (S 832 x0 j1)], (S, d))) rfl ?_
      exact zwp_end rfl h
-- 67 PageKeeper$Contents.tailAt
theorem w67_0 {S : zS} {d : Nat} {Q : zO → zT → Prop} {x0 : Nat} {x1 : Int32} (h : ((S 768 x0 0) = 0 → zwp 67 (20, [some (.inr (some (12, x0))), some (.inl x1), none], [.inl (S 769 x0 0)], (S, d)) Q) ∧ (¬ (S 768 x0 0) = 0 → zwp 67 (20, [some (.inr (some (12, x0))), some (.inl x1), none], [.inl ((S 769 x0 0) - (nI 1))], (S, d)) Q)) : zwp 67 (0, [some (.inr (some (12, x0))), some (.inl x1), none], [], (S, d)) Q := by
  refine zwp_blk 2 (c' := (4, [some (.inr (some (12, x0))), some (.inl x1), none], [.inl (S 768 x0 0)], (S, d))) rfl ?_
  refine zwp_br rfl (fun hb => ?_) (fun hb => ?_)
  · show zwp 67 (16, [some (.inr (some (12, x0))), some (.inl x1), none], [], (S, d)) Q
    replace h := h.1 (of_decide_eq_true hb)
    refine zwp_blk 2 (c' := (20, [some (.inr (some (12, x0))), some (.inl x1), none], [.inl (S 769 x0 0)], (S, d))) rfl ?_
    exact h
  · show zwp 67 (7, [some (.inr (some (12, x0))), some (.inl x1), none], [], (S, d)) Q
    replace h := h.2 (of_decide_eq_false hb)
    refine zwp_blk 5 (c' := (20, [some (.inr (some (12, x0))), some (.inl x1), none], [.inl ((S 769 x0 0) - (nI 1))], (S, d))) rfl ?_
    exact h
theorem w67_20 {S : zS} {d : Nat} {Q : zO → zT → Prop} {x0 : Nat} {x1 : Int32} {y0 : Int32} (h : (x1 < 0 → Q (.inl (some (.inl (zint (-1))))) (S, d)) ∧ (¬ x1 < 0 → (y0 ≤ x1 → Q (.inl (some (.inl (zint (-1))))) (S, d)) ∧ (¬ y0 ≤ x1 → ∃ j1 : Nat, x1 = nI j1 ∧ j1 < 4 ∧ (Q (.inl (some (.inl (S 896 x0 j1)))) (S, d))))) : zwp 67 (20, [some (.inr (some (12, x0))), some (.inl x1), none], [.inl y0], (S, d)) Q := by
  refine zwp_blk 2 (c' := (22, [some (.inr (some (12, x0))), some (.inl x1), some (.inl y0)], [.inl x1], (S, d))) rfl ?_
  refine zwp_br rfl (fun hb => ?_) (fun hb => ?_)
  · show zwp 67 (39, [some (.inr (some (12, x0))), some (.inl x1), some (.inl y0)], [], (S, d)) Q
    replace h := h.1 (of_decide_eq_true hb)
    refine zwp_blk 1 (c' := (40, [some (.inr (some (12, x0))), some (.inl x1), some (.inl y0)], [.inl (zint (-1))], (S, d))) rfl ?_
    exact zwp_end rfl h
  · show zwp 67 (25, [some (.inr (some (12, x0))), some (.inl x1), some (.inl y0)], [], (S, d)) Q
    replace h := h.2 (of_decide_eq_false hb)
    refine zwp_blk 2 (c' := (27, [some (.inr (some (12, x0))), some (.inl x1), some (.inl y0)], [.inl y0, .inl x1], (S, d))) rfl ?_
    refine zwp_br rfl (fun hb => ?_) (fun hb => ?_)
    · show zwp 67 (39, [some (.inr (some (12, x0))), some (.inl x1), some (.inl y0)], [], (S, d)) Q
      replace h := h.1 (of_decide_eq_true hb)
      refine zwp_blk 1 (c' := (40, [some (.inr (some (12, x0))), some (.inl x1), some (.inl y0)], [.inl (zint (-1))], (S, d))) rfl ?_
      exact zwp_end rfl h
    · show zwp 67 (30, [some (.inr (some (12, x0))), some (.inl x1), some (.inl y0)], [], (S, d)) Q
      replace h := h.2 (of_decide_eq_false hb)
      refine zwp_blk 3 (c' := (35, [some (.inr (some (12, x0))), some (.inl x1), some (.inl y0)], [.inl x1, .inr (some (14, x0))], (S, d))) rfl ?_
      obtain ⟨j1, ej1, lj1, h⟩ := h
      refine zwp_ldx (n := 4) (cd := 896) (i := x0) (pc' := 36) (ls := [some (.inr (some (12, x0))), some (.inl x1), some (.inl y0)]) (r := []) (t := (S, d)) rfl ej1 lj1 (by decide) ?_
      refine zwp_blk 1 (c' := (40, [some (.inr (some (12, x0))), some (.inl x1), some (.inl y0)], [.inl (S 896 x0 j1)], (S, d))) rfl ?_
      exact zwp_end rfl h
-- 68 PageKeeper$Contents.indexOf
theorem w68_0 {S : zS} {d : Nat} {Q : zO → zT → Prop} {x0 : Nat} {x1 : Int32} (h : zwp 68 (2, [some (.inr (some (12, x0))), some (.inl x1), some (.inl (nI 0))], [], (S, d)) Q) : zwp 68 (0, [some (.inr (some (12, x0))), some (.inl x1), none], [], (S, d)) Q := by
  refine zwp_blk 2 (c' := (2, [some (.inr (some (12, x0))), some (.inl x1), some (.inl (nI 0))], [], (S, d))) rfl ?_
  exact h
theorem w68_2 {S : zS} {d : Nat} {Q : zO → zT → Prop} {x0 : Nat} {x1 : Int32} {x2 : Int32} (h : ((S 769 x0 0) ≤ x2 → Q (.inl (some (.inl (zint (-1))))) (S, d)) ∧ (¬ (S 769 x0 0) ≤ x2 → ∃ j1 : Nat, x2 = nI j1 ∧ j1 < 4 ∧ (((S 832 x0 j1) = x1 → Q (.inl (some (.inl x2))) (S, d)) ∧ (¬ (S 832 x0 j1) = x1 → zwp 68 (2, [some (.inr (some (12, x0))), some (.inl x1), some (.inl (x2 + nI 1))], [], (S, d)) Q)))) : zwp 68 (2, [some (.inr (some (12, x0))), some (.inl x1), some (.inl x2)], [], (S, d)) Q := by
  refine zwp_blk 3 (c' := (7, [some (.inr (some (12, x0))), some (.inl x1), some (.inl x2)], [.inl (S 769 x0 0), .inl x2], (S, d))) rfl ?_
  refine zwp_br rfl (fun hb => ?_) (fun hb => ?_)
  · show zwp 68 (28, [some (.inr (some (12, x0))), some (.inl x1), some (.inl x2)], [], (S, d)) Q
    replace h := h.1 (of_decide_eq_true hb)
    refine zwp_blk 1 (c' := (29, [some (.inr (some (12, x0))), some (.inl x1), some (.inl x2)], [.inl (zint (-1))], (S, d))) rfl ?_
    exact zwp_end rfl h
  · show zwp 68 (10, [some (.inr (some (12, x0))), some (.inl x1), some (.inl x2)], [], (S, d)) Q
    replace h := h.2 (of_decide_eq_false hb)
    refine zwp_blk 3 (c' := (15, [some (.inr (some (12, x0))), some (.inl x1), some (.inl x2)], [.inl x2, .inr (some (13, x0))], (S, d))) rfl ?_
    obtain ⟨j1, ej1, lj1, h⟩ := h
    refine zwp_ldx (n := 4) (cd := 832) (i := x0) (pc' := 16) (ls := [some (.inr (some (12, x0))), some (.inl x1), some (.inl x2)]) (r := []) (t := (S, d)) rfl ej1 lj1 (by decide) ?_
    refine zwp_blk 1 (c' := (17, [some (.inr (some (12, x0))), some (.inl x1), some (.inl x2)], [.inl x1, .inl (S 832 x0 j1)], (S, d))) rfl ?_
    refine zwp_br rfl (fun hb => ?_) (fun hb => ?_)
    · show zwp 68 (22, [some (.inr (some (12, x0))), some (.inl x1), some (.inl x2)], [], (S, d)) Q
      replace h := h.2 (zne_t hb)
      refine zwp_blk 2 (c' := (2, [some (.inr (some (12, x0))), some (.inl x1), some (.inl (x2 + nI 1))], [], (S, d))) rfl ?_
      exact h
    · show zwp 68 (20, [some (.inr (some (12, x0))), some (.inl x1), some (.inl x2)], [], (S, d)) Q
      replace h := h.1 (zne_f hb)
      refine zwp_blk 1 (c' := (21, [some (.inr (some (12, x0))), some (.inl x1), some (.inl x2)], [.inl x2], (S, d))) rfl ?_
      exact zwp_end rfl h
-- 69 PageKeeper$Contents.childFor
theorem w69_0 {S : zS} {d : Nat} {Q : zO → zT → Prop} {x0 : Nat} {x1 : Int32} (h : zwp 69 (2, [some (.inr (some (12, x0))), some (.inl x1), some (.inl (nI 0))], [], (S, d)) Q) : zwp 69 (0, [some (.inr (some (12, x0))), some (.inl x1), none], [], (S, d)) Q := by
  refine zwp_blk 2 (c' := (2, [some (.inr (some (12, x0))), some (.inl x1), some (.inl (nI 0))], [], (S, d))) rfl ?_
  exact h
theorem w69_2 {S : zS} {d : Nat} {Q : zO → zT → Prop} {x0 : Nat} {x1 : Int32} {x2 : Int32} (h : (((S 769 x0 0) - (nI 1)) ≤ x2 → ∃ j1 : Nat, x2 = nI j1 ∧ j1 < 4 ∧ (Q (.inl (some (.inl (S 832 x0 j1)))) (S, d))) ∧ (¬ ((S 769 x0 0) - (nI 1)) ≤ x2 → ∃ j2 : Nat, x2 = nI j2 ∧ j2 < 4 ∧ ((x1 < (S 896 x0 j2) → ∃ j3 : Nat, x2 = nI j3 ∧ j3 < 4 ∧ (Q (.inl (some (.inl (S 832 x0 j3)))) (S, d))) ∧ (¬ x1 < (S 896 x0 j2) → zwp 69 (2, [some (.inr (some (12, x0))), some (.inl x1), some (.inl (x2 + nI 1))], [], (S, d)) Q)))) : zwp 69 (2, [some (.inr (some (12, x0))), some (.inl x1), some (.inl x2)], [], (S, d)) Q := by
  refine zwp_blk 5 (c' := (9, [some (.inr (some (12, x0))), some (.inl x1), some (.inl x2)], [.inl ((S 769 x0 0) - (nI 1)), .inl x2], (S, d))) rfl ?_
  refine zwp_br rfl (fun hb => ?_) (fun hb => ?_)
  · show zwp 69 (28, [some (.inr (some (12, x0))), some (.inl x1), some (.inl x2)], [], (S, d)) Q
    replace h := h.1 (of_decide_eq_true hb)
    refine zwp_blk 3 (c' := (33, [some (.inr (some (12, x0))), some (.inl x1), some (.inl x2)], [.inl x2, .inr (some (13, x0))], (S, d))) rfl ?_
    obtain ⟨j1, ej1, lj1, h⟩ := h
    refine zwp_ldx (n := 4) (cd := 832) (i := x0) (pc' := 34) (ls := [some (.inr (some (12, x0))), some (.inl x1), some (.inl x2)]) (r := []) (t := (S, d)) rfl ej1 lj1 (by decide) ?_
    exact zwp_end rfl h
  · show zwp 69 (12, [some (.inr (some (12, x0))), some (.inl x1), some (.inl x2)], [], (S, d)) Q
    replace h := h.2 (of_decide_eq_false hb)
    refine zwp_blk 3 (c' := (17, [some (.inr (some (12, x0))), some (.inl x1), some (.inl x2)], [.inl x2, .inr (some (14, x0))], (S, d))) rfl ?_
    obtain ⟨j2, ej2, lj2, h⟩ := h
    refine zwp_ldx (n := 4) (cd := 896) (i := x0) (pc' := 18) (ls := [some (.inr (some (12, x0))), some (.inl x1), some (.inl x2)]) (r := []) (t := (S, d)) rfl ej2 lj2 (by decide) ?_
    refine zwp_blk 1 (c' := (19, [some (.inr (some (12, x0))), some (.inl x1), some (.inl x2)], [.inl x1, .inl (S 896 x0 j2)], (S, d))) rfl ?_
    refine zwp_br rfl (fun hb => ?_) (fun hb => ?_)
    · show zwp 69 (28, [some (.inr (some (12, x0))), some (.inl x1), some (.inl x2)], [], (S, d)) Q
      replace h := h.1 (of_decide_eq_true hb)
      refine zwp_blk 3 (c' := (33, [some (.inr (some (12, x0))), some (.inl x1), some (.inl x2)], [.inl x2, .inr (some (13, x0))], (S, d))) rfl ?_
      obtain ⟨j3, ej3, lj3, h⟩ := h
      refine zwp_ldx (n := 4) (cd := 832) (i := x0) (pc' := 34) (ls := [some (.inr (some (12, x0))), some (.inl x1), some (.inl x2)]) (r := []) (t := (S, d)) rfl ej3 lj3 (by decide) ?_
      exact zwp_end rfl h
    · show zwp 69 (22, [some (.inr (some (12, x0))), some (.inl x1), some (.inl x2)], [], (S, d)) Q
      replace h := h.2 (of_decide_eq_false hb)
      refine zwp_blk 2 (c' := (2, [some (.inr (some (12, x0))), some (.inl x1), some (.inl (x2 + nI 1))], [], (S, d))) rfl ?_
      exact h
-- 70 PageKeeper$Contents.middleKey
theorem w70_0 {S : zS} {d : Nat} {Q : zO → zT → Prop} {x0 : Nat} (h : ((S 768 x0 0) = 0 → ∃ j1 : Nat, nI 2 = nI j1 ∧ j1 < 4 ∧ (Q (.inl (some (.inl (S 832 x0 j1)))) (S, d))) ∧ (¬ (S 768 x0 0) = 0 → ∃ j2 : Nat, nI 1 = nI j2 ∧ j2 < 4 ∧ (Q (.inl (some (.inl (S 896 x0 j2)))) (S, d)))) : zwp 70 (0, [some (.inr (some (12, x0)))], [], (S, d)) Q := by
  refine zwp_blk 2 (c' := (4, [some (.inr (some (12, x0)))], [.inl (S 768 x0 0)], (S, d))) rfl ?_
  refine zwp_br rfl (fun hb => ?_) (fun hb => ?_)
  · show zwp 70 (16, [some (.inr (some (12, x0)))], [], (S, d)) Q
    replace h := h.1 (of_decide_eq_true hb)
    refine zwp_blk 3 (c' := (21, [some (.inr (some (12, x0)))], [.inl (nI 2), .inr (some (13, x0))], (S, d))) rfl ?_
    obtain ⟨j1, ej1, lj1, h⟩ := h
    refine zwp_ldx (n := 4) (cd := 832) (i := x0) (pc' := 22) (ls := [some (.inr (some (12, x0)))]) (r := []) (t := (S, d)) rfl ej1 lj1 (by decide) ?_
    exact zwp_end rfl h
  · show zwp 70 (7, [some (.inr (some (12, x0)))], [], (S, d)) Q
    replace h := h.2 (of_decide_eq_false hb)
    refine zwp_blk 3 (c' := (12, [some (.inr (some (12, x0)))], [.inl (nI 1), .inr (some (14, x0))], (S, d))) rfl ?_
    obtain ⟨j2, ej2, lj2, h⟩ := h
    refine zwp_ldx (n := 4) (cd := 896) (i := x0) (pc' := 13) (ls := [some (.inr (some (12, x0)))]) (r := []) (t := (S, d)) rfl ej2 lj2 (by decide) ?_
    refine zwp_blk 1 (c' := (22, [some (.inr (some (12, x0)))], [.inl (S 896 x0 j2)], (S, d))) rfl ?_
    exact zwp_end rfl h
-- 71 PageKeeper$Contents.enter
theorem w71_0 {S : zS} {d : Nat} {Q : zO → zT → Prop} {x0 : Nat} {x1 : Int32} {x2 : Int32} (h : zwp 71 (2, [some (.inr (some (12, x0))), some (.inl x1), some (.inl x2), some (.inl (nI 0))], [], (S, d)) Q) : zwp 71 (0, [some (.inr (some (12, x0))), some (.inl x1), some (.inl x2), none], [], (S, d)) Q := by
  refine zwp_blk 2 (c' := (2, [some (.inr (some (12, x0))), some (.inl x1), some (.inl x2), some (.inl (nI 0))], [], (S, d))) rfl ?_
  exact h
theorem w71_2 {S : zS} {d : Nat} {Q : zO → zT → Prop} {x0 : Nat} {x1 : Int32} {x2 : Int32} {x3 : Int32} (h : ((S 769 x0 0) ≤ x3 → zwp 71 (26, [some (.inr (some (12, x0))), some (.inl x1), some (.inl x2), some (.inl x3)], [], (S, d)) Q) ∧ (¬ (S 769 x0 0) ≤ x3 → ∃ j1 : Nat, x3 = nI j1 ∧ j1 < 4 ∧ ((x1 ≤ (S 832 x0 j1) → zwp 71 (26, [some (.inr (some (12, x0))), some (.inl x1), some (.inl x2), some (.inl x3)], [], (S, d)) Q) ∧ (¬ x1 ≤ (S 832 x0 j1) → zwp 71 (2, [some (.inr (some (12, x0))), some (.inl x1), some (.inl x2), some (.inl (x3 + nI 1))], [], (S, d)) Q)))) : zwp 71 (2, [some (.inr (some (12, x0))), some (.inl x1), some (.inl x2), some (.inl x3)], [], (S, d)) Q := by
  refine zwp_blk 3 (c' := (7, [some (.inr (some (12, x0))), some (.inl x1), some (.inl x2), some (.inl x3)], [.inl (S 769 x0 0), .inl x3], (S, d))) rfl ?_
  refine zwp_br rfl (fun hb => ?_) (fun hb => ?_)
  · show zwp 71 (26, [some (.inr (some (12, x0))), some (.inl x1), some (.inl x2), some (.inl x3)], [], (S, d)) Q
    replace h := h.1 (of_decide_eq_true hb)
    exact h
  · show zwp 71 (10, [some (.inr (some (12, x0))), some (.inl x1), some (.inl x2), some (.inl x3)], [], (S, d)) Q
    replace h := h.2 (of_decide_eq_false hb)
    refine zwp_blk 3 (c' := (15, [some (.inr (some (12, x0))), some (.inl x1), some (.inl x2), some (.inl x3)], [.inl x3, .inr (some (13, x0))], (S, d))) rfl ?_
    obtain ⟨j1, ej1, lj1, h⟩ := h
    refine zwp_ldx (n := 4) (cd := 832) (i := x0) (pc' := 16) (ls := [some (.inr (some (12, x0))), some (.inl x1), some (.inl x2), some (.inl x3)]) (r := []) (t := (S, d)) rfl ej1 lj1 (by decide) ?_
    refine zwp_blk 1 (c' := (17, [some (.inr (some (12, x0))), some (.inl x1), some (.inl x2), some (.inl x3)], [.inl x1, .inl (S 832 x0 j1)], (S, d))) rfl ?_
    refine zwp_br rfl (fun hb => ?_) (fun hb => ?_)
    · show zwp 71 (26, [some (.inr (some (12, x0))), some (.inl x1), some (.inl x2), some (.inl x3)], [], (S, d)) Q
      replace h := h.1 (of_decide_eq_true hb)
      exact h
    · show zwp 71 (20, [some (.inr (some (12, x0))), some (.inl x1), some (.inl x2), some (.inl x3)], [], (S, d)) Q
      replace h := h.2 (of_decide_eq_false hb)
      refine zwp_blk 2 (c' := (2, [some (.inr (some (12, x0))), some (.inl x1), some (.inl x2), some (.inl (x3 + nI 1))], [], (S, d))) rfl ?_
      exact h
theorem w71_26 {S : zS} {d : Nat} {Q : zO → zT → Prop} {x0 : Nat} {x1 : Int32} {x2 : Int32} {x3 : Int32} (h : ((S 769 x0 0) ≤ x3 → zwp 71 (54, [some (.inr (some (12, x0))), some (.inl x1), some (.inl x2), some (.inl x3)], [], (S, d)) Q) ∧ (¬ (S 769 x0 0) ≤ x3 → ∃ j1 : Nat, x3 = nI j1 ∧ j1 < 4 ∧ (((S 832 x0 j1) = x1 → ∃ j2 : Nat, x3 = nI j2 ∧ j2 < 4 ∧ (Q (.inl none) (zu S 896 x0 j2 x2, d))) ∧ (¬ (S 832 x0 j1) = x1 → zwp 71 (54, [some (.inr (some (12, x0))), some (.inl x1), some (.inl x2), some (.inl x3)], [], (S, d)) Q)))) : zwp 71 (26, [some (.inr (some (12, x0))), some (.inl x1), some (.inl x2), some (.inl x3)], [], (S, d)) Q := by
  refine zwp_blk 3 (c' := (31, [some (.inr (some (12, x0))), some (.inl x1), some (.inl x2), some (.inl x3)], [.inl (S 769 x0 0), .inl x3], (S, d))) rfl ?_
  refine zwp_br rfl (fun hb => ?_) (fun hb => ?_)
  · show zwp 71 (54, [some (.inr (some (12, x0))), some (.inl x1), some (.inl x2), some (.inl x3)], [], (S, d)) Q
    replace h := h.1 (of_decide_eq_true hb)
    exact h
  · show zwp 71 (34, [some (.inr (some (12, x0))), some (.inl x1), some (.inl x2), some (.inl x3)], [], (S, d)) Q
    replace h := h.2 (of_decide_eq_false hb)
    refine zwp_blk 3 (c' := (39, [some (.inr (some (12, x0))), some (.inl x1), some (.inl x2), some (.inl x3)], [.inl x3, .inr (some (13, x0))], (S, d))) rfl ?_
    obtain ⟨j1, ej1, lj1, h⟩ := h
    refine zwp_ldx (n := 4) (cd := 832) (i := x0) (pc' := 40) (ls := [some (.inr (some (12, x0))), some (.inl x1), some (.inl x2), some (.inl x3)]) (r := []) (t := (S, d)) rfl ej1 lj1 (by decide) ?_
    refine zwp_blk 1 (c' := (41, [some (.inr (some (12, x0))), some (.inl x1), some (.inl x2), some (.inl x3)], [.inl x1, .inl (S 832 x0 j1)], (S, d))) rfl ?_
    refine zwp_br rfl (fun hb => ?_) (fun hb => ?_)
    · show zwp 71 (54, [some (.inr (some (12, x0))), some (.inl x1), some (.inl x2), some (.inl x3)], [], (S, d)) Q
      replace h := h.2 (zne_t hb)
      exact h
    · show zwp 71 (44, [some (.inr (some (12, x0))), some (.inl x1), some (.inl x2), some (.inl x3)], [], (S, d)) Q
      replace h := h.1 (zne_f hb)
      refine zwp_blk 4 (c' := (50, [some (.inr (some (12, x0))), some (.inl x1), some (.inl x2), some (.inl x3)], [.inl x2, .inl x3, .inr (some (14, x0))], (S, d))) rfl ?_
      obtain ⟨j2, ej2, lj2, h⟩ := h
      refine zwp_stx (n := 4) (cd := 896) (i := x0) (v := x2) (pc' := 51) (ls := [some (.inr (some (12, x0))), some (.inl x1), some (.inl x2), some (.inl x3)]) (r := []) (t := (S, d)) rfl ej2 lj2 (by decide) ?_
      refine zwp_blk 1 (c' := (102, [some (.inr (some (12, x0))), some (.inl x1), some (.inl x2), some (.inl x3)], [], (zu S 896 x0 j2 x2, d))) rfl ?_
      exact zwp_end rfl h
theorem w71_54 {S : zS} {d : Nat} {Q : zO → zT → Prop} {x0 : Nat} {x1 : Int32} {x2 : Int32} {x3 : Int32} (h : ((nI 4) ≤ (S 769 x0 0) → Q (.inl none) (S, d)) ∧ (¬ (nI 4) ≤ (S 769 x0 0) → zwp 74 (0, zent 74 [.inr (some (13, x0)), .inl x3], [], (S, d)) (zaf 71 70 [some (.inr (some (12, x0))), some (.inl x1), some (.inl x2), some (.inl x3)] [] Q))) : zwp 71 (54, [some (.inr (some (12, x0))), some (.inl x1), some (.inl x2), some (.inl x3)], [], (S, d)) Q := by
  refine zwp_blk 3 (c' := (59, [some (.inr (some (12, x0))), some (.inl x1), some (.inl x2), some (.inl x3)], [.inl (nI 4), .inl (S 769 x0 0)], (S, d))) rfl ?_
  refine zwp_br rfl (fun hb => ?_) (fun hb => ?_)
  · show zwp 71 (102, [some (.inr (some (12, x0))), some (.inl x1), some (.inl x2), some (.inl x3)], [], (S, d)) Q
    replace h := h.1 (of_decide_eq_true hb)
    exact zwp_end rfl h
  · show zwp 71 (62, [some (.inr (some (12, x0))), some (.inl x1), some (.inl x2), some (.inl x3)], [], (S, d)) Q
    replace h := h.2 (of_decide_eq_false hb)
    refine zwp_blk 3 (c' := (67, [some (.inr (some (12, x0))), some (.inl x1), some (.inl x2), some (.inl x3)], [.inl x3, .inr (some (13, x0))], (S, d))) rfl ?_
    exact zwp_call rfl h
theorem w71_70 {S : zS} {d : Nat} {Q : zO → zT → Prop} {x0 : Nat} {x1 : Int32} {x2 : Int32} {x3 : Int32} (h : zwp 74 (0, zent 74 [.inr (some (14, x0)), .inl x3], [], (S, d)) (zaf 71 78 [some (.inr (some (12, x0))), some (.inl x1), some (.inl x2), some (.inl x3)] [] Q)) : zwp 71 (70, [some (.inr (some (12, x0))), some (.inl x1), some (.inl x2), some (.inl x3)], [], (S, d)) Q := by
  refine zwp_blk 3 (c' := (75, [some (.inr (some (12, x0))), some (.inl x1), some (.inl x2), some (.inl x3)], [.inl x3, .inr (some (14, x0))], (S, d))) rfl ?_
  exact zwp_call rfl h
theorem w71_78 {S : zS} {d : Nat} {Q : zO → zT → Prop} {x0 : Nat} {x1 : Int32} {x2 : Int32} {x3 : Int32} (h : ∃ j1 : Nat, x3 = nI j1 ∧ j1 < 4 ∧ (∃ j2 : Nat, x3 = nI j2 ∧ j2 < 4 ∧ (Q (.inl none) (zu (zu (zu S 832 x0 j1 x1) 896 x0 j2 x2) 769 x0 0 (((zu (zu S 832 x0 j1 x1) 896 x0 j2 x2) 769 x0 0) + (nI 1)), d)))) : zwp 71 (78, [some (.inr (some (12, x0))), some (.inl x1), some (.inl x2), some (.inl x3)], [], (S, d)) Q := by
  refine zwp_blk 4 (c' := (84, [some (.inr (some (12, x0))), some (.inl x1), some (.inl x2), some (.inl x3)], [.inl x1, .inl x3, .inr (some (13, x0))], (S, d))) rfl ?_
  obtain ⟨j1, ej1, lj1, h⟩ := h
  refine zwp_stx (n := 4) (cd := 832) (i := x0) (v := x1) (pc' := 85) (ls := [some (.inr (some (12, x0))), some (.inl x1), some (.inl x2), some (.inl x3)]) (r := []) (t := (S, d)) rfl ej1 lj1 (by decide) ?_
  refine zwp_blk 4 (c' := (91, [some (.inr (some (12, x0))), some (.inl x1), some (.inl x2), some (.inl x3)], [.inl x2, .inl x3, .inr (some (14, x0))], (zu S 832 x0 j1 x1, d))) rfl ?_
  obtain ⟨j2, ej2, lj2, h⟩ := h
  refine zwp_stx (n := 4) (cd := 896) (i := x0) (v := x2) (pc' := 92) (ls := [some (.inr (some (12, x0))), some (.inl x1), some (.inl x2), some (.inl x3)]) (r := []) (t := (zu S 832 x0 j1 x1, d)) rfl ej2 lj2 (by decide) ?_
  refine zwp_blk 6 (c' := (102, [some (.inr (some (12, x0))), some (.inl x1), some (.inl x2), some (.inl x3)], [], (zu (zu (zu S 832 x0 j1 x1) 896 x0 j2 x2) 769 x0 0 (((zu (zu S 832 x0 j1 x1) 896 x0 j2 x2) 769 x0 0) + (nI 1)), d))) rfl ?_
  exact zwp_end rfl h
-- 72 PageKeeper$Contents.drop
theorem w72_0 {S : zS} {d : Nat} {Q : zO → zT → Prop} {x0 : Nat} {x1 : Int32} (h : zwp 68 (0, zent 68 [.inr (some (12, x0)), .inl x1], [], (S, d)) (zaf 72 5 [some (.inr (some (12, x0))), some (.inl x1), none, none] [] Q)) : zwp 72 (0, [some (.inr (some (12, x0))), some (.inl x1), none, none], [], (S, d)) Q := by
  refine zwp_blk 2 (c' := (2, [some (.inr (some (12, x0))), some (.inl x1), none, none], [.inl x1, .inr (some (12, x0))], (S, d))) rfl ?_
  exact zwp_call rfl h
theorem w72_5 {S : zS} {d : Nat} {Q : zO → zT → Prop} {x0 : Nat} {x1 : Int32} {y0 : Int32} (h : (y0 = (zint (-1)) → Q (.inl none) (S, d)) ∧ (¬ y0 = (zint (-1)) → zwp 72 (24, [some (.inr (some (12, x0))), some (.inl x1), some (.inl y0), some (.inl y0)], [], (zu S 769 x0 0 ((S 769 x0 0) - (nI 1)), d)) Q)) : zwp 72 (5, [some (.inr (some (12, x0))), some (.inl x1), none, none], [.inl y0], (S, d)) Q := by
  refine zwp_blk 3 (c' := (8, [some (.inr (some (12, x0))), some (.inl x1), some (.inl y0), none], [.inl (zint (-1)), .inl y0], (S, d))) rfl ?_
  refine zwp_br rfl (fun hb => ?_) (fun hb => ?_)
  · show zwp 72 (12, [some (.inr (some (12, x0))), some (.inl x1), some (.inl y0), none], [], (S, d)) Q
    replace h := h.2 (zne_t hb)
    refine zwp_blk 8 (c' := (24, [some (.inr (some (12, x0))), some (.inl x1), some (.inl y0), some (.inl y0)], [], (zu S 769 x0 0 ((S 769 x0 0) - (nI 1)), d))) rfl ?_
    exact h
  · show zwp 72 (11, [some (.inr (some (12, x0))), some (.inl x1), some (.inl y0), none], [], (S, d)) Q
    replace h := h.1 (zne_f hb)
    exact zwp_end rfl h
theorem w72_24 {S : zS} {d : Nat} {Q : zO → zT → Prop} {x0 : Nat} {x1 : Int32} {x2 : Int32} {x3 : Int32} (h : ((S 769 x0 0) ≤ x3 → Q (.inl none) (S, d)) ∧ (¬ (S 769 x0 0) ≤ x3 → ∃ j1 : Nat, x3 + (nI 1) = nI j1 ∧ j1 < 4 ∧ (∃ j2 : Nat, x3 = nI j2 ∧ j2 < 4 ∧ (∃ j3 : Nat, x3 + (nI 1) = nI j3 ∧ j3 < 4 ∧ (∃ j4 : Nat, x3 = nI j4 ∧ j4 < 4 ∧ (zwp 72 (24, [some (.inr (some (12, x0))), some (.inl x1), some (.inl x2), some (.inl (x3 + nI 1))], [], (zu (zu S 832 x0 j2 ((S 832 x0 j1))) 896 x0 j4 (((zu S 832 x0 j2 ((S 832 x0 j1))) 896 x0 j3)), d)) Q)))))) : zwp 72 (24, [some (.inr (some (12, x0))), some (.inl x1), some (.inl x2), some (.inl x3)], [], (S, d)) Q := by
  refine zwp_blk 3 (c' := (29, [some (.inr (some (12, x0))), some (.inl x1), some (.inl x2), some (.inl x3)], [.inl (S 769 x0 0), .inl x3], (S, d))) rfl ?_
  refine zwp_br rfl (fun hb => ?_) (fun hb => ?_)
  · show zwp 72 (66, [some (.inr (some (12, x0))), some (.inl x1), some (.inl x2), some (.inl x3)], [], (S, d)) Q
    replace h := h.1 (of_decide_eq_true hb)
    exact zwp_end rfl h
  · show zwp 72 (32, [some (.inr (some (12, x0))), some (.inl x1), some (.inl x2), some (.inl x3)], [], (S, d)) Q
    replace h := h.2 (of_decide_eq_false hb)
    refine zwp_blk 8 (c' := (44, [some (.inr (some (12, x0))), some (.inl x1), some (.inl x2), some (.inl x3)], [.inl (x3 + (nI 1)), .inr (some (13, x0)), .inl x3, .inr (some (13, x0))], (S, d))) rfl ?_
    obtain ⟨j1, ej1, lj1, h⟩ := h
    refine zwp_ldx (n := 4) (cd := 832) (i := x0) (pc' := 45) (ls := [some (.inr (some (12, x0))), some (.inl x1), some (.inl x2), some (.inl x3)]) (r := [.inl x3, .inr (some (13, x0))]) (t := (S, d)) rfl ej1 lj1 (by decide) ?_
    obtain ⟨j2, ej2, lj2, h⟩ := h
    refine zwp_stx (n := 4) (cd := 832) (i := x0) (v := (S 832 x0 j1)) (pc' := 46) (ls := [some (.inr (some (12, x0))), some (.inl x1), some (.inl x2), some (.inl x3)]) (r := []) (t := (S, d)) rfl ej2 lj2 (by decide) ?_
    refine zwp_blk 8 (c' := (58, [some (.inr (some (12, x0))), some (.inl x1), some (.inl x2), some (.inl x3)], [.inl (x3 + (nI 1)), .inr (some (14, x0)), .inl x3, .inr (some (14, x0))], (zu S 832 x0 j2 ((S 832 x0 j1)), d))) rfl ?_
    obtain ⟨j3, ej3, lj3, h⟩ := h
    refine zwp_ldx (n := 4) (cd := 896) (i := x0) (pc' := 59) (ls := [some (.inr (some (12, x0))), some (.inl x1), some (.inl x2), some (.inl x3)]) (r := [.inl x3, .inr (some (14, x0))]) (t := (zu S 832 x0 j2 ((S 832 x0 j1)), d)) rfl ej3 lj3 (by decide) ?_
    obtain ⟨j4, ej4, lj4, h⟩ := h
    refine zwp_stx (n := 4) (cd := 896) (i := x0) (v := ((zu S 832 x0 j2 ((S 832 x0 j1))) 896 x0 j3)) (pc' := 60) (ls := [some (.inr (some (12, x0))), some (.inl x1), some (.inl x2), some (.inl x3)]) (r := []) (t := (zu S 832 x0 j2 ((S 832 x0 j1)), d)) rfl ej4 lj4 (by decide) ?_
    refine zwp_blk 2 (c' := (24, [some (.inr (some (12, x0))), some (.inl x1), some (.inl x2), some (.inl (x3 + nI 1))], [], (zu (zu S 832 x0 j2 ((S 832 x0 j1))) 896 x0 j4 (((zu S 832 x0 j2 ((S 832 x0 j1))) 896 x0 j3)), d))) rfl ?_
    exact h
-- 73 PageKeeper$Contents.link
theorem w73_0 {S : zS} {d : Nat} {Q : zO → zT → Prop} {x0 : Nat} {x1 : Int32} {x2 : Int32} {x3 : Int32} (h : zwp 68 (0, zent 68 [.inr (some (12, x0)), .inl x3], [], (S, d)) (zaf 73 5 [some (.inr (some (12, x0))), some (.inl x1), some (.inl x2), some (.inl x3), none] [] Q)) : zwp 73 (0, [some (.inr (some (12, x0))), some (.inl x1), some (.inl x2), some (.inl x3), none], [], (S, d)) Q := by
  refine zwp_blk 2 (c' := (2, [some (.inr (some (12, x0))), some (.inl x1), some (.inl x2), some (.inl x3), none], [.inl x3, .inr (some (12, x0))], (S, d))) rfl ?_
  exact zwp_call rfl h
theorem w73_5 {S : zS} {d : Nat} {Q : zO → zT → Prop} {x0 : Nat} {x1 : Int32} {x2 : Int32} {x3 : Int32} {y0 : Int32} (h : (y0 = (zint (-1)) → Q (.inl none) (S, d)) ∧ (¬ y0 = (zint (-1)) → ((S 769 x0 0) = (nI 4) → Q (.inl none) (S, d)) ∧ (¬ (S 769 x0 0) = (nI 4) → zwp 74 (0, zent 74 [.inr (some (13, x0)), .inl (y0 + (nI 1))], [], (S, d)) (zaf 73 33 [some (.inr (some (12, x0))), some (.inl x1), some (.inl x2), some (.inl x3), some (.inl y0)] [] Q)))) : zwp 73 (5, [some (.inr (some (12, x0))), some (.inl x1), some (.inl x2), some (.inl x3), none], [.inl y0], (S, d)) Q := by
  refine zwp_blk 3 (c' := (10, [some (.inr (some (12, x0))), some (.inl x1), some (.inl x2), some (.inl x3), some (.inl y0)], [.inl (zint (-1)), .inl y0], (S, d))) rfl ?_
  refine zwp_br rfl (fun hb => ?_) (fun hb => ?_)
  · show zwp 73 (21, [some (.inr (some (12, x0))), some (.inl x1), some (.inl x2), some (.inl x3), some (.inl y0)], [], (S, d)) Q
    replace h := h.1 (of_decide_eq_true hb)
    exact zwp_end rfl h
  · show zwp 73 (13, [some (.inr (some (12, x0))), some (.inl x1), some (.inl x2), some (.inl x3), some (.inl y0)], [], (S, d)) Q
    replace h := h.2 (of_decide_eq_false hb)
    refine zwp_blk 3 (c' := (18, [some (.inr (some (12, x0))), some (.inl x1), some (.inl x2), some (.inl x3), some (.inl y0)], [.inl (nI 4), .inl (S 769 x0 0)], (S, d))) rfl ?_
    refine zwp_br rfl (fun hb => ?_) (fun hb => ?_)
    · show zwp 73 (22, [some (.inr (some (12, x0))), some (.inl x1), some (.inl x2), some (.inl x3), some (.inl y0)], [], (S, d)) Q
      replace h := h.2 (zne_t hb)
      refine zwp_blk 5 (c' := (30, [some (.inr (some (12, x0))), some (.inl x1), some (.inl x2), some (.inl x3), some (.inl y0)], [.inl (y0 + (nI 1)), .inr (some (13, x0))], (S, d))) rfl ?_
      exact zwp_call rfl h
    · show zwp 73 (21, [some (.inr (some (12, x0))), some (.inl x1), some (.inl x2), some (.inl x3), some (.inl y0)], [], (S, d)) Q
      replace h := h.1 (zne_f hb)
      exact zwp_end rfl h
theorem w73_33 {S : zS} {d : Nat} {Q : zO → zT → Prop} {x0 : Nat} {x1 : Int32} {x2 : Int32} {x3 : Int32} {x4 : Int32} (h : zwp 74 (0, zent 74 [.inr (some (14, x0)), .inl x4], [], (S, d)) (zaf 73 42 [some (.inr (some (12, x0))), some (.inl x1), some (.inl x2), some (.inl x3), some (.inl x4)] [] Q)) : zwp 73 (33, [some (.inr (some (12, x0))), some (.inl x1), some (.inl x2), some (.inl x3), some (.inl x4)], [], (S, d)) Q := by
  refine zwp_blk 3 (c' := (39, [some (.inr (some (12, x0))), some (.inl x1), some (.inl x2), some (.inl x3), some (.inl x4)], [.inl x4, .inr (some (14, x0))], (S, d))) rfl ?_
  exact zwp_call rfl h
theorem w73_42 {S : zS} {d : Nat} {Q : zO → zT → Prop} {x0 : Nat} {x1 : Int32} {x2 : Int32} {x3 : Int32} {x4 : Int32} (h : ∃ j1 : Nat, x4 + (nI 1) = nI j1 ∧ j1 < 4 ∧ (∃ j2 : Nat, x4 = nI j2 ∧ j2 < 4 ∧ (Q (.inl none) (zu (zu (zu S 832 x0 j1 x2) 896 x0 j2 x1) 769 x0 0 (((zu (zu S 832 x0 j1 x2) 896 x0 j2 x1) 769 x0 0) + (nI 1)), d)))) : zwp 73 (42, [some (.inr (some (12, x0))), some (.inl x1), some (.inl x2), some (.inl x3), some (.inl x4)], [], (S, d)) Q := by
  refine zwp_blk 6 (c' := (51, [some (.inr (some (12, x0))), some (.inl x1), some (.inl x2), some (.inl x3), some (.inl x4)], [.inl x2, .inl (x4 + (nI 1)), .inr (some (13, x0))], (S, d))) rfl ?_
  obtain ⟨j1, ej1, lj1, h⟩ := h
  refine zwp_stx (n := 4) (cd := 832) (i := x0) (v := x2) (pc' := 52) (ls := [some (.inr (some (12, x0))), some (.inl x1), some (.inl x2), some (.inl x3), some (.inl x4)]) (r := []) (t := (S, d)) rfl ej1 lj1 (by decide) ?_
  refine zwp_blk 4 (c' := (59, [some (.inr (some (12, x0))), some (.inl x1), some (.inl x2), some (.inl x3), some (.inl x4)], [.inl x1, .inl x4, .inr (some (14, x0))], (zu S 832 x0 j1 x2, d))) rfl ?_
  obtain ⟨j2, ej2, lj2, h⟩ := h
  refine zwp_stx (n := 4) (cd := 896) (i := x0) (v := x1) (pc' := 60) (ls := [some (.inr (some (12, x0))), some (.inl x1), some (.inl x2), some (.inl x3), some (.inl x4)]) (r := []) (t := (zu S 832 x0 j1 x2, d)) rfl ej2 lj2 (by decide) ?_
  refine zwp_blk 6 (c' := (70, [some (.inr (some (12, x0))), some (.inl x1), some (.inl x2), some (.inl x3), some (.inl x4)], [], (zu (zu (zu S 832 x0 j1 x2) 896 x0 j2 x1) 769 x0 0 (((zu (zu S 832 x0 j1 x2) 896 x0 j2 x1) 769 x0 0) + (nI 1)), d))) rfl ?_
  exact zwp_end rfl h
-- 74 PageKeeper$Contents.shiftUp
theorem w74h_0 {S : zS} {d : Nat} {Q : zO → zT → Prop} {x0 : Nat} {x1 : Int32} (h : zwp 74 (2, [some (.inr (some (13, x0))), some (.inl x1), some (.inl (nI 3))], [], (S, d)) Q) : zwp 74 (0, [some (.inr (some (13, x0))), some (.inl x1), none], [], (S, d)) Q := by
  refine zwp_blk 2 (c' := (2, [some (.inr (some (13, x0))), some (.inl x1), some (.inl (nI 3))], [], (S, d))) rfl ?_
  exact h
theorem w74h_2 {S : zS} {d : Nat} {Q : zO → zT → Prop} {x0 : Nat} {x1 : Int32} {x2 : Int32} (h : (x2 ≤ x1 → Q (.inl none) (S, d)) ∧ (¬ x2 ≤ x1 → ∃ j1 : Nat, x2 - (nI 1) = nI j1 ∧ j1 < 4 ∧ (∃ j2 : Nat, x2 = nI j2 ∧ j2 < 4 ∧ (zwp 74 (2, [some (.inr (some (13, x0))), some (.inl x1), some (.inl (x2 + zint (-1)))], [], (zu S 832 x0 j2 ((S 832 x0 j1)), d)) Q)))) : zwp 74 (2, [some (.inr (some (13, x0))), some (.inl x1), some (.inl x2)], [], (S, d)) Q := by
  refine zwp_blk 2 (c' := (4, [some (.inr (some (13, x0))), some (.inl x1), some (.inl x2)], [.inl x1, .inl x2], (S, d))) rfl ?_
  refine zwp_br rfl (fun hb => ?_) (fun hb => ?_)
  · show zwp 74 (21, [some (.inr (some (13, x0))), some (.inl x1), some (.inl x2)], [], (S, d)) Q
    replace h := h.1 (of_decide_eq_true hb)
    exact zwp_end rfl h
  · show zwp 74 (7, [some (.inr (some (13, x0))), some (.inl x1), some (.inl x2)], [], (S, d)) Q
    replace h := h.2 (of_decide_eq_false hb)
    refine zwp_blk 6 (c' := (13, [some (.inr (some (13, x0))), some (.inl x1), some (.inl x2)], [.inl (x2 - (nI 1)), .inr (some (13, x0)), .inl x2, .inr (some (13, x0))], (S, d))) rfl ?_
    obtain ⟨j1, ej1, lj1, h⟩ := h
    refine zwp_ldx (n := 4) (cd := 832) (i := x0) (pc' := 14) (ls := [some (.inr (some (13, x0))), some (.inl x1), some (.inl x2)]) (r := [.inl x2, .inr (some (13, x0))]) (t := (S, d)) rfl ej1 lj1 (by decide) ?_
    obtain ⟨j2, ej2, lj2, h⟩ := h
    refine zwp_stx (n := 4) (cd := 832) (i := x0) (v := (S 832 x0 j1)) (pc' := 15) (ls := [some (.inr (some (13, x0))), some (.inl x1), some (.inl x2)]) (r := []) (t := (S, d)) rfl ej2 lj2 (by decide) ?_
    refine zwp_blk 2 (c' := (2, [some (.inr (some (13, x0))), some (.inl x1), some (.inl (x2 + zint (-1)))], [], (zu S 832 x0 j2 ((S 832 x0 j1)), d))) rfl ?_
    exact h
-- 74 PageKeeper$Contents.shiftUp
theorem w74t_0 {S : zS} {d : Nat} {Q : zO → zT → Prop} {x0 : Nat} {x1 : Int32} (h : zwp 74 (2, [some (.inr (some (14, x0))), some (.inl x1), some (.inl (nI 3))], [], (S, d)) Q) : zwp 74 (0, [some (.inr (some (14, x0))), some (.inl x1), none], [], (S, d)) Q := by
  refine zwp_blk 2 (c' := (2, [some (.inr (some (14, x0))), some (.inl x1), some (.inl (nI 3))], [], (S, d))) rfl ?_
  exact h
theorem w74t_2 {S : zS} {d : Nat} {Q : zO → zT → Prop} {x0 : Nat} {x1 : Int32} {x2 : Int32} (h : (x2 ≤ x1 → Q (.inl none) (S, d)) ∧ (¬ x2 ≤ x1 → ∃ j1 : Nat, x2 - (nI 1) = nI j1 ∧ j1 < 4 ∧ (∃ j2 : Nat, x2 = nI j2 ∧ j2 < 4 ∧ (zwp 74 (2, [some (.inr (some (14, x0))), some (.inl x1), some (.inl (x2 + zint (-1)))], [], (zu S 896 x0 j2 ((S 896 x0 j1)), d)) Q)))) : zwp 74 (2, [some (.inr (some (14, x0))), some (.inl x1), some (.inl x2)], [], (S, d)) Q := by
  refine zwp_blk 2 (c' := (4, [some (.inr (some (14, x0))), some (.inl x1), some (.inl x2)], [.inl x1, .inl x2], (S, d))) rfl ?_
  refine zwp_br rfl (fun hb => ?_) (fun hb => ?_)
  · show zwp 74 (21, [some (.inr (some (14, x0))), some (.inl x1), some (.inl x2)], [], (S, d)) Q
    replace h := h.1 (of_decide_eq_true hb)
    exact zwp_end rfl h
  · show zwp 74 (7, [some (.inr (some (14, x0))), some (.inl x1), some (.inl x2)], [], (S, d)) Q
    replace h := h.2 (of_decide_eq_false hb)
    refine zwp_blk 6 (c' := (13, [some (.inr (some (14, x0))), some (.inl x1), some (.inl x2)], [.inl (x2 - (nI 1)), .inr (some (14, x0)), .inl x2, .inr (some (14, x0))], (S, d))) rfl ?_
    obtain ⟨j1, ej1, lj1, h⟩ := h
    refine zwp_ldx (n := 4) (cd := 896) (i := x0) (pc' := 14) (ls := [some (.inr (some (14, x0))), some (.inl x1), some (.inl x2)]) (r := [.inl x2, .inr (some (14, x0))]) (t := (S, d)) rfl ej1 lj1 (by decide) ?_
    obtain ⟨j2, ej2, lj2, h⟩ := h
    refine zwp_stx (n := 4) (cd := 896) (i := x0) (v := (S 896 x0 j1)) (pc' := 15) (ls := [some (.inr (some (14, x0))), some (.inl x1), some (.inl x2)]) (r := []) (t := (S, d)) rfl ej2 lj2 (by decide) ?_
    refine zwp_blk 2 (c' := (2, [some (.inr (some (14, x0))), some (.inl x1), some (.inl (x2 + zint (-1)))], [], (zu S 896 x0 j2 ((S 896 x0 j1)), d))) rfl ?_
    exact h
end
