-- ===== PART A: goes FIRST, ahead of the names: the tables' words, and 'selects' of the private methods out of them =====
/-- a private method of a class that the tables say can be made, by its rows of tables_1 -/
def lw_okq (q : MethodName × Nat) : Prop := (q.1.cls ≠ "java/lang/invoke/MethodHandle" ∧ q.1.cls ≠ "java/lang/invoke/VarHandle") ∧ Cond.instantiable q.1.cls q.2 ∈ tables_1 ∧ Cond.privateMethod q.1 ∈ tables_1 ∧ Cond.instanceMethod q.1 ∈ tables_1
theorem lw_p0 : lw_okq (⟨"DockLayout", "frontWindowAt", "(II)I"⟩, 8) := ⟨⟨by decide +kernel, by decide +kernel⟩, List.mem_of_getElem? (i := 22) (by decide +kernel), List.mem_of_getElem? (i := 311) (by decide +kernel), List.mem_of_getElem? (i := 312) (by decide +kernel)⟩
theorem lw_p1 : lw_okq (⟨"DockLayout", "groupAt", "(III)I"⟩, 8) := ⟨⟨by decide +kernel, by decide +kernel⟩, List.mem_of_getElem? (i := 22) (by decide +kernel), List.mem_of_getElem? (i := 333) (by decide +kernel), List.mem_of_getElem? (i := 334) (by decide +kernel)⟩
theorem lw_p2 : lw_okq (⟨"DockLayout", "paneOfTab", "(II)I"⟩, 8) := ⟨⟨by decide +kernel, by decide +kernel⟩, List.mem_of_getElem? (i := 22) (by decide +kernel), List.mem_of_getElem? (i := 371) (by decide +kernel), List.mem_of_getElem? (i := 372) (by decide +kernel)⟩
theorem lw_p3 : lw_okq (⟨"DockLayout$Placement", "removeGroup", "(I)V"⟩, 14) := ⟨⟨by decide +kernel, by decide +kernel⟩, List.mem_of_getElem? (i := 50) (by decide +kernel), List.mem_of_getElem? (i := 492) (by decide +kernel), List.mem_of_getElem? (i := 493) (by decide +kernel)⟩
theorem lw_p4 : lw_okq (⟨"DockLayout$Placement", "shiftChildren", "(III)V"⟩, 14) := ⟨⟨by decide +kernel, by decide +kernel⟩, List.mem_of_getElem? (i := 50) (by decide +kernel), List.mem_of_getElem? (i := 509) (by decide +kernel), List.mem_of_getElem? (i := 510) (by decide +kernel)⟩
theorem lw_p5 : lw_okq (⟨"DockLayout$Placement", "replace", "(II)V"⟩, 14) := ⟨⟨by decide +kernel, by decide +kernel⟩, List.mem_of_getElem? (i := 50) (by decide +kernel), List.mem_of_getElem? (i := 525) (by decide +kernel), List.mem_of_getElem? (i := 526) (by decide +kernel)⟩
theorem lw_p6 : lw_okq (⟨"DockLayout$TreeReader", "passTree", "(III)Z"⟩, 4) := ⟨⟨by decide +kernel, by decide +kernel⟩, List.mem_of_getElem? (i := 226) (by decide +kernel), List.mem_of_getElem? (i := 534) (by decide +kernel), List.mem_of_getElem? (i := 535) (by decide +kernel)⟩
theorem lw_p7 : lw_okq (⟨"DockLayout$TreeReader", "passSign", "(I)Z"⟩, 4) := ⟨⟨by decide +kernel, by decide +kernel⟩, List.mem_of_getElem? (i := 226) (by decide +kernel), List.mem_of_getElem? (i := 538) (by decide +kernel), List.mem_of_getElem? (i := 539) (by decide +kernel)⟩
theorem lw_p8 : lw_okq (⟨"DockLayout$TreeReader", "passTabs", "(I)Z"⟩, 4) := ⟨⟨by decide +kernel, by decide +kernel⟩, List.mem_of_getElem? (i := 226) (by decide +kernel), List.mem_of_getElem? (i := 560) (by decide +kernel), List.mem_of_getElem? (i := 561) (by decide +kernel)⟩
theorem lw_p9 : lw_okq (⟨"DockLayout$TreeReader", "passChildren", "(II)Z"⟩, 4) := ⟨⟨by decide +kernel, by decide +kernel⟩, List.mem_of_getElem? (i := 226) (by decide +kernel), List.mem_of_getElem? (i := 574) (by decide +kernel), List.mem_of_getElem? (i := 575) (by decide +kernel)⟩
theorem lw_p10 : lw_okq (⟨"DockLayout$TreeReader", "passWeight", "()I"⟩, 4) := ⟨⟨by decide +kernel, by decide +kernel⟩, List.mem_of_getElem? (i := 226) (by decide +kernel), List.mem_of_getElem? (i := 578) (by decide +kernel), List.mem_of_getElem? (i := 579) (by decide +kernel)⟩
theorem lw_p11 : lw_okq (⟨"DockLayout", "mixPane", "(JI)J"⟩, 8) := ⟨⟨by decide +kernel, by decide +kernel⟩, List.mem_of_getElem? (i := 22) (by decide +kernel), List.mem_of_getElem? (i := 599) (by decide +kernel), List.mem_of_getElem? (i := 600) (by decide +kernel)⟩
theorem lw_p12 : lw_okq (⟨"DockLayout", "requirePane", "(I)V"⟩, 8) := ⟨⟨by decide +kernel, by decide +kernel⟩, List.mem_of_getElem? (i := 22) (by decide +kernel), List.mem_of_getElem? (i := 607) (by decide +kernel), List.mem_of_getElem? (i := 608) (by decide +kernel)⟩
theorem lw_p13 : lw_okq (⟨"java/lang/Throwable", "fillInStackTrace", "(I)Ljava/lang/Throwable;"⟩, 6) := ⟨⟨by decide +kernel, by decide +kernel⟩, List.mem_of_getElem? (i := 649) (by decide +kernel), List.mem_of_getElem? (i := 647) (by decide +kernel), List.mem_of_getElem? (i := 648) (by decide +kernel)⟩
theorem lw_p14 : lw_okq (⟨"DockLayout", "mixWindow", "(JI)J"⟩, 8) := ⟨⟨by decide +kernel, by decide +kernel⟩, List.mem_of_getElem? (i := 22) (by decide +kernel), List.mem_of_getElem? (i := 721) (by decide +kernel), List.mem_of_getElem? (i := 722) (by decide +kernel)⟩
theorem lw_p15 : lw_okq (⟨"DockLayout", "requireWindow", "(I)V"⟩, 8) := ⟨⟨by decide +kernel, by decide +kernel⟩, List.mem_of_getElem? (i := 22) (by decide +kernel), List.mem_of_getElem? (i := 729) (by decide +kernel), List.mem_of_getElem? (i := 730) (by decide +kernel)⟩
def lw_privs_1 : List (MethodName × Nat) := [(⟨"DockLayout", "frontWindowAt", "(II)I"⟩, 8), (⟨"DockLayout", "groupAt", "(III)I"⟩, 8), (⟨"DockLayout", "paneOfTab", "(II)I"⟩, 8), (⟨"DockLayout$Placement", "removeGroup", "(I)V"⟩, 14), (⟨"DockLayout$Placement", "shiftChildren", "(III)V"⟩, 14), (⟨"DockLayout$Placement", "replace", "(II)V"⟩, 14), (⟨"DockLayout$TreeReader", "passTree", "(III)Z"⟩, 4), (⟨"DockLayout$TreeReader", "passSign", "(I)Z"⟩, 4), (⟨"DockLayout$TreeReader", "passTabs", "(I)Z"⟩, 4), (⟨"DockLayout$TreeReader", "passChildren", "(II)Z"⟩, 4), (⟨"DockLayout$TreeReader", "passWeight", "()I"⟩, 4), (⟨"DockLayout", "mixPane", "(JI)J"⟩, 8), (⟨"DockLayout", "requirePane", "(I)V"⟩, 8), (⟨"java/lang/Throwable", "fillInStackTrace", "(I)Ljava/lang/Throwable;"⟩, 6), (⟨"DockLayout", "mixWindow", "(JI)J"⟩, 8), (⟨"DockLayout", "requireWindow", "(I)V"⟩, 8)]
theorem lw_r1 : ∀ q ∈ lw_privs_1, lw_okq q := List.forall_mem_cons.mpr ⟨lw_p0, List.forall_mem_cons.mpr ⟨lw_p1, List.forall_mem_cons.mpr ⟨lw_p2, List.forall_mem_cons.mpr ⟨lw_p3, List.forall_mem_cons.mpr ⟨lw_p4, List.forall_mem_cons.mpr ⟨lw_p5, List.forall_mem_cons.mpr ⟨lw_p6, List.forall_mem_cons.mpr ⟨lw_p7, List.forall_mem_cons.mpr ⟨lw_p8, List.forall_mem_cons.mpr ⟨lw_p9, List.forall_mem_cons.mpr ⟨lw_p10, List.forall_mem_cons.mpr ⟨lw_p11, List.forall_mem_cons.mpr ⟨lw_p12, List.forall_mem_cons.mpr ⟨lw_p13, List.forall_mem_cons.mpr ⟨lw_p14, List.forall_mem_cons.mpr ⟨lw_p15, fun _ h => absurd h List.not_mem_nil⟩⟩⟩⟩⟩⟩⟩⟩⟩⟩⟩⟩⟩⟩⟩⟩
theorem lw_p16 : lw_okq (⟨"DockLayout", "keepRecord", "()V"⟩, 8) := ⟨⟨by decide +kernel, by decide +kernel⟩, List.mem_of_getElem? (i := 22) (by decide +kernel), List.mem_of_getElem? (i := 780) (by decide +kernel), List.mem_of_getElem? (i := 781) (by decide +kernel)⟩
theorem lw_p17 : lw_okq (⟨"DockLayout", "recordAt", "(I)LDockLayout$State;"⟩, 8) := ⟨⟨by decide +kernel, by decide +kernel⟩, List.mem_of_getElem? (i := 22) (by decide +kernel), List.mem_of_getElem? (i := 787) (by decide +kernel), List.mem_of_getElem? (i := 788) (by decide +kernel)⟩
theorem lw_p18 : lw_okq (⟨"DockLayout$Plan", "computeWindow", "(LDockLayout$State;I)V"⟩, 11) := ⟨⟨by decide +kernel, by decide +kernel⟩, List.mem_of_getElem? (i := 148) (by decide +kernel), List.mem_of_getElem? (i := 826) (by decide +kernel), List.mem_of_getElem? (i := 827) (by decide +kernel)⟩
theorem lw_p19 : lw_okq (⟨"DockLayout$Plan", "listNodes", "(LDockLayout$Placement;I)V"⟩, 11) := ⟨⟨by decide +kernel, by decide +kernel⟩, List.mem_of_getElem? (i := 148) (by decide +kernel), List.mem_of_getElem? (i := 831) (by decide +kernel), List.mem_of_getElem? (i := 832) (by decide +kernel)⟩
theorem lw_p20 : lw_okq (⟨"DockLayout$Plan", "list", "(I)V"⟩, 11) := ⟨⟨by decide +kernel, by decide +kernel⟩, List.mem_of_getElem? (i := 148) (by decide +kernel), List.mem_of_getElem? (i := 835) (by decide +kernel), List.mem_of_getElem? (i := 836) (by decide +kernel)⟩
theorem lw_p21 : lw_okq (⟨"DockLayout$Plan", "measureGroup", "(LDockLayout$State;I)V"⟩, 11) := ⟨⟨by decide +kernel, by decide +kernel⟩, List.mem_of_getElem? (i := 148) (by decide +kernel), List.mem_of_getElem? (i := 843) (by decide +kernel), List.mem_of_getElem? (i := 844) (by decide +kernel)⟩
theorem lw_p22 : lw_okq (⟨"DockLayout$Plan", "measureSplit", "(LDockLayout$Placement;I)V"⟩, 11) := ⟨⟨by decide +kernel, by decide +kernel⟩, List.mem_of_getElem? (i := 148) (by decide +kernel), List.mem_of_getElem? (i := 852) (by decide +kernel), List.mem_of_getElem? (i := 853) (by decide +kernel)⟩
theorem lw_p23 : lw_okq (⟨"DockLayout$Plan", "listParts", "(LDockLayout$Placement;I)I"⟩, 11) := ⟨⟨by decide +kernel, by decide +kernel⟩, List.mem_of_getElem? (i := 148) (by decide +kernel), List.mem_of_getElem? (i := 856) (by decide +kernel), List.mem_of_getElem? (i := 857) (by decide +kernel)⟩
theorem lw_p24 : lw_okq (⟨"DockLayout$Plan", "arrange", "(LDockLayout$Placement;I)V"⟩, 11) := ⟨⟨by decide +kernel, by decide +kernel⟩, List.mem_of_getElem? (i := 148) (by decide +kernel), List.mem_of_getElem? (i := 860) (by decide +kernel), List.mem_of_getElem? (i := 861) (by decide +kernel)⟩
theorem lw_p25 : lw_okq (⟨"DockLayout$Sharing", "giveMinimums", "(I)V"⟩, 6) := ⟨⟨by decide +kernel, by decide +kernel⟩, List.mem_of_getElem? (i := 154) (by decide +kernel), List.mem_of_getElem? (i := 880) (by decide +kernel), List.mem_of_getElem? (i := 881) (by decide +kernel)⟩
theorem lw_p26 : lw_okq (⟨"DockLayout$Sharing", "giveShares", "(I)V"⟩, 6) := ⟨⟨by decide +kernel, by decide +kernel⟩, List.mem_of_getElem? (i := 154) (by decide +kernel), List.mem_of_getElem? (i := 885) (by decide +kernel), List.mem_of_getElem? (i := 886) (by decide +kernel)⟩
theorem lw_p27 : lw_okq (⟨"DockLayout$Sharing", "closeSmallShares", "(I)Z"⟩, 6) := ⟨⟨by decide +kernel, by decide +kernel⟩, List.mem_of_getElem? (i := 154) (by decide +kernel), List.mem_of_getElem? (i := 890) (by decide +kernel), List.mem_of_getElem? (i := 891) (by decide +kernel)⟩
theorem lw_p28 : lw_okq (⟨"DockLayout$Sharing", "giveRest", "(I)V"⟩, 6) := ⟨⟨by decide +kernel, by decide +kernel⟩, List.mem_of_getElem? (i := 154) (by decide +kernel), List.mem_of_getElem? (i := 894) (by decide +kernel), List.mem_of_getElem? (i := 895) (by decide +kernel)⟩
theorem lw_p29 : lw_okq (⟨"DockLayout", "requirePlaced", "(I)V"⟩, 8) := ⟨⟨by decide +kernel, by decide +kernel⟩, List.mem_of_getElem? (i := 22) (by decide +kernel), List.mem_of_getElem? (i := 981) (by decide +kernel), List.mem_of_getElem? (i := 982) (by decide +kernel)⟩
theorem lw_p30 : lw_okq (⟨"DockLayout", "nodeAtDivider", "(II)I"⟩, 8) := ⟨⟨by decide +kernel, by decide +kernel⟩, List.mem_of_getElem? (i := 22) (by decide +kernel), List.mem_of_getElem? (i := 1068) (by decide +kernel), List.mem_of_getElem? (i := 1069) (by decide +kernel)⟩
theorem lw_p31 : lw_okq (⟨"DockLayout", "shownNeighbour", "(II)I"⟩, 8) := ⟨⟨by decide +kernel, by decide +kernel⟩, List.mem_of_getElem? (i := 22) (by decide +kernel), List.mem_of_getElem? (i := 1072) (by decide +kernel), List.mem_of_getElem? (i := 1073) (by decide +kernel)⟩
def lw_privs_2 : List (MethodName × Nat) := [(⟨"DockLayout", "keepRecord", "()V"⟩, 8), (⟨"DockLayout", "recordAt", "(I)LDockLayout$State;"⟩, 8), (⟨"DockLayout$Plan", "computeWindow", "(LDockLayout$State;I)V"⟩, 11), (⟨"DockLayout$Plan", "listNodes", "(LDockLayout$Placement;I)V"⟩, 11), (⟨"DockLayout$Plan", "list", "(I)V"⟩, 11), (⟨"DockLayout$Plan", "measureGroup", "(LDockLayout$State;I)V"⟩, 11), (⟨"DockLayout$Plan", "measureSplit", "(LDockLayout$Placement;I)V"⟩, 11), (⟨"DockLayout$Plan", "listParts", "(LDockLayout$Placement;I)I"⟩, 11), (⟨"DockLayout$Plan", "arrange", "(LDockLayout$Placement;I)V"⟩, 11), (⟨"DockLayout$Sharing", "giveMinimums", "(I)V"⟩, 6), (⟨"DockLayout$Sharing", "giveShares", "(I)V"⟩, 6), (⟨"DockLayout$Sharing", "closeSmallShares", "(I)Z"⟩, 6), (⟨"DockLayout$Sharing", "giveRest", "(I)V"⟩, 6), (⟨"DockLayout", "requirePlaced", "(I)V"⟩, 8), (⟨"DockLayout", "nodeAtDivider", "(II)I"⟩, 8), (⟨"DockLayout", "shownNeighbour", "(II)I"⟩, 8)]
theorem lw_r2 : ∀ q ∈ lw_privs_2, lw_okq q := List.forall_mem_cons.mpr ⟨lw_p16, List.forall_mem_cons.mpr ⟨lw_p17, List.forall_mem_cons.mpr ⟨lw_p18, List.forall_mem_cons.mpr ⟨lw_p19, List.forall_mem_cons.mpr ⟨lw_p20, List.forall_mem_cons.mpr ⟨lw_p21, List.forall_mem_cons.mpr ⟨lw_p22, List.forall_mem_cons.mpr ⟨lw_p23, List.forall_mem_cons.mpr ⟨lw_p24, List.forall_mem_cons.mpr ⟨lw_p25, List.forall_mem_cons.mpr ⟨lw_p26, List.forall_mem_cons.mpr ⟨lw_p27, List.forall_mem_cons.mpr ⟨lw_p28, List.forall_mem_cons.mpr ⟨lw_p29, List.forall_mem_cons.mpr ⟨lw_p30, List.forall_mem_cons.mpr ⟨lw_p31, fun _ h => absurd h List.not_mem_nil⟩⟩⟩⟩⟩⟩⟩⟩⟩⟩⟩⟩⟩⟩⟩⟩
theorem lw_p32 : lw_okq (⟨"DockLayout", "weighBySizes", "(III)V"⟩, 8) := ⟨⟨by decide +kernel, by decide +kernel⟩, List.mem_of_getElem? (i := 22) (by decide +kernel), List.mem_of_getElem? (i := 1087) (by decide +kernel), List.mem_of_getElem? (i := 1088) (by decide +kernel)⟩
theorem lw_p33 : lw_okq (⟨"DockLayout$TreeWriter", "putTree", "(LDockLayout$Placement;II)V"⟩, 1) := ⟨⟨by decide +kernel, by decide +kernel⟩, List.mem_of_getElem? (i := 250) (by decide +kernel), List.mem_of_getElem? (i := 1187) (by decide +kernel), List.mem_of_getElem? (i := 1188) (by decide +kernel)⟩
theorem lw_p34 : lw_okq (⟨"DockLayout$TreeWriter", "putTabs", "(LDockLayout$Placement;I)V"⟩, 1) := ⟨⟨by decide +kernel, by decide +kernel⟩, List.mem_of_getElem? (i := 250) (by decide +kernel), List.mem_of_getElem? (i := 1192) (by decide +kernel), List.mem_of_getElem? (i := 1193) (by decide +kernel)⟩
theorem lw_p35 : lw_okq (⟨"DockLayout$TreeWriter", "putNumber", "(I)V"⟩, 1) := ⟨⟨by decide +kernel, by decide +kernel⟩, List.mem_of_getElem? (i := 250) (by decide +kernel), List.mem_of_getElem? (i := 1204) (by decide +kernel), List.mem_of_getElem? (i := 1205) (by decide +kernel)⟩
theorem lw_p36 : lw_okq (⟨"DockLayoutModel", "refused", "(I)Z"⟩, 27) := ⟨⟨by decide +kernel, by decide +kernel⟩, List.mem_of_getElem? (i := 1219) (by decide +kernel), List.mem_of_getElem? (i := 1312) (by decide +kernel), List.mem_of_getElem? (i := 1313) (by decide +kernel)⟩
theorem lw_p37 : lw_okq (⟨"DockLayoutModel", "of", "(II)I"⟩, 27) := ⟨⟨by decide +kernel, by decide +kernel⟩, List.mem_of_getElem? (i := 1219) (by decide +kernel), List.mem_of_getElem? (i := 1320) (by decide +kernel), List.mem_of_getElem? (i := 1321) (by decide +kernel)⟩
theorem lw_p38 : lw_okq (⟨"DockLayoutModel", "saves", "()V"⟩, 27) := ⟨⟨by decide +kernel, by decide +kernel⟩, List.mem_of_getElem? (i := 1219) (by decide +kernel), List.mem_of_getElem? (i := 1327) (by decide +kernel), List.mem_of_getElem? (i := 1328) (by decide +kernel)⟩
theorem lw_p39 : lw_okq (⟨"DockLayoutModel", "put", "(III)V"⟩, 27) := ⟨⟨by decide +kernel, by decide +kernel⟩, List.mem_of_getElem? (i := 1219) (by decide +kernel), List.mem_of_getElem? (i := 1331) (by decide +kernel), List.mem_of_getElem? (i := 1332) (by decide +kernel)⟩
theorem lw_p40 : lw_okq (⟨"DockLayoutModel", "isPane", "(I)Z"⟩, 27) := ⟨⟨by decide +kernel, by decide +kernel⟩, List.mem_of_getElem? (i := 1219) (by decide +kernel), List.mem_of_getElem? (i := 1339) (by decide +kernel), List.mem_of_getElem? (i := 1340) (by decide +kernel)⟩
theorem lw_p41 : lw_okq (⟨"DockLayoutModel", "takes", "(I)V"⟩, 27) := ⟨⟨by decide +kernel, by decide +kernel⟩, List.mem_of_getElem? (i := 1219) (by decide +kernel), List.mem_of_getElem? (i := 1343) (by decide +kernel), List.mem_of_getElem? (i := 1344) (by decide +kernel)⟩
theorem lw_p42 : lw_okq (⟨"DockLayoutModel", "isPlaced", "(I)Z"⟩, 27) := ⟨⟨by decide +kernel, by decide +kernel⟩, List.mem_of_getElem? (i := 1219) (by decide +kernel), List.mem_of_getElem? (i := 1347) (by decide +kernel), List.mem_of_getElem? (i := 1348) (by decide +kernel)⟩
theorem lw_p43 : lw_okq (⟨"DockLayoutModel", "goesAway", "(I)V"⟩, 27) := ⟨⟨by decide +kernel, by decide +kernel⟩, List.mem_of_getElem? (i := 1219) (by decide +kernel), List.mem_of_getElem? (i := 1351) (by decide +kernel), List.mem_of_getElem? (i := 1352) (by decide +kernel)⟩
theorem lw_p44 : lw_okq (⟨"DockLayoutModel", "yields", "(I)V"⟩, 27) := ⟨⟨by decide +kernel, by decide +kernel⟩, List.mem_of_getElem? (i := 1219) (by decide +kernel), List.mem_of_getElem? (i := 1355) (by decide +kernel), List.mem_of_getElem? (i := 1356) (by decide +kernel)⟩
theorem lw_p45 : lw_okq (⟨"DockLayoutModel", "its", "(II)I"⟩, 27) := ⟨⟨by decide +kernel, by decide +kernel⟩, List.mem_of_getElem? (i := 1219) (by decide +kernel), List.mem_of_getElem? (i := 1359) (by decide +kernel), List.mem_of_getElem? (i := 1360) (by decide +kernel)⟩
theorem lw_p46 : lw_okq (⟨"DockLayoutModel", "tabMany", "(I)I"⟩, 27) := ⟨⟨by decide +kernel, by decide +kernel⟩, List.mem_of_getElem? (i := 1219) (by decide +kernel), List.mem_of_getElem? (i := 1363) (by decide +kernel), List.mem_of_getElem? (i := 1364) (by decide +kernel)⟩
theorem lw_p47 : lw_okq (⟨"DockLayoutModel", "tabAt", "(II)I"⟩, 27) := ⟨⟨by decide +kernel, by decide +kernel⟩, List.mem_of_getElem? (i := 1219) (by decide +kernel), List.mem_of_getElem? (i := 1367) (by decide +kernel), List.mem_of_getElem? (i := 1368) (by decide +kernel)⟩
def lw_privs_3 : List (MethodName × Nat) := [(⟨"DockLayout", "weighBySizes", "(III)V"⟩, 8), (⟨"DockLayout$TreeWriter", "putTree", "(LDockLayout$Placement;II)V"⟩, 1), (⟨"DockLayout$TreeWriter", "putTabs", "(LDockLayout$Placement;I)V"⟩, 1), (⟨"DockLayout$TreeWriter", "putNumber", "(I)V"⟩, 1), (⟨"DockLayoutModel", "refused", "(I)Z"⟩, 27), (⟨"DockLayoutModel", "of", "(II)I"⟩, 27), (⟨"DockLayoutModel", "saves", "()V"⟩, 27), (⟨"DockLayoutModel", "put", "(III)V"⟩, 27), (⟨"DockLayoutModel", "isPane", "(I)Z"⟩, 27), (⟨"DockLayoutModel", "takes", "(I)V"⟩, 27), (⟨"DockLayoutModel", "isPlaced", "(I)Z"⟩, 27), (⟨"DockLayoutModel", "goesAway", "(I)V"⟩, 27), (⟨"DockLayoutModel", "yields", "(I)V"⟩, 27), (⟨"DockLayoutModel", "its", "(II)I"⟩, 27), (⟨"DockLayoutModel", "tabMany", "(I)I"⟩, 27), (⟨"DockLayoutModel", "tabAt", "(II)I"⟩, 27)]
theorem lw_r3 : ∀ q ∈ lw_privs_3, lw_okq q := List.forall_mem_cons.mpr ⟨lw_p32, List.forall_mem_cons.mpr ⟨lw_p33, List.forall_mem_cons.mpr ⟨lw_p34, List.forall_mem_cons.mpr ⟨lw_p35, List.forall_mem_cons.mpr ⟨lw_p36, List.forall_mem_cons.mpr ⟨lw_p37, List.forall_mem_cons.mpr ⟨lw_p38, List.forall_mem_cons.mpr ⟨lw_p39, List.forall_mem_cons.mpr ⟨lw_p40, List.forall_mem_cons.mpr ⟨lw_p41, List.forall_mem_cons.mpr ⟨lw_p42, List.forall_mem_cons.mpr ⟨lw_p43, List.forall_mem_cons.mpr ⟨lw_p44, List.forall_mem_cons.mpr ⟨lw_p45, List.forall_mem_cons.mpr ⟨lw_p46, List.forall_mem_cons.mpr ⟨lw_p47, fun _ h => absurd h List.not_mem_nil⟩⟩⟩⟩⟩⟩⟩⟩⟩⟩⟩⟩⟩⟩⟩⟩
theorem lw_p48 : lw_okq (⟨"DockLayoutModel", "lay", "(III)V"⟩, 27) := ⟨⟨by decide +kernel, by decide +kernel⟩, List.mem_of_getElem? (i := 1219) (by decide +kernel), List.mem_of_getElem? (i := 1371) (by decide +kernel), List.mem_of_getElem? (i := 1372) (by decide +kernel)⟩
theorem lw_p49 : lw_okq (⟨"DockLayoutModel", "leaves", "(I)V"⟩, 27) := ⟨⟨by decide +kernel, by decide +kernel⟩, List.mem_of_getElem? (i := 1219) (by decide +kernel), List.mem_of_getElem? (i := 1375) (by decide +kernel), List.mem_of_getElem? (i := 1376) (by decide +kernel)⟩
theorem lw_p50 : lw_okq (⟨"DockLayoutModel", "isChild", "(II)Z"⟩, 27) := ⟨⟨by decide +kernel, by decide +kernel⟩, List.mem_of_getElem? (i := 1219) (by decide +kernel), List.mem_of_getElem? (i := 1379) (by decide +kernel), List.mem_of_getElem? (i := 1380) (by decide +kernel)⟩
theorem lw_p51 : lw_okq (⟨"DockLayoutModel", "collapses", "(I)V"⟩, 27) := ⟨⟨by decide +kernel, by decide +kernel⟩, List.mem_of_getElem? (i := 1219) (by decide +kernel), List.mem_of_getElem? (i := 1383) (by decide +kernel), List.mem_of_getElem? (i := 1384) (by decide +kernel)⟩
theorem lw_p52 : lw_okq (⟨"DockLayoutModel", "childMany", "(I)I"⟩, 27) := ⟨⟨by decide +kernel, by decide +kernel⟩, List.mem_of_getElem? (i := 1219) (by decide +kernel), List.mem_of_getElem? (i := 1387) (by decide +kernel), List.mem_of_getElem? (i := 1388) (by decide +kernel)⟩
theorem lw_p53 : lw_okq (⟨"DockLayoutModel", "child", "(II)I"⟩, 27) := ⟨⟨by decide +kernel, by decide +kernel⟩, List.mem_of_getElem? (i := 1219) (by decide +kernel), List.mem_of_getElem? (i := 1391) (by decide +kernel), List.mem_of_getElem? (i := 1392) (by decide +kernel)⟩
theorem lw_p54 : lw_okq (⟨"DockLayoutModel", "replaces", "(II)V"⟩, 27) := ⟨⟨by decide +kernel, by decide +kernel⟩, List.mem_of_getElem? (i := 1219) (by decide +kernel), List.mem_of_getElem? (i := 1395) (by decide +kernel), List.mem_of_getElem? (i := 1396) (by decide +kernel)⟩
theorem lw_p55 : lw_okq (⟨"DockLayoutModel", "windowOf", "(I)I"⟩, 27) := ⟨⟨by decide +kernel, by decide +kernel⟩, List.mem_of_getElem? (i := 1219) (by decide +kernel), List.mem_of_getElem? (i := 1399) (by decide +kernel), List.mem_of_getElem? (i := 1400) (by decide +kernel)⟩
theorem lw_p56 : lw_okq (⟨"DockLayoutModel", "rootOf", "(I)I"⟩, 27) := ⟨⟨by decide +kernel, by decide +kernel⟩, List.mem_of_getElem? (i := 1219) (by decide +kernel), List.mem_of_getElem? (i := 1403) (by decide +kernel), List.mem_of_getElem? (i := 1404) (by decide +kernel)⟩
theorem lw_p57 : lw_okq (⟨"DockLayoutModel", "window", "(IIZ)I"⟩, 27) := ⟨⟨by decide +kernel, by decide +kernel⟩, List.mem_of_getElem? (i := 1219) (by decide +kernel), List.mem_of_getElem? (i := 1407) (by decide +kernel), List.mem_of_getElem? (i := 1408) (by decide +kernel)⟩
theorem lw_p58 : lw_okq (⟨"DockLayoutModel", "puts", "(III)V"⟩, 27) := ⟨⟨by decide +kernel, by decide +kernel⟩, List.mem_of_getElem? (i := 1219) (by decide +kernel), List.mem_of_getElem? (i := 1411) (by decide +kernel), List.mem_of_getElem? (i := 1412) (by decide +kernel)⟩
theorem lw_p59 : lw_okq (⟨"DockLayoutModel", "dropsFrom", "(II)V"⟩, 27) := ⟨⟨by decide +kernel, by decide +kernel⟩, List.mem_of_getElem? (i := 1219) (by decide +kernel), List.mem_of_getElem? (i := 1415) (by decide +kernel), List.mem_of_getElem? (i := 1416) (by decide +kernel)⟩
theorem lw_p60 : lw_okq (⟨"DockLayoutModel", "placeIn", "(II)I"⟩, 27) := ⟨⟨by decide +kernel, by decide +kernel⟩, List.mem_of_getElem? (i := 1219) (by decide +kernel), List.mem_of_getElem? (i := 1419) (by decide +kernel), List.mem_of_getElem? (i := 1420) (by decide +kernel)⟩
theorem lw_p61 : lw_okq (⟨"DockLayoutModel", "leavesFocus", "()V"⟩, 27) := ⟨⟨by decide +kernel, by decide +kernel⟩, List.mem_of_getElem? (i := 1219) (by decide +kernel), List.mem_of_getElem? (i := 1423) (by decide +kernel), List.mem_of_getElem? (i := 1424) (by decide +kernel)⟩
theorem lw_p62 : lw_okq (⟨"DockLayoutModel", "paneSet", "()I"⟩, 27) := ⟨⟨by decide +kernel, by decide +kernel⟩, List.mem_of_getElem? (i := 1219) (by decide +kernel), List.mem_of_getElem? (i := 1427) (by decide +kernel), List.mem_of_getElem? (i := 1428) (by decide +kernel)⟩
theorem lw_p63 : lw_okq (⟨"DockLayoutModel", "told", "(II)I"⟩, 27) := ⟨⟨by decide +kernel, by decide +kernel⟩, List.mem_of_getElem? (i := 1219) (by decide +kernel), List.mem_of_getElem? (i := 1446) (by decide +kernel), List.mem_of_getElem? (i := 1447) (by decide +kernel)⟩
def lw_privs_4 : List (MethodName × Nat) := [(⟨"DockLayoutModel", "lay", "(III)V"⟩, 27), (⟨"DockLayoutModel", "leaves", "(I)V"⟩, 27), (⟨"DockLayoutModel", "isChild", "(II)Z"⟩, 27), (⟨"DockLayoutModel", "collapses", "(I)V"⟩, 27), (⟨"DockLayoutModel", "childMany", "(I)I"⟩, 27), (⟨"DockLayoutModel", "child", "(II)I"⟩, 27), (⟨"DockLayoutModel", "replaces", "(II)V"⟩, 27), (⟨"DockLayoutModel", "windowOf", "(I)I"⟩, 27), (⟨"DockLayoutModel", "rootOf", "(I)I"⟩, 27), (⟨"DockLayoutModel", "window", "(IIZ)I"⟩, 27), (⟨"DockLayoutModel", "puts", "(III)V"⟩, 27), (⟨"DockLayoutModel", "dropsFrom", "(II)V"⟩, 27), (⟨"DockLayoutModel", "placeIn", "(II)I"⟩, 27), (⟨"DockLayoutModel", "leavesFocus", "()V"⟩, 27), (⟨"DockLayoutModel", "paneSet", "()I"⟩, 27), (⟨"DockLayoutModel", "told", "(II)I"⟩, 27)]
theorem lw_r4 : ∀ q ∈ lw_privs_4, lw_okq q := List.forall_mem_cons.mpr ⟨lw_p48, List.forall_mem_cons.mpr ⟨lw_p49, List.forall_mem_cons.mpr ⟨lw_p50, List.forall_mem_cons.mpr ⟨lw_p51, List.forall_mem_cons.mpr ⟨lw_p52, List.forall_mem_cons.mpr ⟨lw_p53, List.forall_mem_cons.mpr ⟨lw_p54, List.forall_mem_cons.mpr ⟨lw_p55, List.forall_mem_cons.mpr ⟨lw_p56, List.forall_mem_cons.mpr ⟨lw_p57, List.forall_mem_cons.mpr ⟨lw_p58, List.forall_mem_cons.mpr ⟨lw_p59, List.forall_mem_cons.mpr ⟨lw_p60, List.forall_mem_cons.mpr ⟨lw_p61, List.forall_mem_cons.mpr ⟨lw_p62, List.forall_mem_cons.mpr ⟨lw_p63, fun _ h => absurd h List.not_mem_nil⟩⟩⟩⟩⟩⟩⟩⟩⟩⟩⟩⟩⟩⟩⟩⟩
theorem lw_p64 : lw_okq (⟨"DockLayoutModel", "lays", "()V"⟩, 27) := ⟨⟨by decide +kernel, by decide +kernel⟩, List.mem_of_getElem? (i := 1219) (by decide +kernel), List.mem_of_getElem? (i := 1454) (by decide +kernel), List.mem_of_getElem? (i := 1455) (by decide +kernel)⟩
theorem lw_p65 : lw_okq (⟨"DockLayoutModel", "laysDepths", "()V"⟩, 27) := ⟨⟨by decide +kernel, by decide +kernel⟩, List.mem_of_getElem? (i := 1219) (by decide +kernel), List.mem_of_getElem? (i := 1458) (by decide +kernel), List.mem_of_getElem? (i := 1459) (by decide +kernel)⟩
theorem lw_p66 : lw_okq (⟨"DockLayoutModel", "laysLeast", "(I)V"⟩, 27) := ⟨⟨by decide +kernel, by decide +kernel⟩, List.mem_of_getElem? (i := 1219) (by decide +kernel), List.mem_of_getElem? (i := 1462) (by decide +kernel), List.mem_of_getElem? (i := 1463) (by decide +kernel)⟩
theorem lw_p67 : lw_okq (⟨"DockLayoutModel", "isWindow", "(I)Z"⟩, 27) := ⟨⟨by decide +kernel, by decide +kernel⟩, List.mem_of_getElem? (i := 1219) (by decide +kernel), List.mem_of_getElem? (i := 1466) (by decide +kernel), List.mem_of_getElem? (i := 1467) (by decide +kernel)⟩
theorem lw_p68 : lw_okq (⟨"DockLayoutModel", "laysChildren", "(I)V"⟩, 27) := ⟨⟨by decide +kernel, by decide +kernel⟩, List.mem_of_getElem? (i := 1219) (by decide +kernel), List.mem_of_getElem? (i := 1470) (by decide +kernel), List.mem_of_getElem? (i := 1471) (by decide +kernel)⟩
theorem lw_p69 : lw_okq (⟨"DockLayoutModel", "laysShares", "(II)V"⟩, 27) := ⟨⟨by decide +kernel, by decide +kernel⟩, List.mem_of_getElem? (i := 1219) (by decide +kernel), List.mem_of_getElem? (i := 1474) (by decide +kernel), List.mem_of_getElem? (i := 1475) (by decide +kernel)⟩
theorem lw_p70 : lw_okq (⟨"DockLayoutModel", "tightens", "(II)Z"⟩, 27) := ⟨⟨by decide +kernel, by decide +kernel⟩, List.mem_of_getElem? (i := 1219) (by decide +kernel), List.mem_of_getElem? (i := 1478) (by decide +kernel), List.mem_of_getElem? (i := 1479) (by decide +kernel)⟩
theorem lw_p71 : lw_okq (⟨"DockLayoutModel", "closed", "(I)I"⟩, 27) := ⟨⟨by decide +kernel, by decide +kernel⟩, List.mem_of_getElem? (i := 1219) (by decide +kernel), List.mem_of_getElem? (i := 1482) (by decide +kernel), List.mem_of_getElem? (i := 1483) (by decide +kernel)⟩
theorem lw_p72 : lw_okq (⟨"DockLayoutModel", "evens", "(JJ)V"⟩, 27) := ⟨⟨by decide +kernel, by decide +kernel⟩, List.mem_of_getElem? (i := 1219) (by decide +kernel), List.mem_of_getElem? (i := 1486) (by decide +kernel), List.mem_of_getElem? (i := 1487) (by decide +kernel)⟩
theorem lw_p73 : lw_okq (⟨"DockLayoutModel", "cornerOf", "(II)I"⟩, 27) := ⟨⟨by decide +kernel, by decide +kernel⟩, List.mem_of_getElem? (i := 1219) (by decide +kernel), List.mem_of_getElem? (i := 1491) (by decide +kernel), List.mem_of_getElem? (i := 1492) (by decide +kernel)⟩
theorem lw_p74 : lw_okq (⟨"DockLayoutModel", "placedIn", "(I)I"⟩, 27) := ⟨⟨by decide +kernel, by decide +kernel⟩, List.mem_of_getElem? (i := 1219) (by decide +kernel), List.mem_of_getElem? (i := 1503) (by decide +kernel), List.mem_of_getElem? (i := 1504) (by decide +kernel)⟩
theorem lw_p75 : lw_okq (⟨"DockLayoutModel", "comesLast", "(II)V"⟩, 27) := ⟨⟨by decide +kernel, by decide +kernel⟩, List.mem_of_getElem? (i := 1219) (by decide +kernel), List.mem_of_getElem? (i := 1515) (by decide +kernel), List.mem_of_getElem? (i := 1516) (by decide +kernel)⟩
theorem lw_p76 : lw_okq (⟨"DockLayoutModel", "windowTold", "(II)I"⟩, 27) := ⟨⟨by decide +kernel, by decide +kernel⟩, List.mem_of_getElem? (i := 1219) (by decide +kernel), List.mem_of_getElem? (i := 1523) (by decide +kernel), List.mem_of_getElem? (i := 1524) (by decide +kernel)⟩
theorem lw_p77 : lw_okq (⟨"DockLayoutModel", "beside", "(II)I"⟩, 27) := ⟨⟨by decide +kernel, by decide +kernel⟩, List.mem_of_getElem? (i := 1219) (by decide +kernel), List.mem_of_getElem? (i := 1535) (by decide +kernel), List.mem_of_getElem? (i := 1536) (by decide +kernel)⟩
theorem lw_p78 : lw_okq (⟨"DockLayoutModel", "newNode", "(I)I"⟩, 27) := ⟨⟨by decide +kernel, by decide +kernel⟩, List.mem_of_getElem? (i := 1219) (by decide +kernel), List.mem_of_getElem? (i := 1539) (by decide +kernel), List.mem_of_getElem? (i := 1540) (by decide +kernel)⟩
theorem lw_p79 : lw_okq (⟨"DockLayoutModel", "enters", "(III)V"⟩, 27) := ⟨⟨by decide +kernel, by decide +kernel⟩, List.mem_of_getElem? (i := 1219) (by decide +kernel), List.mem_of_getElem? (i := 1543) (by decide +kernel), List.mem_of_getElem? (i := 1544) (by decide +kernel)⟩
def lw_privs_5 : List (MethodName × Nat) := [(⟨"DockLayoutModel", "lays", "()V"⟩, 27), (⟨"DockLayoutModel", "laysDepths", "()V"⟩, 27), (⟨"DockLayoutModel", "laysLeast", "(I)V"⟩, 27), (⟨"DockLayoutModel", "isWindow", "(I)Z"⟩, 27), (⟨"DockLayoutModel", "laysChildren", "(I)V"⟩, 27), (⟨"DockLayoutModel", "laysShares", "(II)V"⟩, 27), (⟨"DockLayoutModel", "tightens", "(II)Z"⟩, 27), (⟨"DockLayoutModel", "closed", "(I)I"⟩, 27), (⟨"DockLayoutModel", "evens", "(JJ)V"⟩, 27), (⟨"DockLayoutModel", "cornerOf", "(II)I"⟩, 27), (⟨"DockLayoutModel", "placedIn", "(I)I"⟩, 27), (⟨"DockLayoutModel", "comesLast", "(II)V"⟩, 27), (⟨"DockLayoutModel", "windowTold", "(II)I"⟩, 27), (⟨"DockLayoutModel", "beside", "(II)I"⟩, 27), (⟨"DockLayoutModel", "newNode", "(I)I"⟩, 27), (⟨"DockLayoutModel", "enters", "(III)V"⟩, 27)]
theorem lw_r5 : ∀ q ∈ lw_privs_5, lw_okq q := List.forall_mem_cons.mpr ⟨lw_p64, List.forall_mem_cons.mpr ⟨lw_p65, List.forall_mem_cons.mpr ⟨lw_p66, List.forall_mem_cons.mpr ⟨lw_p67, List.forall_mem_cons.mpr ⟨lw_p68, List.forall_mem_cons.mpr ⟨lw_p69, List.forall_mem_cons.mpr ⟨lw_p70, List.forall_mem_cons.mpr ⟨lw_p71, List.forall_mem_cons.mpr ⟨lw_p72, List.forall_mem_cons.mpr ⟨lw_p73, List.forall_mem_cons.mpr ⟨lw_p74, List.forall_mem_cons.mpr ⟨lw_p75, List.forall_mem_cons.mpr ⟨lw_p76, List.forall_mem_cons.mpr ⟨lw_p77, List.forall_mem_cons.mpr ⟨lw_p78, List.forall_mem_cons.mpr ⟨lw_p79, fun _ h => absurd h List.not_mem_nil⟩⟩⟩⟩⟩⟩⟩⟩⟩⟩⟩⟩⟩⟩⟩⟩
theorem lw_p80 : lw_okq (⟨"DockLayoutModel", "settles", "(II)V"⟩, 27) := ⟨⟨by decide +kernel, by decide +kernel⟩, List.mem_of_getElem? (i := 1219) (by decide +kernel), List.mem_of_getElem? (i := 1547) (by decide +kernel), List.mem_of_getElem? (i := 1548) (by decide +kernel)⟩
theorem lw_p81 : lw_okq (⟨"DockLayoutModel", "comesFirst", "(II)V"⟩, 27) := ⟨⟨by decide +kernel, by decide +kernel⟩, List.mem_of_getElem? (i := 1219) (by decide +kernel), List.mem_of_getElem? (i := 1551) (by decide +kernel), List.mem_of_getElem? (i := 1552) (by decide +kernel)⟩
theorem lw_p82 : lw_okq (⟨"DockLayoutModel", "roots", "(II)V"⟩, 27) := ⟨⟨by decide +kernel, by decide +kernel⟩, List.mem_of_getElem? (i := 1219) (by decide +kernel), List.mem_of_getElem? (i := 1559) (by decide +kernel), List.mem_of_getElem? (i := 1560) (by decide +kernel)⟩
theorem lw_p83 : lw_okq (⟨"DockLayoutModel", "placedMany", "()I"⟩, 27) := ⟨⟨by decide +kernel, by decide +kernel⟩, List.mem_of_getElem? (i := 1219) (by decide +kernel), List.mem_of_getElem? (i := 1571) (by decide +kernel), List.mem_of_getElem? (i := 1572) (by decide +kernel)⟩
theorem lw_p84 : lw_okq (⟨"DockLayoutModel", "isShown", "(I)Z"⟩, 27) := ⟨⟨by decide +kernel, by decide +kernel⟩, List.mem_of_getElem? (i := 1219) (by decide +kernel), List.mem_of_getElem? (i := 1583) (by decide +kernel), List.mem_of_getElem? (i := 1584) (by decide +kernel)⟩
theorem lw_p85 : lw_okq (⟨"DockLayoutModel", "hasDivider", "(II)Z"⟩, 27) := ⟨⟨by decide +kernel, by decide +kernel⟩, List.mem_of_getElem? (i := 1219) (by decide +kernel), List.mem_of_getElem? (i := 1595) (by decide +kernel), List.mem_of_getElem? (i := 1596) (by decide +kernel)⟩
theorem lw_p86 : lw_okq (⟨"DockLayoutModel", "weighs", "(II)V"⟩, 27) := ⟨⟨by decide +kernel, by decide +kernel⟩, List.mem_of_getElem? (i := 1219) (by decide +kernel), List.mem_of_getElem? (i := 1599) (by decide +kernel), List.mem_of_getElem? (i := 1600) (by decide +kernel)⟩
theorem lw_p87 : lw_okq (⟨"DockLayoutModel", "windowAt", "(II)I"⟩, 27) := ⟨⟨by decide +kernel, by decide +kernel⟩, List.mem_of_getElem? (i := 1219) (by decide +kernel), List.mem_of_getElem? (i := 1617) (by decide +kernel), List.mem_of_getElem? (i := 1618) (by decide +kernel)⟩
theorem lw_p88 : lw_okq (⟨"DockLayoutModel", "isIn", "(III)Z"⟩, 27) := ⟨⟨by decide +kernel, by decide +kernel⟩, List.mem_of_getElem? (i := 1219) (by decide +kernel), List.mem_of_getElem? (i := 1621) (by decide +kernel), List.mem_of_getElem? (i := 1622) (by decide +kernel)⟩
theorem lw_p89 : lw_okq (⟨"DockLayoutModel", "isInside", "(IIIIII)Z"⟩, 27) := ⟨⟨by decide +kernel, by decide +kernel⟩, List.mem_of_getElem? (i := 1219) (by decide +kernel), List.mem_of_getElem? (i := 1625) (by decide +kernel), List.mem_of_getElem? (i := 1626) (by decide +kernel)⟩
theorem lw_p90 : lw_okq (⟨"DockLayoutModel", "groupAt", "(II)I"⟩, 27) := ⟨⟨by decide +kernel, by decide +kernel⟩, List.mem_of_getElem? (i := 1219) (by decide +kernel), List.mem_of_getElem? (i := 1629) (by decide +kernel), List.mem_of_getElem? (i := 1630) (by decide +kernel)⟩
theorem lw_p91 : lw_okq (⟨"DockLayoutModel", "focuses", "()V"⟩, 27) := ⟨⟨by decide +kernel, by decide +kernel⟩, List.mem_of_getElem? (i := 1219) (by decide +kernel), List.mem_of_getElem? (i := 1649) (by decide +kernel), List.mem_of_getElem? (i := 1650) (by decide +kernel)⟩
theorem lw_p92 : lw_okq (⟨"DockLayoutModel", "goes", "(Z)I"⟩, 27) := ⟨⟨by decide +kernel, by decide +kernel⟩, List.mem_of_getElem? (i := 1219) (by decide +kernel), List.mem_of_getElem? (i := 1665) (by decide +kernel), List.mem_of_getElem? (i := 1666) (by decide +kernel)⟩
theorem lw_p93 : lw_okq (⟨"DockLayoutModel", "next", "()I"⟩, 27) := ⟨⟨by decide +kernel, by decide +kernel⟩, List.mem_of_getElem? (i := 1219) (by decide +kernel), List.mem_of_getElem? (i := 1669) (by decide +kernel), List.mem_of_getElem? (i := 1670) (by decide +kernel)⟩
theorem lw_p94 : lw_okq (⟨"DockLayoutModel", "opens", "(Z)V"⟩, 27) := ⟨⟨by decide +kernel, by decide +kernel⟩, List.mem_of_getElem? (i := 1219) (by decide +kernel), List.mem_of_getElem? (i := 1673) (by decide +kernel), List.mem_of_getElem? (i := 1674) (by decide +kernel)⟩
theorem lw_p95 : lw_okq (⟨"DockLayoutModel", "takes", "(IZ)Z"⟩, 27) := ⟨⟨by decide +kernel, by decide +kernel⟩, List.mem_of_getElem? (i := 1219) (by decide +kernel), List.mem_of_getElem? (i := 1677) (by decide +kernel), List.mem_of_getElem? (i := 1678) (by decide +kernel)⟩
def lw_privs_6 : List (MethodName × Nat) := [(⟨"DockLayoutModel", "settles", "(II)V"⟩, 27), (⟨"DockLayoutModel", "comesFirst", "(II)V"⟩, 27), (⟨"DockLayoutModel", "roots", "(II)V"⟩, 27), (⟨"DockLayoutModel", "placedMany", "()I"⟩, 27), (⟨"DockLayoutModel", "isShown", "(I)Z"⟩, 27), (⟨"DockLayoutModel", "hasDivider", "(II)Z"⟩, 27), (⟨"DockLayoutModel", "weighs", "(II)V"⟩, 27), (⟨"DockLayoutModel", "windowAt", "(II)I"⟩, 27), (⟨"DockLayoutModel", "isIn", "(III)Z"⟩, 27), (⟨"DockLayoutModel", "isInside", "(IIIIII)Z"⟩, 27), (⟨"DockLayoutModel", "groupAt", "(II)I"⟩, 27), (⟨"DockLayoutModel", "focuses", "()V"⟩, 27), (⟨"DockLayoutModel", "goes", "(Z)I"⟩, 27), (⟨"DockLayoutModel", "next", "()I"⟩, 27), (⟨"DockLayoutModel", "opens", "(Z)V"⟩, 27), (⟨"DockLayoutModel", "takes", "(IZ)Z"⟩, 27)]
theorem lw_r6 : ∀ q ∈ lw_privs_6, lw_okq q := List.forall_mem_cons.mpr ⟨lw_p80, List.forall_mem_cons.mpr ⟨lw_p81, List.forall_mem_cons.mpr ⟨lw_p82, List.forall_mem_cons.mpr ⟨lw_p83, List.forall_mem_cons.mpr ⟨lw_p84, List.forall_mem_cons.mpr ⟨lw_p85, List.forall_mem_cons.mpr ⟨lw_p86, List.forall_mem_cons.mpr ⟨lw_p87, List.forall_mem_cons.mpr ⟨lw_p88, List.forall_mem_cons.mpr ⟨lw_p89, List.forall_mem_cons.mpr ⟨lw_p90, List.forall_mem_cons.mpr ⟨lw_p91, List.forall_mem_cons.mpr ⟨lw_p92, List.forall_mem_cons.mpr ⟨lw_p93, List.forall_mem_cons.mpr ⟨lw_p94, List.forall_mem_cons.mpr ⟨lw_p95, fun _ h => absurd h List.not_mem_nil⟩⟩⟩⟩⟩⟩⟩⟩⟩⟩⟩⟩⟩⟩⟩⟩
theorem lw_p96 : lw_okq (⟨"DockLayoutModel", "readsWeight", "()V"⟩, 27) := ⟨⟨by decide +kernel, by decide +kernel⟩, List.mem_of_getElem? (i := 1219) (by decide +kernel), List.mem_of_getElem? (i := 1681) (by decide +kernel), List.mem_of_getElem? (i := 1682) (by decide +kernel)⟩
theorem lw_p97 : lw_okq (⟨"DockLayoutModel", "readsGroup", "(Z)V"⟩, 27) := ⟨⟨by decide +kernel, by decide +kernel⟩, List.mem_of_getElem? (i := 1219) (by decide +kernel), List.mem_of_getElem? (i := 1685) (by decide +kernel), List.mem_of_getElem? (i := 1686) (by decide +kernel)⟩
theorem lw_p98 : lw_okq (⟨"DockLayoutModel", "isPaneNext", "()Z"⟩, 27) := ⟨⟨by decide +kernel, by decide +kernel⟩, List.mem_of_getElem? (i := 1219) (by decide +kernel), List.mem_of_getElem? (i := 1689) (by decide +kernel), List.mem_of_getElem? (i := 1690) (by decide +kernel)⟩
theorem lw_p99 : lw_okq (⟨"DockLayoutModel", "joins", "(IZ)V"⟩, 27) := ⟨⟨by decide +kernel, by decide +kernel⟩, List.mem_of_getElem? (i := 1219) (by decide +kernel), List.mem_of_getElem? (i := 1693) (by decide +kernel), List.mem_of_getElem? (i := 1694) (by decide +kernel)⟩
theorem lw_p100 : lw_okq (⟨"DockLayoutModel", "ends", "(Z)Z"⟩, 27) := ⟨⟨by decide +kernel, by decide +kernel⟩, List.mem_of_getElem? (i := 1219) (by decide +kernel), List.mem_of_getElem? (i := 1697) (by decide +kernel), List.mem_of_getElem? (i := 1698) (by decide +kernel)⟩
theorem lw_p101 : lw_okq (⟨"DockLayoutModel", "writesTree", "(I)V"⟩, 27) := ⟨⟨by decide +kernel, by decide +kernel⟩, List.mem_of_getElem? (i := 1219) (by decide +kernel), List.mem_of_getElem? (i := 1709) (by decide +kernel), List.mem_of_getElem? (i := 1710) (by decide +kernel)⟩
theorem lw_p102 : lw_okq (⟨"DockLayoutModel", "writes", "(I)V"⟩, 27) := ⟨⟨by decide +kernel, by decide +kernel⟩, List.mem_of_getElem? (i := 1219) (by decide +kernel), List.mem_of_getElem? (i := 1713) (by decide +kernel), List.mem_of_getElem? (i := 1714) (by decide +kernel)⟩
theorem lw_p103 : lw_okq (⟨"DockLayoutModel", "writesNumber", "(I)V"⟩, 27) := ⟨⟨by decide +kernel, by decide +kernel⟩, List.mem_of_getElem? (i := 1219) (by decide +kernel), List.mem_of_getElem? (i := 1717) (by decide +kernel), List.mem_of_getElem? (i := 1718) (by decide +kernel)⟩
theorem lw_p104 : lw_okq (⟨"DockLayoutModel", "writesGroup", "(I)V"⟩, 27) := ⟨⟨by decide +kernel, by decide +kernel⟩, List.mem_of_getElem? (i := 1219) (by decide +kernel), List.mem_of_getElem? (i := 1721) (by decide +kernel), List.mem_of_getElem? (i := 1722) (by decide +kernel)⟩
theorem lw_p105 : lw_okq (⟨"DockLayoutModel", "mix", "(J)V"⟩, 27) := ⟨⟨by decide +kernel, by decide +kernel⟩, List.mem_of_getElem? (i := 1219) (by decide +kernel), List.mem_of_getElem? (i := 1734) (by decide +kernel), List.mem_of_getElem? (i := 1735) (by decide +kernel)⟩
def lw_privs_7 : List (MethodName × Nat) := [(⟨"DockLayoutModel", "readsWeight", "()V"⟩, 27), (⟨"DockLayoutModel", "readsGroup", "(Z)V"⟩, 27), (⟨"DockLayoutModel", "isPaneNext", "()Z"⟩, 27), (⟨"DockLayoutModel", "joins", "(IZ)V"⟩, 27), (⟨"DockLayoutModel", "ends", "(Z)Z"⟩, 27), (⟨"DockLayoutModel", "writesTree", "(I)V"⟩, 27), (⟨"DockLayoutModel", "writes", "(I)V"⟩, 27), (⟨"DockLayoutModel", "writesNumber", "(I)V"⟩, 27), (⟨"DockLayoutModel", "writesGroup", "(I)V"⟩, 27), (⟨"DockLayoutModel", "mix", "(J)V"⟩, 27)]
theorem lw_r7 : ∀ q ∈ lw_privs_7, lw_okq q := List.forall_mem_cons.mpr ⟨lw_p96, List.forall_mem_cons.mpr ⟨lw_p97, List.forall_mem_cons.mpr ⟨lw_p98, List.forall_mem_cons.mpr ⟨lw_p99, List.forall_mem_cons.mpr ⟨lw_p100, List.forall_mem_cons.mpr ⟨lw_p101, List.forall_mem_cons.mpr ⟨lw_p102, List.forall_mem_cons.mpr ⟨lw_p103, List.forall_mem_cons.mpr ⟨lw_p104, List.forall_mem_cons.mpr ⟨lw_p105, fun _ h => absurd h List.not_mem_nil⟩⟩⟩⟩⟩⟩⟩⟩⟩⟩
def lw_privs : List (MethodName × Nat) := lw_privs_1 ++ (lw_privs_2 ++ (lw_privs_3 ++ (lw_privs_4 ++ (lw_privs_5 ++ (lw_privs_6 ++ (lw_privs_7))))))
def lw_tbl : List Cond := k2_sels lw_privs ++ tables_1
theorem lw_privs_ok : ∀ q ∈ lw_privs, lw_okq q := by
  show ∀ q ∈ lw_privs_1 ++ (lw_privs_2 ++ (lw_privs_3 ++ (lw_privs_4 ++ (lw_privs_5 ++ (lw_privs_6 ++ (lw_privs_7)))))), lw_okq q
  exact List.forall_mem_append.mpr ⟨lw_r1, List.forall_mem_append.mpr ⟨lw_r2, List.forall_mem_append.mpr ⟨lw_r3, List.forall_mem_append.mpr ⟨lw_r4, List.forall_mem_append.mpr ⟨lw_r5, List.forall_mem_append.mpr ⟨lw_r6, lw_r7⟩⟩⟩⟩⟩⟩
-- ===== end of PART A; then your names; then what follows =====
/-! ===== BEGIN printed: names, fields, word lists, decode rows ===== -/
def RX0 : String := "DockLayout$Order"
def TX0 : u_T := fun k => match k with
  | 0 => ("DockLayout$Order", "items", "[I", true)
  | _ => ("DockLayout$Order", "count", "I", false)
def tyX0 : Nat → FieldType := fun k => match k with
  | 0 => .array .int
  | _ => .int
abbrev wsX00 : List Cond := u_ws RX0 TX0 2
theorem nmX0 : ∀ a, a < 2 → ∀ b, b < 2 → a ≠ b → (TX0 a).2.1 ≠ (TX0 b).2.1 := by decide +kernel
theorem tyX0_ok : ∀ k, k < 2 → parseFieldDescriptor (TX0 k).2.2.1 = some (tyX0 k) := by decide +kernel
abbrev cX0_init : ByteArray := prog_2_method_1_code
def yX0_init : MethodName := ⟨RX0, "<init>", "()V"⟩
abbrev cX0_size : ByteArray := prog_2_method_2_code
def yX0_size : MethodName := ⟨RX0, "size", "()I"⟩
abbrev cX0_item : ByteArray := prog_2_method_3_code
def yX0_item : MethodName := ⟨RX0, "item", "(I)I"⟩
abbrev cX0_indexOf : ByteArray := prog_2_method_4_code
def yX0_indexOf : MethodName := ⟨RX0, "indexOf", "(I)I"⟩
abbrev cX0_leave : ByteArray := prog_2_method_5_code
def yX0_leave : MethodName := ⟨RX0, "leave", "(I)V"⟩
abbrev cX0_putFirst : ByteArray := prog_2_method_6_code
def yX0_putFirst : MethodName := ⟨RX0, "putFirst", "(I)V"⟩
abbrev cX0_putLast : ByteArray := prog_2_method_7_code
def yX0_putLast : MethodName := ⟨RX0, "putLast", "(I)V"⟩
abbrev cX0_copyFrom : ByteArray := prog_2_method_8_code
def yX0_copyFrom : MethodName := ⟨RX0, "copyFrom", "(LDockLayout$Order;)V"⟩
def RX1 : String := "DockLayout$Placement"
def TX1 : u_T := fun k => match k with
  | 0 => ("DockLayout$Placement", "windowX", "[I", true)
  | 1 => ("DockLayout$Placement", "windowY", "[I", true)
  | 2 => ("DockLayout$Placement", "windowWidth", "[I", true)
  | 3 => ("DockLayout$Placement", "windowHeight", "[I", true)
  | 4 => ("DockLayout$Placement", "root", "[I", true)
  | 5 => ("DockLayout$Placement", "floats", "LDockLayout$Order;", true)
  | 6 => ("DockLayout$Placement", "kind", "[I", true)
  | 7 => ("DockLayout$Placement", "parent", "[I", true)
  | 8 => ("DockLayout$Placement", "place", "[I", true)
  | 9 => ("DockLayout$Placement", "weight", "[I", true)
  | 10 => ("DockLayout$Placement", "active", "[I", true)
  | 11 => ("DockLayout$Placement", "group", "[I", true)
  | 12 => ("DockLayout$Placement", "spot", "[I", true)
  | _ => ("DockLayout$Placement", "hidden", "[I", true)
def tyX1 : Nat → FieldType := fun k => match k with
  | 0 => .array .int
  | 1 => .array .int
  | 2 => .array .int
  | 3 => .array .int
  | 4 => .array .int
  | 5 => .object "DockLayout$Order"
  | 6 => .array .int
  | 7 => .array .int
  | 8 => .array .int
  | 9 => .array .int
  | 10 => .array .int
  | 11 => .array .int
  | 12 => .array .int
  | _ => .array .int
abbrev wsX10 : List Cond := u_ws RX1 TX1 14
theorem nmX1 : ∀ a, a < 14 → ∀ b, b < 14 → a ≠ b → (TX1 a).2.1 ≠ (TX1 b).2.1 := by decide +kernel
theorem tyX1_ok : ∀ k, k < 14 → parseFieldDescriptor (TX1 k).2.2.1 = some (tyX1 k) := by decide +kernel
abbrev cX1_init : ByteArray := prog_3_method_1_code
def yX1_init : MethodName := ⟨RX1, "<init>", "()V"⟩
abbrev cX1_copyFrom : ByteArray := prog_3_method_2_code
def yX1_copyFrom : MethodName := ⟨RX1, "copyFrom", "(LDockLayout$Placement;)V"⟩
abbrev cX1_rootOf : ByteArray := prog_3_method_3_code
def yX1_rootOf : MethodName := ⟨RX1, "rootOf", "(I)I"⟩
abbrev cX1_kindOf : ByteArray := prog_3_method_4_code
def yX1_kindOf : MethodName := ⟨RX1, "kindOf", "(I)I"⟩
abbrev cX1_parentOf : ByteArray := prog_3_method_5_code
def yX1_parentOf : MethodName := ⟨RX1, "parentOf", "(I)I"⟩
abbrev cX1_placeOf : ByteArray := prog_3_method_6_code
def yX1_placeOf : MethodName := ⟨RX1, "placeOf", "(I)I"⟩
abbrev cX1_weightOf : ByteArray := prog_3_method_7_code
def yX1_weightOf : MethodName := ⟨RX1, "weightOf", "(I)I"⟩
abbrev cX1_activeOf : ByteArray := prog_3_method_8_code
def yX1_activeOf : MethodName := ⟨RX1, "activeOf", "(I)I"⟩
abbrev cX1_groupOf : ByteArray := prog_3_method_9_code
def yX1_groupOf : MethodName := ⟨RX1, "groupOf", "(I)I"⟩
abbrev cX1_spotOf : ByteArray := prog_3_method_10_code
def yX1_spotOf : MethodName := ⟨RX1, "spotOf", "(I)I"⟩
abbrev cX1_isHidden : ByteArray := prog_3_method_11_code
def yX1_isHidden : MethodName := ⟨RX1, "isHidden", "(I)Z"⟩
abbrev cX1_setWeight : ByteArray := prog_3_method_12_code
def yX1_setWeight : MethodName := ⟨RX1, "setWeight", "(II)V"⟩
abbrev cX1_setActive : ByteArray := prog_3_method_13_code
def yX1_setActive : MethodName := ⟨RX1, "setActive", "(II)V"⟩
abbrev cX1_windowExists : ByteArray := prog_3_method_14_code
def yX1_windowExists : MethodName := ⟨RX1, "windowExists", "(I)Z"⟩
abbrev cX1_lowestFreeWindow : ByteArray := prog_3_method_15_code
def yX1_lowestFreeWindow : MethodName := ⟨RX1, "lowestFreeWindow", "()I"⟩
abbrev cX1_setCorner : ByteArray := prog_3_method_16_code
def yX1_setCorner : MethodName := ⟨RX1, "setCorner", "(III)V"⟩
abbrev cX1_setSize : ByteArray := prog_3_method_17_code
def yX1_setSize : MethodName := ⟨RX1, "setSize", "(III)V"⟩
abbrev cX1_windowContains : ByteArray := prog_3_method_18_code
def yX1_windowContains : MethodName := ⟨RX1, "windowContains", "(III)Z"⟩
abbrev cX1_windowOf : ByteArray := prog_3_method_19_code
def yX1_windowOf : MethodName := ⟨RX1, "windowOf", "(I)I"⟩
abbrev cX1_panesIn : ByteArray := prog_3_method_20_code
def yX1_panesIn : MethodName := ⟨RX1, "panesIn", "(I)I"⟩
abbrev cX1_emptyWindow : ByteArray := prog_3_method_21_code
def yX1_emptyWindow : MethodName := ⟨RX1, "emptyWindow", "(I)V"⟩
abbrev cX1_makeNode : ByteArray := prog_3_method_22_code
def yX1_makeNode : MethodName := ⟨RX1, "makeNode", "(I)I"⟩
abbrev cX1_freeNode : ByteArray := prog_3_method_23_code
def yX1_freeNode : MethodName := ⟨RX1, "freeNode", "(I)V"⟩
abbrev cX1_makeRootGroup : ByteArray := prog_3_method_24_code
def yX1_makeRootGroup : MethodName := ⟨RX1, "makeRootGroup", "(I)I"⟩
abbrev cX1_setRoot : ByteArray := prog_3_method_25_code
def yX1_setRoot : MethodName := ⟨RX1, "setRoot", "(II)V"⟩
abbrev cX1_childCount : ByteArray := prog_3_method_26_code
def yX1_childCount : MethodName := ⟨RX1, "childCount", "(I)I"⟩
abbrev cX1_childAt : ByteArray := prog_3_method_27_code
def yX1_childAt : MethodName := ⟨RX1, "childAt", "(II)I"⟩
abbrev cX1_attach : ByteArray := prog_3_method_28_code
def yX1_attach : MethodName := ⟨RX1, "attach", "(IIII)V"⟩
abbrev cX1_detach : ByteArray := prog_3_method_29_code
def yX1_detach : MethodName := ⟨RX1, "detach", "(I)V"⟩
abbrev cX1_shiftChildren : ByteArray := prog_3_method_30_code
def yX1_shiftChildren : MethodName := ⟨RX1, "shiftChildren", "(III)V"⟩
abbrev cX1_replace : ByteArray := prog_3_method_31_code
def yX1_replace : MethodName := ⟨RX1, "replace", "(II)V"⟩
abbrev cX1_makeGroupBeside : ByteArray := prog_3_method_32_code
def yX1_makeGroupBeside : MethodName := ⟨RX1, "makeGroupBeside", "(II)I"⟩
abbrev cX1_removeGroup : ByteArray := prog_3_method_33_code
def yX1_removeGroup : MethodName := ⟨RX1, "removeGroup", "(I)V"⟩
abbrev cX1_tabCount : ByteArray := prog_3_method_34_code
def yX1_tabCount : MethodName := ⟨RX1, "tabCount", "(I)I"⟩
abbrev cX1_tabAt : ByteArray := prog_3_method_35_code
def yX1_tabAt : MethodName := ⟨RX1, "tabAt", "(II)I"⟩
abbrev cX1_shownCount : ByteArray := prog_3_method_36_code
def yX1_shownCount : MethodName := ⟨RX1, "shownCount", "(I)I"⟩
abbrev cX1_shownTabAt : ByteArray := prog_3_method_37_code
def yX1_shownTabAt : MethodName := ⟨RX1, "shownTabAt", "(II)I"⟩
abbrev cX1_activeInstead : ByteArray := prog_3_method_38_code
def yX1_activeInstead : MethodName := ⟨RX1, "activeInstead", "(II)I"⟩
abbrev cX1_joinGroup : ByteArray := prog_3_method_39_code
def yX1_joinGroup : MethodName := ⟨RX1, "joinGroup", "(II)V"⟩
abbrev cX1_withdraw : ByteArray := prog_3_method_40_code
def yX1_withdraw : MethodName := ⟨RX1, "withdraw", "(I)V"⟩
abbrev cX1_hide : ByteArray := prog_3_method_41_code
def yX1_hide : MethodName := ⟨RX1, "hide", "(I)V"⟩
abbrev cX1_reveal : ByteArray := prog_3_method_42_code
def yX1_reveal : MethodName := ⟨RX1, "reveal", "(I)V"⟩
abbrev cX1_moveToSpot : ByteArray := prog_3_method_43_code
def yX1_moveToSpot : MethodName := ⟨RX1, "moveToSpot", "(II)V"⟩
def RX2 : String := "DockLayout$Plan"
def TX2 : u_T := fun k => match k with
  | 0 => ("DockLayout$Plan", "shown", "[I", true)
  | 1 => ("DockLayout$Plan", "minimumWidth", "[I", true)
  | 2 => ("DockLayout$Plan", "minimumHeight", "[I", true)
  | 3 => ("DockLayout$Plan", "left", "[I", true)
  | 4 => ("DockLayout$Plan", "top", "[I", true)
  | 5 => ("DockLayout$Plan", "columns", "[I", true)
  | 6 => ("DockLayout$Plan", "rows", "[I", true)
  | 7 => ("DockLayout$Plan", "listed", "[I", true)
  | 8 => ("DockLayout$Plan", "listedCount", "I", false)
  | 9 => ("DockLayout$Plan", "parts", "[I", true)
  | _ => ("DockLayout$Plan", "sharing", "LDockLayout$Sharing;", true)
def tyX2 : Nat → FieldType := fun k => match k with
  | 0 => .array .int
  | 1 => .array .int
  | 2 => .array .int
  | 3 => .array .int
  | 4 => .array .int
  | 5 => .array .int
  | 6 => .array .int
  | 7 => .array .int
  | 8 => .int
  | 9 => .array .int
  | _ => .object "DockLayout$Sharing"
abbrev wsX20 : List Cond := u_ws RX2 TX2 11
theorem nmX2 : ∀ a, a < 11 → ∀ b, b < 11 → a ≠ b → (TX2 a).2.1 ≠ (TX2 b).2.1 := by decide +kernel
theorem tyX2_ok : ∀ k, k < 11 → parseFieldDescriptor (TX2 k).2.2.1 = some (tyX2 k) := by decide +kernel
abbrev cX2_init : ByteArray := prog_4_method_1_code
def yX2_init : MethodName := ⟨RX2, "<init>", "()V"⟩
abbrev cX2_isShown : ByteArray := prog_4_method_2_code
def yX2_isShown : MethodName := ⟨RX2, "isShown", "(I)Z"⟩
abbrev cX2_leftOf : ByteArray := prog_4_method_3_code
def yX2_leftOf : MethodName := ⟨RX2, "leftOf", "(I)I"⟩
abbrev cX2_topOf : ByteArray := prog_4_method_4_code
def yX2_topOf : MethodName := ⟨RX2, "topOf", "(I)I"⟩
abbrev cX2_columnsOf : ByteArray := prog_4_method_5_code
def yX2_columnsOf : MethodName := ⟨RX2, "columnsOf", "(I)I"⟩
abbrev cX2_rowsOf : ByteArray := prog_4_method_6_code
def yX2_rowsOf : MethodName := ⟨RX2, "rowsOf", "(I)I"⟩
abbrev cX2_minimumOf : ByteArray := prog_4_method_7_code
def yX2_minimumOf : MethodName := ⟨RX2, "minimumOf", "(II)I"⟩
abbrev cX2_extentOf : ByteArray := prog_4_method_8_code
def yX2_extentOf : MethodName := ⟨RX2, "extentOf", "(II)I"⟩
abbrev cX2_contains : ByteArray := prog_4_method_9_code
def yX2_contains : MethodName := ⟨RX2, "contains", "(III)Z"⟩
abbrev cX2_sideAt : ByteArray := prog_4_method_10_code
def yX2_sideAt : MethodName := ⟨RX2, "sideAt", "(III)I"⟩
abbrev cX2_dividerStep : ByteArray := prog_4_method_11_code
def yX2_dividerStep : MethodName := ⟨RX2, "dividerStep", "(IIII)I"⟩
abbrev cX2_compute : ByteArray := prog_4_method_12_code
def yX2_compute : MethodName := ⟨RX2, "compute", "(LDockLayout$State;)V"⟩
abbrev cX2_computeWindow : ByteArray := prog_4_method_13_code
def yX2_computeWindow : MethodName := ⟨RX2, "computeWindow", "(LDockLayout$State;I)V"⟩
abbrev cX2_listNodes : ByteArray := prog_4_method_14_code
def yX2_listNodes : MethodName := ⟨RX2, "listNodes", "(LDockLayout$Placement;I)V"⟩
abbrev cX2_list : ByteArray := prog_4_method_15_code
def yX2_list : MethodName := ⟨RX2, "list", "(I)V"⟩
abbrev cX2_measureGroup : ByteArray := prog_4_method_16_code
def yX2_measureGroup : MethodName := ⟨RX2, "measureGroup", "(LDockLayout$State;I)V"⟩
abbrev cX2_measureSplit : ByteArray := prog_4_method_17_code
def yX2_measureSplit : MethodName := ⟨RX2, "measureSplit", "(LDockLayout$Placement;I)V"⟩
abbrev cX2_listParts : ByteArray := prog_4_method_18_code
def yX2_listParts : MethodName := ⟨RX2, "listParts", "(LDockLayout$Placement;I)I"⟩
abbrev cX2_arrange : ByteArray := prog_4_method_19_code
def yX2_arrange : MethodName := ⟨RX2, "arrange", "(LDockLayout$Placement;I)V"⟩
def RX3 : String := "DockLayout$Sharing"
def TX3 : u_T := fun k => match k with
  | 0 => ("DockLayout$Sharing", "minimum", "[I", true)
  | 1 => ("DockLayout$Sharing", "weight", "[I", true)
  | 2 => ("DockLayout$Sharing", "size", "[I", true)
  | 3 => ("DockLayout$Sharing", "open", "[I", true)
  | 4 => ("DockLayout$Sharing", "remainder", "[I", true)
  | _ => ("DockLayout$Sharing", "count", "I", false)
def tyX3 : Nat → FieldType := fun k => match k with
  | 0 => .array .int
  | 1 => .array .int
  | 2 => .array .int
  | 3 => .array .int
  | 4 => .array .int
  | _ => .int
abbrev wsX30 : List Cond := u_ws RX3 TX3 6
theorem nmX3 : ∀ a, a < 6 → ∀ b, b < 6 → a ≠ b → (TX3 a).2.1 ≠ (TX3 b).2.1 := by decide +kernel
theorem tyX3_ok : ∀ k, k < 6 → parseFieldDescriptor (TX3 k).2.2.1 = some (tyX3 k) := by decide +kernel
abbrev cX3_init : ByteArray := prog_5_method_1_code
def yX3_init : MethodName := ⟨RX3, "<init>", "()V"⟩
abbrev cX3_begin : ByteArray := prog_5_method_2_code
def yX3_begin : MethodName := ⟨RX3, "begin", "()V"⟩
abbrev cX3_add : ByteArray := prog_5_method_3_code
def yX3_add : MethodName := ⟨RX3, "add", "(II)V"⟩
abbrev cX3_sizeOf : ByteArray := prog_5_method_4_code
def yX3_sizeOf : MethodName := ⟨RX3, "sizeOf", "(I)I"⟩
abbrev cX3_shareOut : ByteArray := prog_5_method_5_code
def yX3_shareOut : MethodName := ⟨RX3, "shareOut", "(I)V"⟩
abbrev cX3_giveMinimums : ByteArray := prog_5_method_6_code
def yX3_giveMinimums : MethodName := ⟨RX3, "giveMinimums", "(I)V"⟩
abbrev cX3_giveShares : ByteArray := prog_5_method_7_code
def yX3_giveShares : MethodName := ⟨RX3, "giveShares", "(I)V"⟩
abbrev cX3_closeSmallShares : ByteArray := prog_5_method_8_code
def yX3_closeSmallShares : MethodName := ⟨RX3, "closeSmallShares", "(I)Z"⟩
abbrev cX3_giveRest : ByteArray := prog_5_method_9_code
def yX3_giveRest : MethodName := ⟨RX3, "giveRest", "(I)V"⟩
def RX4 : String := "DockLayout$State"
def TX4 : u_T := fun k => match k with
  | 0 => ("DockLayout$State", "existing", "I", false)
  | 1 => ("DockLayout$State", "minimumWidth", "[I", true)
  | 2 => ("DockLayout$State", "minimumHeight", "[I", true)
  | 3 => ("DockLayout$State", "focusOrder", "LDockLayout$Order;", true)
  | 4 => ("DockLayout$State", "trees", "LDockLayout$Placement;", true)
  | 5 => ("DockLayout$State", "slots", "[LDockLayout$Placement;", true)
  | _ => ("DockLayout$State", "savedSlots", "I", false)
def tyX4 : Nat → FieldType := fun k => match k with
  | 0 => .int
  | 1 => .array .int
  | 2 => .array .int
  | 3 => .object "DockLayout$Order"
  | 4 => .object "DockLayout$Placement"
  | 5 => .array (.object "DockLayout$Placement")
  | _ => .int
abbrev wsX40 : List Cond := u_ws RX4 TX4 7
theorem nmX4 : ∀ a, a < 7 → ∀ b, b < 7 → a ≠ b → (TX4 a).2.1 ≠ (TX4 b).2.1 := by decide +kernel
theorem tyX4_ok : ∀ k, k < 7 → parseFieldDescriptor (TX4 k).2.2.1 = some (tyX4 k) := by decide +kernel
abbrev cX4_init : ByteArray := prog_6_method_1_code
def yX4_init : MethodName := ⟨RX4, "<init>", "()V"⟩
abbrev cX4_exists : ByteArray := prog_6_method_2_code
def yX4_exists : MethodName := ⟨RX4, "exists", "(I)Z"⟩
abbrev cX4_lowestFreePane : ByteArray := prog_6_method_3_code
def yX4_lowestFreePane : MethodName := ⟨RX4, "lowestFreePane", "()I"⟩
abbrev cX4_addPane : ByteArray := prog_6_method_4_code
def yX4_addPane : MethodName := ⟨RX4, "addPane", "(I)V"⟩
abbrev cX4_dropPane : ByteArray := prog_6_method_5_code
def yX4_dropPane : MethodName := ⟨RX4, "dropPane", "(I)V"⟩
abbrev cX4_setMinimums : ByteArray := prog_6_method_6_code
def yX4_setMinimums : MethodName := ⟨RX4, "setMinimums", "(III)V"⟩
abbrev cX4_isSaved : ByteArray := prog_6_method_7_code
def yX4_isSaved : MethodName := ⟨RX4, "isSaved", "(I)Z"⟩
abbrev cX4_saveSlot : ByteArray := prog_6_method_8_code
def yX4_saveSlot : MethodName := ⟨RX4, "saveSlot", "(I)V"⟩
abbrev cX4_loadSlot : ByteArray := prog_6_method_9_code
def yX4_loadSlot : MethodName := ⟨RX4, "loadSlot", "(I)V"⟩
abbrev cX4_settleFocus : ByteArray := prog_6_method_10_code
def yX4_settleFocus : MethodName := ⟨RX4, "settleFocus", "()V"⟩
abbrev cX4_copyFrom : ByteArray := prog_6_method_11_code
def yX4_copyFrom : MethodName := ⟨RX4, "copyFrom", "(LDockLayout$State;)V"⟩
def RX5 : String := "DockLayout$Text"
def TX5 : u_T := fun k => match k with
  | 0 => ("DockLayout$Text", "codes", "[I", true)
  | _ => ("DockLayout$Text", "length", "I", false)
def tyX5 : Nat → FieldType := fun k => match k with
  | 0 => .array .int
  | _ => .int
abbrev wsX50 : List Cond := u_ws RX5 TX5 2
theorem nmX5 : ∀ a, a < 2 → ∀ b, b < 2 → a ≠ b → (TX5 a).2.1 ≠ (TX5 b).2.1 := by decide +kernel
theorem tyX5_ok : ∀ k, k < 2 → parseFieldDescriptor (TX5 k).2.2.1 = some (tyX5 k) := by decide +kernel
abbrev cX5_init : ByteArray := prog_7_method_1_code
def yX5_init : MethodName := ⟨RX5, "<init>", "()V"⟩
abbrev cX5_length : ByteArray := prog_7_method_2_code
def yX5_length : MethodName := ⟨RX5, "length", "()I"⟩
abbrev cX5_code : ByteArray := prog_7_method_3_code
def yX5_code : MethodName := ⟨RX5, "code", "(I)I"⟩
abbrev cX5_empty : ByteArray := prog_7_method_4_code
def yX5_empty : MethodName := ⟨RX5, "empty", "()V"⟩
abbrev cX5_append : ByteArray := prog_7_method_5_code
def yX5_append : MethodName := ⟨RX5, "append", "(I)V"⟩
abbrev cX5_copyFrom : ByteArray := prog_7_method_6_code
def yX5_copyFrom : MethodName := ⟨RX5, "copyFrom", "(LDockLayout$Text;)V"⟩
def RX6 : String := "DockLayout$TreeReader"
def TX6 : u_T := fun k => match k with
  | 0 => ("DockLayout$TreeReader", "text", "LDockLayout$Text;", true)
  | 1 => ("DockLayout$TreeReader", "trees", "LDockLayout$Placement;", true)
  | 2 => ("DockLayout$TreeReader", "position", "I", false)
  | _ => ("DockLayout$TreeReader", "allowed", "I", false)
def tyX6 : Nat → FieldType := fun k => match k with
  | 0 => .object "DockLayout$Text"
  | 1 => .object "DockLayout$Placement"
  | 2 => .int
  | _ => .int
abbrev wsX60 : List Cond := u_ws RX6 TX6 4
theorem nmX6 : ∀ a, a < 4 → ∀ b, b < 4 → a ≠ b → (TX6 a).2.1 ≠ (TX6 b).2.1 := by decide +kernel
theorem tyX6_ok : ∀ k, k < 4 → parseFieldDescriptor (TX6 k).2.2.1 = some (tyX6 k) := by decide +kernel
abbrev cX6_init : ByteArray := prog_8_method_1_code
def yX6_init : MethodName := ⟨RX6, "<init>", "()V"⟩
abbrev cX6_findFault : ByteArray := prog_8_method_2_code
def yX6_findFault : MethodName := ⟨RX6, "findFault", "(LDockLayout$State;LDockLayout$Text;)I"⟩
abbrev cX6_passTree : ByteArray := prog_8_method_3_code
def yX6_passTree : MethodName := ⟨RX6, "passTree", "(III)Z"⟩
abbrev cX6_passChildren : ByteArray := prog_8_method_4_code
def yX6_passChildren : MethodName := ⟨RX6, "passChildren", "(II)Z"⟩
abbrev cX6_passWeight : ByteArray := prog_8_method_5_code
def yX6_passWeight : MethodName := ⟨RX6, "passWeight", "()I"⟩
abbrev cX6_passTabs : ByteArray := prog_8_method_6_code
def yX6_passTabs : MethodName := ⟨RX6, "passTabs", "(I)Z"⟩
abbrev cX6_passSign : ByteArray := prog_8_method_7_code
def yX6_passSign : MethodName := ⟨RX6, "passSign", "(I)Z"⟩
def RX7 : String := "DockLayout$TreeWriter"
def TX7 : u_T := fun k => match k with
  | _ => ("DockLayout$TreeWriter", "written", "LDockLayout$Text;", true)
def tyX7 : Nat → FieldType := fun k => match k with
  | _ => .object "DockLayout$Text"
abbrev wsX70 : List Cond := u_ws RX7 TX7 1
theorem nmX7 : ∀ a, a < 1 → ∀ b, b < 1 → a ≠ b → (TX7 a).2.1 ≠ (TX7 b).2.1 := by decide +kernel
theorem tyX7_ok : ∀ k, k < 1 → parseFieldDescriptor (TX7 k).2.2.1 = some (tyX7 k) := by decide +kernel
abbrev cX7_init : ByteArray := prog_9_method_1_code
def yX7_init : MethodName := ⟨RX7, "<init>", "()V"⟩
abbrev cX7_compose : ByteArray := prog_9_method_2_code
def yX7_compose : MethodName := ⟨RX7, "compose", "(LDockLayout$Placement;I)V"⟩
abbrev cX7_putTree : ByteArray := prog_9_method_3_code
def yX7_putTree : MethodName := ⟨RX7, "putTree", "(LDockLayout$Placement;II)V"⟩
abbrev cX7_putTabs : ByteArray := prog_9_method_4_code
def yX7_putTabs : MethodName := ⟨RX7, "putTabs", "(LDockLayout$Placement;I)V"⟩
abbrev cX7_putNumber : ByteArray := prog_9_method_5_code
def yX7_putNumber : MethodName := ⟨RX7, "putNumber", "(I)V"⟩
def RX8 : String := "DockLayout"
def TX8 : u_T := fun k => match k with
  | 0 => ("DockLayout", "now", "LDockLayout$State;", true)
  | 1 => ("DockLayout", "records", "[LDockLayout$State;", true)
  | 2 => ("DockLayout", "oldestRecord", "I", false)
  | 3 => ("DockLayout", "recordCount", "I", false)
  | 4 => ("DockLayout", "plan", "LDockLayout$Plan;", true)
  | 5 => ("DockLayout", "text", "LDockLayout$Text;", true)
  | 6 => ("DockLayout", "reader", "LDockLayout$TreeReader;", true)
  | _ => ("DockLayout", "writer", "LDockLayout$TreeWriter;", true)
def tyX8 : Nat → FieldType := fun k => match k with
  | 0 => .object "DockLayout$State"
  | 1 => .array (.object "DockLayout$State")
  | 2 => .int
  | 3 => .int
  | 4 => .object "DockLayout$Plan"
  | 5 => .object "DockLayout$Text"
  | 6 => .object "DockLayout$TreeReader"
  | _ => .object "DockLayout$TreeWriter"
abbrev wsX80 : List Cond := u_ws RX8 TX8 8
theorem nmX8 : ∀ a, a < 8 → ∀ b, b < 8 → a ≠ b → (TX8 a).2.1 ≠ (TX8 b).2.1 := by decide +kernel
theorem tyX8_ok : ∀ k, k < 8 → parseFieldDescriptor (TX8 k).2.2.1 = some (tyX8 k) := by decide +kernel
abbrev cX8_init : ByteArray := prog_1_method_1_code
def yX8_init : MethodName := ⟨RX8, "<init>", "()V"⟩
abbrev cX8_create : ByteArray := prog_1_method_2_code
def yX8_create : MethodName := ⟨RX8, "create", "(II)I"⟩
abbrev cX8_remove : ByteArray := prog_1_method_3_code
def yX8_remove : MethodName := ⟨RX8, "remove", "(I)I"⟩
abbrev cX8_setMinimum : ByteArray := prog_1_method_4_code
def yX8_setMinimum : MethodName := ⟨RX8, "setMinimum", "(III)I"⟩
abbrev cX8_panes : ByteArray := prog_1_method_5_code
def yX8_panes : MethodName := ⟨RX8, "panes", "()I"⟩
abbrev cX8_pane : ByteArray := prog_1_method_6_code
def yX8_pane : MethodName := ⟨RX8, "pane", "(II)I"⟩
abbrev cX8_rectangle : ByteArray := prog_1_method_7_code
def yX8_rectangle : MethodName := ⟨RX8, "rectangle", "(II)I"⟩
abbrev cX8_tab : ByteArray := prog_1_method_8_code
def yX8_tab : MethodName := ⟨RX8, "tab", "(II)I"⟩
abbrev cX8_resize : ByteArray := prog_1_method_9_code
def yX8_resize : MethodName := ⟨RX8, "resize", "(III)I"⟩
abbrev cX8_move : ByteArray := prog_1_method_10_code
def yX8_move : MethodName := ⟨RX8, "move", "(III)I"⟩
abbrev cX8_raise : ByteArray := prog_1_method_11_code
def yX8_raise : MethodName := ⟨RX8, "raise", "(I)I"⟩
abbrev cX8_window : ByteArray := prog_1_method_12_code
def yX8_window : MethodName := ⟨RX8, "window", "(II)I"⟩
abbrev cX8_floating : ByteArray := prog_1_method_13_code
def yX8_floating : MethodName := ⟨RX8, "floating", "(I)I"⟩
abbrev cX8_dock : ByteArray := prog_1_method_14_code
def yX8_dock : MethodName := ⟨RX8, "dock", "(III)I"⟩
abbrev cX8_start : ByteArray := prog_1_method_15_code
def yX8_start : MethodName := ⟨RX8, "start", "(I)I"⟩
abbrev cX8_floatAt : ByteArray := prog_1_method_16_code
def yX8_floatAt : MethodName := ⟨RX8, "floatAt", "(IIIII)I"⟩
abbrev cX8_takeAway : ByteArray := prog_1_method_17_code
def yX8_takeAway : MethodName := ⟨RX8, "takeAway", "(I)I"⟩
abbrev cX8_show : ByteArray := prog_1_method_18_code
def yX8_show : MethodName := ⟨RX8, "show", "(IZ)Z"⟩
abbrev cX8_activate : ByteArray := prog_1_method_19_code
def yX8_activate : MethodName := ⟨RX8, "activate", "(I)I"⟩
abbrev cX8_moveTab : ByteArray := prog_1_method_20_code
def yX8_moveTab : MethodName := ⟨RX8, "moveTab", "(II)I"⟩
abbrev cX8_drag : ByteArray := prog_1_method_21_code
def yX8_drag : MethodName := ⟨RX8, "drag", "(III)I"⟩
abbrev cX8_even : ByteArray := prog_1_method_22_code
def yX8_even : MethodName := ⟨RX8, "even", "(I)I"⟩
abbrev cX8_focus : ByteArray := prog_1_method_23_code
def yX8_focus : MethodName := ⟨RX8, "focus", "(I)I"⟩
abbrev cX8_kindAt : ByteArray := prog_1_method_24_code
def yX8_kindAt : MethodName := ⟨RX8, "kindAt", "(II)I"⟩
abbrev cX8_paneAt : ByteArray := prog_1_method_25_code
def yX8_paneAt : MethodName := ⟨RX8, "paneAt", "(II)I"⟩
abbrev cX8_dropAt : ByteArray := prog_1_method_26_code
def yX8_dropAt : MethodName := ⟨RX8, "dropAt", "(II)I"⟩
abbrev cX8_store : ByteArray := prog_1_method_27_code
def yX8_store : MethodName := ⟨RX8, "store", "(I)I"⟩
abbrev cX8_restore : ByteArray := prog_1_method_28_code
def yX8_restore : MethodName := ⟨RX8, "restore", "(I)I"⟩
abbrev cX8_type : ByteArray := prog_1_method_29_code
def yX8_type : MethodName := ⟨RX8, "type", "(I)I"⟩
abbrev cX8_clearText : ByteArray := prog_1_method_30_code
def yX8_clearText : MethodName := ⟨RX8, "clearText", "()I"⟩
abbrev cX8_fault : ByteArray := prog_1_method_31_code
def yX8_fault : MethodName := ⟨RX8, "fault", "()I"⟩
abbrev cX8_read : ByteArray := prog_1_method_32_code
def yX8_read : MethodName := ⟨RX8, "read", "()I"⟩
abbrev cX8_write : ByteArray := prog_1_method_33_code
def yX8_write : MethodName := ⟨RX8, "write", "(I)I"⟩
abbrev cX8_character : ByteArray := prog_1_method_34_code
def yX8_character : MethodName := ⟨RX8, "character", "(I)I"⟩
abbrev cX8_undo : ByteArray := prog_1_method_35_code
def yX8_undo : MethodName := ⟨RX8, "undo", "()I"⟩
abbrev cX8_checksum : ByteArray := prog_1_method_36_code
def yX8_checksum : MethodName := ⟨RX8, "checksum", "()J"⟩
abbrev cX8_mixPane : ByteArray := prog_1_method_37_code
def yX8_mixPane : MethodName := ⟨RX8, "mixPane", "(JI)J"⟩
abbrev cX8_mixWindow : ByteArray := prog_1_method_38_code
def yX8_mixWindow : MethodName := ⟨RX8, "mixWindow", "(JI)J"⟩
abbrev cX8_mix : ByteArray := prog_1_method_39_code
def yX8_mix : MethodName := ⟨RX8, "mix", "(JI)J"⟩
abbrev cX8_requirePane : ByteArray := prog_1_method_40_code
def yX8_requirePane : MethodName := ⟨RX8, "requirePane", "(I)V"⟩
abbrev cX8_requireWindow : ByteArray := prog_1_method_41_code
def yX8_requireWindow : MethodName := ⟨RX8, "requireWindow", "(I)V"⟩
abbrev cX8_requireSlot : ByteArray := prog_1_method_42_code
def yX8_requireSlot : MethodName := ⟨RX8, "requireSlot", "(I)V"⟩
abbrev cX8_requireRange : ByteArray := prog_1_method_43_code
def yX8_requireRange : MethodName := ⟨RX8, "requireRange", "(III)V"⟩
abbrev cX8_requireMinimum : ByteArray := prog_1_method_44_code
def yX8_requireMinimum : MethodName := ⟨RX8, "requireMinimum", "(II)V"⟩
abbrev cX8_requireFloating : ByteArray := prog_1_method_45_code
def yX8_requireFloating : MethodName := ⟨RX8, "requireFloating", "(I)V"⟩
abbrev cX8_requirePlaced : ByteArray := prog_1_method_46_code
def yX8_requirePlaced : MethodName := ⟨RX8, "requirePlaced", "(I)V"⟩
abbrev cX8_keepRecord : ByteArray := prog_1_method_47_code
def yX8_keepRecord : MethodName := ⟨RX8, "keepRecord", "()V"⟩
abbrev cX8_recordAt : ByteArray := prog_1_method_48_code
def yX8_recordAt : MethodName := ⟨RX8, "recordAt", "(I)LDockLayout$State;"⟩
abbrev cX8_directionOf : ByteArray := prog_1_method_49_code
def yX8_directionOf : MethodName := ⟨RX8, "directionOf", "(I)I"⟩
abbrev cX8_nodeAtDivider : ByteArray := prog_1_method_50_code
def yX8_nodeAtDivider : MethodName := ⟨RX8, "nodeAtDivider", "(II)I"⟩
abbrev cX8_shownNeighbour : ByteArray := prog_1_method_51_code
def yX8_shownNeighbour : MethodName := ⟨RX8, "shownNeighbour", "(II)I"⟩
abbrev cX8_weighBySizes : ByteArray := prog_1_method_52_code
def yX8_weighBySizes : MethodName := ⟨RX8, "weighBySizes", "(III)V"⟩
abbrev cX8_frontWindowAt : ByteArray := prog_1_method_53_code
def yX8_frontWindowAt : MethodName := ⟨RX8, "frontWindowAt", "(II)I"⟩
abbrev cX8_groupAt : ByteArray := prog_1_method_54_code
def yX8_groupAt : MethodName := ⟨RX8, "groupAt", "(III)I"⟩
abbrev cX8_paneOfTab : ByteArray := prog_1_method_55_code
def yX8_paneOfTab : MethodName := ⟨RX8, "paneOfTab", "(II)I"⟩
abbrev cX8_at : ByteArray := prog_1_method_56_code
def yX8_at : MethodName := ⟨RX8, "at", "([II)I"⟩
abbrev cX8_put : ByteArray := prog_1_method_57_code
def yX8_put : MethodName := ⟨RX8, "put", "([III)V"⟩
abbrev cX8_copyRow : ByteArray := prog_1_method_58_code
def yX8_copyRow : MethodName := ⟨RX8, "copyRow", "([I[I)V"⟩
def RX9 : String := "DockLayoutModel"
def TX9 : u_T := fun k => match k with
  | 0 => ("DockLayoutModel", "now", "[I", true)
  | 1 => ("DockLayoutModel", "past", "[I", true)
  | 2 => ("DockLayoutModel", "saved", "I", false)
  | 3 => ("DockLayoutModel", "refusal", "I", false)
  | 4 => ("DockLayoutModel", "text", "[I", true)
  | 5 => ("DockLayoutModel", "length", "I", false)
  | 6 => ("DockLayoutModel", "deep", "[I", true)
  | 7 => ("DockLayoutModel", "seen", "[Z", true)
  | 8 => ("DockLayoutModel", "least", "[I", true)
  | 9 => ("DockLayoutModel", "rect", "[I", true)
  | 10 => ("DockLayoutModel", "shares", "[I", true)
  | 11 => ("DockLayoutModel", "open", "[Z", true)
  | 12 => ("DockLayoutModel", "laid", "I", false)
  | 13 => ("DockLayoutModel", "ahead", "I", false)
  | 14 => ("DockLayoutModel", "behind", "I", false)
  | 15 => ("DockLayoutModel", "at", "I", false)
  | 16 => ("DockLayoutModel", "wrong", "I", false)
  | 17 => ("DockLayoutModel", "stack", "[I", true)
  | 18 => ("DockLayoutModel", "counts", "[I", true)
  | 19 => ("DockLayoutModel", "stackMany", "I", false)
  | 20 => ("DockLayoutModel", "usedSet", "I", false)
  | 21 => ("DockLayoutModel", "node", "I", false)
  | 22 => ("DockLayoutModel", "weight", "I", false)
  | 23 => ("DockLayoutModel", "weights", "[I", true)
  | 24 => ("DockLayoutModel", "written", "[I", true)
  | 25 => ("DockLayoutModel", "writtenMany", "I", false)
  | _ => ("DockLayoutModel", "hash", "J", false)
def tyX9 : Nat → FieldType := fun k => match k with
  | 0 => .array .int
  | 1 => .array .int
  | 2 => .int
  | 3 => .int
  | 4 => .array .int
  | 5 => .int
  | 6 => .array .int
  | 7 => .array .boolean
  | 8 => .array .int
  | 9 => .array .int
  | 10 => .array .int
  | 11 => .array .boolean
  | 12 => .int
  | 13 => .int
  | 14 => .int
  | 15 => .int
  | 16 => .int
  | 17 => .array .int
  | 18 => .array .int
  | 19 => .int
  | 20 => .int
  | 21 => .int
  | 22 => .int
  | 23 => .array .int
  | 24 => .array .int
  | 25 => .int
  | _ => .long
abbrev wsX90 : List Cond := u_ws RX9 TX9 27
theorem nmX9 : ∀ a, a < 27 → ∀ b, b < 27 → a ≠ b → (TX9 a).2.1 ≠ (TX9 b).2.1 := by decide +kernel
theorem tyX9_ok : ∀ k, k < 27 → parseFieldDescriptor (TX9 k).2.2.1 = some (tyX9 k) := by decide +kernel
abbrev cX9_init : ByteArray := prog_11_method_1_code
def yX9_init : MethodName := ⟨RX9, "<init>", "()V"⟩
abbrev cX9_refused : ByteArray := prog_11_method_3_code
def yX9_refused : MethodName := ⟨RX9, "refused", "(I)Z"⟩
abbrev cX9_within : ByteArray := prog_11_method_4_code
def yX9_within : MethodName := ⟨RX9, "within", "(III)Z"⟩
abbrev cX9_saves : ByteArray := prog_11_method_5_code
def yX9_saves : MethodName := ⟨RX9, "saves", "()V"⟩
abbrev cX9_undo : ByteArray := prog_11_method_6_code
def yX9_undo : MethodName := ⟨RX9, "undo", "()I"⟩
abbrev cX9_of : ByteArray := prog_11_method_7_code
def yX9_of : MethodName := ⟨RX9, "of", "(II)I"⟩
abbrev cX9_put : ByteArray := prog_11_method_8_code
def yX9_put : MethodName := ⟨RX9, "put", "(III)V"⟩
abbrev cX9_isPane : ByteArray := prog_11_method_9_code
def yX9_isPane : MethodName := ⟨RX9, "isPane", "(I)Z"⟩
abbrev cX9_isPlaced : ByteArray := prog_11_method_10_code
def yX9_isPlaced : MethodName := ⟨RX9, "isPlaced", "(I)Z"⟩
abbrev cX9_isShown : ByteArray := prog_11_method_11_code
def yX9_isShown : MethodName := ⟨RX9, "isShown", "(I)Z"⟩
abbrev cX9_its : ByteArray := prog_11_method_12_code
def yX9_its : MethodName := ⟨RX9, "its", "(II)I"⟩
abbrev cX9_lay : ByteArray := prog_11_method_13_code
def yX9_lay : MethodName := ⟨RX9, "lay", "(III)V"⟩
abbrev cX9_window : ByteArray := prog_11_method_14_code
def yX9_window : MethodName := ⟨RX9, "window", "(IIZ)I"⟩
abbrev cX9_puts : ByteArray := prog_11_method_15_code
def yX9_puts : MethodName := ⟨RX9, "puts", "(III)V"⟩
abbrev cX9_isWindow : ByteArray := prog_11_method_16_code
def yX9_isWindow : MethodName := ⟨RX9, "isWindow", "(I)Z"⟩
abbrev cX9_newNode : ByteArray := prog_11_method_17_code
def yX9_newNode : MethodName := ⟨RX9, "newNode", "(I)I"⟩
abbrev cX9_isChild : ByteArray := prog_11_method_18_code
def yX9_isChild : MethodName := ⟨RX9, "isChild", "(II)Z"⟩
abbrev cX9_childMany : ByteArray := prog_11_method_19_code
def yX9_childMany : MethodName := ⟨RX9, "childMany", "(I)I"⟩
abbrev cX9_child : ByteArray := prog_11_method_20_code
def yX9_child : MethodName := ⟨RX9, "child", "(II)I"⟩
abbrev cX9_enters : ByteArray := prog_11_method_21_code
def yX9_enters : MethodName := ⟨RX9, "enters", "(III)V"⟩
abbrev cX9_leaves : ByteArray := prog_11_method_22_code
def yX9_leaves : MethodName := ⟨RX9, "leaves", "(I)V"⟩
abbrev cX9_rootOf : ByteArray := prog_11_method_23_code
def yX9_rootOf : MethodName := ⟨RX9, "rootOf", "(I)I"⟩
abbrev cX9_windowOf : ByteArray := prog_11_method_24_code
def yX9_windowOf : MethodName := ⟨RX9, "windowOf", "(I)I"⟩
abbrev cX9_replaces : ByteArray := prog_11_method_25_code
def yX9_replaces : MethodName := ⟨RX9, "replaces", "(II)V"⟩
abbrev cX9_tabMany : ByteArray := prog_11_method_26_code
def yX9_tabMany : MethodName := ⟨RX9, "tabMany", "(I)I"⟩
abbrev cX9_tabAt : ByteArray := prog_11_method_27_code
def yX9_tabAt : MethodName := ⟨RX9, "tabAt", "(II)I"⟩
abbrev cX9_placedMany : ByteArray := prog_11_method_28_code
def yX9_placedMany : MethodName := ⟨RX9, "placedMany", "()I"⟩
abbrev cX9_placedIn : ByteArray := prog_11_method_29_code
def yX9_placedIn : MethodName := ⟨RX9, "placedIn", "(I)I"⟩
abbrev cX9_placeIn : ByteArray := prog_11_method_30_code
def yX9_placeIn : MethodName := ⟨RX9, "placeIn", "(II)I"⟩
abbrev cX9_dropsFrom : ByteArray := prog_11_method_31_code
def yX9_dropsFrom : MethodName := ⟨RX9, "dropsFrom", "(II)V"⟩
abbrev cX9_comesLast : ByteArray := prog_11_method_32_code
def yX9_comesLast : MethodName := ⟨RX9, "comesLast", "(II)V"⟩
abbrev cX9_comesFirst : ByteArray := prog_11_method_33_code
def yX9_comesFirst : MethodName := ⟨RX9, "comesFirst", "(II)V"⟩
abbrev cX9_yields : ByteArray := prog_11_method_34_code
def yX9_yields : MethodName := ⟨RX9, "yields", "(I)V"⟩
abbrev cX9_collapses : ByteArray := prog_11_method_35_code
def yX9_collapses : MethodName := ⟨RX9, "collapses", "(I)V"⟩
abbrev cX9_goesAway : ByteArray := prog_11_method_36_code
def yX9_goesAway : MethodName := ⟨RX9, "goesAway", "(I)V"⟩
abbrev cX9_takes : ByteArray := prog_11_method_37_code
def yX9_takes : MethodName := ⟨RX9, "takes", "(I)V"⟩
abbrev cX9_settles : ByteArray := prog_11_method_38_code
def yX9_settles : MethodName := ⟨RX9, "settles", "(II)V"⟩
abbrev cX9_leavesFocus : ByteArray := prog_11_method_39_code
def yX9_leavesFocus : MethodName := ⟨RX9, "leavesFocus", "()V"⟩
abbrev cX9_create : ByteArray := prog_11_method_40_code
def yX9_create : MethodName := ⟨RX9, "create", "(II)I"⟩
abbrev cX9_paneSet : ByteArray := prog_11_method_41_code
def yX9_paneSet : MethodName := ⟨RX9, "paneSet", "()I"⟩
abbrev cX9_size : ByteArray := prog_11_method_42_code
def yX9_size : MethodName := ⟨RX9, "size", "(I)I"⟩
abbrev cX9_remove : ByteArray := prog_11_method_43_code
def yX9_remove : MethodName := ⟨RX9, "remove", "(I)I"⟩
abbrev cX9_setMinimum : ByteArray := prog_11_method_44_code
def yX9_setMinimum : MethodName := ⟨RX9, "setMinimum", "(III)I"⟩
abbrev cX9_panes : ByteArray := prog_11_method_45_code
def yX9_panes : MethodName := ⟨RX9, "panes", "()I"⟩
abbrev cX9_told : ByteArray := prog_11_method_46_code
def yX9_told : MethodName := ⟨RX9, "told", "(II)I"⟩
abbrev cX9_pane : ByteArray := prog_11_method_47_code
def yX9_pane : MethodName := ⟨RX9, "pane", "(II)I"⟩
abbrev cX9_laysDepths : ByteArray := prog_11_method_48_code
def yX9_laysDepths : MethodName := ⟨RX9, "laysDepths", "()V"⟩
abbrev cX9_laysLeast : ByteArray := prog_11_method_49_code
def yX9_laysLeast : MethodName := ⟨RX9, "laysLeast", "(I)V"⟩
abbrev cX9_laysShares : ByteArray := prog_11_method_50_code
def yX9_laysShares : MethodName := ⟨RX9, "laysShares", "(II)V"⟩
abbrev cX9_tightens : ByteArray := prog_11_method_51_code
def yX9_tightens : MethodName := ⟨RX9, "tightens", "(II)Z"⟩
abbrev cX9_closed : ByteArray := prog_11_method_52_code
def yX9_closed : MethodName := ⟨RX9, "closed", "(I)I"⟩
abbrev cX9_evens : ByteArray := prog_11_method_53_code
def yX9_evens : MethodName := ⟨RX9, "evens", "(JJ)V"⟩
abbrev cX9_laysChildren : ByteArray := prog_11_method_54_code
def yX9_laysChildren : MethodName := ⟨RX9, "laysChildren", "(I)V"⟩
abbrev cX9_lays : ByteArray := prog_11_method_55_code
def yX9_lays : MethodName := ⟨RX9, "lays", "()V"⟩
abbrev cX9_cornerOf : ByteArray := prog_11_method_56_code
def yX9_cornerOf : MethodName := ⟨RX9, "cornerOf", "(II)I"⟩
abbrev cX9_rectangle : ByteArray := prog_11_method_57_code
def yX9_rectangle : MethodName := ⟨RX9, "rectangle", "(II)I"⟩
abbrev cX9_tab : ByteArray := prog_11_method_58_code
def yX9_tab : MethodName := ⟨RX9, "tab", "(II)I"⟩
abbrev cX9_resize : ByteArray := prog_11_method_59_code
def yX9_resize : MethodName := ⟨RX9, "resize", "(III)I"⟩
abbrev cX9_move : ByteArray := prog_11_method_60_code
def yX9_move : MethodName := ⟨RX9, "move", "(III)I"⟩
abbrev cX9_raise : ByteArray := prog_11_method_61_code
def yX9_raise : MethodName := ⟨RX9, "raise", "(I)I"⟩
abbrev cX9_windowTold : ByteArray := prog_11_method_62_code
def yX9_windowTold : MethodName := ⟨RX9, "windowTold", "(II)I"⟩
abbrev cX9_window_ : ByteArray := prog_11_method_63_code
def yX9_window_ : MethodName := ⟨RX9, "window", "(II)I"⟩
abbrev cX9_floating : ByteArray := prog_11_method_64_code
def yX9_floating : MethodName := ⟨RX9, "floating", "(I)I"⟩
abbrev cX9_dock : ByteArray := prog_11_method_65_code
def yX9_dock : MethodName := ⟨RX9, "dock", "(III)I"⟩
abbrev cX9_beside : ByteArray := prog_11_method_66_code
def yX9_beside : MethodName := ⟨RX9, "beside", "(II)I"⟩
abbrev cX9_roots : ByteArray := prog_11_method_67_code
def yX9_roots : MethodName := ⟨RX9, "roots", "(II)V"⟩
abbrev cX9_start : ByteArray := prog_11_method_68_code
def yX9_start : MethodName := ⟨RX9, "start", "(I)I"⟩
abbrev cX9_floatAt : ByteArray := prog_11_method_69_code
def yX9_floatAt : MethodName := ⟨RX9, "floatAt", "(IIIII)I"⟩
abbrev cX9_takeAway : ByteArray := prog_11_method_70_code
def yX9_takeAway : MethodName := ⟨RX9, "takeAway", "(I)I"⟩
abbrev cX9_show : ByteArray := prog_11_method_71_code
def yX9_show : MethodName := ⟨RX9, "show", "(IZ)Z"⟩
abbrev cX9_activate : ByteArray := prog_11_method_72_code
def yX9_activate : MethodName := ⟨RX9, "activate", "(I)I"⟩
abbrev cX9_moveTab : ByteArray := prog_11_method_73_code
def yX9_moveTab : MethodName := ⟨RX9, "moveTab", "(II)I"⟩
abbrev cX9_hasDivider : ByteArray := prog_11_method_74_code
def yX9_hasDivider : MethodName := ⟨RX9, "hasDivider", "(II)Z"⟩
abbrev cX9_drag : ByteArray := prog_11_method_75_code
def yX9_drag : MethodName := ⟨RX9, "drag", "(III)I"⟩
abbrev cX9_weighs : ByteArray := prog_11_method_76_code
def yX9_weighs : MethodName := ⟨RX9, "weighs", "(II)V"⟩
abbrev cX9_even : ByteArray := prog_11_method_77_code
def yX9_even : MethodName := ⟨RX9, "even", "(I)I"⟩
abbrev cX9_focus : ByteArray := prog_11_method_78_code
def yX9_focus : MethodName := ⟨RX9, "focus", "(I)I"⟩
abbrev cX9_isInside : ByteArray := prog_11_method_79_code
def yX9_isInside : MethodName := ⟨RX9, "isInside", "(IIIIII)Z"⟩
abbrev cX9_isIn : ByteArray := prog_11_method_80_code
def yX9_isIn : MethodName := ⟨RX9, "isIn", "(III)Z"⟩
abbrev cX9_windowAt : ByteArray := prog_11_method_81_code
def yX9_windowAt : MethodName := ⟨RX9, "windowAt", "(II)I"⟩
abbrev cX9_groupAt : ByteArray := prog_11_method_82_code
def yX9_groupAt : MethodName := ⟨RX9, "groupAt", "(II)I"⟩
abbrev cX9_kindAt : ByteArray := prog_11_method_83_code
def yX9_kindAt : MethodName := ⟨RX9, "kindAt", "(II)I"⟩
abbrev cX9_paneAt : ByteArray := prog_11_method_84_code
def yX9_paneAt : MethodName := ⟨RX9, "paneAt", "(II)I"⟩
abbrev cX9_dropAt : ByteArray := prog_11_method_85_code
def yX9_dropAt : MethodName := ⟨RX9, "dropAt", "(II)I"⟩
abbrev cX9_store : ByteArray := prog_11_method_86_code
def yX9_store : MethodName := ⟨RX9, "store", "(I)I"⟩
abbrev cX9_restore : ByteArray := prog_11_method_87_code
def yX9_restore : MethodName := ⟨RX9, "restore", "(I)I"⟩
abbrev cX9_focuses : ByteArray := prog_11_method_88_code
def yX9_focuses : MethodName := ⟨RX9, "focuses", "()V"⟩
abbrev cX9_type : ByteArray := prog_11_method_89_code
def yX9_type : MethodName := ⟨RX9, "type", "(I)I"⟩
abbrev cX9_clearText : ByteArray := prog_11_method_90_code
def yX9_clearText : MethodName := ⟨RX9, "clearText", "()I"⟩
abbrev cX9_next : ByteArray := prog_11_method_91_code
def yX9_next : MethodName := ⟨RX9, "next", "()I"⟩
abbrev cX9_takes_ : ByteArray := prog_11_method_92_code
def yX9_takes_ : MethodName := ⟨RX9, "takes", "(IZ)Z"⟩
abbrev cX9_isPaneNext : ByteArray := prog_11_method_93_code
def yX9_isPaneNext : MethodName := ⟨RX9, "isPaneNext", "()Z"⟩
abbrev cX9_readsWeight : ByteArray := prog_11_method_94_code
def yX9_readsWeight : MethodName := ⟨RX9, "readsWeight", "()V"⟩
abbrev cX9_readsGroup : ByteArray := prog_11_method_95_code
def yX9_readsGroup : MethodName := ⟨RX9, "readsGroup", "(Z)V"⟩
abbrev cX9_joins : ByteArray := prog_11_method_96_code
def yX9_joins : MethodName := ⟨RX9, "joins", "(IZ)V"⟩
abbrev cX9_opens : ByteArray := prog_11_method_97_code
def yX9_opens : MethodName := ⟨RX9, "opens", "(Z)V"⟩
abbrev cX9_goes : ByteArray := prog_11_method_98_code
def yX9_goes : MethodName := ⟨RX9, "goes", "(Z)I"⟩
abbrev cX9_ends : ByteArray := prog_11_method_99_code
def yX9_ends : MethodName := ⟨RX9, "ends", "(Z)Z"⟩
abbrev cX9_fault : ByteArray := prog_11_method_100_code
def yX9_fault : MethodName := ⟨RX9, "fault", "()I"⟩
abbrev cX9_read : ByteArray := prog_11_method_101_code
def yX9_read : MethodName := ⟨RX9, "read", "()I"⟩
abbrev cX9_writes : ByteArray := prog_11_method_102_code
def yX9_writes : MethodName := ⟨RX9, "writes", "(I)V"⟩
abbrev cX9_writesNumber : ByteArray := prog_11_method_103_code
def yX9_writesNumber : MethodName := ⟨RX9, "writesNumber", "(I)V"⟩
abbrev cX9_writesGroup : ByteArray := prog_11_method_104_code
def yX9_writesGroup : MethodName := ⟨RX9, "writesGroup", "(I)V"⟩
abbrev cX9_writesTree : ByteArray := prog_11_method_105_code
def yX9_writesTree : MethodName := ⟨RX9, "writesTree", "(I)V"⟩
abbrev cX9_write : ByteArray := prog_11_method_106_code
def yX9_write : MethodName := ⟨RX9, "write", "(I)I"⟩
abbrev cX9_character : ByteArray := prog_11_method_107_code
def yX9_character : MethodName := ⟨RX9, "character", "(I)I"⟩
abbrev cX9_mix : ByteArray := prog_11_method_108_code
def yX9_mix : MethodName := ⟨RX9, "mix", "(J)V"⟩
abbrev cX9_checksum : ByteArray := prog_11_method_109_code
def yX9_checksum : MethodName := ⟨RX9, "checksum", "()J"⟩
def RJx145de : String := "java/io/Serializable"
def TJx145de : u_T := fun k => match k with
  | _ => ("", "", "", false)
def tyJx145de : Nat → FieldType := fun k => match k with
  | _ => .int
abbrev wsJx145de0 : List Cond := u_ws RJx145de TJx145de 0
theorem nmJx145de : ∀ a, a < 0 → ∀ b, b < 0 → a ≠ b → (TJx145de a).2.1 ≠ (TJx145de b).2.1 := by decide +kernel
theorem tyJx145de_ok : ∀ k, k < 0 → parseFieldDescriptor (TJx145de k).2.2.1 = some (tyJx145de k) := by decide +kernel
def RJ6 : String := "java/lang/Integer"
def TJ6 : u_T := fun k => match k with
  | _ => ("", "", "", false)
def tyJ6 : Nat → FieldType := fun k => match k with
  | _ => .int
abbrev wsJ60 : List Cond := u_ws RJ6 TJ6 0
theorem nmJ6 : ∀ a, a < 0 → ∀ b, b < 0 → a ≠ b → (TJ6 a).2.1 ≠ (TJ6 b).2.1 := by decide +kernel
theorem tyJ6_ok : ∀ k, k < 0 → parseFieldDescriptor (TJ6 k).2.2.1 = some (tyJ6 k) := by decide +kernel
abbrev cJ6_bitCount_0f7a4 : ByteArray := prog_16_method_49_code
def yJ6_bitCount_0f7a4 : MethodName := ⟨RJ6, "bitCount", "(I)I"⟩
def RJ9 : String := "java/lang/Math"
def TJ9 : u_T := fun k => match k with
  | _ => ("", "", "", false)
def tyJ9 : Nat → FieldType := fun k => match k with
  | _ => .int
abbrev wsJ90 : List Cond := u_ws RJ9 TJ9 0
theorem nmJ9 : ∀ a, a < 0 → ∀ b, b < 0 → a ≠ b → (TJ9 a).2.1 ≠ (TJ9 b).2.1 := by decide +kernel
theorem tyJ9_ok : ∀ k, k < 0 → parseFieldDescriptor (TJ9 k).2.2.1 = some (tyJ9 k) := by decide +kernel
abbrev cJ9_floorMod_7cf53 : ByteArray := prog_17_method_50_code
def yJ9_floorMod_7cf53 : MethodName := ⟨RJ9, "floorMod", "(II)I"⟩
abbrev cJ9_max_7cf53 : ByteArray := prog_17_method_65_code
def yJ9_max_7cf53 : MethodName := ⟨RJ9, "max", "(II)I"⟩
abbrev cJ9_max_f86c9 : ByteArray := prog_17_method_66_code
def yJ9_max_f86c9 : MethodName := ⟨RJ9, "max", "(JJ)J"⟩
abbrev cJ9_min_7cf53 : ByteArray := prog_17_method_69_code
def yJ9_min_7cf53 : MethodName := ⟨RJ9, "min", "(II)I"⟩
abbrev cJ9_min_f86c9 : ByteArray := prog_17_method_70_code
def yJ9_min_f86c9 : MethodName := ⟨RJ9, "min", "(JJ)J"⟩
def RJ0 : String := "java/lang/String"
def TJ0 : u_T := fun k => match k with
  | _ => ("", "", "", false)
def tyJ0 : Nat → FieldType := fun k => match k with
  | _ => .int
abbrev wsJ00 : List Cond := u_ws RJ0 TJ0 0
theorem nmJ0 : ∀ a, a < 0 → ∀ b, b < 0 → a ≠ b → (TJ0 a).2.1 ≠ (TJ0 b).2.1 := by decide +kernel
theorem tyJ0_ok : ∀ k, k < 0 → parseFieldDescriptor (TJ0 k).2.2.1 = some (tyJ0 k) := by decide +kernel
def RJ10 : String := "java/lang/System"
def TJ10 : u_T := fun k => match k with
  | _ => ("", "", "", false)
def tyJ10 : Nat → FieldType := fun k => match k with
  | _ => .int
abbrev wsJ100 : List Cond := u_ws RJ10 TJ10 0
theorem nmJ10 : ∀ a, a < 0 → ∀ b, b < 0 → a ≠ b → (TJ10 a).2.1 ≠ (TJ10 b).2.1 := by decide +kernel
theorem tyJ10_ok : ∀ k, k < 0 → parseFieldDescriptor (TJ10 k).2.2.1 = some (tyJ10 k) := by decide +kernel
def RJ7 : String := "java/util/Arrays"
def TJ7 : u_T := fun k => match k with
  | _ => ("", "", "", false)
def tyJ7 : Nat → FieldType := fun k => match k with
  | _ => .int
abbrev wsJ70 : List Cond := u_ws RJ7 TJ7 0
theorem nmJ7 : ∀ a, a < 0 → ∀ b, b < 0 → a ≠ b → (TJ7 a).2.1 ≠ (TJ7 b).2.1 := by decide +kernel
theorem tyJ7_ok : ∀ k, k < 0 → parseFieldDescriptor (TJ7 k).2.2.1 = some (tyJ7 k) := by decide +kernel
abbrev cJ7_fill_53178 : ByteArray := prog_22_method_103_code
def yJ7_fill_53178 : MethodName := ⟨RJ7, "fill", "([II)V"⟩
def RL : String := "DockLayoutLaw"
abbrev cL_create : ByteArray := method_3_code
def yL_create : MethodName := ⟨RL, "create", "(LDockLayout;II[J)I"⟩
abbrev cL_remove : ByteArray := method_4_code
def yL_remove : MethodName := ⟨RL, "remove", "(LDockLayout;I[J)I"⟩
abbrev cL_setMinimum : ByteArray := method_5_code
def yL_setMinimum : MethodName := ⟨RL, "setMinimum", "(LDockLayout;III[J)I"⟩
abbrev cL_pane : ByteArray := method_6_code
def yL_pane : MethodName := ⟨RL, "pane", "(LDockLayout;II[J)I"⟩
abbrev cL_rectangle : ByteArray := method_7_code
def yL_rectangle : MethodName := ⟨RL, "rectangle", "(LDockLayout;II[J)I"⟩
abbrev cL_tab : ByteArray := method_8_code
def yL_tab : MethodName := ⟨RL, "tab", "(LDockLayout;II[J)I"⟩
abbrev cL_resize : ByteArray := method_9_code
def yL_resize : MethodName := ⟨RL, "resize", "(LDockLayout;III[J)I"⟩
abbrev cL_move : ByteArray := method_10_code
def yL_move : MethodName := ⟨RL, "move", "(LDockLayout;III[J)I"⟩
abbrev cL_raise : ByteArray := method_11_code
def yL_raise : MethodName := ⟨RL, "raise", "(LDockLayout;I[J)I"⟩
abbrev cL_window : ByteArray := method_12_code
def yL_window : MethodName := ⟨RL, "window", "(LDockLayout;II[J)I"⟩
abbrev cL_dock : ByteArray := method_13_code
def yL_dock : MethodName := ⟨RL, "dock", "(LDockLayout;III[J)I"⟩
abbrev cL_start : ByteArray := method_14_code
def yL_start : MethodName := ⟨RL, "start", "(LDockLayout;I[J)I"⟩
abbrev cL_floatAt : ByteArray := method_15_code
def yL_floatAt : MethodName := ⟨RL, "floatAt", "(LDockLayout;IIIII[J)I"⟩
abbrev cL_takeAway : ByteArray := method_16_code
def yL_takeAway : MethodName := ⟨RL, "takeAway", "(LDockLayout;I[J)I"⟩
abbrev cL_show : ByteArray := method_17_code
def yL_show : MethodName := ⟨RL, "show", "(LDockLayout;IZ[J)I"⟩
abbrev cL_activate : ByteArray := method_18_code
def yL_activate : MethodName := ⟨RL, "activate", "(LDockLayout;I[J)I"⟩
abbrev cL_moveTab : ByteArray := method_19_code
def yL_moveTab : MethodName := ⟨RL, "moveTab", "(LDockLayout;II[J)I"⟩
abbrev cL_drag : ByteArray := method_20_code
def yL_drag : MethodName := ⟨RL, "drag", "(LDockLayout;III[J)I"⟩
abbrev cL_even : ByteArray := method_21_code
def yL_even : MethodName := ⟨RL, "even", "(LDockLayout;I[J)I"⟩
abbrev cL_store : ByteArray := method_22_code
def yL_store : MethodName := ⟨RL, "store", "(LDockLayout;I[J)I"⟩
abbrev cL_restore : ByteArray := method_23_code
def yL_restore : MethodName := ⟨RL, "restore", "(LDockLayout;I[J)I"⟩
abbrev cL_type : ByteArray := method_24_code
def yL_type : MethodName := ⟨RL, "type", "(LDockLayout;I[J)I"⟩
abbrev cL_read : ByteArray := method_25_code
def yL_read : MethodName := ⟨RL, "read", "(LDockLayout;[J)I"⟩
abbrev cL_write : ByteArray := method_26_code
def yL_write : MethodName := ⟨RL, "write", "(LDockLayout;I[J)I"⟩
abbrev cL_undo : ByteArray := method_27_code
def yL_undo : MethodName := ⟨RL, "undo", "(LDockLayout;[J)I"⟩
abbrev cL_law : ByteArray := code
def yL_law : MethodName := ⟨RL, "law", "([I)Z"⟩
def wsL_law0_r1 : List Cond := [Cond.classLink RL 8 RX8, Cond.instantiable RX8 8, Cond.initialized RX8, Cond.classLink RL 97 RX9, Cond.instantiable RX9 27, Cond.initialized RX9, Cond.arrayClass .long, Cond.methodLink RL 96 yX8_init, Cond.instanceMethod yX8_init, Cond.code yX8_init cX8_init 2 none, Cond.methodLink RX8 1 objectInit, Cond.instanceMethod objectInit, Cond.code objectInit ⟨#[0xb1]⟩ 1 none, Cond.classLink RX8 7 RX4, Cond.instantiable RX4 7, Cond.initialized RX4, Cond.fieldLink RX8 10 "DockLayout" "now" "LDockLayout$State;", Cond.fieldLink RX8 16 "DockLayout" "records" "[LDockLayout$State;", Cond.classLink RX8 20 RX2, Cond.instantiable RX2 11, Cond.initialized RX2, Cond.fieldLink RX8 23 "DockLayout" "plan" "LDockLayout$Plan;", Cond.classLink RX8 27 RX5, Cond.instantiable RX5 2]
def wsL_law0_r2 : List Cond := [Cond.initialized RX5, Cond.fieldLink RX8 30 "DockLayout" "text" "LDockLayout$Text;", Cond.classLink RX8 34 RX6, Cond.instantiable RX6 4, Cond.initialized RX6, Cond.fieldLink RX8 37 "DockLayout" "reader" "LDockLayout$TreeReader;", Cond.classLink RX8 41 RX7, Cond.instantiable RX7 1, Cond.initialized RX7, Cond.fieldLink RX8 44 "DockLayout" "writer" "LDockLayout$TreeWriter;", Cond.methodLink RX8 9 yX4_init, Cond.instanceMethod yX4_init, Cond.code yX4_init cX4_init 2 none, Cond.methodLink RX4 3 objectInit, Cond.arrayClass .int, Cond.fieldLink RX4 9 "DockLayout$State" "minimumWidth" "[I", Cond.fieldLink RX4 15 "DockLayout$State" "minimumHeight" "[I", Cond.classLink RX4 18 RX0, Cond.instantiable RX0 2, Cond.initialized RX0, Cond.fieldLink RX4 21 "DockLayout$State" "focusOrder" "LDockLayout$Order;", Cond.classLink RX4 25 RX1, Cond.instantiable RX1 14, Cond.initialized RX1]
def wsL_law0_r3 : List Cond := [Cond.fieldLink RX4 28 "DockLayout$State" "trees" "LDockLayout$Placement;", Cond.fieldLink RX4 32 "DockLayout$State" "slots" "[LDockLayout$Placement;", Cond.instanceMethod yX0_init, Cond.code yX0_init cX0_init 1 none, Cond.methodLink RX0 3 objectInit, Cond.fieldLink RX0 9 "DockLayout$Order" "items" "[I", Cond.methodLink RX4 27 yX1_init, Cond.instanceMethod yX1_init, Cond.code yX1_init cX1_init 1 none, Cond.methodLink RX1 3 objectInit, Cond.fieldLink RX1 9 "DockLayout$Placement" "windowX" "[I", Cond.fieldLink RX1 15 "DockLayout$Placement" "windowY" "[I", Cond.fieldLink RX1 18 "DockLayout$Placement" "windowWidth" "[I", Cond.fieldLink RX1 21 "DockLayout$Placement" "windowHeight" "[I", Cond.fieldLink RX1 24 "DockLayout$Placement" "root" "[I", Cond.classLink RX1 27 RX0, Cond.fieldLink RX1 30 "DockLayout$Placement" "floats" "LDockLayout$Order;", Cond.fieldLink RX1 34 "DockLayout$Placement" "kind" "[I", Cond.fieldLink RX1 37 "DockLayout$Placement" "parent" "[I", Cond.fieldLink RX1 40 "DockLayout$Placement" "place" "[I", Cond.fieldLink RX1 43 "DockLayout$Placement" "weight" "[I", Cond.fieldLink RX1 46 "DockLayout$Placement" "active" "[I", Cond.fieldLink RX1 49 "DockLayout$Placement" "group" "[I", Cond.fieldLink RX1 52 "DockLayout$Placement" "spot" "[I"]
def wsL_law0_r4 : List Cond := [Cond.fieldLink RX1 55 "DockLayout$Placement" "hidden" "[I", Cond.methodLink RX1 58 yJ7_fill_53178, Cond.static yJ7_fill_53178, Cond.initialized RJ7, Cond.code yJ7_fill_53178 cJ7_fill_53178 4 none, Cond.instanceMethod yX2_init, Cond.code yX2_init cX2_init 1 none, Cond.methodLink RX2 3 objectInit, Cond.fieldLink RX2 9 "DockLayout$Plan" "shown" "[I", Cond.fieldLink RX2 15 "DockLayout$Plan" "minimumWidth" "[I", Cond.fieldLink RX2 18 "DockLayout$Plan" "minimumHeight" "[I", Cond.fieldLink RX2 21 "DockLayout$Plan" "left" "[I", Cond.fieldLink RX2 24 "DockLayout$Plan" "top" "[I", Cond.fieldLink RX2 27 "DockLayout$Plan" "columns" "[I", Cond.fieldLink RX2 30 "DockLayout$Plan" "rows" "[I", Cond.fieldLink RX2 33 "DockLayout$Plan" "listed" "[I", Cond.fieldLink RX2 36 "DockLayout$Plan" "parts" "[I", Cond.classLink RX2 39 RX3, Cond.instantiable RX3 6, Cond.initialized RX3, Cond.fieldLink RX2 42 "DockLayout$Plan" "sharing" "LDockLayout$Sharing;", Cond.instanceMethod yX3_init, Cond.code yX3_init cX3_init 1 none, Cond.methodLink RX3 3 objectInit]
def wsL_law0_r5 : List Cond := [Cond.fieldLink RX3 9 "DockLayout$Sharing" "minimum" "[I", Cond.fieldLink RX3 15 "DockLayout$Sharing" "weight" "[I", Cond.fieldLink RX3 18 "DockLayout$Sharing" "size" "[I", Cond.fieldLink RX3 21 "DockLayout$Sharing" "open" "[I", Cond.fieldLink RX3 24 "DockLayout$Sharing" "remainder" "[I", Cond.instanceMethod yX5_init, Cond.code yX5_init cX5_init 1 none, Cond.methodLink RX5 3 objectInit, Cond.fieldLink RX5 9 "DockLayout$Text" "codes" "[I", Cond.instanceMethod yX6_init, Cond.code yX6_init cX6_init 1 none, Cond.methodLink RX6 3 objectInit, Cond.classLink RX6 9 RX5, Cond.fieldLink RX6 12 "DockLayout$TreeReader" "text" "LDockLayout$Text;", Cond.classLink RX6 18 RX1, Cond.fieldLink RX6 21 "DockLayout$TreeReader" "trees" "LDockLayout$Placement;", Cond.methodLink RX6 20 yX1_init, Cond.instanceMethod yX7_init, Cond.code yX7_init cX7_init 1 none, Cond.methodLink RX7 3 objectInit, Cond.classLink RX7 9 RX5, Cond.fieldLink RX7 12 "DockLayout$TreeWriter" "written" "LDockLayout$Text;", Cond.methodLink RL 99 yX9_init, Cond.instanceMethod yX9_init]
def wsL_law0_r6 : List Cond := [Cond.code yX9_init cX9_init 2 none, Cond.methodLink RX9 1 objectInit, Cond.fieldLink RX9 7 "DockLayoutModel" "now" "[I", Cond.fieldLink RX9 13 "DockLayoutModel" "past" "[I", Cond.fieldLink RX9 16 "DockLayoutModel" "text" "[I", Cond.fieldLink RX9 19 "DockLayoutModel" "deep" "[I", Cond.arrayClass .boolean, Cond.fieldLink RX9 22 "DockLayoutModel" "seen" "[Z", Cond.fieldLink RX9 26 "DockLayoutModel" "least" "[I", Cond.fieldLink RX9 29 "DockLayoutModel" "rect" "[I", Cond.fieldLink RX9 32 "DockLayoutModel" "shares" "[I", Cond.fieldLink RX9 35 "DockLayoutModel" "open" "[Z", Cond.fieldLink RX9 38 "DockLayoutModel" "stack" "[I", Cond.fieldLink RX9 41 "DockLayoutModel" "counts" "[I", Cond.fieldLink RX9 44 "DockLayoutModel" "weights" "[I", Cond.fieldLink RX9 47 "DockLayoutModel" "written" "[I", Cond.methodLink RL 100 yL_create, Cond.static yL_create, Cond.initialized RL, Cond.codeWith yL_create cL_create 5 (some .int) [(0, 10, 13, 13), (0, 10, 17, 15)], Cond.classLink RL 13 "java/lang/IllegalArgumentException", Cond.classLink RL 15 "java/lang/IllegalStateException", Cond.methodLink RL 7 yX8_create, Cond.instanceMethod yX8_create]
def wsL_law0_r7 : List Cond := [Cond.selects RX8 yX8_create yX8_create, Cond.code yX8_create cX8_create 4 (some .int), Cond.classLink RX8 56 "java/lang/IllegalStateException", Cond.initialized "java/lang/IllegalStateException", Cond.methodLink RX8 48 yX8_requireMinimum, Cond.static yX8_requireMinimum, Cond.code yX8_requireMinimum cX8_requireMinimum 2 none, Cond.methodLink RX8 123 yX8_requireRange, Cond.static yX8_requireRange, Cond.code yX8_requireRange cX8_requireRange 3 none, Cond.classLink RX8 218 "java/lang/IllegalArgumentException", Cond.initialized "java/lang/IllegalArgumentException", Cond.methodLink RX8 52 yX4_lowestFreePane, Cond.instanceMethod yX4_lowestFreePane, Cond.selects RX4 yX4_lowestFreePane yX4_lowestFreePane, Cond.code yX4_lowestFreePane cX4_lowestFreePane 2 (some .int), Cond.methodLink RX4 40 yX4_exists, Cond.instanceMethod yX4_exists, Cond.selects RX4 yX4_exists yX4_exists, Cond.code yX4_exists cX4_exists 2 (some .boolean), Cond.fieldLink RX4 36 "DockLayout$State" "existing" "I", Cond.methodLink RX8 63 yX8_keepRecord, Cond.instanceMethod yX8_keepRecord, Cond.selects RX8 yX8_keepRecord yX8_keepRecord]
def wsL_law0_r8 : List Cond := [Cond.code yX8_keepRecord cX8_keepRecord 1 none, Cond.fieldLink RX8 358 "DockLayout" "recordCount" "I", Cond.fieldLink RX8 413 "DockLayout" "oldestRecord" "I", Cond.methodLink RX8 416 yJ9_floorMod_7cf53, Cond.static yJ9_floorMod_7cf53, Cond.initialized RJ9, Cond.code yJ9_floorMod_7cf53 cJ9_floorMod_7cf53 3 (some .int), Cond.methodLink RX8 363 yX8_recordAt, Cond.instanceMethod yX8_recordAt, Cond.selects RX8 yX8_recordAt yX8_recordAt, Cond.code yX8_recordAt cX8_recordAt 3 (some (.object "DockLayout$State")), Cond.methodLink RX8 367 yX4_copyFrom, Cond.instanceMethod yX4_copyFrom, Cond.selects RX4 yX4_copyFrom yX4_copyFrom, Cond.code yX4_copyFrom cX4_copyFrom 3 none, Cond.fieldLink RX4 48 "DockLayout$State" "savedSlots" "I", Cond.static yX8_copyRow, Cond.code yX8_copyRow cX8_copyRow 2 none, Cond.methodLink RX8 448 Lib.Math.min.name, Cond.static Lib.Math.min.name, Cond.initialized "java/lang/Math", Cond.code Lib.Math.min.name Lib.Math.min.code 2 (some .int), Cond.methodLink RX8 453 arraycopyName, Cond.native arraycopyName]
def wsL_law0_r9 : List Cond := [Cond.static arraycopyName, Cond.initialized "java/lang/System", Cond.methodLink RX4 93 yX0_copyFrom, Cond.instanceMethod yX0_copyFrom, Cond.selects RX0 yX0_copyFrom yX0_copyFrom, Cond.code yX0_copyFrom cX0_copyFrom 2 none, Cond.fieldLink RX0 15 "DockLayout$Order" "count" "I", Cond.methodLink RX4 51 yX1_copyFrom, Cond.instanceMethod yX1_copyFrom, Cond.selects RX1 yX1_copyFrom yX1_copyFrom, Cond.code yX1_copyFrom cX1_copyFrom 2 none, Cond.methodLink RX1 68 yX0_copyFrom, Cond.methodLink RX8 66 yX4_addPane, Cond.instanceMethod yX4_addPane, Cond.selects RX4 yX4_addPane yX4_addPane, Cond.code yX4_addPane cX4_addPane 2 none, Cond.methodLink RX8 70 yX4_setMinimums, Cond.instanceMethod yX4_setMinimums, Cond.selects RX4 yX4_setMinimums yX4_setMinimums, Cond.code yX4_setMinimums cX4_setMinimums 4 none, Cond.static yX8_put, Cond.code yX8_put cX8_put 3 none, Cond.methodLink RL 105 yX9_create, Cond.instanceMethod yX9_create]
def wsL_law0_r10 : List Cond := [Cond.selects RX9 yX9_create yX9_create, Cond.code yX9_create cX9_create 4 (some .int), Cond.methodLink RX9 65 yX9_of, Cond.instanceMethod yX9_of, Cond.selects RX9 yX9_of yX9_of, Cond.code yX9_of cX9_of 3 (some .int), Cond.methodLink RX9 61 yX9_within, Cond.static yX9_within, Cond.code yX9_within cX9_within 3 (some .boolean), Cond.methodLink RX9 57 yX9_refused, Cond.instanceMethod yX9_refused, Cond.selects RX9 yX9_refused yX9_refused, Cond.code yX9_refused cX9_refused 2 (some .boolean), Cond.fieldLink RX9 50 "DockLayoutModel" "refusal" "I", Cond.methodLink RX9 141 yX9_saves, Cond.instanceMethod yX9_saves, Cond.selects RX9 yX9_saves yX9_saves, Cond.code yX9_saves cX9_saves 2 none, Cond.fieldLink RX9 54 "DockLayoutModel" "saved" "I", Cond.methodLink RX9 126 yX9_put, Cond.instanceMethod yX9_put, Cond.selects RX9 yX9_put yX9_put, Cond.code yX9_put cX9_put 4 none, Cond.methodLink RL 106 yL_remove]
def wsL_law0_r11 : List Cond := [Cond.static yL_remove, Cond.codeWith yL_remove cL_remove 4 (some .int) [(0, 9, 12, 21)], Cond.classLink RL 21 "java/lang/IndexOutOfBoundsException", Cond.methodLink RL 17 yX8_remove, Cond.instanceMethod yX8_remove, Cond.selects RX8 yX8_remove yX8_remove, Cond.code yX8_remove cX8_remove 2 (some .int), Cond.methodLink RX8 74 yX8_requirePane, Cond.instanceMethod yX8_requirePane, Cond.selects RX8 yX8_requirePane yX8_requirePane, Cond.code yX8_requirePane cX8_requirePane 2 none, Cond.classLink RX8 398 "java/lang/IndexOutOfBoundsException", Cond.initialized "java/lang/IndexOutOfBoundsException", Cond.methodLink RX8 375 yX4_exists, Cond.methodLink RX8 81 yX1_withdraw, Cond.instanceMethod yX1_withdraw, Cond.selects RX1 yX1_withdraw yX1_withdraw, Cond.code yX1_withdraw cX1_withdraw 3 none, Cond.methodLink RX1 84 yX1_groupOf, Cond.instanceMethod yX1_groupOf, Cond.selects RX1 yX1_groupOf yX1_groupOf, Cond.code yX1_groupOf cX1_groupOf 2 (some .int), Cond.static yX8_at, Cond.code yX8_at cX8_at 2 (some .int)]
def wsL_law0_r12 : List Cond := [Cond.methodLink RX1 146 yX1_hide, Cond.instanceMethod yX1_hide, Cond.selects RX1 yX1_hide yX1_hide, Cond.code yX1_hide cX1_hide 3 none, Cond.methodLink RX1 155 yX1_spotOf, Cond.instanceMethod yX1_spotOf, Cond.selects RX1 yX1_spotOf yX1_spotOf, Cond.code yX1_spotOf cX1_spotOf 2 (some .int), Cond.methodLink RX1 158 yX1_activeInstead, Cond.instanceMethod yX1_activeInstead, Cond.selects RX1 yX1_activeInstead yX1_activeInstead, Cond.code yX1_activeInstead cX1_activeInstead 5 (some .int), Cond.methodLink RX1 140 yX1_tabAt, Cond.instanceMethod yX1_tabAt, Cond.selects RX1 yX1_tabAt yX1_tabAt, Cond.code yX1_tabAt cX1_tabAt 4 (some .int), Cond.methodLink RX1 136 yX1_isHidden, Cond.instanceMethod yX1_isHidden, Cond.selects RX1 yX1_isHidden yX1_isHidden, Cond.code yX1_isHidden cX1_isHidden 2 (some .boolean), Cond.methodLink RX1 143 yX1_tabCount, Cond.instanceMethod yX1_tabCount, Cond.selects RX1 yX1_tabCount yX1_tabCount, Cond.code yX1_tabCount cX1_tabCount 4 (some .int)]
def wsL_law0_r13 : List Cond := [Cond.methodLink RX1 149 yX1_moveToSpot, Cond.instanceMethod yX1_moveToSpot, Cond.selects RX1 yX1_moveToSpot yX1_moveToSpot, Cond.code yX1_moveToSpot cX1_moveToSpot 7 none, Cond.methodLink RX1 152 yX1_removeGroup, Cond.instanceMethod yX1_removeGroup, Cond.selects RX1 yX1_removeGroup yX1_removeGroup, Cond.code yX1_removeGroup cX1_removeGroup 4 none, Cond.methodLink RX1 87 yX1_windowOf, Cond.instanceMethod yX1_windowOf, Cond.selects RX1 yX1_windowOf yX1_windowOf, Cond.code yX1_windowOf cX1_windowOf 4 (some .int), Cond.methodLink RX1 121 yX0_leave, Cond.instanceMethod yX0_leave, Cond.selects RX0 yX0_leave yX0_leave, Cond.code yX0_leave cX0_leave 4 none, Cond.methodLink RX0 23 yX0_indexOf, Cond.instanceMethod yX0_indexOf, Cond.selects RX0 yX0_indexOf yX0_indexOf, Cond.code yX0_indexOf cX0_indexOf 3 (some .int), Cond.methodLink RX1 124 yX1_detach, Cond.instanceMethod yX1_detach, Cond.selects RX1 yX1_detach yX1_detach, Cond.code yX1_detach cX1_detach 3 none]
def wsL_law0_r14 : List Cond := [Cond.methodLink RX1 101 yX1_shiftChildren, Cond.instanceMethod yX1_shiftChildren, Cond.selects RX1 yX1_shiftChildren yX1_shiftChildren, Cond.code yX1_shiftChildren cX1_shiftChildren 5 none, Cond.methodLink RX1 127 yX1_freeNode, Cond.instanceMethod yX1_freeNode, Cond.selects RX1 yX1_freeNode yX1_freeNode, Cond.code yX1_freeNode cX1_freeNode 2 none, Cond.methodLink RX1 130 yX1_childCount, Cond.instanceMethod yX1_childCount, Cond.selects RX1 yX1_childCount yX1_childCount, Cond.code yX1_childCount cX1_childCount 4 (some .int), Cond.methodLink RX1 133 yX1_childAt, Cond.instanceMethod yX1_childAt, Cond.selects RX1 yX1_childAt yX1_childAt, Cond.code yX1_childAt cX1_childAt 4 (some .int), Cond.methodLink RX1 118 yX1_replace, Cond.instanceMethod yX1_replace, Cond.selects RX1 yX1_replace yX1_replace, Cond.code yX1_replace cX1_replace 4 none, Cond.methodLink RX8 90 yX0_leave, Cond.methodLink RX8 95 yX4_dropPane, Cond.instanceMethod yX4_dropPane, Cond.selects RX4 yX4_dropPane yX4_dropPane]
def wsL_law0_r15 : List Cond := [Cond.code yX4_dropPane cX4_dropPane 2 none, Cond.methodLink RX8 98 yX2_compute, Cond.instanceMethod yX2_compute, Cond.selects RX2 yX2_compute yX2_compute, Cond.code yX2_compute cX2_compute 3 none, Cond.methodLink RX2 85 yJ7_fill_53178, Cond.methodLink RX2 91 yX2_computeWindow, Cond.instanceMethod yX2_computeWindow, Cond.selects RX2 yX2_computeWindow yX2_computeWindow, Cond.code yX2_computeWindow cX2_computeWindow 7 none, Cond.fieldLink RX2 110 "DockLayout$Plan" "listedCount" "I", Cond.methodLink RX2 101 yX1_rootOf, Cond.instanceMethod yX1_rootOf, Cond.selects RX1 yX1_rootOf yX1_rootOf, Cond.code yX1_rootOf cX1_rootOf 2 (some .int), Cond.methodLink RX2 106 yX2_listNodes, Cond.instanceMethod yX2_listNodes, Cond.selects RX2 yX2_listNodes yX2_listNodes, Cond.code yX2_listNodes cX2_listNodes 6 none, Cond.methodLink RX2 142 yX2_list, Cond.instanceMethod yX2_list, Cond.selects RX2 yX2_list yX2_list, Cond.code yX2_list cX2_list 2 none, Cond.methodLink RX2 146 yX1_childCount]
def wsL_law0_r16 : List Cond := [Cond.methodLink RX2 149 yX1_childAt, Cond.methodLink RX2 114 yX1_kindOf, Cond.instanceMethod yX1_kindOf, Cond.selects RX1 yX1_kindOf yX1_kindOf, Cond.code yX1_kindOf cX1_kindOf 2 (some .int), Cond.methodLink RX2 117 yX2_measureGroup, Cond.instanceMethod yX2_measureGroup, Cond.selects RX2 yX2_measureGroup yX2_measureGroup, Cond.code yX2_measureGroup cX2_measureGroup 6 none, Cond.methodLink RX2 82 Lib.Math.max.name, Cond.static Lib.Math.max.name, Cond.code Lib.Math.max.name Lib.Math.max.code 2 (some .int), Cond.methodLink RX2 152 yX1_groupOf, Cond.methodLink RX2 155 yX1_isHidden, Cond.methodLink RX2 120 yX2_measureSplit, Cond.instanceMethod yX2_measureSplit, Cond.selects RX2 yX2_measureSplit yX2_measureSplit, Cond.code yX2_measureSplit cX2_measureSplit 9 none, Cond.methodLink RX2 160 yX2_listParts, Cond.instanceMethod yX2_listParts, Cond.selects RX2 yX2_listParts yX2_listParts, Cond.code yX2_listParts cX2_listParts 7 (some .int), Cond.methodLink RX2 50 yX2_isShown, Cond.instanceMethod yX2_isShown]
def wsL_law0_r17 : List Cond := [Cond.selects RX2 yX2_isShown yX2_isShown, Cond.code yX2_isShown cX2_isShown 2 (some .boolean), Cond.methodLink RX2 139 yX2_arrange, Cond.instanceMethod yX2_arrange, Cond.selects RX2 yX2_arrange yX2_arrange, Cond.code yX2_arrange cX2_arrange 9 none, Cond.methodLink RX2 164 yX3_begin, Cond.instanceMethod yX3_begin, Cond.selects RX3 yX3_begin yX3_begin, Cond.code yX3_begin cX3_begin 1 none, Cond.fieldLink RX3 27 "DockLayout$Sharing" "count" "I", Cond.methodLink RX2 79 yX2_minimumOf, Cond.instanceMethod yX2_minimumOf, Cond.selects RX2 yX2_minimumOf yX2_minimumOf, Cond.code yX2_minimumOf cX2_minimumOf 3 (some .int), Cond.methodLink RX2 167 yX1_weightOf, Cond.instanceMethod yX1_weightOf, Cond.selects RX1 yX1_weightOf yX1_weightOf, Cond.code yX1_weightOf cX1_weightOf 2 (some .int), Cond.methodLink RX2 170 yX3_add, Cond.instanceMethod yX3_add, Cond.selects RX3 yX3_add yX3_add, Cond.code yX3_add cX3_add 3 none, Cond.methodLink RX2 76 yX2_extentOf]
def wsL_law0_r18 : List Cond := [Cond.instanceMethod yX2_extentOf, Cond.selects RX2 yX2_extentOf yX2_extentOf, Cond.code yX2_extentOf cX2_extentOf 3 (some .int), Cond.methodLink RX2 174 yX3_shareOut, Cond.instanceMethod yX3_shareOut, Cond.selects RX3 yX3_shareOut yX3_shareOut, Cond.code yX3_shareOut cX3_shareOut 4 none, Cond.methodLink RX3 39 yX3_giveMinimums, Cond.instanceMethod yX3_giveMinimums, Cond.selects RX3 yX3_giveMinimums yX3_giveMinimums, Cond.code yX3_giveMinimums cX3_giveMinimums 5 none, Cond.methodLink RX3 46 Lib.Math.min.name, Cond.methodLink RX3 43 yX3_giveShares, Cond.instanceMethod yX3_giveShares, Cond.selects RX3 yX3_giveShares yX3_giveShares, Cond.code yX3_giveShares cX3_giveShares 3 none, Cond.methodLink RX3 52 yJ7_fill_53178, Cond.methodLink RX3 58 yX3_closeSmallShares, Cond.instanceMethod yX3_closeSmallShares, Cond.selects RX3 yX3_closeSmallShares yX3_closeSmallShares, Cond.code yX3_closeSmallShares cX3_closeSmallShares 10 (some .boolean), Cond.methodLink RX3 62 yX3_giveRest, Cond.instanceMethod yX3_giveRest, Cond.selects RX3 yX3_giveRest yX3_giveRest]
def wsL_law0_r19 : List Cond := [Cond.code yX3_giveRest cX3_giveRest 6 none, Cond.methodLink RX2 177 yX3_sizeOf, Cond.instanceMethod yX3_sizeOf, Cond.selects RX3 yX3_sizeOf yX3_sizeOf, Cond.code yX3_sizeOf cX3_sizeOf 2 (some .int), Cond.methodLink RX8 106 yJ6_bitCount_0f7a4, Cond.static yJ6_bitCount_0f7a4, Cond.initialized RJ6, Cond.code yJ6_bitCount_0f7a4 cJ6_bitCount_0f7a4 1 (some .int), Cond.constant RJ6 265 (1431655765), Cond.constant RJ6 266 (858993459), Cond.constant RJ6 267 (252645135), Cond.methodLink RL 109 yX9_remove, Cond.instanceMethod yX9_remove, Cond.selects RX9 yX9_remove yX9_remove, Cond.code yX9_remove cX9_remove 2 (some .int), Cond.methodLink RX9 144 yX9_isPane, Cond.instanceMethod yX9_isPane, Cond.selects RX9 yX9_isPane yX9_isPane, Cond.code yX9_isPane cX9_isPane 2 (some .boolean), Cond.methodLink RX9 147 yX9_takes, Cond.instanceMethod yX9_takes, Cond.selects RX9 yX9_takes yX9_takes, Cond.code yX9_takes cX9_takes 2 none]
def wsL_law0_r20 : List Cond := [Cond.methodLink RX9 69 yX9_isPlaced, Cond.instanceMethod yX9_isPlaced, Cond.selects RX9 yX9_isPlaced yX9_isPlaced, Cond.code yX9_isPlaced cX9_isPlaced 2 (some .boolean), Cond.methodLink RX9 135 yX9_goesAway, Cond.instanceMethod yX9_goesAway, Cond.selects RX9 yX9_goesAway yX9_goesAway, Cond.code yX9_goesAway cX9_goesAway 5 none, Cond.methodLink RX9 122 yX9_yields, Cond.instanceMethod yX9_yields, Cond.selects RX9 yX9_yields yX9_yields, Cond.code yX9_yields cX9_yields 8 none, Cond.methodLink RX9 76 yX9_its, Cond.instanceMethod yX9_its, Cond.selects RX9 yX9_its yX9_its, Cond.code yX9_its cX9_its 3 (some .int), Cond.methodLink RX9 107 yX9_tabMany, Cond.instanceMethod yX9_tabMany, Cond.selects RX9 yX9_tabMany yX9_tabMany, Cond.code yX9_tabMany cX9_tabMany 4 (some .int), Cond.methodLink RX9 110 yX9_tabAt, Cond.instanceMethod yX9_tabAt, Cond.selects RX9 yX9_tabAt yX9_tabAt, Cond.code yX9_tabAt cX9_tabAt 4 (some .int)]
def wsL_law0_r21 : List Cond := [Cond.methodLink RX9 79 yX9_lay, Cond.instanceMethod yX9_lay, Cond.selects RX9 yX9_lay yX9_lay, Cond.code yX9_lay cX9_lay 4 none, Cond.methodLink RX9 129 yX9_leaves, Cond.instanceMethod yX9_leaves, Cond.selects RX9 yX9_leaves yX9_leaves, Cond.code yX9_leaves cX9_leaves 5 none, Cond.methodLink RX9 83 yX9_isChild, Cond.instanceMethod yX9_isChild, Cond.selects RX9 yX9_isChild yX9_isChild, Cond.code yX9_isChild cX9_isChild 3 (some .boolean), Cond.methodLink RX9 132 yX9_collapses, Cond.instanceMethod yX9_collapses, Cond.selects RX9 yX9_collapses yX9_collapses, Cond.code yX9_collapses cX9_collapses 3 none, Cond.methodLink RX9 113 yX9_childMany, Cond.instanceMethod yX9_childMany, Cond.selects RX9 yX9_childMany yX9_childMany, Cond.code yX9_childMany cX9_childMany 4 (some .int), Cond.methodLink RX9 116 yX9_child, Cond.instanceMethod yX9_child, Cond.selects RX9 yX9_child yX9_child, Cond.code yX9_child cX9_child 4 (some .int)]
def wsL_law0_r22 : List Cond := [Cond.methodLink RX9 119 yX9_replaces, Cond.instanceMethod yX9_replaces, Cond.selects RX9 yX9_replaces yX9_replaces, Cond.code yX9_replaces cX9_replaces 3 none, Cond.methodLink RX9 91 yX9_windowOf, Cond.instanceMethod yX9_windowOf, Cond.selects RX9 yX9_windowOf yX9_windowOf, Cond.code yX9_windowOf cX9_windowOf 4 (some .int), Cond.methodLink RX9 87 yX9_rootOf, Cond.instanceMethod yX9_rootOf, Cond.selects RX9 yX9_rootOf yX9_rootOf, Cond.code yX9_rootOf cX9_rootOf 3 (some .int), Cond.methodLink RX9 72 yX9_window, Cond.instanceMethod yX9_window, Cond.selects RX9 yX9_window yX9_window, Cond.code yX9_window cX9_window 4 (some .int), Cond.methodLink RX9 94 yX9_puts, Cond.instanceMethod yX9_puts, Cond.selects RX9 yX9_puts yX9_puts, Cond.code yX9_puts cX9_puts 4 none, Cond.methodLink RX9 100 yX9_dropsFrom, Cond.instanceMethod yX9_dropsFrom, Cond.selects RX9 yX9_dropsFrom yX9_dropsFrom, Cond.code yX9_dropsFrom cX9_dropsFrom 5 none]
def wsL_law0_r23 : List Cond := [Cond.methodLink RX9 97 yX9_placeIn, Cond.instanceMethod yX9_placeIn, Cond.selects RX9 yX9_placeIn yX9_placeIn, Cond.code yX9_placeIn cX9_placeIn 4 (some .int), Cond.methodLink RX9 150 yX9_leavesFocus, Cond.instanceMethod yX9_leavesFocus, Cond.selects RX9 yX9_leavesFocus yX9_leavesFocus, Cond.code yX9_leavesFocus cX9_leavesFocus 2 none, Cond.methodLink RX9 153 yX9_paneSet, Cond.instanceMethod yX9_paneSet, Cond.selects RX9 yX9_paneSet yX9_paneSet, Cond.code yX9_paneSet cX9_paneSet 3 (some .int), Cond.methodLink RX9 157 yX9_size, Cond.static yX9_size, Cond.code yX9_size cX9_size 3 (some .int), Cond.methodLink RL 110 yL_setMinimum, Cond.static yL_setMinimum, Cond.codeWith yL_setMinimum cL_setMinimum 6 (some .int) [(0, 12, 15, 21), (0, 12, 19, 13)], Cond.methodLink RL 23 yX8_setMinimum, Cond.instanceMethod yX8_setMinimum, Cond.selects RX8 yX8_setMinimum yX8_setMinimum, Cond.code yX8_setMinimum cX8_setMinimum 5 (some .int), Cond.methodLink RX8 116 yX8_at, Cond.methodLink RL 113 yX9_setMinimum]
def wsL_law0_r24 : List Cond := [Cond.instanceMethod yX9_setMinimum, Cond.selects RX9 yX9_setMinimum yX9_setMinimum, Cond.code yX9_setMinimum cX9_setMinimum 5 (some .int), Cond.methodLink RL 114 yX8_panes, Cond.instanceMethod yX8_panes, Cond.selects RX8 yX8_panes yX8_panes, Cond.code yX8_panes cX8_panes 1 (some .int), Cond.methodLink RL 117 yX9_panes, Cond.instanceMethod yX9_panes, Cond.selects RX9 yX9_panes yX9_panes, Cond.code yX9_panes cX9_panes 1 (some .int), Cond.methodLink RL 118 yL_pane, Cond.static yL_pane, Cond.codeWith yL_pane cL_pane 5 (some .int) [(0, 10, 13, 21), (0, 10, 17, 13)], Cond.methodLink RL 27 yX8_pane, Cond.instanceMethod yX8_pane, Cond.selects RX8 yX8_pane yX8_pane, Cond.code yX8_pane cX8_pane 5 (some .int), Cond.methodLink RX8 126 yX1_groupOf, Cond.methodLink RX8 129 yX1_windowOf, Cond.methodLink RX8 132 yX1_isHidden, Cond.methodLink RX8 136 yX1_activeOf, Cond.instanceMethod yX1_activeOf, Cond.selects RX1 yX1_activeOf yX1_activeOf]
def wsL_law0_r25 : List Cond := [Cond.code yX1_activeOf cX1_activeOf 2 (some .int), Cond.methodLink RX8 139 yX1_spotOf, Cond.methodLink RX8 142 yX1_tabCount, Cond.methodLink RX8 145 yX1_parentOf, Cond.instanceMethod yX1_parentOf, Cond.selects RX1 yX1_parentOf yX1_parentOf, Cond.code yX1_parentOf cX1_parentOf 2 (some .int), Cond.methodLink RX8 148 yX1_weightOf, Cond.methodLink RX8 151 yX1_kindOf, Cond.methodLink RL 120 yX9_pane, Cond.instanceMethod yX9_pane, Cond.selects RX9 yX9_pane yX9_pane, Cond.code yX9_pane cX9_pane 3 (some .int), Cond.methodLink RX9 160 yX9_told, Cond.instanceMethod yX9_told, Cond.selects RX9 yX9_told yX9_told, Cond.code yX9_told cX9_told 6 (some .int), Cond.methodLink RL 121 yL_rectangle, Cond.static yL_rectangle, Cond.codeWith yL_rectangle cL_rectangle 5 (some .int) [(0, 10, 13, 21), (0, 10, 17, 13)], Cond.methodLink RL 30 yX8_rectangle, Cond.instanceMethod yX8_rectangle, Cond.selects RX8 yX8_rectangle yX8_rectangle, Cond.code yX8_rectangle cX8_rectangle 4 (some .int)]
def wsL_law0_r26 : List Cond := [Cond.methodLink RX8 154 yX2_isShown, Cond.methodLink RX8 157 yX2_leftOf, Cond.instanceMethod yX2_leftOf, Cond.selects RX2 yX2_leftOf yX2_leftOf, Cond.code yX2_leftOf cX2_leftOf 2 (some .int), Cond.methodLink RX8 160 yX2_topOf, Cond.instanceMethod yX2_topOf, Cond.selects RX2 yX2_topOf yX2_topOf, Cond.code yX2_topOf cX2_topOf 2 (some .int), Cond.methodLink RX8 163 yX2_columnsOf, Cond.instanceMethod yX2_columnsOf, Cond.selects RX2 yX2_columnsOf yX2_columnsOf, Cond.code yX2_columnsOf cX2_columnsOf 2 (some .int), Cond.methodLink RX8 166 yX2_rowsOf, Cond.instanceMethod yX2_rowsOf, Cond.selects RX2 yX2_rowsOf yX2_rowsOf, Cond.code yX2_rowsOf cX2_rowsOf 2 (some .int), Cond.methodLink RL 123 yX9_rectangle, Cond.instanceMethod yX9_rectangle, Cond.selects RX9 yX9_rectangle yX9_rectangle, Cond.code yX9_rectangle cX9_rectangle 3 (some .int), Cond.methodLink RX9 193 yX9_lays, Cond.instanceMethod yX9_lays, Cond.selects RX9 yX9_lays yX9_lays]
def wsL_law0_r27 : List Cond := [Cond.code yX9_lays cX9_lays 4 none, Cond.methodLink RX9 181 yX9_laysDepths, Cond.instanceMethod yX9_laysDepths, Cond.selects RX9 yX9_laysDepths yX9_laysDepths, Cond.code yX9_laysDepths cX9_laysDepths 3 none, Cond.methodLink RX9 184 yX9_laysLeast, Cond.instanceMethod yX9_laysLeast, Cond.selects RX9 yX9_laysLeast yX9_laysLeast, Cond.code yX9_laysLeast cX9_laysLeast 8 none, Cond.methodLink RX9 187 yX9_isWindow, Cond.instanceMethod yX9_isWindow, Cond.selects RX9 yX9_isWindow yX9_isWindow, Cond.code yX9_isWindow cX9_isWindow 2 (some .boolean), Cond.methodLink RX9 190 yX9_laysChildren, Cond.instanceMethod yX9_laysChildren, Cond.selects RX9 yX9_laysChildren yX9_laysChildren, Cond.code yX9_laysChildren cX9_laysChildren 6 none, Cond.fieldLink RX9 173 "DockLayoutModel" "laid" "I", Cond.methodLink RX9 178 yX9_laysShares, Cond.instanceMethod yX9_laysShares, Cond.selects RX9 yX9_laysShares yX9_laysShares, Cond.code yX9_laysShares cX9_laysShares 10 none, Cond.methodLink RX9 163 yX9_tightens, Cond.instanceMethod yX9_tightens]
def wsL_law0_r28 : List Cond := [Cond.selects RX9 yX9_tightens yX9_tightens, Cond.code yX9_tightens cX9_tightens 9 (some .boolean), Cond.methodLink RX9 166 yX9_closed, Cond.instanceMethod yX9_closed, Cond.selects RX9 yX9_closed yX9_closed, Cond.code yX9_closed cX9_closed 4 (some .int), Cond.methodLink RX9 169 yX9_evens, Cond.instanceMethod yX9_evens, Cond.selects RX9 yX9_evens yX9_evens, Cond.code yX9_evens cX9_evens 14 none, Cond.constantLong RX9 176 (-1), Cond.methodLink RX9 196 yX9_cornerOf, Cond.instanceMethod yX9_cornerOf, Cond.selects RX9 yX9_cornerOf yX9_cornerOf, Cond.code yX9_cornerOf cX9_cornerOf 3 (some .int), Cond.methodLink RL 124 yL_tab, Cond.static yL_tab, Cond.codeWith yL_tab cL_tab 5 (some .int) [(0, 10, 13, 21)], Cond.methodLink RL 33 yX8_tab, Cond.instanceMethod yX8_tab, Cond.selects RX8 yX8_tab yX8_tab, Cond.code yX8_tab cX8_tab 3 (some .int), Cond.methodLink RX8 169 yX1_tabAt, Cond.methodLink RL 126 yX9_tab]
def wsL_law0_r29 : List Cond := [Cond.instanceMethod yX9_tab, Cond.selects RX9 yX9_tab yX9_tab, Cond.code yX9_tab cX9_tab 3 (some .int), Cond.methodLink RL 127 yL_resize, Cond.static yL_resize, Cond.codeWith yL_resize cL_resize 6 (some .int) [(0, 12, 15, 21), (0, 12, 19, 13)], Cond.methodLink RL 36 yX8_resize, Cond.instanceMethod yX8_resize, Cond.selects RX8 yX8_resize yX8_resize, Cond.code yX8_resize cX8_resize 4 (some .int), Cond.methodLink RX8 173 yX8_requireWindow, Cond.instanceMethod yX8_requireWindow, Cond.selects RX8 yX8_requireWindow yX8_requireWindow, Cond.code yX8_requireWindow cX8_requireWindow 2 none, Cond.methodLink RX8 381 yX1_windowExists, Cond.instanceMethod yX1_windowExists, Cond.selects RX1 yX1_windowExists yX1_windowExists, Cond.code yX1_windowExists cX1_windowExists 2 (some .boolean), Cond.methodLink RX1 80 yX1_rootOf, Cond.methodLink RX8 176 yX1_setSize, Cond.instanceMethod yX1_setSize, Cond.selects RX1 yX1_setSize yX1_setSize, Cond.code yX1_setSize cX1_setSize 4 none, Cond.methodLink RX8 179 yX1_panesIn]
def wsL_law0_r30 : List Cond := [Cond.instanceMethod yX1_panesIn, Cond.selects RX1 yX1_panesIn yX1_panesIn, Cond.code yX1_panesIn cX1_panesIn 4 (some .int), Cond.methodLink RL 129 yX9_resize, Cond.instanceMethod yX9_resize, Cond.selects RX9 yX9_resize yX9_resize, Cond.code yX9_resize cX9_resize 4 (some .int), Cond.methodLink RX9 199 yX9_placedIn, Cond.instanceMethod yX9_placedIn, Cond.selects RX9 yX9_placedIn yX9_placedIn, Cond.code yX9_placedIn cX9_placedIn 4 (some .int), Cond.methodLink RL 130 yL_move, Cond.static yL_move, Cond.codeWith yL_move cL_move 6 (some .int) [(0, 12, 15, 21), (0, 12, 19, 13), (0, 12, 23, 15)], Cond.methodLink RL 39 yX8_move, Cond.instanceMethod yX8_move, Cond.selects RX8 yX8_move yX8_move, Cond.code yX8_move cX8_move 5 (some .int), Cond.methodLink RX8 182 yX8_requireFloating, Cond.static yX8_requireFloating, Cond.code yX8_requireFloating cX8_requireFloating 1 none, Cond.methodLink RX8 188 yX1_setCorner, Cond.instanceMethod yX1_setCorner, Cond.selects RX1 yX1_setCorner yX1_setCorner]
def wsL_law0_r31 : List Cond := [Cond.code yX1_setCorner cX1_setCorner 4 none, Cond.methodLink RL 132 yX9_move, Cond.instanceMethod yX9_move, Cond.selects RX9 yX9_move yX9_move, Cond.code yX9_move cX9_move 5 (some .int), Cond.methodLink RL 133 yL_raise, Cond.static yL_raise, Cond.codeWith yL_raise cL_raise 4 (some .int) [(0, 9, 12, 21), (0, 9, 15, 15)], Cond.methodLink RL 42 yX8_raise, Cond.instanceMethod yX8_raise, Cond.selects RX8 yX8_raise yX8_raise, Cond.code yX8_raise cX8_raise 3 (some .int), Cond.methodLink RX8 194 yX0_indexOf, Cond.methodLink RX8 197 yX0_putLast, Cond.instanceMethod yX0_putLast, Cond.selects RX0 yX0_putLast yX0_putLast, Cond.code yX0_putLast cX0_putLast 2 none, Cond.methodLink RX0 35 yX0_leave, Cond.methodLink RL 135 yX9_raise, Cond.instanceMethod yX9_raise, Cond.selects RX9 yX9_raise yX9_raise, Cond.code yX9_raise cX9_raise 3 (some .int), Cond.methodLink RX9 104 yX9_comesLast, Cond.instanceMethod yX9_comesLast]
def wsL_law0_r32 : List Cond := [Cond.selects RX9 yX9_comesLast yX9_comesLast, Cond.code yX9_comesLast cX9_comesLast 3 none, Cond.methodLink RL 136 yL_window, Cond.static yL_window, Cond.codeWith yL_window cL_window 5 (some .int) [(0, 10, 13, 21), (0, 10, 17, 13)], Cond.methodLink RL 45 yX8_window, Cond.instanceMethod yX8_window, Cond.selects RX8 yX8_window yX8_window, Cond.code yX8_window cX8_window 5 (some .int), Cond.methodLink RX8 200 yX1_rootOf, Cond.methodLink RX8 212 yX2_minimumOf, Cond.methodLink RL 138 yX9_window_, Cond.instanceMethod yX9_window_, Cond.selects RX9 yX9_window_ yX9_window_, Cond.code yX9_window_ cX9_window_ 3 (some .int), Cond.methodLink RX9 202 yX9_windowTold, Cond.instanceMethod yX9_windowTold, Cond.selects RX9 yX9_windowTold yX9_windowTold, Cond.code yX9_windowTold cX9_windowTold 4 (some .int), Cond.methodLink RL 139 yX8_floating, Cond.instanceMethod yX8_floating, Cond.selects RX8 yX8_floating yX8_floating, Cond.code yX8_floating cX8_floating 2 (some .int), Cond.methodLink RX8 215 yX0_item]
def wsL_law0_r33 : List Cond := [Cond.instanceMethod yX0_item, Cond.selects RX0 yX0_item yX0_item, Cond.code yX0_item cX0_item 2 (some .int), Cond.methodLink RL 142 yX9_floating, Cond.instanceMethod yX9_floating, Cond.selects RX9 yX9_floating yX9_floating, Cond.code yX9_floating cX9_floating 2 (some .int), Cond.methodLink RL 143 yL_dock, Cond.static yL_dock, Cond.codeWith yL_dock cL_dock 6 (some .int) [(0, 12, 15, 21), (0, 12, 19, 13), (0, 12, 23, 15)], Cond.methodLink RL 48 yX8_dock, Cond.instanceMethod yX8_dock, Cond.selects RX8 yX8_dock yX8_dock, Cond.code yX8_dock cX8_dock 6 (some .int), Cond.methodLink RX8 223 yX8_requirePlaced, Cond.instanceMethod yX8_requirePlaced, Cond.selects RX8 yX8_requirePlaced yX8_requirePlaced, Cond.code yX8_requirePlaced cX8_requirePlaced 2 none, Cond.methodLink RX8 226 yX1_makeGroupBeside, Cond.instanceMethod yX1_makeGroupBeside, Cond.selects RX1 yX1_makeGroupBeside yX1_makeGroupBeside, Cond.code yX1_makeGroupBeside cX1_makeGroupBeside 8 (some .int), Cond.methodLink RX1 108 Lib.Math.max.name, Cond.static yX8_directionOf]
def wsL_law0_r34 : List Cond := [Cond.code yX8_directionOf cX8_directionOf 1 (some .int), Cond.methodLink RX1 94 yX1_makeNode, Cond.instanceMethod yX1_makeNode, Cond.selects RX1 yX1_makeNode yX1_makeNode, Cond.code yX1_makeNode cX1_makeNode 3 (some .int), Cond.methodLink RX1 114 yX1_attach, Cond.instanceMethod yX1_attach, Cond.selects RX1 yX1_attach yX1_attach, Cond.code yX1_attach cX1_attach 5 none, Cond.methodLink RX8 229 yX1_joinGroup, Cond.instanceMethod yX1_joinGroup, Cond.selects RX1 yX1_joinGroup yX1_joinGroup, Cond.code yX1_joinGroup cX1_joinGroup 3 none, Cond.methodLink RX8 232 yX0_putFirst, Cond.instanceMethod yX0_putFirst, Cond.selects RX0 yX0_putFirst yX0_putFirst, Cond.code yX0_putFirst cX0_putFirst 3 none, Cond.methodLink RX0 31 yX0_putLast, Cond.methodLink RL 145 yX9_dock, Cond.instanceMethod yX9_dock, Cond.selects RX9 yX9_dock yX9_dock, Cond.code yX9_dock cX9_dock 7 (some .int), Cond.methodLink RX9 205 yX9_beside, Cond.instanceMethod yX9_beside]
def wsL_law0_r35 : List Cond := [Cond.selects RX9 yX9_beside yX9_beside, Cond.code yX9_beside cX9_beside 9 (some .int), Cond.methodLink RX9 211 yX9_newNode, Cond.instanceMethod yX9_newNode, Cond.selects RX9 yX9_newNode yX9_newNode, Cond.code yX9_newNode cX9_newNode 3 (some .int), Cond.methodLink RX9 214 yX9_enters, Cond.instanceMethod yX9_enters, Cond.selects RX9 yX9_enters yX9_enters, Cond.code yX9_enters cX9_enters 5 none, Cond.methodLink RX9 208 yX9_settles, Cond.instanceMethod yX9_settles, Cond.selects RX9 yX9_settles yX9_settles, Cond.code yX9_settles cX9_settles 3 none, Cond.methodLink RX9 138 yX9_comesFirst, Cond.instanceMethod yX9_comesFirst, Cond.selects RX9 yX9_comesFirst yX9_comesFirst, Cond.code yX9_comesFirst cX9_comesFirst 4 none, Cond.methodLink RL 146 yL_start, Cond.static yL_start, Cond.codeWith yL_start cL_start 4 (some .int) [(0, 9, 12, 21), (0, 9, 15, 15)], Cond.methodLink RL 51 yX8_start, Cond.instanceMethod yX8_start, Cond.selects RX8 yX8_start yX8_start]
def wsL_law0_r36 : List Cond := [Cond.code yX8_start cX8_start 4 (some .int), Cond.methodLink RX8 237 yX1_makeRootGroup, Cond.instanceMethod yX1_makeRootGroup, Cond.selects RX1 yX1_makeRootGroup yX1_makeRootGroup, Cond.code yX1_makeRootGroup cX1_makeRootGroup 3 (some .int), Cond.methodLink RX1 97 yX1_setRoot, Cond.instanceMethod yX1_setRoot, Cond.selects RX1 yX1_setRoot yX1_setRoot, Cond.code yX1_setRoot cX1_setRoot 3 none, Cond.methodLink RL 148 yX9_start, Cond.instanceMethod yX9_start, Cond.selects RX9 yX9_start yX9_start, Cond.code yX9_start cX9_start 4 (some .int), Cond.methodLink RX9 217 yX9_roots, Cond.instanceMethod yX9_roots, Cond.selects RX9 yX9_roots yX9_roots, Cond.code yX9_roots cX9_roots 4 none, Cond.methodLink RL 149 yL_floatAt, Cond.static yL_floatAt, Cond.codeWith yL_floatAt cL_floatAt 8 (some .int) [(0, 16, 19, 21), (0, 16, 23, 13), (0, 16, 27, 15)], Cond.methodLink RL 54 yX8_floatAt, Cond.instanceMethod yX8_floatAt, Cond.selects RX8 yX8_floatAt yX8_floatAt, Cond.code yX8_floatAt cX8_floatAt 8 (some .int)]
def wsL_law0_r37 : List Cond := [Cond.methodLink RX8 240 yX0_size, Cond.instanceMethod yX0_size, Cond.selects RX0 yX0_size yX0_size, Cond.code yX0_size cX0_size 1 (some .int), Cond.methodLink RX8 245 yX1_lowestFreeWindow, Cond.instanceMethod yX1_lowestFreeWindow, Cond.selects RX1 yX1_lowestFreeWindow yX1_lowestFreeWindow, Cond.code yX1_lowestFreeWindow cX1_lowestFreeWindow 2 (some .int), Cond.methodLink RL 152 yX9_floatAt, Cond.instanceMethod yX9_floatAt, Cond.selects RX9 yX9_floatAt yX9_floatAt, Cond.code yX9_floatAt cX9_floatAt 8 (some .int), Cond.methodLink RL 153 yL_takeAway, Cond.static yL_takeAway, Cond.codeWith yL_takeAway cL_takeAway 4 (some .int) [(0, 9, 12, 21), (0, 9, 15, 15)], Cond.methodLink RL 58 yX8_takeAway, Cond.instanceMethod yX8_takeAway, Cond.selects RX8 yX8_takeAway yX8_takeAway, Cond.code yX8_takeAway cX8_takeAway 2 (some .int), Cond.methodLink RL 155 yX9_takeAway, Cond.instanceMethod yX9_takeAway, Cond.selects RX9 yX9_takeAway yX9_takeAway, Cond.code yX9_takeAway cX9_takeAway 3 (some .int), Cond.methodLink RX9 220 yX9_placedMany]
def wsL_law0_r38 : List Cond := [Cond.instanceMethod yX9_placedMany, Cond.selects RX9 yX9_placedMany yX9_placedMany, Cond.code yX9_placedMany cX9_placedMany 3 (some .int), Cond.methodLink RL 156 yL_show, Cond.static yL_show, Cond.codeWith yL_show cL_show 5 (some .int) [(0, 17, 20, 21), (0, 17, 24, 15)], Cond.methodLink RL 61 yX8_show, Cond.instanceMethod yX8_show, Cond.selects RX8 yX8_show yX8_show, Cond.code yX8_show cX8_show 4 (some .boolean), Cond.methodLink RX8 248 yX1_reveal, Cond.instanceMethod yX1_reveal, Cond.selects RX1 yX1_reveal yX1_reveal, Cond.code yX1_reveal cX1_reveal 3 none, Cond.methodLink RX8 251 yX1_hide, Cond.methodLink RL 159 yX9_show, Cond.instanceMethod yX9_show, Cond.selects RX9 yX9_show yX9_show, Cond.code yX9_show cX9_show 6 (some .boolean), Cond.methodLink RL 160 yL_activate, Cond.static yL_activate, Cond.codeWith yL_activate cL_activate 4 (some .int) [(0, 9, 12, 21), (0, 9, 15, 15)], Cond.methodLink RL 65 yX8_activate, Cond.instanceMethod yX8_activate]
def wsL_law0_r39 : List Cond := [Cond.selects RX8 yX8_activate yX8_activate, Cond.code yX8_activate cX8_activate 6 (some .int), Cond.methodLink RX8 256 yX1_setActive, Cond.instanceMethod yX1_setActive, Cond.selects RX1 yX1_setActive yX1_setActive, Cond.code yX1_setActive cX1_setActive 3 none, Cond.methodLink RL 162 yX9_activate, Cond.instanceMethod yX9_activate, Cond.selects RX9 yX9_activate yX9_activate, Cond.code yX9_activate cX9_activate 5 (some .int), Cond.methodLink RX9 223 yX9_isShown, Cond.instanceMethod yX9_isShown, Cond.selects RX9 yX9_isShown yX9_isShown, Cond.code yX9_isShown cX9_isShown 2 (some .boolean), Cond.methodLink RL 163 yL_moveTab, Cond.static yL_moveTab, Cond.codeWith yL_moveTab cL_moveTab 5 (some .int) [(0, 10, 13, 21), (0, 10, 17, 15), (0, 10, 21, 13)], Cond.methodLink RL 68 yX8_moveTab, Cond.instanceMethod yX8_moveTab, Cond.selects RX8 yX8_moveTab yX8_moveTab, Cond.code yX8_moveTab cX8_moveTab 4 (some .int), Cond.methodLink RX8 259 yX1_moveToSpot, Cond.methodLink RL 165 yX9_moveTab, Cond.instanceMethod yX9_moveTab]
def wsL_law0_r40 : List Cond := [Cond.selects RX9 yX9_moveTab yX9_moveTab, Cond.code yX9_moveTab cX9_moveTab 8 (some .int), Cond.methodLink RL 166 yL_drag, Cond.static yL_drag, Cond.codeWith yL_drag cL_drag 6 (some .int) [(0, 12, 15, 21), (0, 12, 19, 13), (0, 12, 23, 15)], Cond.methodLink RL 71 yX8_drag, Cond.instanceMethod yX8_drag, Cond.selects RX8 yX8_drag yX8_drag, Cond.code yX8_drag cX8_drag 11 (some .int), Cond.methodLink RX8 262 yX8_nodeAtDivider, Cond.instanceMethod yX8_nodeAtDivider, Cond.selects RX8 yX8_nodeAtDivider yX8_nodeAtDivider, Cond.code yX8_nodeAtDivider cX8_nodeAtDivider 5 (some .int), Cond.methodLink RX8 267 yX8_shownNeighbour, Cond.instanceMethod yX8_shownNeighbour, Cond.selects RX8 yX8_shownNeighbour yX8_shownNeighbour, Cond.code yX8_shownNeighbour cX8_shownNeighbour 9 (some .int), Cond.methodLink RX8 270 yX8_directionOf, Cond.methodLink RX8 421 yX1_placeOf, Cond.instanceMethod yX1_placeOf, Cond.selects RX1 yX1_placeOf yX1_placeOf, Cond.code yX1_placeOf cX1_placeOf 2 (some .int), Cond.methodLink RX8 285 yX1_childAt, Cond.methodLink RX8 273 yX2_dividerStep]
def wsL_law0_r41 : List Cond := [Cond.instanceMethod yX2_dividerStep, Cond.selects RX2 yX2_dividerStep yX2_dividerStep, Cond.code yX2_dividerStep cX2_dividerStep 7 (some .int), Cond.methodLink RX2 67 Lib.Math.min.name, Cond.methodLink RX8 277 yX8_weighBySizes, Cond.instanceMethod yX8_weighBySizes, Cond.selects RX8 yX8_weighBySizes yX8_weighBySizes, Cond.code yX8_weighBySizes cX8_weighBySizes 16 none, Cond.methodLink RX8 427 Lib.Math.max.name, Cond.constantLong RX8 430 (1000000), Cond.methodLink RX8 432 Lib.MathLoose.min_long.x, Cond.static Lib.MathLoose.min_long.x, Cond.code Lib.MathLoose.min_long.x Lib.MathLoose.min_long.code 4 (some .long), Cond.methodLink RX8 436 Lib.MathLoose.max_long.x, Cond.static Lib.MathLoose.max_long.x, Cond.code Lib.MathLoose.max_long.x Lib.MathLoose.max_long.code 4 (some .long), Cond.methodLink RX8 282 yX1_childCount, Cond.methodLink RX8 424 yX2_extentOf, Cond.methodLink RX8 288 yX1_setWeight, Cond.instanceMethod yX1_setWeight, Cond.selects RX1 yX1_setWeight yX1_setWeight, Cond.code yX1_setWeight cX1_setWeight 3 none, Cond.methodLink RL 168 yX9_drag, Cond.instanceMethod yX9_drag]
def wsL_law0_r42 : List Cond := [Cond.selects RX9 yX9_drag yX9_drag, Cond.code yX9_drag cX9_drag 11 (some .int), Cond.fieldLink RX9 226 "DockLayoutModel" "ahead" "I", Cond.fieldLink RX9 229 "DockLayoutModel" "behind" "I", Cond.methodLink RX9 232 yX9_hasDivider, Cond.instanceMethod yX9_hasDivider, Cond.selects RX9 yX9_hasDivider yX9_hasDivider, Cond.code yX9_hasDivider cX9_hasDivider 8 (some .boolean), Cond.methodLink RX9 235 yX9_weighs, Cond.instanceMethod yX9_weighs, Cond.selects RX9 yX9_weighs yX9_weighs, Cond.code yX9_weighs cX9_weighs 10 none, Cond.constantLong RX9 238 (1000000), Cond.constant RX9 240 (1000000), Cond.methodLink RL 169 yL_even, Cond.static yL_even, Cond.codeWith yL_even cL_even 4 (some .int) [(0, 9, 12, 21), (0, 9, 15, 15)], Cond.methodLink RL 74 yX8_even, Cond.instanceMethod yX8_even, Cond.selects RX8 yX8_even yX8_even, Cond.code yX8_even cX8_even 6 (some .int), Cond.methodLink RL 171 yX9_even, Cond.instanceMethod yX9_even, Cond.selects RX9 yX9_even yX9_even]
def wsL_law0_r43 : List Cond := [Cond.code yX9_even cX9_even 6 (some .int), Cond.methodLink RL 172 yX8_focus, Cond.instanceMethod yX8_focus, Cond.selects RX8 yX8_focus yX8_focus, Cond.code yX8_focus cX8_focus 2 (some .int), Cond.methodLink RL 175 yX9_focus, Cond.instanceMethod yX9_focus, Cond.selects RX9 yX9_focus yX9_focus, Cond.code yX9_focus cX9_focus 2 (some .int), Cond.methodLink RL 176 yX8_kindAt, Cond.instanceMethod yX8_kindAt, Cond.selects RX8 yX8_kindAt yX8_kindAt, Cond.code yX8_kindAt cX8_kindAt 5 (some .int), Cond.methodLink RX8 291 yX8_frontWindowAt, Cond.instanceMethod yX8_frontWindowAt, Cond.selects RX8 yX8_frontWindowAt yX8_frontWindowAt, Cond.code yX8_frontWindowAt cX8_frontWindowAt 5 (some .int), Cond.methodLink RX8 438 yX1_windowContains, Cond.instanceMethod yX1_windowContains, Cond.selects RX1 yX1_windowContains yX1_windowContains, Cond.code yX1_windowContains cX1_windowContains 6 (some .boolean), Cond.methodLink RX8 294 yX8_groupAt, Cond.instanceMethod yX8_groupAt, Cond.selects RX8 yX8_groupAt yX8_groupAt]
def wsL_law0_r44 : List Cond := [Cond.code yX8_groupAt cX8_groupAt 7 (some .int), Cond.methodLink RX8 442 yX2_contains, Cond.instanceMethod yX2_contains, Cond.selects RX2 yX2_contains yX2_contains, Cond.code yX2_contains cX2_contains 4 (some .boolean), Cond.methodLink RX2 54 yX2_leftOf, Cond.methodLink RX2 58 yX2_columnsOf, Cond.methodLink RX2 61 yX2_topOf, Cond.methodLink RX2 64 yX2_rowsOf, Cond.methodLink RL 179 yX9_kindAt, Cond.instanceMethod yX9_kindAt, Cond.selects RX9 yX9_kindAt yX9_kindAt, Cond.code yX9_kindAt cX9_kindAt 6 (some .int), Cond.methodLink RX9 248 yX9_windowAt, Cond.instanceMethod yX9_windowAt, Cond.selects RX9 yX9_windowAt yX9_windowAt, Cond.code yX9_windowAt cX9_windowAt 4 (some .int), Cond.methodLink RX9 245 yX9_isIn, Cond.instanceMethod yX9_isIn, Cond.selects RX9 yX9_isIn yX9_isIn, Cond.code yX9_isIn cX9_isIn 4 (some .boolean), Cond.methodLink RX9 241 yX9_isInside, Cond.instanceMethod yX9_isInside, Cond.selects RX9 yX9_isInside yX9_isInside]
def wsL_law0_r45 : List Cond := [Cond.code yX9_isInside cX9_isInside 7 (some .boolean), Cond.methodLink RX9 251 yX9_groupAt, Cond.instanceMethod yX9_groupAt, Cond.selects RX9 yX9_groupAt yX9_groupAt, Cond.code yX9_groupAt cX9_groupAt 5 (some .int), Cond.methodLink RL 180 yX8_paneAt, Cond.instanceMethod yX8_paneAt, Cond.selects RX8 yX8_paneAt yX8_paneAt, Cond.code yX8_paneAt cX8_paneAt 4 (some .int), Cond.methodLink RX8 298 yX8_paneOfTab, Cond.instanceMethod yX8_paneOfTab, Cond.selects RX8 yX8_paneOfTab yX8_paneOfTab, Cond.code yX8_paneOfTab cX8_paneOfTab 7 (some .int), Cond.methodLink RX8 445 yX1_shownCount, Cond.instanceMethod yX1_shownCount, Cond.selects RX1 yX1_shownCount yX1_shownCount, Cond.code yX1_shownCount cX1_shownCount 4 (some .int), Cond.methodLink RX8 450 yX1_shownTabAt, Cond.instanceMethod yX1_shownTabAt, Cond.selects RX1 yX1_shownTabAt yX1_shownTabAt, Cond.code yX1_shownTabAt cX1_shownTabAt 6 (some .int), Cond.methodLink RL 183 yX9_paneAt, Cond.instanceMethod yX9_paneAt, Cond.selects RX9 yX9_paneAt yX9_paneAt]
def wsL_law0_r46 : List Cond := [Cond.code yX9_paneAt cX9_paneAt 8 (some .int), Cond.methodLink RL 184 yX8_dropAt, Cond.instanceMethod yX8_dropAt, Cond.selects RX8 yX8_dropAt yX8_dropAt, Cond.code yX8_dropAt cX8_dropAt 5 (some .int), Cond.methodLink RX8 301 yX2_sideAt, Cond.instanceMethod yX2_sideAt, Cond.selects RX2 yX2_sideAt yX2_sideAt, Cond.code yX2_sideAt cX2_sideAt 10 (some .int), Cond.methodLink RL 187 yX9_dropAt, Cond.instanceMethod yX9_dropAt, Cond.selects RX9 yX9_dropAt yX9_dropAt, Cond.code yX9_dropAt cX9_dropAt 12 (some .int), Cond.methodLink RL 188 yL_store, Cond.static yL_store, Cond.codeWith yL_store cL_store 4 (some .int) [(0, 9, 12, 21)], Cond.methodLink RL 77 yX8_store, Cond.instanceMethod yX8_store, Cond.selects RX8 yX8_store yX8_store, Cond.code yX8_store cX8_store 2 (some .int), Cond.methodLink RX8 304 yX8_requireSlot, Cond.static yX8_requireSlot, Cond.code yX8_requireSlot cX8_requireSlot 1 none, Cond.methodLink RX8 307 yX4_saveSlot]
def wsL_law0_r47 : List Cond := [Cond.instanceMethod yX4_saveSlot, Cond.selects RX4 yX4_saveSlot yX4_saveSlot, Cond.code yX4_saveSlot cX4_saveSlot 2 none, Cond.methodLink RL 190 yX9_store, Cond.instanceMethod yX9_store, Cond.selects RX9 yX9_store yX9_store, Cond.code yX9_store cX9_store 5 (some .int), Cond.methodLink RL 191 yL_restore, Cond.static yL_restore, Cond.codeWith yL_restore cL_restore 4 (some .int) [(0, 9, 12, 21), (0, 9, 15, 15)], Cond.methodLink RL 80 yX8_restore, Cond.instanceMethod yX8_restore, Cond.selects RX8 yX8_restore yX8_restore, Cond.code yX8_restore cX8_restore 2 (some .int), Cond.methodLink RX8 310 yX4_isSaved, Cond.instanceMethod yX4_isSaved, Cond.selects RX4 yX4_isSaved yX4_isSaved, Cond.code yX4_isSaved cX4_isSaved 2 (some .boolean), Cond.methodLink RX8 315 yX4_loadSlot, Cond.instanceMethod yX4_loadSlot, Cond.selects RX4 yX4_loadSlot yX4_loadSlot, Cond.code yX4_loadSlot cX4_loadSlot 5 none, Cond.methodLink RX4 65 yX1_setSize, Cond.methodLink RX4 69 yX1_withdraw]
def wsL_law0_r48 : List Cond := [Cond.methodLink RX4 73 yX4_settleFocus, Cond.instanceMethod yX4_settleFocus, Cond.selects RX4 yX4_settleFocus yX4_settleFocus, Cond.code yX4_settleFocus cX4_settleFocus 2 none, Cond.methodLink RX4 76 yX1_groupOf, Cond.methodLink RX4 80 yX0_leave, Cond.methodLink RX4 83 yX0_indexOf, Cond.methodLink RX4 86 yX0_putLast, Cond.methodLink RL 193 yX9_restore, Cond.instanceMethod yX9_restore, Cond.selects RX9 yX9_restore yX9_restore, Cond.code yX9_restore cX9_restore 7 (some .int), Cond.methodLink RX9 254 yX9_focuses, Cond.instanceMethod yX9_focuses, Cond.selects RX9 yX9_focuses yX9_focuses, Cond.code yX9_focuses cX9_focuses 2 none, Cond.methodLink RL 194 yL_type, Cond.static yL_type, Cond.codeWith yL_type cL_type 4 (some .int) [(0, 9, 12, 13), (0, 9, 15, 15)], Cond.methodLink RL 83 yX8_type, Cond.instanceMethod yX8_type, Cond.selects RX8 yX8_type yX8_type, Cond.code yX8_type cX8_type 2 (some .int), Cond.methodLink RX8 318 yX5_length]
def wsL_law0_r49 : List Cond := [Cond.instanceMethod yX5_length, Cond.selects RX5 yX5_length yX5_length, Cond.code yX5_length cX5_length 1 (some .int), Cond.fieldLink RX5 15 "DockLayout$Text" "length" "I", Cond.methodLink RX8 323 yX5_append, Cond.instanceMethod yX5_append, Cond.selects RX5 yX5_append yX5_append, Cond.code yX5_append cX5_append 2 none, Cond.methodLink RL 196 yX9_type, Cond.instanceMethod yX9_type, Cond.selects RX9 yX9_type yX9_type, Cond.code yX9_type cX9_type 2 (some .int), Cond.fieldLink RX9 257 "DockLayoutModel" "length" "I", Cond.methodLink RL 197 yX8_clearText, Cond.instanceMethod yX8_clearText, Cond.selects RX8 yX8_clearText yX8_clearText, Cond.code yX8_clearText cX8_clearText 2 (some .int), Cond.methodLink RX8 326 yX5_empty, Cond.instanceMethod yX5_empty, Cond.selects RX5 yX5_empty yX5_empty, Cond.code yX5_empty cX5_empty 1 none, Cond.methodLink RL 200 yX9_clearText, Cond.instanceMethod yX9_clearText, Cond.selects RX9 yX9_clearText yX9_clearText]
def wsL_law0_r50 : List Cond := [Cond.code yX9_clearText cX9_clearText 2 (some .int), Cond.methodLink RL 201 yX8_fault, Cond.instanceMethod yX8_fault, Cond.selects RX8 yX8_fault yX8_fault, Cond.code yX8_fault cX8_fault 1 (some .int), Cond.methodLink RX8 329 yX6_findFault, Cond.instanceMethod yX6_findFault, Cond.selects RX6 yX6_findFault yX6_findFault, Cond.code yX6_findFault cX6_findFault 4 (some .int), Cond.fieldLink RX6 39 "DockLayout$TreeReader" "allowed" "I", Cond.fieldLink RX6 51 "DockLayout$TreeReader" "position" "I", Cond.methodLink RX6 25 yX5_copyFrom, Cond.instanceMethod yX5_copyFrom, Cond.selects RX5 yX5_copyFrom yX5_copyFrom, Cond.code yX5_copyFrom cX5_copyFrom 2 none, Cond.methodLink RX6 32 yX1_copyFrom, Cond.methodLink RX6 35 yX1_emptyWindow, Cond.instanceMethod yX1_emptyWindow, Cond.selects RX1 yX1_emptyWindow yX1_emptyWindow, Cond.code yX1_emptyWindow cX1_emptyWindow 3 none, Cond.methodLink RX1 90 yX1_withdraw, Cond.methodLink RX6 43 yX4_exists, Cond.methodLink RX6 47 yX1_groupOf, Cond.methodLink RX6 54 yX6_passTree]
def wsL_law0_r51 : List Cond := [Cond.instanceMethod yX6_passTree, Cond.selects RX6 yX6_passTree yX6_passTree, Cond.code yX6_passTree cX6_passTree 6 (some .boolean), Cond.methodLink RX6 62 yX6_passSign, Cond.instanceMethod yX6_passSign, Cond.selects RX6 yX6_passSign yX6_passSign, Cond.code yX6_passSign cX6_passSign 2 (some .boolean), Cond.methodLink RX6 89 yX5_code, Cond.instanceMethod yX5_code, Cond.selects RX5 yX5_code yX5_code, Cond.code yX5_code cX5_code 2 (some .int), Cond.methodLink RX6 65 yX1_makeNode, Cond.methodLink RX6 68 yX1_setRoot, Cond.methodLink RX6 72 yX1_childCount, Cond.methodLink RX6 75 yX1_attach, Cond.methodLink RX6 79 yX6_passTabs, Cond.instanceMethod yX6_passTabs, Cond.selects RX6 yX6_passTabs yX6_passTabs, Cond.code yX6_passTabs cX6_passTabs 6 (some .boolean), Cond.methodLink RX6 93 yX1_joinGroup, Cond.methodLink RX6 96 yX1_hide, Cond.methodLink RX6 99 yX1_shownTabAt, Cond.methodLink RX6 103 yX1_setActive, Cond.methodLink RX6 82 yX6_passChildren]
def wsL_law0_r52 : List Cond := [Cond.instanceMethod yX6_passChildren, Cond.selects RX6 yX6_passChildren yX6_passChildren, Cond.code yX6_passChildren cX6_passChildren 5 (some .boolean), Cond.methodLink RX6 86 yX6_passWeight, Cond.instanceMethod yX6_passWeight, Cond.selects RX6 yX6_passWeight yX6_passWeight, Cond.code yX6_passWeight cX6_passWeight 5 (some .int), Cond.constant RX6 92 (1000000), Cond.methodLink RX6 58 yX5_length, Cond.methodLink RL 204 yX9_fault, Cond.instanceMethod yX9_fault, Cond.selects RX9 yX9_fault yX9_fault, Cond.code yX9_fault cX9_fault 1 (some .int), Cond.methodLink RX9 306 yX9_goes, Cond.instanceMethod yX9_goes, Cond.selects RX9 yX9_goes yX9_goes, Cond.code yX9_goes cX9_goes 3 (some .int), Cond.fieldLink RX9 260 "DockLayoutModel" "at" "I", Cond.fieldLink RX9 263 "DockLayoutModel" "wrong" "I", Cond.fieldLink RX9 285 "DockLayoutModel" "stackMany" "I", Cond.fieldLink RX9 269 "DockLayoutModel" "usedSet" "I", Cond.fieldLink RX9 272 "DockLayoutModel" "weight" "I", Cond.methodLink RX9 266 yX9_next, Cond.instanceMethod yX9_next]
def wsL_law0_r53 : List Cond := [Cond.selects RX9 yX9_next yX9_next, Cond.code yX9_next cX9_next 1 (some .int), Cond.methodLink RX9 291 yX9_opens, Cond.instanceMethod yX9_opens, Cond.selects RX9 yX9_opens yX9_opens, Cond.code yX9_opens cX9_opens 3 none, Cond.methodLink RX9 275 yX9_takes_, Cond.instanceMethod yX9_takes_, Cond.selects RX9 yX9_takes_ yX9_takes_, Cond.code yX9_takes_ cX9_takes_ 3 (some .boolean), Cond.methodLink RX9 288 yX9_readsWeight, Cond.instanceMethod yX9_readsWeight, Cond.selects RX9 yX9_readsWeight yX9_readsWeight, Cond.code yX9_readsWeight cX9_readsWeight 2 none, Cond.methodLink RX9 295 yX9_readsGroup, Cond.instanceMethod yX9_readsGroup, Cond.selects RX9 yX9_readsGroup yX9_readsGroup, Cond.code yX9_readsGroup cX9_readsGroup 8 none, Cond.fieldLink RX9 278 "DockLayoutModel" "node" "I", Cond.methodLink RX9 281 yX9_isPaneNext, Cond.instanceMethod yX9_isPaneNext, Cond.selects RX9 yX9_isPaneNext yX9_isPaneNext, Cond.code yX9_isPaneNext cX9_isPaneNext 2 (some .boolean), Cond.methodLink RX9 298 yX9_joins]
def wsL_law0_r54 : List Cond := [Cond.instanceMethod yX9_joins, Cond.selects RX9 yX9_joins yX9_joins, Cond.code yX9_joins cX9_joins 3 none, Cond.methodLink RX9 302 yX9_ends, Cond.instanceMethod yX9_ends, Cond.selects RX9 yX9_ends yX9_ends, Cond.code yX9_ends cX9_ends 2 (some .boolean), Cond.methodLink RL 205 yL_read, Cond.static yL_read, Cond.codeWith yL_read cL_read 3 (some .int) [(0, 8, 11, 13)], Cond.methodLink RL 86 yX8_read, Cond.instanceMethod yX8_read, Cond.selects RX8 yX8_read yX8_read, Cond.code yX8_read cX8_read 1 (some .int), Cond.methodLink RX8 336 yX1_copyFrom, Cond.methodLink RX8 340 yX4_settleFocus, Cond.methodLink RL 208 yX9_read, Cond.instanceMethod yX9_read, Cond.selects RX9 yX9_read yX9_read, Cond.code yX9_read cX9_read 2 (some .int), Cond.methodLink RL 209 yL_write, Cond.static yL_write, Cond.codeWith yL_write cL_write 4 (some .int) [(0, 9, 12, 21), (0, 9, 15, 15)], Cond.methodLink RL 90 yX8_write]
def wsL_law0_r55 : List Cond := [Cond.instanceMethod yX8_write, Cond.selects RX8 yX8_write yX8_write, Cond.code yX8_write cX8_write 2 (some .int), Cond.methodLink RX8 343 yX7_compose, Cond.instanceMethod yX7_compose, Cond.selects RX7 yX7_compose yX7_compose, Cond.code yX7_compose cX7_compose 3 none, Cond.methodLink RX7 18 yX5_empty, Cond.methodLink RX7 21 yX1_rootOf, Cond.methodLink RX7 27 yX7_putTree, Cond.instanceMethod yX7_putTree, Cond.selects RX7 yX7_putTree yX7_putTree, Cond.code yX7_putTree cX7_putTree 7 none, Cond.methodLink RX7 31 yX1_kindOf, Cond.methodLink RX7 34 yX7_putTabs, Cond.instanceMethod yX7_putTabs, Cond.selects RX7 yX7_putTabs yX7_putTabs, Cond.code yX7_putTabs cX7_putTabs 6 none, Cond.methodLink RX7 55 yX1_tabCount, Cond.methodLink RX7 58 yX1_tabAt, Cond.methodLink RX7 38 yX5_append, Cond.methodLink RX7 61 yX1_isHidden, Cond.methodLink RX7 65 yX1_activeOf, Cond.methodLink RX7 42 yX1_childCount]
def wsL_law0_r56 : List Cond := [Cond.methodLink RX7 45 yX1_childAt, Cond.methodLink RX7 49 yX1_weightOf, Cond.methodLink RX7 52 yX7_putNumber, Cond.instanceMethod yX7_putNumber, Cond.selects RX7 yX7_putNumber yX7_putNumber, Cond.code yX7_putNumber cX7_putNumber 3 none, Cond.constant RX7 68 (1000000), Cond.methodLink RX8 352 yX5_copyFrom, Cond.methodLink RL 211 yX9_write, Cond.instanceMethod yX9_write, Cond.selects RX9 yX9_write yX9_write, Cond.code yX9_write cX9_write 4 (some .int), Cond.fieldLink RX9 310 "DockLayoutModel" "writtenMany" "I", Cond.methodLink RX9 322 yX9_writesTree, Cond.instanceMethod yX9_writesTree, Cond.selects RX9 yX9_writesTree yX9_writesTree, Cond.code yX9_writesTree cX9_writesTree 4 none, Cond.methodLink RX9 313 yX9_writes, Cond.instanceMethod yX9_writes, Cond.selects RX9 yX9_writes yX9_writes, Cond.code yX9_writes cX9_writes 2 none, Cond.methodLink RX9 316 yX9_writesNumber, Cond.instanceMethod yX9_writesNumber, Cond.selects RX9 yX9_writesNumber yX9_writesNumber]
def wsL_law0_r57 : List Cond := [Cond.code yX9_writesNumber cX9_writesNumber 4 none, Cond.methodLink RX9 319 yX9_writesGroup, Cond.instanceMethod yX9_writesGroup, Cond.selects RX9 yX9_writesGroup yX9_writesGroup, Cond.code yX9_writesGroup cX9_writesGroup 4 none, Cond.methodLink RL 212 yX8_character, Cond.instanceMethod yX8_character, Cond.selects RX8 yX8_character yX8_character, Cond.code yX8_character cX8_character 2 (some .int), Cond.methodLink RX8 355 yX5_code, Cond.methodLink RL 215 yX9_character, Cond.instanceMethod yX9_character, Cond.selects RX9 yX9_character yX9_character, Cond.code yX9_character cX9_character 2 (some .int), Cond.methodLink RL 216 yL_undo, Cond.static yL_undo, Cond.codeWith yL_undo cL_undo 3 (some .int) [(0, 8, 11, 15)], Cond.methodLink RL 93 yX8_undo, Cond.instanceMethod yX8_undo, Cond.selects RX8 yX8_undo yX8_undo, Cond.code yX8_undo cX8_undo 1 (some .int), Cond.methodLink RL 218 yX9_undo, Cond.instanceMethod yX9_undo, Cond.selects RX9 yX9_undo yX9_undo]
def wsL_law0_r58 : List Cond := [Cond.code yX9_undo cX9_undo 2 (some .int), Cond.methodLink RL 219 yX8_checksum, Cond.instanceMethod yX8_checksum, Cond.selects RX8 yX8_checksum yX8_checksum, Cond.code yX8_checksum cX8_checksum 4 (some .long), Cond.constantLong RX8 369 (18323), Cond.methodLink RX8 371 yX8_mix, Cond.static yX8_mix, Cond.code yX8_mix cX8_mix 3 (some .long), Cond.constantLong RX8 396 (31), Cond.methodLink RX8 378 yX8_mixPane, Cond.instanceMethod yX8_mixPane, Cond.selects RX8 yX8_mixPane yX8_mixPane, Cond.code yX8_mixPane cX8_mixPane 7 (some .long), Cond.methodLink RX8 387 yX8_pane, Cond.methodLink RX8 390 yX8_rectangle, Cond.methodLink RX8 384 yX8_mixWindow, Cond.instanceMethod yX8_mixWindow, Cond.selects RX8 yX8_mixWindow yX8_mixWindow, Cond.code yX8_mixWindow cX8_mixWindow 7 (some .long), Cond.methodLink RX8 393 yX8_window, Cond.methodLink RL 223 yX9_checksum, Cond.instanceMethod yX9_checksum, Cond.selects RX9 yX9_checksum yX9_checksum]
def wsL_law0_r59 : List Cond := [Cond.code yX9_checksum cX9_checksum 3 (some .long), Cond.constantLong RX9 331 (18323), Cond.fieldLink RX9 327 "DockLayoutModel" "hash" "J", Cond.methodLink RX9 333 yX9_mix, Cond.instanceMethod yX9_mix, Cond.selects RX9 yX9_mix yX9_mix, Cond.code yX9_mix cX9_mix 3 none, Cond.constantLong RX9 325 (31)]
def wsL_law0 : List Cond := (wsL_law0_r1 ++ (wsL_law0_r2 ++ (wsL_law0_r3 ++ (wsL_law0_r4 ++ (wsL_law0_r5 ++ (wsL_law0_r6 ++ (wsL_law0_r7 ++ (wsL_law0_r8 ++ (wsL_law0_r9 ++ (wsL_law0_r10 ++ (wsL_law0_r11 ++ (wsL_law0_r12 ++ (wsL_law0_r13 ++ (wsL_law0_r14 ++ (wsL_law0_r15 ++ (wsL_law0_r16 ++ (wsL_law0_r17 ++ (wsL_law0_r18 ++ (wsL_law0_r19 ++ (wsL_law0_r20 ++ (wsL_law0_r21 ++ (wsL_law0_r22 ++ (wsL_law0_r23 ++ (wsL_law0_r24 ++ (wsL_law0_r25 ++ (wsL_law0_r26 ++ (wsL_law0_r27 ++ (wsL_law0_r28 ++ (wsL_law0_r29 ++ (wsL_law0_r30 ++ (wsL_law0_r31 ++ (wsL_law0_r32 ++ (wsL_law0_r33 ++ (wsL_law0_r34 ++ (wsL_law0_r35 ++ (wsL_law0_r36 ++ (wsL_law0_r37 ++ (wsL_law0_r38 ++ (wsL_law0_r39 ++ (wsL_law0_r40 ++ (wsL_law0_r41 ++ (wsL_law0_r42 ++ (wsL_law0_r43 ++ (wsL_law0_r44 ++ (wsL_law0_r45 ++ (wsL_law0_r46 ++ (wsL_law0_r47 ++ (wsL_law0_r48 ++ (wsL_law0_r49 ++ (wsL_law0_r50 ++ (wsL_law0_r51 ++ (wsL_law0_r52 ++ (wsL_law0_r53 ++ (wsL_law0_r54 ++ (wsL_law0_r55 ++ (wsL_law0_r56 ++ (wsL_law0_r57 ++ (wsL_law0_r58 ++ wsL_law0_r59)))))))))))))))))))))))))))))))))))))))))))))))))))))))))) ++ wsX80 ++ wsX90 ++ wsX40 ++ wsX20 ++ wsX50 ++ wsX60 ++ wsX70 ++ wsX00 ++ wsX10 ++ wsX30 ++ ([] : List Cond)
def wsL_law : List Cond := wsL_law0 ++ (vx_atS RX8 60 "java/lang/IllegalStateException" ["java/lang/RuntimeException", "java/lang/Exception"]).filter goodWord ++ (vx_atS RX8 222 "java/lang/IllegalArgumentException" ["java/lang/RuntimeException", "java/lang/Exception"]).filter goodWord ++ (vx_atS RX8 402 "java/lang/IndexOutOfBoundsException" ["java/lang/RuntimeException", "java/lang/Exception"]).filter goodWord
