section
-- ===== PART A: goes FIRST, ahead of the names: the tables' words, and 'selects' of the private methods out of them =====
/-- a private method of a class that the tables say can be made, by its rows of tables_1 -/
def lw_okq (q : MethodName × Nat) : Prop := (q.1.cls ≠ "java/lang/invoke/MethodHandle" ∧ q.1.cls ≠ "java/lang/invoke/VarHandle") ∧ Cond.instantiable q.1.cls q.2 ∈ tables_1 ∧ Cond.privateMethod q.1 ∈ tables_1 ∧ Cond.instanceMethod q.1 ∈ tables_1
theorem lw_p0 : lw_okq (⟨"BridgedPachisi$Board", "fieldOf", "(I)I"⟩, 5) := ⟨⟨by decide +kernel, by decide +kernel⟩, List.mem_of_getElem? (i := 24) (by decide +kernel), List.mem_of_getElem? (i := 157) (by decide +kernel), List.mem_of_getElem? (i := 158) (by decide +kernel)⟩
theorem lw_p1 : lw_okq (⟨"BridgedPachisi$Board", "isInPair", "(I)Z"⟩, 5) := ⟨⟨by decide +kernel, by decide +kernel⟩, List.mem_of_getElem? (i := 24) (by decide +kernel), List.mem_of_getElem? (i := 164) (by decide +kernel), List.mem_of_getElem? (i := 165) (by decide +kernel)⟩
theorem lw_p2 : lw_okq (⟨"BridgedPachisi$Board", "matesAt", "(II)I"⟩, 5) := ⟨⟨by decide +kernel, by decide +kernel⟩, List.mem_of_getElem? (i := 24) (by decide +kernel), List.mem_of_getElem? (i := 171) (by decide +kernel), List.mem_of_getElem? (i := 172) (by decide +kernel)⟩
theorem lw_p3 : lw_okq (⟨"BridgedPachisi$Board", "piecesOn", "(I)I"⟩, 5) := ⟨⟨by decide +kernel, by decide +kernel⟩, List.mem_of_getElem? (i := 24) (by decide +kernel), List.mem_of_getElem? (i := 179) (by decide +kernel), List.mem_of_getElem? (i := 180) (by decide +kernel)⟩
theorem lw_p4 : lw_okq (⟨"BridgedPachisi$Board", "lowestOn", "(I)I"⟩, 5) := ⟨⟨by decide +kernel, by decide +kernel⟩, List.mem_of_getElem? (i := 24) (by decide +kernel), List.mem_of_getElem? (i := 183) (by decide +kernel), List.mem_of_getElem? (i := 184) (by decide +kernel)⟩
theorem lw_p5 : lw_okq (⟨"BridgedPachisi$Board", "bridgeState", "(I)I"⟩, 5) := ⟨⟨by decide +kernel, by decide +kernel⟩, List.mem_of_getElem? (i := 24) (by decide +kernel), List.mem_of_getElem? (i := 190) (by decide +kernel), List.mem_of_getElem? (i := 191) (by decide +kernel)⟩
theorem lw_p6 : lw_okq (⟨"BridgedPachisi$Game", "turnsUntilMended", "(I)I"⟩, 7) := ⟨⟨by decide +kernel, by decide +kernel⟩, List.mem_of_getElem? (i := 18) (by decide +kernel), List.mem_of_getElem? (i := 197) (by decide +kernel), List.mem_of_getElem? (i := 198) (by decide +kernel)⟩
theorem lw_p7 : lw_okq (⟨"BridgedPachisi$Game", "reason", "(II)I"⟩, 7) := ⟨⟨by decide +kernel, by decide +kernel⟩, List.mem_of_getElem? (i := 18) (by decide +kernel), List.mem_of_getElem? (i := 209) (by decide +kernel), List.mem_of_getElem? (i := 210) (by decide +kernel)⟩
theorem lw_p8 : lw_okq (⟨"BridgedPachisi$Board", "target", "(III)I"⟩, 5) := ⟨⟨by decide +kernel, by decide +kernel⟩, List.mem_of_getElem? (i := 24) (by decide +kernel), List.mem_of_getElem? (i := 213) (by decide +kernel), List.mem_of_getElem? (i := 214) (by decide +kernel)⟩
theorem lw_p9 : lw_okq (⟨"BridgedPachisi$Board", "isFallenAt", "(II)Z"⟩, 5) := ⟨⟨by decide +kernel, by decide +kernel⟩, List.mem_of_getElem? (i := 24) (by decide +kernel), List.mem_of_getElem? (i := 217) (by decide +kernel), List.mem_of_getElem? (i := 218) (by decide +kernel)⟩
theorem lw_p10 : lw_okq (⟨"BridgedPachisi$Board", "isBlockedOnWay", "(III)Z"⟩, 5) := ⟨⟨by decide +kernel, by decide +kernel⟩, List.mem_of_getElem? (i := 24) (by decide +kernel), List.mem_of_getElem? (i := 221) (by decide +kernel), List.mem_of_getElem? (i := 222) (by decide +kernel)⟩
theorem lw_p11 : lw_okq (⟨"BridgedPachisi$Board", "rivalsAt", "(II)I"⟩, 5) := ⟨⟨by decide +kernel, by decide +kernel⟩, List.mem_of_getElem? (i := 24) (by decide +kernel), List.mem_of_getElem? (i := 225) (by decide +kernel), List.mem_of_getElem? (i := 226) (by decide +kernel)⟩
theorem lw_p12 : lw_okq (⟨"BridgedPachisi$Board", "isFullFor", "(II)Z"⟩, 5) := ⟨⟨by decide +kernel, by decide +kernel⟩, List.mem_of_getElem? (i := 24) (by decide +kernel), List.mem_of_getElem? (i := 229) (by decide +kernel), List.mem_of_getElem? (i := 230) (by decide +kernel)⟩
theorem lw_p13 : lw_okq (⟨"BridgedPachisi$Board", "winner", "()I"⟩, 5) := ⟨⟨by decide +kernel, by decide +kernel⟩, List.mem_of_getElem? (i := 24) (by decide +kernel), List.mem_of_getElem? (i := 240) (by decide +kernel), List.mem_of_getElem? (i := 241) (by decide +kernel)⟩
theorem lw_p14 : lw_okq (⟨"BridgedPachisi$Board", "homeOf", "(I)I"⟩, 5) := ⟨⟨by decide +kernel, by decide +kernel⟩, List.mem_of_getElem? (i := 24) (by decide +kernel), List.mem_of_getElem? (i := 244) (by decide +kernel), List.mem_of_getElem? (i := 245) (by decide +kernel)⟩
theorem lw_p15 : lw_okq (⟨"BridgedPachisi$Board", "sentBackInAll", "()I"⟩, 5) := ⟨⟨by decide +kernel, by decide +kernel⟩, List.mem_of_getElem? (i := 24) (by decide +kernel), List.mem_of_getElem? (i := 249) (by decide +kernel), List.mem_of_getElem? (i := 250) (by decide +kernel)⟩
def lw_privs_1 : List (MethodName × Nat) := [(⟨"BridgedPachisi$Board", "fieldOf", "(I)I"⟩, 5), (⟨"BridgedPachisi$Board", "isInPair", "(I)Z"⟩, 5), (⟨"BridgedPachisi$Board", "matesAt", "(II)I"⟩, 5), (⟨"BridgedPachisi$Board", "piecesOn", "(I)I"⟩, 5), (⟨"BridgedPachisi$Board", "lowestOn", "(I)I"⟩, 5), (⟨"BridgedPachisi$Board", "bridgeState", "(I)I"⟩, 5), (⟨"BridgedPachisi$Game", "turnsUntilMended", "(I)I"⟩, 7), (⟨"BridgedPachisi$Game", "reason", "(II)I"⟩, 7), (⟨"BridgedPachisi$Board", "target", "(III)I"⟩, 5), (⟨"BridgedPachisi$Board", "isFallenAt", "(II)Z"⟩, 5), (⟨"BridgedPachisi$Board", "isBlockedOnWay", "(III)Z"⟩, 5), (⟨"BridgedPachisi$Board", "rivalsAt", "(II)I"⟩, 5), (⟨"BridgedPachisi$Board", "isFullFor", "(II)Z"⟩, 5), (⟨"BridgedPachisi$Board", "winner", "()I"⟩, 5), (⟨"BridgedPachisi$Board", "homeOf", "(I)I"⟩, 5), (⟨"BridgedPachisi$Board", "sentBackInAll", "()I"⟩, 5)]
theorem lw_r1 : ∀ q ∈ lw_privs_1, lw_okq q := List.forall_mem_cons.mpr ⟨lw_p0, List.forall_mem_cons.mpr ⟨lw_p1, List.forall_mem_cons.mpr ⟨lw_p2, List.forall_mem_cons.mpr ⟨lw_p3, List.forall_mem_cons.mpr ⟨lw_p4, List.forall_mem_cons.mpr ⟨lw_p5, List.forall_mem_cons.mpr ⟨lw_p6, List.forall_mem_cons.mpr ⟨lw_p7, List.forall_mem_cons.mpr ⟨lw_p8, List.forall_mem_cons.mpr ⟨lw_p9, List.forall_mem_cons.mpr ⟨lw_p10, List.forall_mem_cons.mpr ⟨lw_p11, List.forall_mem_cons.mpr ⟨lw_p12, List.forall_mem_cons.mpr ⟨lw_p13, List.forall_mem_cons.mpr ⟨lw_p14, List.forall_mem_cons.mpr ⟨lw_p15, fun _ h => absurd h List.not_mem_nil⟩⟩⟩⟩⟩⟩⟩⟩⟩⟩⟩⟩⟩⟩⟩⟩
theorem lw_p16 : lw_okq (⟨"BridgedPachisi$Board", "fallenSet", "()I"⟩, 5) := ⟨⟨by decide +kernel, by decide +kernel⟩, List.mem_of_getElem? (i := 24) (by decide +kernel), List.mem_of_getElem? (i := 253) (by decide +kernel), List.mem_of_getElem? (i := 254) (by decide +kernel)⟩
theorem lw_p17 : lw_okq (⟨"BridgedPachisi$Route", "fromHomeOn", "(LBridgedPachisi$Board;II)I"⟩, 1) := ⟨⟨by decide +kernel, by decide +kernel⟩, List.mem_of_getElem? (i := 87) (by decide +kernel), List.mem_of_getElem? (i := 261) (by decide +kernel), List.mem_of_getElem? (i := 262) (by decide +kernel)⟩
theorem lw_p18 : lw_okq (⟨"BridgedPachisi$Route", "goingWide", "(LBridgedPachisi$Board;II)I"⟩, 1) := ⟨⟨by decide +kernel, by decide +kernel⟩, List.mem_of_getElem? (i := 87) (by decide +kernel), List.mem_of_getElem? (i := 269) (by decide +kernel), List.mem_of_getElem? (i := 270) (by decide +kernel)⟩
theorem lw_p19 : lw_okq (⟨"BridgedPachisi$Route", "widen", "(LBridgedPachisi$Board;II)V"⟩, 1) := ⟨⟨by decide +kernel, by decide +kernel⟩, List.mem_of_getElem? (i := 87) (by decide +kernel), List.mem_of_getElem? (i := 273) (by decide +kernel), List.mem_of_getElem? (i := 274) (by decide +kernel)⟩
theorem lw_p20 : lw_okq (⟨"BridgedPachisi$History", "takeBack", "(LBridgedPachisi$Game;)Z"⟩, 3) := ⟨⟨by decide +kernel, by decide +kernel⟩, List.mem_of_getElem? (i := 112) (by decide +kernel), List.mem_of_getElem? (i := 281) (by decide +kernel), List.mem_of_getElem? (i := 282) (by decide +kernel)⟩
theorem lw_p21 : lw_okq (⟨"BridgedPachisi$Game", "copyFrom", "(LBridgedPachisi$Game;)V"⟩, 7) := ⟨⟨by decide +kernel, by decide +kernel⟩, List.mem_of_getElem? (i := 18) (by decide +kernel), List.mem_of_getElem? (i := 285) (by decide +kernel), List.mem_of_getElem? (i := 286) (by decide +kernel)⟩
theorem lw_p22 : lw_okq (⟨"BridgedPachisi$Board", "copyFrom", "(LBridgedPachisi$Board;)V"⟩, 5) := ⟨⟨by decide +kernel, by decide +kernel⟩, List.mem_of_getElem? (i := 24) (by decide +kernel), List.mem_of_getElem? (i := 289) (by decide +kernel), List.mem_of_getElem? (i := 290) (by decide +kernel)⟩
theorem lw_p23 : lw_okq (⟨"BridgedPachisi$History", "remember", "(LBridgedPachisi$Game;)V"⟩, 3) := ⟨⟨by decide +kernel, by decide +kernel⟩, List.mem_of_getElem? (i := 112) (by decide +kernel), List.mem_of_getElem? (i := 298) (by decide +kernel), List.mem_of_getElem? (i := 299) (by decide +kernel)⟩
theorem lw_p24 : lw_okq (⟨"BridgedPachisi$Game", "hasThrow", "()Z"⟩, 7) := ⟨⟨by decide +kernel, by decide +kernel⟩, List.mem_of_getElem? (i := 18) (by decide +kernel), List.mem_of_getElem? (i := 328) (by decide +kernel), List.mem_of_getElem? (i := 329) (by decide +kernel)⟩
theorem lw_p25 : lw_okq (⟨"BridgedPachisi$Game", "bestPiece", "()I"⟩, 7) := ⟨⟨by decide +kernel, by decide +kernel⟩, List.mem_of_getElem? (i := 18) (by decide +kernel), List.mem_of_getElem? (i := 332) (by decide +kernel), List.mem_of_getElem? (i := 333) (by decide +kernel)⟩
theorem lw_p26 : lw_okq (⟨"BridgedPachisi$Game", "worthOfMove", "(I)I"⟩, 7) := ⟨⟨by decide +kernel, by decide +kernel⟩, List.mem_of_getElem? (i := 18) (by decide +kernel), List.mem_of_getElem? (i := 337) (by decide +kernel), List.mem_of_getElem? (i := 338) (by decide +kernel)⟩
theorem lw_p27 : lw_okq (⟨"BridgedPachisi$Game", "playOn", "(I)I"⟩, 7) := ⟨⟨by decide +kernel, by decide +kernel⟩, List.mem_of_getElem? (i := 18) (by decide +kernel), List.mem_of_getElem? (i := 401) (by decide +kernel), List.mem_of_getElem? (i := 402) (by decide +kernel)⟩
theorem lw_p28 : lw_okq (⟨"BridgedPachisi$Game", "isOver", "()Z"⟩, 7) := ⟨⟨by decide +kernel, by decide +kernel⟩, List.mem_of_getElem? (i := 18) (by decide +kernel), List.mem_of_getElem? (i := 405) (by decide +kernel), List.mem_of_getElem? (i := 406) (by decide +kernel)⟩
theorem lw_p29 : lw_okq (⟨"BridgedPachisi$Game", "throwByX", "()V"⟩, 7) := ⟨⟨by decide +kernel, by decide +kernel⟩, List.mem_of_getElem? (i := 18) (by decide +kernel), List.mem_of_getElem? (i := 410) (by decide +kernel), List.mem_of_getElem? (i := 411) (by decide +kernel)⟩
theorem lw_p30 : lw_okq (⟨"BridgedPachisi$Game", "takeThrow", "(I)V"⟩, 7) := ⟨⟨by decide +kernel, by decide +kernel⟩, List.mem_of_getElem? (i := 18) (by decide +kernel), List.mem_of_getElem? (i := 416) (by decide +kernel), List.mem_of_getElem? (i := 417) (by decide +kernel)⟩
theorem lw_p31 : lw_okq (⟨"BridgedPachisi$Game", "endThrow", "()V"⟩, 7) := ⟨⟨by decide +kernel, by decide +kernel⟩, List.mem_of_getElem? (i := 18) (by decide +kernel), List.mem_of_getElem? (i := 421) (by decide +kernel), List.mem_of_getElem? (i := 422) (by decide +kernel)⟩
def lw_privs_2 : List (MethodName × Nat) := [(⟨"BridgedPachisi$Board", "fallenSet", "()I"⟩, 5), (⟨"BridgedPachisi$Route", "fromHomeOn", "(LBridgedPachisi$Board;II)I"⟩, 1), (⟨"BridgedPachisi$Route", "goingWide", "(LBridgedPachisi$Board;II)I"⟩, 1), (⟨"BridgedPachisi$Route", "widen", "(LBridgedPachisi$Board;II)V"⟩, 1), (⟨"BridgedPachisi$History", "takeBack", "(LBridgedPachisi$Game;)Z"⟩, 3), (⟨"BridgedPachisi$Game", "copyFrom", "(LBridgedPachisi$Game;)V"⟩, 7), (⟨"BridgedPachisi$Board", "copyFrom", "(LBridgedPachisi$Board;)V"⟩, 5), (⟨"BridgedPachisi$History", "remember", "(LBridgedPachisi$Game;)V"⟩, 3), (⟨"BridgedPachisi$Game", "hasThrow", "()Z"⟩, 7), (⟨"BridgedPachisi$Game", "bestPiece", "()I"⟩, 7), (⟨"BridgedPachisi$Game", "worthOfMove", "(I)I"⟩, 7), (⟨"BridgedPachisi$Game", "playOn", "(I)I"⟩, 7), (⟨"BridgedPachisi$Game", "isOver", "()Z"⟩, 7), (⟨"BridgedPachisi$Game", "throwByX", "()V"⟩, 7), (⟨"BridgedPachisi$Game", "takeThrow", "(I)V"⟩, 7), (⟨"BridgedPachisi$Game", "endThrow", "()V"⟩, 7)]
theorem lw_r2 : ∀ q ∈ lw_privs_2, lw_okq q := List.forall_mem_cons.mpr ⟨lw_p16, List.forall_mem_cons.mpr ⟨lw_p17, List.forall_mem_cons.mpr ⟨lw_p18, List.forall_mem_cons.mpr ⟨lw_p19, List.forall_mem_cons.mpr ⟨lw_p20, List.forall_mem_cons.mpr ⟨lw_p21, List.forall_mem_cons.mpr ⟨lw_p22, List.forall_mem_cons.mpr ⟨lw_p23, List.forall_mem_cons.mpr ⟨lw_p24, List.forall_mem_cons.mpr ⟨lw_p25, List.forall_mem_cons.mpr ⟨lw_p26, List.forall_mem_cons.mpr ⟨lw_p27, List.forall_mem_cons.mpr ⟨lw_p28, List.forall_mem_cons.mpr ⟨lw_p29, List.forall_mem_cons.mpr ⟨lw_p30, List.forall_mem_cons.mpr ⟨lw_p31, fun _ h => absurd h List.not_mem_nil⟩⟩⟩⟩⟩⟩⟩⟩⟩⟩⟩⟩⟩⟩⟩⟩
theorem lw_p32 : lw_okq (⟨"BridgedPachisi$Game", "beginTurn", "()V"⟩, 7) := ⟨⟨by decide +kernel, by decide +kernel⟩, List.mem_of_getElem? (i := 18) (by decide +kernel), List.mem_of_getElem? (i := 425) (by decide +kernel), List.mem_of_getElem? (i := 426) (by decide +kernel)⟩
theorem lw_p33 : lw_okq (⟨"BridgedPachisi$Board", "mend", "(II)V"⟩, 5) := ⟨⟨by decide +kernel, by decide +kernel⟩, List.mem_of_getElem? (i := 24) (by decide +kernel), List.mem_of_getElem? (i := 429) (by decide +kernel), List.mem_of_getElem? (i := 430) (by decide +kernel)⟩
theorem lw_p34 : lw_okq (⟨"BridgedPachisi$Game", "moveByThrow", "(I)I"⟩, 7) := ⟨⟨by decide +kernel, by decide +kernel⟩, List.mem_of_getElem? (i := 18) (by decide +kernel), List.mem_of_getElem? (i := 433) (by decide +kernel), List.mem_of_getElem? (i := 434) (by decide +kernel)⟩
theorem lw_p35 : lw_okq (⟨"BridgedPachisi$Board", "sendRivalsBack", "(II)V"⟩, 5) := ⟨⟨by decide +kernel, by decide +kernel⟩, List.mem_of_getElem? (i := 24) (by decide +kernel), List.mem_of_getElem? (i := 437) (by decide +kernel), List.mem_of_getElem? (i := 438) (by decide +kernel)⟩
theorem lw_p36 : lw_okq (⟨"BridgedPachisi$Board", "place", "(III)V"⟩, 5) := ⟨⟨by decide +kernel, by decide +kernel⟩, List.mem_of_getElem? (i := 24) (by decide +kernel), List.mem_of_getElem? (i := 441) (by decide +kernel), List.mem_of_getElem? (i := 442) (by decide +kernel)⟩
theorem lw_p37 : lw_okq (⟨"BridgedPachisi$Board", "strainAndFall", "(I)V"⟩, 5) := ⟨⟨by decide +kernel, by decide +kernel⟩, List.mem_of_getElem? (i := 24) (by decide +kernel), List.mem_of_getElem? (i := 445) (by decide +kernel), List.mem_of_getElem? (i := 446) (by decide +kernel)⟩
theorem lw_p38 : lw_okq (⟨"BridgedPachisi$Board", "hasRoomFor", "(II)Z"⟩, 5) := ⟨⟨by decide +kernel, by decide +kernel⟩, List.mem_of_getElem? (i := 24) (by decide +kernel), List.mem_of_getElem? (i := 461) (by decide +kernel), List.mem_of_getElem? (i := 462) (by decide +kernel)⟩
theorem lw_p39 : lw_okq (⟨"BridgedPachisi$Game", "canMoveBy", "(I)Z"⟩, 7) := ⟨⟨by decide +kernel, by decide +kernel⟩, List.mem_of_getElem? (i := 18) (by decide +kernel), List.mem_of_getElem? (i := 497) (by decide +kernel), List.mem_of_getElem? (i := 498) (by decide +kernel)⟩
def lw_privs_3 : List (MethodName × Nat) := [(⟨"BridgedPachisi$Game", "beginTurn", "()V"⟩, 7), (⟨"BridgedPachisi$Board", "mend", "(II)V"⟩, 5), (⟨"BridgedPachisi$Game", "moveByThrow", "(I)I"⟩, 7), (⟨"BridgedPachisi$Board", "sendRivalsBack", "(II)V"⟩, 5), (⟨"BridgedPachisi$Board", "place", "(III)V"⟩, 5), (⟨"BridgedPachisi$Board", "strainAndFall", "(I)V"⟩, 5), (⟨"BridgedPachisi$Board", "hasRoomFor", "(II)Z"⟩, 5), (⟨"BridgedPachisi$Game", "canMoveBy", "(I)Z"⟩, 7)]
theorem lw_r3 : ∀ q ∈ lw_privs_3, lw_okq q := List.forall_mem_cons.mpr ⟨lw_p32, List.forall_mem_cons.mpr ⟨lw_p33, List.forall_mem_cons.mpr ⟨lw_p34, List.forall_mem_cons.mpr ⟨lw_p35, List.forall_mem_cons.mpr ⟨lw_p36, List.forall_mem_cons.mpr ⟨lw_p37, List.forall_mem_cons.mpr ⟨lw_p38, List.forall_mem_cons.mpr ⟨lw_p39, fun _ h => absurd h List.not_mem_nil⟩⟩⟩⟩⟩⟩⟩⟩
def lw_privs : List (MethodName × Nat) := lw_privs_1 ++ (lw_privs_2 ++ (lw_privs_3))
def lw_tbl : List Cond := k2_sels lw_privs ++ tables_1
theorem lw_privs_ok : ∀ q ∈ lw_privs, lw_okq q := by
  show ∀ q ∈ lw_privs_1 ++ (lw_privs_2 ++ (lw_privs_3)), lw_okq q
  exact List.forall_mem_append.mpr ⟨lw_r1, List.forall_mem_append.mpr ⟨lw_r2, lw_r3⟩⟩
end
section
/-! ===== BEGIN words of one list among another's, by their places ===== -/
theorem goodIn_r {big : List Cond} (ws : List Cond) (ps : List Nat) (hp : ws = ps.filterMap (fun i => big[i]?)) (h : ws.all goodWord = true) : GoodIn big ws := by
  intro w hw
  have h1 := List.all_eq_true.mp h w hw
  rw [hp] at hw
  obtain ⟨i, -, hi⟩ := List.mem_filterMap.mp hw
  have hm : w ∈ big := by first | exact List.mem_of_getElem? hi | exact List.getElem?_mem hi
  exact ⟨hm, good_of_word h1⟩
theorem goodIn_app {big a b : List Cond} (ha : GoodIn big a) (hb : GoodIn big b) : GoodIn big (a ++ b) := fun w h => (List.mem_append.mp h).elim (ha w) (hb w)
theorem goodIn_ca {big a b : List Cond} {c : Cond} (ha : GoodIn big (c :: a)) (hb : GoodIn big b) : GoodIn big (c :: (a ++ b)) := fun w h => (List.mem_cons.mp h).elim (fun e => ha w (List.mem_cons.mpr (Or.inl e))) (fun h => (List.mem_append.mp h).elim (fun h => ha w (List.mem_cons.mpr (Or.inr h))) (hb w))
theorem goodIn_sub {big ws : List Cond} (hm : ∀ w ∈ ws, w ∈ big) (h : ws.all goodWord = true) : GoodIn big ws := fun w hw => ⟨hm w hw, good_of_word (List.all_eq_true.mp h w hw)⟩
/-! ===== END ===== -/

/-! ===== BEGIN printed: names, fields, word lists, decode rows ===== -/
def RX0 : String := "BridgedPachisi$Board"
def TX0 : u_T := fun k => match k with
  | 0 => ("BridgedPachisi$Board", "progress", "[I", true)
  | 1 => ("BridgedPachisi$Board", "sentBack", "[I", true)
  | 2 => ("BridgedPachisi$Board", "bridges", "[I", true)
  | 3 => ("BridgedPachisi$Board", "fellIn", "[I", true)
  | _ => ("BridgedPachisi$Board", "falls", "I", false)
def tyX0 : Nat → FieldType := fun k => match k with
  | 0 => .array .int
  | 1 => .array .int
  | 2 => .array .int
  | 3 => .array .int
  | _ => .int
abbrev wsX00 : List Cond := u_ws RX0 TX0 5
theorem nmX0 : ∀ a, a < 5 → ∀ b, b < 5 → a ≠ b → (TX0 a).2.1 ≠ (TX0 b).2.1 := by decide +kernel
theorem tyX0_ok : ∀ k, k < 5 → parseFieldDescriptor (TX0 k).2.2.1 = some (tyX0 k) := by decide +kernel
abbrev cX0_init : ByteArray := prog_2_method_1_code
def yX0_init : MethodName := ⟨RX0, "<init>", "()V"⟩
abbrev cX0_copyFrom : ByteArray := prog_2_method_2_code
def yX0_copyFrom : MethodName := ⟨RX0, "copyFrom", "(LBridgedPachisi$Board;)V"⟩
abbrev cX0_fieldOf : ByteArray := prog_2_method_3_code
def yX0_fieldOf : MethodName := ⟨RX0, "fieldOf", "(I)I"⟩
abbrev cX0_piecesOn : ByteArray := prog_2_method_4_code
def yX0_piecesOn : MethodName := ⟨RX0, "piecesOn", "(I)I"⟩
abbrev cX0_lowestOn : ByteArray := prog_2_method_5_code
def yX0_lowestOn : MethodName := ⟨RX0, "lowestOn", "(I)I"⟩
abbrev cX0_rivalsAt : ByteArray := prog_2_method_6_code
def yX0_rivalsAt : MethodName := ⟨RX0, "rivalsAt", "(II)I"⟩
abbrev cX0_matesAt : ByteArray := prog_2_method_7_code
def yX0_matesAt : MethodName := ⟨RX0, "matesAt", "(II)I"⟩
abbrev cX0_isInPair : ByteArray := prog_2_method_8_code
def yX0_isInPair : MethodName := ⟨RX0, "isInPair", "(I)Z"⟩
abbrev cX0_isFullFor : ByteArray := prog_2_method_9_code
def yX0_isFullFor : MethodName := ⟨RX0, "isFullFor", "(II)Z"⟩
abbrev cX0_hasRoomFor : ByteArray := prog_2_method_10_code
def yX0_hasRoomFor : MethodName := ⟨RX0, "hasRoomFor", "(II)Z"⟩
abbrev cX0_homeOf : ByteArray := prog_2_method_11_code
def yX0_homeOf : MethodName := ⟨RX0, "homeOf", "(I)I"⟩
abbrev cX0_winner : ByteArray := prog_2_method_12_code
def yX0_winner : MethodName := ⟨RX0, "winner", "()I"⟩
abbrev cX0_sentBackInAll : ByteArray := prog_2_method_13_code
def yX0_sentBackInAll : MethodName := ⟨RX0, "sentBackInAll", "()I"⟩
abbrev cX0_bridgeState : ByteArray := prog_2_method_14_code
def yX0_bridgeState : MethodName := ⟨RX0, "bridgeState", "(I)I"⟩
abbrev cX0_isFallenAt : ByteArray := prog_2_method_15_code
def yX0_isFallenAt : MethodName := ⟨RX0, "isFallenAt", "(II)Z"⟩
abbrev cX0_fallenSet : ByteArray := prog_2_method_16_code
def yX0_fallenSet : MethodName := ⟨RX0, "fallenSet", "()I"⟩
abbrev cX0_target : ByteArray := prog_2_method_17_code
def yX0_target : MethodName := ⟨RX0, "target", "(III)I"⟩
abbrev cX0_isBlockedOnWay : ByteArray := prog_2_method_18_code
def yX0_isBlockedOnWay : MethodName := ⟨RX0, "isBlockedOnWay", "(III)Z"⟩
abbrev cX0_sendRivalsBack : ByteArray := prog_2_method_19_code
def yX0_sendRivalsBack : MethodName := ⟨RX0, "sendRivalsBack", "(II)V"⟩
abbrev cX0_place : ByteArray := prog_2_method_20_code
def yX0_place : MethodName := ⟨RX0, "place", "(III)V"⟩
abbrev cX0_strainAndFall : ByteArray := prog_2_method_21_code
def yX0_strainAndFall : MethodName := ⟨RX0, "strainAndFall", "(I)V"⟩
abbrev cX0_mend : ByteArray := prog_2_method_22_code
def yX0_mend : MethodName := ⟨RX0, "mend", "(II)V"⟩
def RX1 : String := "BridgedPachisi$Game"
def TX1 : u_T := fun k => match k with
  | 0 => ("BridgedPachisi$Game", "board", "LBridgedPachisi$Board;", true)
  | 1 => ("BridgedPachisi$Game", "settings", "[I", true)
  | 2 => ("BridgedPachisi$Game", "x", "I", false)
  | 3 => ("BridgedPachisi$Game", "player", "I", false)
  | 4 => ("BridgedPachisi$Game", "thrown", "I", false)
  | 5 => ("BridgedPachisi$Game", "turns", "I", false)
  | _ => ("BridgedPachisi$Game", "casts", "I", false)
def tyX1 : Nat → FieldType := fun k => match k with
  | 0 => .object "BridgedPachisi$Board"
  | 1 => .array .int
  | 2 => .int
  | 3 => .int
  | 4 => .int
  | 5 => .int
  | _ => .int
abbrev wsX10 : List Cond := u_ws RX1 TX1 7
theorem nmX1 : ∀ a, a < 7 → ∀ b, b < 7 → a ≠ b → (TX1 a).2.1 ≠ (TX1 b).2.1 := by decide +kernel
theorem tyX1_ok : ∀ k, k < 7 → parseFieldDescriptor (TX1 k).2.2.1 = some (tyX1 k) := by decide +kernel
abbrev cX1_init : ByteArray := prog_3_method_1_code
def yX1_init : MethodName := ⟨RX1, "<init>", "()V"⟩
abbrev cX1_copyFrom : ByteArray := prog_3_method_2_code
def yX1_copyFrom : MethodName := ⟨RX1, "copyFrom", "(LBridgedPachisi$Game;)V"⟩
abbrev cX1_isOver : ByteArray := prog_3_method_3_code
def yX1_isOver : MethodName := ⟨RX1, "isOver", "()Z"⟩
abbrev cX1_hasThrow : ByteArray := prog_3_method_4_code
def yX1_hasThrow : MethodName := ⟨RX1, "hasThrow", "()Z"⟩
abbrev cX1_reason : ByteArray := prog_3_method_5_code
def yX1_reason : MethodName := ⟨RX1, "reason", "(II)I"⟩
abbrev cX1_canMoveBy : ByteArray := prog_3_method_6_code
def yX1_canMoveBy : MethodName := ⟨RX1, "canMoveBy", "(I)Z"⟩
abbrev cX1_bestPiece : ByteArray := prog_3_method_7_code
def yX1_bestPiece : MethodName := ⟨RX1, "bestPiece", "()I"⟩
abbrev cX1_worthOfMove : ByteArray := prog_3_method_8_code
def yX1_worthOfMove : MethodName := ⟨RX1, "worthOfMove", "(I)I"⟩
abbrev cX1_throwByX : ByteArray := prog_3_method_9_code
def yX1_throwByX : MethodName := ⟨RX1, "throwByX", "()V"⟩
abbrev cX1_takeThrow : ByteArray := prog_3_method_10_code
def yX1_takeThrow : MethodName := ⟨RX1, "takeThrow", "(I)V"⟩
abbrev cX1_moveByThrow : ByteArray := prog_3_method_11_code
def yX1_moveByThrow : MethodName := ⟨RX1, "moveByThrow", "(I)I"⟩
abbrev cX1_endThrow : ByteArray := prog_3_method_12_code
def yX1_endThrow : MethodName := ⟨RX1, "endThrow", "()V"⟩
abbrev cX1_beginTurn : ByteArray := prog_3_method_13_code
def yX1_beginTurn : MethodName := ⟨RX1, "beginTurn", "()V"⟩
abbrev cX1_playOn : ByteArray := prog_3_method_14_code
def yX1_playOn : MethodName := ⟨RX1, "playOn", "(I)I"⟩
abbrev cX1_turnsUntilMended : ByteArray := prog_3_method_16_code
def yX1_turnsUntilMended : MethodName := ⟨RX1, "turnsUntilMended", "(I)I"⟩
def RX2 : String := "BridgedPachisi$History"
def TX2 : u_T := fun k => match k with
  | 0 => ("BridgedPachisi$History", "states", "[LBridgedPachisi$Game;", true)
  | 1 => ("BridgedPachisi$History", "next", "I", false)
  | _ => ("BridgedPachisi$History", "size", "I", false)
def tyX2 : Nat → FieldType := fun k => match k with
  | 0 => .array (.object "BridgedPachisi$Game")
  | 1 => .int
  | _ => .int
abbrev wsX20 : List Cond := u_ws RX2 TX2 3
theorem nmX2 : ∀ a, a < 3 → ∀ b, b < 3 → a ≠ b → (TX2 a).2.1 ≠ (TX2 b).2.1 := by decide +kernel
theorem tyX2_ok : ∀ k, k < 3 → parseFieldDescriptor (TX2 k).2.2.1 = some (tyX2 k) := by decide +kernel
abbrev cX2_init : ByteArray := prog_4_method_1_code
def yX2_init : MethodName := ⟨RX2, "<init>", "()V"⟩
abbrev cX2_remember : ByteArray := prog_4_method_2_code
def yX2_remember : MethodName := ⟨RX2, "remember", "(LBridgedPachisi$Game;)V"⟩
abbrev cX2_takeBack : ByteArray := prog_4_method_3_code
def yX2_takeBack : MethodName := ⟨RX2, "takeBack", "(LBridgedPachisi$Game;)Z"⟩
def RX3 : String := "BridgedPachisi$Pad"
def TX3 : u_T := fun k => match k with
  | 0 => ("BridgedPachisi$Pad", "text", "[C", true)
  | _ => ("BridgedPachisi$Pad", "length", "I", false)
def tyX3 : Nat → FieldType := fun k => match k with
  | 0 => .array .char
  | _ => .int
abbrev wsX30 : List Cond := u_ws RX3 TX3 2
theorem nmX3 : ∀ a, a < 2 → ∀ b, b < 2 → a ≠ b → (TX3 a).2.1 ≠ (TX3 b).2.1 := by decide +kernel
theorem tyX3_ok : ∀ k, k < 2 → parseFieldDescriptor (TX3 k).2.2.1 = some (tyX3 k) := by decide +kernel
abbrev cX3_init : ByteArray := prog_5_method_1_code
def yX3_init : MethodName := ⟨RX3, "<init>", "()V"⟩
def RX4 : String := "BridgedPachisi$Route"
def TX4 : u_T := fun k => match k with
  | _ => ("BridgedPachisi$Route", "needed", "[I", true)
def tyX4 : Nat → FieldType := fun k => match k with
  | _ => .array .int
abbrev wsX40 : List Cond := u_ws RX4 TX4 1
theorem nmX4 : ∀ a, a < 1 → ∀ b, b < 1 → a ≠ b → (TX4 a).2.1 ≠ (TX4 b).2.1 := by decide +kernel
theorem tyX4_ok : ∀ k, k < 1 → parseFieldDescriptor (TX4 k).2.2.1 = some (tyX4 k) := by decide +kernel
abbrev cX4_init : ByteArray := prog_6_method_1_code
def yX4_init : MethodName := ⟨RX4, "<init>", "()V"⟩
abbrev cX4_fromHomeOn : ByteArray := prog_6_method_2_code
def yX4_fromHomeOn : MethodName := ⟨RX4, "fromHomeOn", "(LBridgedPachisi$Board;II)I"⟩
abbrev cX4_goingWide : ByteArray := prog_6_method_3_code
def yX4_goingWide : MethodName := ⟨RX4, "goingWide", "(LBridgedPachisi$Board;II)I"⟩
abbrev cX4_widen : ByteArray := prog_6_method_4_code
def yX4_widen : MethodName := ⟨RX4, "widen", "(LBridgedPachisi$Board;II)V"⟩
def RX5 : String := "BridgedPachisi"
def TX5 : u_T := fun k => match k with
  | 0 => ("BridgedPachisi", "game", "LBridgedPachisi$Game;", true)
  | 1 => ("BridgedPachisi", "trial", "LBridgedPachisi$Game;", true)
  | 2 => ("BridgedPachisi", "route", "LBridgedPachisi$Route;", true)
  | 3 => ("BridgedPachisi", "pad", "LBridgedPachisi$Pad;", true)
  | 4 => ("BridgedPachisi", "history", "LBridgedPachisi$History;", true)
  | _ => ("BridgedPachisi", "slots", "[LBridgedPachisi$Game;", true)
def tyX5 : Nat → FieldType := fun k => match k with
  | 0 => .object "BridgedPachisi$Game"
  | 1 => .object "BridgedPachisi$Game"
  | 2 => .object "BridgedPachisi$Route"
  | 3 => .object "BridgedPachisi$Pad"
  | 4 => .object "BridgedPachisi$History"
  | _ => .array (.object "BridgedPachisi$Game")
abbrev wsX50 : List Cond := u_ws RX5 TX5 6
theorem nmX5 : ∀ a, a < 6 → ∀ b, b < 6 → a ≠ b → (TX5 a).2.1 ≠ (TX5 b).2.1 := by decide +kernel
theorem tyX5_ok : ∀ k, k < 6 → parseFieldDescriptor (TX5 k).2.2.1 = some (tyX5 k) := by decide +kernel
abbrev cX5_init : ByteArray := prog_1_method_1_code
def yX5_init : MethodName := ⟨RX5, "<init>", "()V"⟩
abbrev cX5_set : ByteArray := prog_1_method_2_code
def yX5_set : MethodName := ⟨RX5, "set", "(II)I"⟩
abbrev cX5_seed : ByteArray := prog_1_method_3_code
def yX5_seed : MethodName := ⟨RX5, "seed", "(I)I"⟩
abbrev cX5_cast : ByteArray := prog_1_method_4_code
def yX5_cast : MethodName := ⟨RX5, "cast", "()I"⟩
abbrev cX5_move : ByteArray := prog_1_method_5_code
def yX5_move : MethodName := ⟨RX5, "move", "(I)I"⟩
abbrev cX5_skip : ByteArray := prog_1_method_6_code
def yX5_skip : MethodName := ⟨RX5, "skip", "()I"⟩
abbrev cX5_play : ByteArray := prog_1_method_7_code
def yX5_play : MethodName := ⟨RX5, "play", "(I)I"⟩
abbrev cX5_lay : ByteArray := prog_1_method_9_code
def yX5_lay : MethodName := ⟨RX5, "lay", "(II)I"⟩
abbrev cX5_piece : ByteArray := prog_1_method_10_code
def yX5_piece : MethodName := ⟨RX5, "piece", "(II)I"⟩
abbrev cX5_field : ByteArray := prog_1_method_11_code
def yX5_field : MethodName := ⟨RX5, "field", "(II)I"⟩
abbrev cX5_why : ByteArray := prog_1_method_12_code
def yX5_why : MethodName := ⟨RX5, "why", "(II)I"⟩
abbrev cX5_count : ByteArray := prog_1_method_13_code
def yX5_count : MethodName := ⟨RX5, "count", "(I)I"⟩
abbrev cX5_best : ByteArray := prog_1_method_14_code
def yX5_best : MethodName := ⟨RX5, "best", "()I"⟩
abbrev cX5_needs : ByteArray := prog_1_method_15_code
def yX5_needs : MethodName := ⟨RX5, "needs", "(II)I"⟩
abbrev cX5_nextCast : ByteArray := prog_1_method_16_code
def yX5_nextCast : MethodName := ⟨RX5, "nextCast", "(I)I"⟩
abbrev cX5_untilOver : ByteArray := prog_1_method_17_code
def yX5_untilOver : MethodName := ⟨RX5, "untilOver", "()I"⟩
abbrev cX5_undo : ByteArray := prog_1_method_21_code
def yX5_undo : MethodName := ⟨RX5, "undo", "()I"⟩
abbrev cX5_restore : ByteArray := prog_1_method_23_code
def yX5_restore : MethodName := ⟨RX5, "restore", "(I)I"⟩
abbrev cX5_isNoPiece : ByteArray := prog_1_method_24_code
def yX5_isNoPiece : MethodName := ⟨RX5, "isNoPiece", "(I)Z"⟩
abbrev cX5_isOnRing : ByteArray := prog_1_method_25_code
def yX5_isOnRing : MethodName := ⟨RX5, "isOnRing", "(I)Z"⟩
abbrev cX5_isSafe : ByteArray := prog_1_method_26_code
def yX5_isSafe : MethodName := ⟨RX5, "isSafe", "(I)Z"⟩
abbrev cX5_bridgeOn : ByteArray := prog_1_method_27_code
def yX5_bridgeOn : MethodName := ⟨RX5, "bridgeOn", "(I)I"⟩
abbrev cX5_ringField : ByteArray := prog_1_method_28_code
def yX5_ringField : MethodName := ⟨RX5, "ringField", "(II)I"⟩
abbrev cX5_nextX : ByteArray := prog_1_method_29_code
def yX5_nextX : MethodName := ⟨RX5, "nextX", "(I)I"⟩
abbrev cX5_castOf : ByteArray := prog_1_method_30_code
def yX5_castOf : MethodName := ⟨RX5, "castOf", "(I)I"⟩
def RX6 : String := "BridgedPachisiModel"
def TX6 : u_T := fun k => match k with
  | _ => ("", "", "", false)
def tyX6 : Nat → FieldType := fun k => match k with
  | _ => .int
abbrev wsX60 : List Cond := u_ws RX6 TX6 0
theorem nmX6 : ∀ a, a < 0 → ∀ b, b < 0 → a ≠ b → (TX6 a).2.1 ≠ (TX6 b).2.1 := by decide +kernel
theorem tyX6_ok : ∀ k, k < 0 → parseFieldDescriptor (TX6 k).2.2.1 = some (tyX6 k) := by decide +kernel
def RJ9 : String := "java/lang/Math"
def TJ9 : u_T := fun k => match k with
  | _ => ("", "", "", false)
def tyJ9 : Nat → FieldType := fun k => match k with
  | _ => .int
abbrev wsJ90 : List Cond := u_ws RJ9 TJ9 0
theorem nmJ9 : ∀ a, a < 0 → ∀ b, b < 0 → a ≠ b → (TJ9 a).2.1 ≠ (TJ9 b).2.1 := by decide +kernel
theorem tyJ9_ok : ∀ k, k < 0 → parseFieldDescriptor (TJ9 k).2.2.1 = some (tyJ9 k) := by decide +kernel
abbrev cJ9_max_7cf53 : ByteArray := prog_9_method_65_code
def yJ9_max_7cf53 : MethodName := ⟨RJ9, "max", "(II)I"⟩
abbrev cJ9_min_7cf53 : ByteArray := prog_9_method_69_code
def yJ9_min_7cf53 : MethodName := ⟨RJ9, "min", "(II)I"⟩
def RJ10 : String := "java/lang/System"
def TJ10 : u_T := fun k => match k with
  | _ => ("", "", "", false)
def tyJ10 : Nat → FieldType := fun k => match k with
  | _ => .int
abbrev wsJ100 : List Cond := u_ws RJ10 TJ10 0
theorem nmJ10 : ∀ a, a < 0 → ∀ b, b < 0 → a ≠ b → (TJ10 a).2.1 ≠ (TJ10 b).2.1 := by decide +kernel
theorem tyJ10_ok : ∀ k, k < 0 → parseFieldDescriptor (TJ10 k).2.2.1 = some (tyJ10 k) := by decide +kernel
def RL : String := "BridgedPachisiLaw"
abbrev cL_cell : ByteArray := method_2_code
def yL_cell : MethodName := ⟨RL, "cell", "([II)I"⟩
abbrev cL_low : ByteArray := method_3_code
def yL_low : MethodName := ⟨RL, "low", "(II)I"⟩
abbrev cL_field : ByteArray := method_4_code
def yL_field : MethodName := ⟨RL, "field", "(II)I"⟩
abbrev cL_on : ByteArray := method_5_code
def yL_on : MethodName := ⟨RL, "on", "([III)I"⟩
abbrev cL_all : ByteArray := method_6_code
def yL_all : MethodName := ⟨RL, "all", "([II)I"⟩
abbrev cL_draw : ByteArray := method_7_code
def yL_draw : MethodName := ⟨RL, "draw", "([I)I"⟩
abbrev cL_leads : ByteArray := method_8_code
def yL_leads : MethodName := ⟨RL, "leads", "([IIII)I"⟩
abbrev cL_why : ByteArray := method_9_code
def yL_why : MethodName := ⟨RL, "why", "([I[I[III)I"⟩
abbrev cL_bridges : ByteArray := method_10_code
def yL_bridges : MethodName := ⟨RL, "bridges", "([I[I[I)V"⟩
abbrev cL_winner : ByteArray := method_11_code
def yL_winner : MethodName := ⟨RL, "winner", "([I)I"⟩
abbrev cL_go : ByteArray := method_12_code
def yL_go : MethodName := ⟨RL, "go", "([I[I[I[III)V"⟩
abbrev cL_ends : ByteArray := method_13_code
def yL_ends : MethodName := ⟨RL, "ends", "([I[I[I)V"⟩
abbrev cL_best : ByteArray := method_14_code
def yL_best : MethodName := ⟨RL, "best", "([I[I[I)I"⟩
abbrev cL_plays : ByteArray := method_15_code
def yL_plays : MethodName := ⟨RL, "plays", "([I[I[I[I)V"⟩
abbrev cL_needs : ByteArray := method_16_code
def yL_needs : MethodName := ⟨RL, "needs", "([I[II)I"⟩
abbrev cL_copy : ByteArray := method_17_code
def yL_copy : MethodName := ⟨RL, "copy", "([I[I)V"⟩
abbrev cL_isBoard : ByteArray := method_18_code
def yL_isBoard : MethodName := ⟨RL, "isBoard", "(LBridgedPachisi;[I[I[I[I)Z"⟩
abbrev cL_isAhead : ByteArray := method_19_code
def yL_isAhead : MethodName := ⟨RL, "isAhead", "(LBridgedPachisi;I[I[I[I[I)Z"⟩
abbrev cL_lays : ByteArray := method_20_code
def yL_lays : MethodName := ⟨RL, "lays", "(LBridgedPachisi;I[I[I[I)Z"⟩
abbrev cL_act : ByteArray := method_21_code
def yL_act : MethodName := ⟨RL, "act", "(LBridgedPachisi;II[I[I[I[I)Z"⟩
abbrev cL_law : ByteArray := code
def yL_law : MethodName := ⟨RL, "law", "([I)Z"⟩
def wsL_law_r1 : List Cond := [Cond.classLink RL 33 RX5, Cond.instantiable RX5 6, Cond.initialized RX5, Cond.arrayClass .int, Cond.methodLink RL 122 yX5_init, Cond.instanceMethod yX5_init, Cond.code yX5_init cX5_init 1 none, Cond.methodLink RX5 3 objectInit, Cond.instanceMethod objectInit, Cond.code objectInit ⟨#[0xb1]⟩ 1 none, Cond.classLink RX5 9 RX1, Cond.instantiable RX1 7, Cond.initialized RX1, Cond.fieldLink RX5 12 "BridgedPachisi" "game" "LBridgedPachisi$Game;", Cond.fieldLink RX5 16 "BridgedPachisi" "trial" "LBridgedPachisi$Game;", Cond.classLink RX5 19 RX4, Cond.instantiable RX4 1, Cond.initialized RX4, Cond.fieldLink RX5 22 "BridgedPachisi" "route" "LBridgedPachisi$Route;", Cond.classLink RX5 26 RX3, Cond.instantiable RX3 2, Cond.initialized RX3, Cond.fieldLink RX5 29 "BridgedPachisi" "pad" "LBridgedPachisi$Pad;", Cond.classLink RX5 33 RX2]
def wsL_law_r2 : List Cond := [Cond.instantiable RX2 3, Cond.initialized RX2, Cond.fieldLink RX5 36 "BridgedPachisi" "history" "LBridgedPachisi$History;", Cond.fieldLink RX5 40 "BridgedPachisi" "slots" "[LBridgedPachisi$Game;", Cond.instanceMethod yX1_init, Cond.code yX1_init cX1_init 1 none, Cond.methodLink RX1 3 objectInit, Cond.classLink RX1 9 RX0, Cond.instantiable RX0 5, Cond.initialized RX0, Cond.fieldLink RX1 12 "BridgedPachisi$Game" "board" "LBridgedPachisi$Board;", Cond.fieldLink RX1 18 "BridgedPachisi$Game" "settings" "[I", Cond.fieldLink RX1 22 "BridgedPachisi$Game" "x" "I", Cond.fieldLink RX1 26 "BridgedPachisi$Game" "player" "I", Cond.fieldLink RX1 29 "BridgedPachisi$Game" "thrown" "I", Cond.fieldLink RX1 32 "BridgedPachisi$Game" "turns" "I", Cond.fieldLink RX1 35 "BridgedPachisi$Game" "casts" "I", Cond.methodLink RX1 41 arraycopyName, Cond.native arraycopyName, Cond.static arraycopyName, Cond.initialized "java/lang/System", Cond.instanceMethod yX0_init, Cond.code yX0_init cX0_init 2 none, Cond.methodLink RX0 3 objectInit]
def wsL_law_r3 : List Cond := [Cond.fieldLink RX0 9 "BridgedPachisi$Board" "progress" "[I", Cond.fieldLink RX0 15 "BridgedPachisi$Board" "sentBack" "[I", Cond.fieldLink RX0 18 "BridgedPachisi$Board" "bridges" "[I", Cond.fieldLink RX0 21 "BridgedPachisi$Board" "fellIn" "[I", Cond.fieldLink RX0 24 "BridgedPachisi$Board" "falls" "I", Cond.instanceMethod yX4_init, Cond.code yX4_init cX4_init 1 none, Cond.methodLink RX4 3 objectInit, Cond.fieldLink RX4 9 "BridgedPachisi$Route" "needed" "[I", Cond.instanceMethod yX3_init, Cond.code yX3_init cX3_init 1 none, Cond.methodLink RX3 3 objectInit, Cond.arrayClass .char, Cond.fieldLink RX3 9 "BridgedPachisi$Pad" "text" "[C", Cond.fieldLink RX3 15 "BridgedPachisi$Pad" "length" "I", Cond.instanceMethod yX2_init, Cond.code yX2_init cX2_init 1 none, Cond.methodLink RX2 3 objectInit, Cond.classLink RX2 9 RX1, Cond.fieldLink RX2 11 "BridgedPachisi$History" "states" "[LBridgedPachisi$Game;", Cond.fieldLink RX2 17 "BridgedPachisi$History" "next" "I", Cond.fieldLink RX2 21 "BridgedPachisi$History" "size" "I", Cond.methodLink RL 123 yL_isBoard, Cond.static yL_isBoard]
def wsL_law_r4 : List Cond := [Cond.initialized RL, Cond.code yL_isBoard cL_isBoard 12 (some .boolean), Cond.methodLink RL 9 yL_field, Cond.static yL_field, Cond.code yL_field cL_field 2 (some .int), Cond.methodLink RL 61 yX5_piece, Cond.instanceMethod yX5_piece, Cond.selects RX5 yX5_piece yX5_piece, Cond.code yX5_piece cX5_piece 3 (some .int), Cond.methodLink RX5 116 yX5_isNoPiece, Cond.static yX5_isNoPiece, Cond.code yX5_isNoPiece cX5_isNoPiece 1 (some .boolean), Cond.instanceMethod yX0_fieldOf, Cond.selects RX0 yX0_fieldOf yX0_fieldOf, Cond.code yX0_fieldOf cX0_fieldOf 2 (some .int), Cond.static yX5_ringField, Cond.code yX5_ringField cX5_ringField 2 (some .int), Cond.instanceMethod yX0_isInPair, Cond.selects RX0 yX0_isInPair yX0_isInPair, Cond.code yX0_isInPair cX0_isInPair 2 (some .boolean), Cond.static yX5_isOnRing, Cond.code yX5_isOnRing cX5_isOnRing 1 (some .boolean), Cond.methodLink RX0 42 yX0_matesAt, Cond.instanceMethod yX0_matesAt]
def wsL_law_r5 : List Cond := [Cond.selects RX0 yX0_matesAt yX0_matesAt, Cond.code yX0_matesAt cX0_matesAt 6 (some .int), Cond.methodLink RL 15 yL_on, Cond.static yL_on, Cond.code yL_on cL_on 5 (some .int), Cond.methodLink RL 64 yX5_field, Cond.instanceMethod yX5_field, Cond.selects RX5 yX5_field yX5_field, Cond.code yX5_field cX5_field 3 (some .int), Cond.instanceMethod yX0_piecesOn, Cond.selects RX0 yX0_piecesOn yX0_piecesOn, Cond.code yX0_piecesOn cX0_piecesOn 4 (some .int), Cond.instanceMethod yX0_lowestOn, Cond.selects RX0 yX0_lowestOn yX0_lowestOn, Cond.code yX0_lowestOn cX0_lowestOn 3 (some .int), Cond.methodLink RX5 153 yX5_isSafe, Cond.static yX5_isSafe, Cond.code yX5_isSafe cX5_isSafe 1 (some .boolean), Cond.instanceMethod yX0_bridgeState, Cond.selects RX0 yX0_bridgeState yX0_bridgeState, Cond.code yX0_bridgeState cX0_bridgeState 3 (some .int), Cond.static yX5_bridgeOn, Cond.code yX5_bridgeOn cX5_bridgeOn 1 (some .int), Cond.instanceMethod yX1_turnsUntilMended]
def wsL_law_r6 : List Cond := [Cond.selects RX1 yX1_turnsUntilMended yX1_turnsUntilMended, Cond.code yX1_turnsUntilMended cX1_turnsUntilMended 3 (some .int), Cond.methodLink RX1 146 Lib.Math.max.name, Cond.static Lib.Math.max.name, Cond.initialized "java/lang/Math", Cond.code Lib.Math.max.name Lib.Math.max.code 2 (some .int), Cond.methodLink RL 29 yL_all, Cond.static yL_all, Cond.code yL_all cL_all 2 (some .int), Cond.methodLink RL 65 yX5_count, Cond.instanceMethod yX5_count, Cond.selects RX5 yX5_count yX5_count, Cond.code yX5_count cX5_count 2 (some .int), Cond.instanceMethod yX0_winner, Cond.selects RX0 yX0_winner yX0_winner, Cond.code yX0_winner cX0_winner 2 (some .int), Cond.methodLink RX0 55 yX0_homeOf, Cond.instanceMethod yX0_homeOf, Cond.selects RX0 yX0_homeOf yX0_homeOf, Cond.code yX0_homeOf cX0_homeOf 4 (some .int), Cond.instanceMethod yX0_sentBackInAll, Cond.selects RX0 yX0_sentBackInAll yX0_sentBackInAll, Cond.code yX0_sentBackInAll cX0_sentBackInAll 3 (some .int), Cond.instanceMethod yX0_fallenSet]
def wsL_law_r7 : List Cond := [Cond.selects RX0 yX0_fallenSet yX0_fallenSet, Cond.code yX0_fallenSet cX0_fallenSet 3 (some .int), Cond.methodLink RL 39 yL_winner, Cond.static yL_winner, Cond.code yL_winner cL_winner 2 (some .int), Cond.methodLink RL 69 yX5_best, Cond.instanceMethod yX5_best, Cond.selects RX5 yX5_best yX5_best, Cond.code yX5_best cX5_best 2 (some .int), Cond.instanceMethod yX1_hasThrow, Cond.selects RX1 yX1_hasThrow yX1_hasThrow, Cond.code yX1_hasThrow cX1_hasThrow 1 (some .boolean), Cond.instanceMethod yX1_bestPiece, Cond.selects RX1 yX1_bestPiece yX1_bestPiece, Cond.code yX1_bestPiece cX1_bestPiece 5 (some .int), Cond.methodLink RX1 81 yX1_reason, Cond.instanceMethod yX1_reason, Cond.selects RX1 yX1_reason yX1_reason, Cond.code yX1_reason cX1_reason 6 (some .int), Cond.instanceMethod yX0_target, Cond.selects RX0 yX0_target yX0_target, Cond.code yX0_target cX0_target 6 (some .int), Cond.methodLink RX0 52 yX0_isFallenAt, Cond.instanceMethod yX0_isFallenAt]
def wsL_law_r8 : List Cond := [Cond.selects RX0 yX0_isFallenAt yX0_isFallenAt, Cond.code yX0_isFallenAt cX0_isFallenAt 4 (some .boolean), Cond.instanceMethod yX0_isBlockedOnWay, Cond.selects RX0 yX0_isBlockedOnWay yX0_isBlockedOnWay, Cond.code yX0_isBlockedOnWay cX0_isBlockedOnWay 6 (some .boolean), Cond.methodLink RX0 45 yX0_rivalsAt, Cond.instanceMethod yX0_rivalsAt, Cond.selects RX0 yX0_rivalsAt yX0_rivalsAt, Cond.code yX0_rivalsAt cX0_rivalsAt 6 (some .int), Cond.instanceMethod yX0_isFullFor, Cond.selects RX0 yX0_isFullFor yX0_isFullFor, Cond.code yX0_isFullFor cX0_isFullFor 3 (some .boolean), Cond.methodLink RX1 84 yX1_worthOfMove, Cond.instanceMethod yX1_worthOfMove, Cond.selects RX1 yX1_worthOfMove yX1_worthOfMove, Cond.code yX1_worthOfMove cX1_worthOfMove 5 (some .int), Cond.methodLink RL 50 yL_best, Cond.static yL_best, Cond.code yL_best cL_best 11 (some .int), Cond.methodLink RL 43 yL_why, Cond.static yL_why, Cond.code yL_why cL_why 10 (some .int), Cond.methodLink RL 25 yL_leads, Cond.static yL_leads]
def wsL_law_r9 : List Cond := [Cond.code yL_leads cL_leads 7 (some .int), Cond.methodLink RL 127 yL_isAhead, Cond.static yL_isAhead, Cond.code yL_isAhead cL_isAhead 14 (some .boolean), Cond.methodLink RL 72 yL_low, Cond.static yL_low, Cond.code yL_low cL_low 2 (some .int), Cond.constant RL 8 (2147483647), Cond.methodLink RL 75 yL_needs, Cond.static yL_needs, Cond.code yL_needs cL_needs 11 (some .int), Cond.methodLink RL 79 yX5_why, Cond.instanceMethod yX5_why, Cond.selects RX5 yX5_why yX5_why, Cond.code yX5_why cX5_why 3 (some .int), Cond.methodLink RL 81 yX5_needs, Cond.instanceMethod yX5_needs, Cond.selects RX5 yX5_needs yX5_needs, Cond.code yX5_needs cX5_needs 7 (some .int), Cond.instanceMethod yX4_fromHomeOn, Cond.selects RX4 yX4_fromHomeOn yX4_fromHomeOn, Cond.code yX4_fromHomeOn cX4_fromHomeOn 8 (some .int), Cond.methodLink RX4 21 Lib.Math.min.name, Cond.static Lib.Math.min.name]
def wsL_law_r10 : List Cond := [Cond.code Lib.Math.min.name Lib.Math.min.code 2 (some .int), Cond.instanceMethod yX4_goingWide, Cond.selects RX4 yX4_goingWide yX4_goingWide, Cond.code yX4_goingWide cX4_goingWide 5 (some .int), Cond.methodLink RX4 27 yX4_widen, Cond.instanceMethod yX4_widen, Cond.selects RX4 yX4_widen yX4_widen, Cond.code yX4_widen cX4_widen 7 none, Cond.methodLink RL 83 yL_copy, Cond.static yL_copy, Cond.code yL_copy cL_copy 3 none, Cond.methodLink RL 47 yL_draw, Cond.static yL_draw, Cond.code yL_draw cL_draw 1 (some .int), Cond.constantLong RL 19 (1103515245), Cond.constantLong RL 21 (12345), Cond.constantLong RL 23 (2147483647), Cond.methodLink RL 87 yX5_nextCast, Cond.instanceMethod yX5_nextCast, Cond.selects RX5 yX5_nextCast yX5_nextCast, Cond.code yX5_nextCast cX5_nextCast 4 (some .int), Cond.methodLink RX5 193 yX5_nextX, Cond.static yX5_nextX, Cond.code yX5_nextX cX5_nextX 1 (some .int)]
def wsL_law_r11 : List Cond := [Cond.constantLong RX5 214 (1103515245), Cond.constantLong RX5 216 (12345), Cond.constantLong RX5 218 (2147483648), Cond.methodLink RX5 196 yX5_castOf, Cond.static yX5_castOf, Cond.code yX5_castOf cX5_castOf 1 (some .int), Cond.constant RX5 220 (65536), Cond.methodLink RL 90 yL_plays, Cond.static yL_plays, Cond.code yL_plays cL_plays 5 none, Cond.methodLink RL 54 yL_go, Cond.static yL_go, Cond.code yL_go cL_go 8 none, Cond.methodLink RL 35 yL_bridges, Cond.static yL_bridges, Cond.code yL_bridges cL_bridges 6 none, Cond.methodLink RL 58 yL_ends, Cond.static yL_ends, Cond.code yL_ends cL_ends 5 none, Cond.methodLink RL 94 yX5_untilOver, Cond.instanceMethod yX5_untilOver, Cond.selects RX5 yX5_untilOver yX5_untilOver, Cond.code yX5_untilOver cX5_untilOver 2 (some .int), Cond.instanceMethod yX1_copyFrom]
def wsL_law_r12 : List Cond := [Cond.selects RX1 yX1_copyFrom yX1_copyFrom, Cond.code yX1_copyFrom cX1_copyFrom 2 none, Cond.instanceMethod yX0_copyFrom, Cond.selects RX0 yX0_copyFrom yX0_copyFrom, Cond.code yX0_copyFrom cX0_copyFrom 2 none, Cond.methodLink RX0 28 arraycopyName, Cond.instanceMethod yX1_playOn, Cond.selects RX1 yX1_playOn yX1_playOn, Cond.code yX1_playOn cX1_playOn 4 (some .int), Cond.methodLink RX1 115 yX1_isOver, Cond.instanceMethod yX1_isOver, Cond.selects RX1 yX1_isOver yX1_isOver, Cond.code yX1_isOver cX1_isOver 1 (some .boolean), Cond.methodLink RX1 125 yX1_throwByX, Cond.instanceMethod yX1_throwByX, Cond.selects RX1 yX1_throwByX yX1_throwByX, Cond.code yX1_throwByX cX1_throwByX 1 none, Cond.methodLink RX1 100 yX1_takeThrow, Cond.instanceMethod yX1_takeThrow, Cond.selects RX1 yX1_takeThrow yX1_takeThrow, Cond.code yX1_takeThrow cX1_takeThrow 2 none, Cond.methodLink RX1 128 yX1_bestPiece, Cond.methodLink RX1 112 yX1_endThrow, Cond.instanceMethod yX1_endThrow]
def wsL_law_r13 : List Cond := [Cond.selects RX1 yX1_endThrow yX1_endThrow, Cond.code yX1_endThrow cX1_endThrow 2 none, Cond.methodLink RX1 119 yX1_beginTurn, Cond.instanceMethod yX1_beginTurn, Cond.selects RX1 yX1_beginTurn yX1_beginTurn, Cond.code yX1_beginTurn cX1_beginTurn 1 none, Cond.instanceMethod yX0_mend, Cond.selects RX0 yX0_mend yX0_mend, Cond.code yX0_mend cX0_mend 4 none, Cond.methodLink RX1 131 yX1_moveByThrow, Cond.instanceMethod yX1_moveByThrow, Cond.selects RX1 yX1_moveByThrow yX1_moveByThrow, Cond.code yX1_moveByThrow cX1_moveByThrow 3 (some .int), Cond.instanceMethod yX0_sendRivalsBack, Cond.selects RX0 yX0_sendRivalsBack yX0_sendRivalsBack, Cond.code yX0_sendRivalsBack cX0_sendRivalsBack 5 none, Cond.instanceMethod yX0_place, Cond.selects RX0 yX0_place yX0_place, Cond.code yX0_place cX0_place 4 none, Cond.methodLink RX0 62 yX0_strainAndFall, Cond.instanceMethod yX0_strainAndFall, Cond.selects RX0 yX0_strainAndFall yX0_strainAndFall, Cond.code yX0_strainAndFall cX0_strainAndFall 4 none, Cond.methodLink RX0 66 yX0_piecesOn]
def wsL_law_r14 : List Cond := [Cond.methodLink RL 131 yX5_undo, Cond.instanceMethod yX5_undo, Cond.selects RX5 yX5_undo yX5_undo, Cond.code yX5_undo cX5_undo 1 (some .int), Cond.instanceMethod yX2_takeBack, Cond.selects RX2 yX2_takeBack yX2_takeBack, Cond.code yX2_takeBack cX2_takeBack 4 (some .boolean), Cond.methodLink RL 134 yX5_restore, Cond.instanceMethod yX5_restore, Cond.selects RX5 yX5_restore yX5_restore, Cond.code yX5_restore cX5_restore 3 (some .int), Cond.instanceMethod yX2_remember, Cond.selects RX2 yX2_remember yX2_remember, Cond.code yX2_remember cX2_remember 3 none, Cond.methodLink RX2 29 Lib.Math.min.name, Cond.methodLink RL 137 yL_cell, Cond.static yL_cell, Cond.code yL_cell cL_cell 2 (some .int), Cond.constant RL 7 (659060556), Cond.methodLink RL 140 yL_act, Cond.static yL_act, Cond.code yL_act cL_act 13 (some .boolean), Cond.methodLink RL 100 yL_lays, Cond.static yL_lays]
def wsL_law_r15 : List Cond := [Cond.code yL_lays cL_lays 12 (some .boolean), Cond.methodLink RL 97 yX5_lay, Cond.instanceMethod yX5_lay, Cond.selects RX5 yX5_lay yX5_lay, Cond.code yX5_lay cX5_lay 4 (some .int), Cond.instanceMethod yX0_hasRoomFor, Cond.selects RX0 yX0_hasRoomFor yX0_hasRoomFor, Cond.code yX0_hasRoomFor cX0_hasRoomFor 4 (some .boolean), Cond.methodLink RX0 48 yX0_isFullFor, Cond.methodLink RL 104 yX5_set, Cond.instanceMethod yX5_set, Cond.selects RX5 yX5_set yX5_set, Cond.code yX5_set cX5_set 4 (some .int), Cond.fieldLink RX5 44 "BridgedPachisi" "LEAST_VALUE" "[I", Cond.fieldLink RX5 48 "BridgedPachisi" "GREATEST_VALUE" "[I", Cond.methodLink RL 107 yX5_seed, Cond.instanceMethod yX5_seed, Cond.selects RX5 yX5_seed yX5_seed, Cond.code yX5_seed cX5_seed 3 (some .int), Cond.methodLink RL 110 yX5_play, Cond.instanceMethod yX5_play, Cond.selects RX5 yX5_play yX5_play, Cond.code yX5_play cX5_play 2 (some .int), Cond.methodLink RL 113 yX5_cast]
def wsL_law_r16 : List Cond := [Cond.instanceMethod yX5_cast, Cond.selects RX5 yX5_cast yX5_cast, Cond.code yX5_cast cX5_cast 1 (some .int), Cond.methodLink RL 116 yX5_move, Cond.instanceMethod yX5_move, Cond.selects RX5 yX5_move yX5_move, Cond.code yX5_move cX5_move 3 (some .int), Cond.methodLink RL 119 yX5_skip, Cond.instanceMethod yX5_skip, Cond.selects RX5 yX5_skip yX5_skip, Cond.code yX5_skip cX5_skip 1 (some .int), Cond.instanceMethod yX1_canMoveBy, Cond.selects RX1 yX1_canMoveBy yX1_canMoveBy, Cond.code yX1_canMoveBy cX1_canMoveBy 3 (some .boolean)]
def wsL_law : List Cond := (wsL_law_r1 ++ (wsL_law_r2 ++ (wsL_law_r3 ++ (wsL_law_r4 ++ (wsL_law_r5 ++ (wsL_law_r6 ++ (wsL_law_r7 ++ (wsL_law_r8 ++ (wsL_law_r9 ++ (wsL_law_r10 ++ (wsL_law_r11 ++ (wsL_law_r12 ++ (wsL_law_r13 ++ (wsL_law_r14 ++ (wsL_law_r15 ++ wsL_law_r16))))))))))))))) ++ wsX50 ++ wsX10 ++ wsX40 ++ wsX30 ++ wsX20 ++ wsX00 ++ ([] : List Cond)
set_option maxRecDepth 20000 in
theorem wsL_law_r1_in : GoodIn lw_tbl wsL_law_r1 := goodIn_r _ [49, 50, 41, 91, 51, 52, 53, 54, 55, 56, 57, 58, 42, 170, 171, 126, 127, 45, 172, 136, 137, 46, 173, 151] (by decide +kernel) (by decide +kernel)
set_option maxRecDepth 20000 in
theorem wsL_law_r2_in : GoodIn lw_tbl wsL_law_r2 := goodIn_r _ [152, 47, 174, 175, 60, 61, 62, 63, 64, 43, 97, 99, 101, 103, 105, 107, 109, 94, 96, 95, 44, 66, 67, 68] (by decide +kernel) (by decide +kernel)
set_option maxRecDepth 20000 in
theorem wsL_law_r3_in : GoodIn lw_tbl wsL_law_r3 := goodIn_r _ [69, 72, 74, 76, 78, 129, 130, 131, 132, 139, 140, 141, 150, 142, 143, 154, 155, 156, 157, 159, 160, 161, 348, 349] (by decide +kernel) (by decide +kernel)
set_option maxRecDepth 20000 in
theorem wsL_law_r4_p0 : GoodIn lw_tbl [Cond.initialized RL] := goodIn_r _ [40] (by decide +kernel) (by decide +kernel)
set_option maxRecDepth 20000 in
theorem wsL_law_r4_b1 : GoodIn lw_tbl [Cond.code yL_isBoard cL_isBoard 12 (some .boolean)] := goodIn_sub (fun w h => by rw [List.mem_singleton.mp h]; exact List.mem_of_getElem? (i := 350) rfl) (by decide +kernel)
set_option maxRecDepth 20000 in
theorem wsL_law_r4_p2 : GoodIn lw_tbl [Cond.methodLink RL 9 yL_field, Cond.static yL_field, Cond.code yL_field cL_field 2 (some .int), Cond.methodLink RL 61 yX5_piece, Cond.instanceMethod yX5_piece, Cond.selects RX5 yX5_piece yX5_piece, Cond.code yX5_piece cX5_piece 3 (some .int), Cond.methodLink RX5 116 yX5_isNoPiece, Cond.static yX5_isNoPiece, Cond.code yX5_isNoPiece cX5_isNoPiece 1 (some .boolean), Cond.instanceMethod yX0_fieldOf, Cond.selects RX0 yX0_fieldOf yX0_fieldOf, Cond.code yX0_fieldOf cX0_fieldOf 2 (some .int), Cond.static yX5_ringField, Cond.code yX5_ringField cX5_ringField 2 (some .int), Cond.instanceMethod yX0_isInPair, Cond.selects RX0 yX0_isInPair yX0_isInPair, Cond.code yX0_isInPair cX0_isInPair 2 (some .boolean), Cond.static yX5_isOnRing, Cond.code yX5_isOnRing cX5_isOnRing 1 (some .boolean), Cond.methodLink RX0 42 yX0_matesAt, Cond.instanceMethod yX0_matesAt] := goodIn_r _ [351, 352, 353, 189, 190, 191, 192, 193, 194, 195, 198, 0, 199, 201, 202, 205, 1, 206, 208, 209, 210, 212] (by decide +kernel) (by decide +kernel)
theorem wsL_law_r4_in : GoodIn lw_tbl wsL_law_r4 := (goodIn_app wsL_law_r4_p0 (goodIn_app wsL_law_r4_b1 wsL_law_r4_p2))
set_option maxRecDepth 20000 in
theorem wsL_law_r5_in : GoodIn lw_tbl wsL_law_r5 := goodIn_r _ [2, 213, 354, 355, 356, 214, 215, 216, 217, 220, 3, 221, 224, 4, 225, 226, 227, 228, 231, 5, 232, 234, 235, 238] (by decide +kernel) (by decide +kernel)
set_option maxRecDepth 20000 in
theorem wsL_law_r6_in : GoodIn lw_tbl wsL_law_r6 := goodIn_r _ [6, 239, 241, 242, 48, 243, 357, 358, 359, 275, 276, 277, 278, 281, 13, 282, 283, 285, 14, 286, 290, 15, 291, 294] (by decide +kernel) (by decide +kernel)
set_option maxRecDepth 20000 in
theorem wsL_law_r7_in : GoodIn lw_tbl wsL_law_r7 := goodIn_r _ [16, 295, 360, 361, 362, 363, 364, 365, 366, 369, 24, 370, 373, 25, 374, 375, 250, 7, 251, 254, 8, 255, 256, 258] (by decide +kernel) (by decide +kernel)
set_option maxRecDepth 20000 in
theorem wsL_law_r8_in : GoodIn lw_tbl wsL_law_r8 := goodIn_r _ [9, 259, 262, 10, 263, 264, 266, 11, 267, 270, 12, 271, 376, 378, 26, 379, 382, 383, 384, 385, 386, 387, 388, 389] (by decide +kernel) (by decide +kernel)
set_option maxRecDepth 20000 in
theorem wsL_law_r9_in : GoodIn lw_tbl wsL_law_r9 := goodIn_r _ [390, 391, 392, 393, 394, 395, 396, 397, 398, 399, 400, 244, 245, 246, 247, 296, 297, 298, 299, 302, 17, 303, 305, 306] (by decide +kernel) (by decide +kernel)
set_option maxRecDepth 20000 in
theorem wsL_law_r10_in : GoodIn lw_tbl wsL_law_r10 := goodIn_r _ [307, 310, 18, 311, 312, 314, 19, 315, 401, 402, 403, 404, 405, 406, 407, 408, 409, 410, 411, 412, 413, 414, 415, 416] (by decide +kernel) (by decide +kernel)
set_option maxRecDepth 20000 in
theorem wsL_law_r11_in : GoodIn lw_tbl wsL_law_r11 := goodIn_r _ [417, 418, 419, 420, 421, 422, 423, 424, 425, 426, 427, 428, 429, 430, 431, 432, 433, 434, 435, 436, 437, 438, 439, 326] (by decide +kernel) (by decide +kernel)
set_option maxRecDepth 20000 in
theorem wsL_law_r12_in : GoodIn lw_tbl wsL_law_r12 := goodIn_r _ [21, 327, 330, 22, 331, 332, 442, 27, 443, 444, 446, 28, 447, 449, 451, 29, 452, 455, 457, 30, 458, 459, 460, 462] (by decide +kernel) (by decide +kernel)
set_option maxRecDepth 20000 in
theorem wsL_law_r13_in : GoodIn lw_tbl wsL_law_r13 := goodIn_r _ [31, 463, 464, 466, 32, 467, 470, 33, 471, 472, 474, 34, 475, 478, 35, 479, 482, 36, 483, 484, 486, 37, 487, 488] (by decide +kernel) (by decide +kernel)
set_option maxRecDepth 20000 in
theorem wsL_law_r14_p0 : GoodIn lw_tbl [Cond.methodLink RL 131 yX5_undo, Cond.instanceMethod yX5_undo, Cond.selects RX5 yX5_undo yX5_undo, Cond.code yX5_undo cX5_undo 1 (some .int), Cond.instanceMethod yX2_takeBack, Cond.selects RX2 yX2_takeBack yX2_takeBack, Cond.code yX2_takeBack cX2_takeBack 4 (some .boolean), Cond.methodLink RL 134 yX5_restore, Cond.instanceMethod yX5_restore, Cond.selects RX5 yX5_restore yX5_restore, Cond.code yX5_restore cX5_restore 3 (some .int), Cond.instanceMethod yX2_remember, Cond.selects RX2 yX2_remember yX2_remember, Cond.code yX2_remember cX2_remember 3 none, Cond.methodLink RX2 29 Lib.Math.min.name, Cond.methodLink RL 137 yL_cell, Cond.static yL_cell, Cond.code yL_cell cL_cell 2 (some .int), Cond.constant RL 7 (659060556), Cond.methodLink RL 140 yL_act, Cond.static yL_act] := goodIn_r _ [316, 317, 318, 319, 322, 20, 323, 333, 334, 335, 336, 339, 23, 340, 342, 344, 345, 346, 347, 490, 491] (by decide +kernel) (by decide +kernel)
set_option maxRecDepth 20000 in
theorem wsL_law_r14_b21 : GoodIn lw_tbl [Cond.code yL_act cL_act 13 (some .boolean)] := goodIn_sub (fun w h => by rw [List.mem_singleton.mp h]; exact List.mem_of_getElem? (i := 492) rfl) (by decide +kernel)
set_option maxRecDepth 20000 in
theorem wsL_law_r14_p22 : GoodIn lw_tbl [Cond.methodLink RL 100 yL_lays, Cond.static yL_lays] := goodIn_r _ [493, 494] (by decide +kernel) (by decide +kernel)
theorem wsL_law_r14_in : GoodIn lw_tbl wsL_law_r14 := (goodIn_app wsL_law_r14_p0 (goodIn_app wsL_law_r14_b21 wsL_law_r14_p22))
set_option maxRecDepth 20000 in
theorem wsL_law_r15_in : GoodIn lw_tbl wsL_law_r15 := goodIn_r _ [495, 496, 497, 498, 499, 502, 38, 503, 504, 506, 507, 508, 509, 510, 512, 514, 515, 516, 517, 518, 519, 520, 521, 522] (by decide +kernel) (by decide +kernel)
set_option maxRecDepth 20000 in
theorem wsL_law_r16_in : GoodIn lw_tbl wsL_law_r16 := goodIn_r _ [523, 524, 525, 527, 528, 529, 530, 532, 533, 534, 535, 538, 39, 539] (by decide +kernel) (by decide +kernel)
set_option maxRecDepth 20000 in
theorem wsX50_in : GoodIn lw_tbl wsX50 := goodIn_p _ [] rfl (by decide +kernel)
set_option maxRecDepth 20000 in
theorem wsX10_in : GoodIn lw_tbl wsX10 := goodIn_p _ [] rfl (by decide +kernel)
set_option maxRecDepth 20000 in
theorem wsX40_in : GoodIn lw_tbl wsX40 := goodIn_p _ [] rfl (by decide +kernel)
set_option maxRecDepth 20000 in
theorem wsX30_in : GoodIn lw_tbl wsX30 := goodIn_p _ [] rfl (by decide +kernel)
set_option maxRecDepth 20000 in
theorem wsX20_in : GoodIn lw_tbl wsX20 := goodIn_p _ [] rfl (by decide +kernel)
set_option maxRecDepth 20000 in
theorem wsX00_in : GoodIn lw_tbl wsX00 := goodIn_p _ [] rfl (by decide +kernel)
theorem wsL_law_in : ∀ w ∈ wsL_law, w ∈ lw_tbl := fun w h => ((goodIn_app (goodIn_app (goodIn_app (goodIn_app (goodIn_app (goodIn_app (goodIn_app (goodIn_app wsL_law_r1_in (goodIn_app wsL_law_r2_in (goodIn_app wsL_law_r3_in (goodIn_app wsL_law_r4_in (goodIn_app wsL_law_r5_in (goodIn_app wsL_law_r6_in (goodIn_app wsL_law_r7_in (goodIn_app wsL_law_r8_in (goodIn_app wsL_law_r9_in (goodIn_app wsL_law_r10_in (goodIn_app wsL_law_r11_in (goodIn_app wsL_law_r12_in (goodIn_app wsL_law_r13_in (goodIn_app wsL_law_r14_in (goodIn_app wsL_law_r15_in wsL_law_r16_in))))))))))))))) wsX50_in) wsX10_in) wsX40_in) wsX30_in) wsX20_in) wsX00_in) (fun _ h => absurd h List.not_mem_nil)) w h).1
theorem inlX0 : ∀ w ∈ wsX00, w ∈ wsL_law := fun _ h => List.mem_append_left _ (List.mem_append_right _ h)
theorem inX0 : ∀ w ∈ wsX00, w ∈ lw_tbl := fun w h => wsL_law_in w (inlX0 w h)
theorem inlX1 : ∀ w ∈ wsX10, w ∈ wsL_law := fun _ h => List.mem_append_left _ (List.mem_append_left _ (List.mem_append_left _ (List.mem_append_left _ (List.mem_append_left _ (List.mem_append_right _ h)))))
theorem inX1 : ∀ w ∈ wsX10, w ∈ lw_tbl := fun w h => wsL_law_in w (inlX1 w h)
theorem inlX2 : ∀ w ∈ wsX20, w ∈ wsL_law := fun _ h => List.mem_append_left _ (List.mem_append_left _ (List.mem_append_right _ h))
theorem inX2 : ∀ w ∈ wsX20, w ∈ lw_tbl := fun w h => wsL_law_in w (inlX2 w h)
theorem inlX3 : ∀ w ∈ wsX30, w ∈ wsL_law := fun _ h => List.mem_append_left _ (List.mem_append_left _ (List.mem_append_left _ (List.mem_append_right _ h)))
theorem inX3 : ∀ w ∈ wsX30, w ∈ lw_tbl := fun w h => wsL_law_in w (inlX3 w h)
theorem inlX4 : ∀ w ∈ wsX40, w ∈ wsL_law := fun _ h => List.mem_append_left _ (List.mem_append_left _ (List.mem_append_left _ (List.mem_append_left _ (List.mem_append_right _ h))))
theorem inX4 : ∀ w ∈ wsX40, w ∈ lw_tbl := fun w h => wsL_law_in w (inlX4 w h)
theorem inlX5 : ∀ w ∈ wsX50, w ∈ wsL_law := fun _ h => List.mem_append_left _ (List.mem_append_left _ (List.mem_append_left _ (List.mem_append_left _ (List.mem_append_left _ (List.mem_append_left _ (List.mem_append_right _ h))))))
theorem inX5 : ∀ w ∈ wsX50, w ∈ lw_tbl := fun w h => wsL_law_in w (inlX5 w h)
theorem inX6 : ∀ w ∈ wsX60, w ∈ lw_tbl := by decide +kernel
theorem inJ9 : ∀ w ∈ wsJ90, w ∈ lw_tbl := by decide +kernel
theorem inJ10 : ∀ w ∈ wsJ100, w ∈ lw_tbl := by decide +kernel
abbrev vwCl : List vw_C := [(RX0, TX0, 5), (RX1, TX1, 7), (RX2, TX2, 3), (RX3, TX3, 2), (RX4, TX4, 1), (RX5, TX5, 6)]
end
