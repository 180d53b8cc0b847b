section
-- ===== PART A: goes FIRST, ahead of the names: the tables' words, and 'selects' of the private methods out of them =====
/-- a private method of a class that the tables say can be made, by its rows of tables_1 -/
def lw_okq (q : MethodName × Nat) : Prop := (q.1.cls ≠ "java/lang/invoke/MethodHandle" ∧ q.1.cls ≠ "java/lang/invoke/VarHandle") ∧ Cond.instantiable q.1.cls q.2 ∈ tables_1 ∧ Cond.privateMethod q.1 ∈ tables_1 ∧ Cond.instanceMethod q.1 ∈ tables_1
theorem lw_p0 : lw_okq (⟨"BridgedPachisi$History", "remember", "(LBridgedPachisi$Game;)V"⟩, 3) := ⟨⟨by decide +kernel, by decide +kernel⟩, List.mem_of_getElem? (i := 113) (by decide +kernel), List.mem_of_getElem? (i := 159) (by decide +kernel), List.mem_of_getElem? (i := 160) (by decide +kernel)⟩
theorem lw_p1 : lw_okq (⟨"BridgedPachisi$Game", "copyFrom", "(LBridgedPachisi$Game;)V"⟩, 7) := ⟨⟨by decide +kernel, by decide +kernel⟩, List.mem_of_getElem? (i := 19) (by decide +kernel), List.mem_of_getElem? (i := 164) (by decide +kernel), List.mem_of_getElem? (i := 165) (by decide +kernel)⟩
theorem lw_p2 : lw_okq (⟨"BridgedPachisi$Board", "copyFrom", "(LBridgedPachisi$Board;)V"⟩, 5) := ⟨⟨by decide +kernel, by decide +kernel⟩, List.mem_of_getElem? (i := 25) (by decide +kernel), List.mem_of_getElem? (i := 168) (by decide +kernel), List.mem_of_getElem? (i := 169) (by decide +kernel)⟩
theorem lw_p3 : lw_okq (⟨"BridgedPachisi$Game", "isOver", "()Z"⟩, 7) := ⟨⟨by decide +kernel, by decide +kernel⟩, List.mem_of_getElem? (i := 19) (by decide +kernel), List.mem_of_getElem? (i := 184) (by decide +kernel), List.mem_of_getElem? (i := 185) (by decide +kernel)⟩
theorem lw_p4 : lw_okq (⟨"BridgedPachisi$Board", "winner", "()I"⟩, 5) := ⟨⟨by decide +kernel, by decide +kernel⟩, List.mem_of_getElem? (i := 25) (by decide +kernel), List.mem_of_getElem? (i := 188) (by decide +kernel), List.mem_of_getElem? (i := 189) (by decide +kernel)⟩
theorem lw_p5 : lw_okq (⟨"BridgedPachisi$Board", "homeOf", "(I)I"⟩, 5) := ⟨⟨by decide +kernel, by decide +kernel⟩, List.mem_of_getElem? (i := 25) (by decide +kernel), List.mem_of_getElem? (i := 192) (by decide +kernel), List.mem_of_getElem? (i := 193) (by decide +kernel)⟩
theorem lw_p6 : lw_okq (⟨"BridgedPachisi$Game", "hasThrow", "()Z"⟩, 7) := ⟨⟨by decide +kernel, by decide +kernel⟩, List.mem_of_getElem? (i := 19) (by decide +kernel), List.mem_of_getElem? (i := 196) (by decide +kernel), List.mem_of_getElem? (i := 197) (by decide +kernel)⟩
theorem lw_p7 : lw_okq (⟨"BridgedPachisi$Game", "throwByX", "()V"⟩, 7) := ⟨⟨by decide +kernel, by decide +kernel⟩, List.mem_of_getElem? (i := 19) (by decide +kernel), List.mem_of_getElem? (i := 200) (by decide +kernel), List.mem_of_getElem? (i := 201) (by decide +kernel)⟩
theorem lw_p8 : lw_okq (⟨"BridgedPachisi$Game", "takeThrow", "(I)V"⟩, 7) := ⟨⟨by decide +kernel, by decide +kernel⟩, List.mem_of_getElem? (i := 19) (by decide +kernel), List.mem_of_getElem? (i := 214) (by decide +kernel), List.mem_of_getElem? (i := 215) (by decide +kernel)⟩
theorem lw_p9 : lw_okq (⟨"BridgedPachisi$Game", "reason", "(II)I"⟩, 7) := ⟨⟨by decide +kernel, by decide +kernel⟩, List.mem_of_getElem? (i := 19) (by decide +kernel), List.mem_of_getElem? (i := 222) (by decide +kernel), List.mem_of_getElem? (i := 223) (by decide +kernel)⟩
theorem lw_p10 : lw_okq (⟨"BridgedPachisi$Board", "target", "(III)I"⟩, 5) := ⟨⟨by decide +kernel, by decide +kernel⟩, List.mem_of_getElem? (i := 25) (by decide +kernel), List.mem_of_getElem? (i := 226) (by decide +kernel), List.mem_of_getElem? (i := 227) (by decide +kernel)⟩
theorem lw_p11 : lw_okq (⟨"BridgedPachisi$Board", "isFallenAt", "(II)Z"⟩, 5) := ⟨⟨by decide +kernel, by decide +kernel⟩, List.mem_of_getElem? (i := 25) (by decide +kernel), List.mem_of_getElem? (i := 230) (by decide +kernel), List.mem_of_getElem? (i := 231) (by decide +kernel)⟩
theorem lw_p12 : lw_okq (⟨"BridgedPachisi$Board", "bridgeState", "(I)I"⟩, 5) := ⟨⟨by decide +kernel, by decide +kernel⟩, List.mem_of_getElem? (i := 25) (by decide +kernel), List.mem_of_getElem? (i := 237) (by decide +kernel), List.mem_of_getElem? (i := 238) (by decide +kernel)⟩
theorem lw_p13 : lw_okq (⟨"BridgedPachisi$Board", "isBlockedOnWay", "(III)Z"⟩, 5) := ⟨⟨by decide +kernel, by decide +kernel⟩, List.mem_of_getElem? (i := 25) (by decide +kernel), List.mem_of_getElem? (i := 244) (by decide +kernel), List.mem_of_getElem? (i := 245) (by decide +kernel)⟩
theorem lw_p14 : lw_okq (⟨"BridgedPachisi$Board", "rivalsAt", "(II)I"⟩, 5) := ⟨⟨by decide +kernel, by decide +kernel⟩, List.mem_of_getElem? (i := 25) (by decide +kernel), List.mem_of_getElem? (i := 248) (by decide +kernel), List.mem_of_getElem? (i := 249) (by decide +kernel)⟩
theorem lw_p15 : lw_okq (⟨"BridgedPachisi$Board", "isFullFor", "(II)Z"⟩, 5) := ⟨⟨by decide +kernel, by decide +kernel⟩, List.mem_of_getElem? (i := 25) (by decide +kernel), List.mem_of_getElem? (i := 252) (by decide +kernel), List.mem_of_getElem? (i := 253) (by decide +kernel)⟩
def lw_privs_1 : List (MethodName × Nat) := [(⟨"BridgedPachisi$History", "remember", "(LBridgedPachisi$Game;)V"⟩, 3), (⟨"BridgedPachisi$Game", "copyFrom", "(LBridgedPachisi$Game;)V"⟩, 7), (⟨"BridgedPachisi$Board", "copyFrom", "(LBridgedPachisi$Board;)V"⟩, 5), (⟨"BridgedPachisi$Game", "isOver", "()Z"⟩, 7), (⟨"BridgedPachisi$Board", "winner", "()I"⟩, 5), (⟨"BridgedPachisi$Board", "homeOf", "(I)I"⟩, 5), (⟨"BridgedPachisi$Game", "hasThrow", "()Z"⟩, 7), (⟨"BridgedPachisi$Game", "throwByX", "()V"⟩, 7), (⟨"BridgedPachisi$Game", "takeThrow", "(I)V"⟩, 7), (⟨"BridgedPachisi$Game", "reason", "(II)I"⟩, 7), (⟨"BridgedPachisi$Board", "target", "(III)I"⟩, 5), (⟨"BridgedPachisi$Board", "isFallenAt", "(II)Z"⟩, 5), (⟨"BridgedPachisi$Board", "bridgeState", "(I)I"⟩, 5), (⟨"BridgedPachisi$Board", "isBlockedOnWay", "(III)Z"⟩, 5), (⟨"BridgedPachisi$Board", "rivalsAt", "(II)I"⟩, 5), (⟨"BridgedPachisi$Board", "isFullFor", "(II)Z"⟩, 5)]
theorem lw_r1 : ∀ q ∈ lw_privs_1, lw_okq q := List.forall_mem_cons.mpr ⟨lw_p0, List.forall_mem_cons.mpr ⟨lw_p1, List.forall_mem_cons.mpr ⟨lw_p2, List.forall_mem_cons.mpr ⟨lw_p3, List.forall_mem_cons.mpr ⟨lw_p4, List.forall_mem_cons.mpr ⟨lw_p5, List.forall_mem_cons.mpr ⟨lw_p6, List.forall_mem_cons.mpr ⟨lw_p7, List.forall_mem_cons.mpr ⟨lw_p8, List.forall_mem_cons.mpr ⟨lw_p9, List.forall_mem_cons.mpr ⟨lw_p10, List.forall_mem_cons.mpr ⟨lw_p11, List.forall_mem_cons.mpr ⟨lw_p12, List.forall_mem_cons.mpr ⟨lw_p13, List.forall_mem_cons.mpr ⟨lw_p14, List.forall_mem_cons.mpr ⟨lw_p15, fun _ h => absurd h List.not_mem_nil⟩⟩⟩⟩⟩⟩⟩⟩⟩⟩⟩⟩⟩⟩⟩⟩
theorem lw_p16 : lw_okq (⟨"BridgedPachisi$Board", "matesAt", "(II)I"⟩, 5) := ⟨⟨by decide +kernel, by decide +kernel⟩, List.mem_of_getElem? (i := 25) (by decide +kernel), List.mem_of_getElem? (i := 256) (by decide +kernel), List.mem_of_getElem? (i := 257) (by decide +kernel)⟩
theorem lw_p17 : lw_okq (⟨"BridgedPachisi$Game", "moveByThrow", "(I)I"⟩, 7) := ⟨⟨by decide +kernel, by decide +kernel⟩, List.mem_of_getElem? (i := 19) (by decide +kernel), List.mem_of_getElem? (i := 265) (by decide +kernel), List.mem_of_getElem? (i := 266) (by decide +kernel)⟩
theorem lw_p18 : lw_okq (⟨"BridgedPachisi$Board", "sendRivalsBack", "(II)V"⟩, 5) := ⟨⟨by decide +kernel, by decide +kernel⟩, List.mem_of_getElem? (i := 25) (by decide +kernel), List.mem_of_getElem? (i := 269) (by decide +kernel), List.mem_of_getElem? (i := 270) (by decide +kernel)⟩
theorem lw_p19 : lw_okq (⟨"BridgedPachisi$Board", "place", "(III)V"⟩, 5) := ⟨⟨by decide +kernel, by decide +kernel⟩, List.mem_of_getElem? (i := 25) (by decide +kernel), List.mem_of_getElem? (i := 273) (by decide +kernel), List.mem_of_getElem? (i := 274) (by decide +kernel)⟩
theorem lw_p20 : lw_okq (⟨"BridgedPachisi$Board", "strainAndFall", "(I)V"⟩, 5) := ⟨⟨by decide +kernel, by decide +kernel⟩, List.mem_of_getElem? (i := 25) (by decide +kernel), List.mem_of_getElem? (i := 277) (by decide +kernel), List.mem_of_getElem? (i := 278) (by decide +kernel)⟩
theorem lw_p21 : lw_okq (⟨"BridgedPachisi$Board", "piecesOn", "(I)I"⟩, 5) := ⟨⟨by decide +kernel, by decide +kernel⟩, List.mem_of_getElem? (i := 25) (by decide +kernel), List.mem_of_getElem? (i := 281) (by decide +kernel), List.mem_of_getElem? (i := 282) (by decide +kernel)⟩
theorem lw_p22 : lw_okq (⟨"BridgedPachisi$Game", "endThrow", "()V"⟩, 7) := ⟨⟨by decide +kernel, by decide +kernel⟩, List.mem_of_getElem? (i := 19) (by decide +kernel), List.mem_of_getElem? (i := 285) (by decide +kernel), List.mem_of_getElem? (i := 286) (by decide +kernel)⟩
theorem lw_p23 : lw_okq (⟨"BridgedPachisi$Game", "beginTurn", "()V"⟩, 7) := ⟨⟨by decide +kernel, by decide +kernel⟩, List.mem_of_getElem? (i := 19) (by decide +kernel), List.mem_of_getElem? (i := 290) (by decide +kernel), List.mem_of_getElem? (i := 291) (by decide +kernel)⟩
theorem lw_p24 : lw_okq (⟨"BridgedPachisi$Board", "mend", "(II)V"⟩, 5) := ⟨⟨by decide +kernel, by decide +kernel⟩, List.mem_of_getElem? (i := 25) (by decide +kernel), List.mem_of_getElem? (i := 294) (by decide +kernel), List.mem_of_getElem? (i := 295) (by decide +kernel)⟩
theorem lw_p25 : lw_okq (⟨"BridgedPachisi$Game", "canMoveBy", "(I)Z"⟩, 7) := ⟨⟨by decide +kernel, by decide +kernel⟩, List.mem_of_getElem? (i := 19) (by decide +kernel), List.mem_of_getElem? (i := 302) (by decide +kernel), List.mem_of_getElem? (i := 303) (by decide +kernel)⟩
theorem lw_p26 : lw_okq (⟨"BridgedPachisi$Game", "playOn", "(I)I"⟩, 7) := ⟨⟨by decide +kernel, by decide +kernel⟩, List.mem_of_getElem? (i := 19) (by decide +kernel), List.mem_of_getElem? (i := 312) (by decide +kernel), List.mem_of_getElem? (i := 313) (by decide +kernel)⟩
theorem lw_p27 : lw_okq (⟨"BridgedPachisi$Game", "bestPiece", "()I"⟩, 7) := ⟨⟨by decide +kernel, by decide +kernel⟩, List.mem_of_getElem? (i := 19) (by decide +kernel), List.mem_of_getElem? (i := 317) (by decide +kernel), List.mem_of_getElem? (i := 318) (by decide +kernel)⟩
theorem lw_p28 : lw_okq (⟨"BridgedPachisi$Game", "worthOfMove", "(I)I"⟩, 7) := ⟨⟨by decide +kernel, by decide +kernel⟩, List.mem_of_getElem? (i := 19) (by decide +kernel), List.mem_of_getElem? (i := 321) (by decide +kernel), List.mem_of_getElem? (i := 322) (by decide +kernel)⟩
theorem lw_p29 : lw_okq (⟨"BridgedPachisi$Pad", "faultIndex", "()I"⟩, 2) := ⟨⟨by decide +kernel, by decide +kernel⟩, List.mem_of_getElem? (i := 98) (by decide +kernel), List.mem_of_getElem? (i := 334) (by decide +kernel), List.mem_of_getElem? (i := 335) (by decide +kernel)⟩
theorem lw_p30 : lw_okq (⟨"BridgedPachisi$Pad", "moves", "()I"⟩, 2) := ⟨⟨by decide +kernel, by decide +kernel⟩, List.mem_of_getElem? (i := 98) (by decide +kernel), List.mem_of_getElem? (i := 344) (by decide +kernel), List.mem_of_getElem? (i := 345) (by decide +kernel)⟩
theorem lw_p31 : lw_okq (⟨"BridgedPachisi$Pad", "castOfMove", "(I)I"⟩, 2) := ⟨⟨by decide +kernel, by decide +kernel⟩, List.mem_of_getElem? (i := 98) (by decide +kernel), List.mem_of_getElem? (i := 348) (by decide +kernel), List.mem_of_getElem? (i := 349) (by decide +kernel)⟩
def lw_privs_2 : List (MethodName × Nat) := [(⟨"BridgedPachisi$Board", "matesAt", "(II)I"⟩, 5), (⟨"BridgedPachisi$Game", "moveByThrow", "(I)I"⟩, 7), (⟨"BridgedPachisi$Board", "sendRivalsBack", "(II)V"⟩, 5), (⟨"BridgedPachisi$Board", "place", "(III)V"⟩, 5), (⟨"BridgedPachisi$Board", "strainAndFall", "(I)V"⟩, 5), (⟨"BridgedPachisi$Board", "piecesOn", "(I)I"⟩, 5), (⟨"BridgedPachisi$Game", "endThrow", "()V"⟩, 7), (⟨"BridgedPachisi$Game", "beginTurn", "()V"⟩, 7), (⟨"BridgedPachisi$Board", "mend", "(II)V"⟩, 5), (⟨"BridgedPachisi$Game", "canMoveBy", "(I)Z"⟩, 7), (⟨"BridgedPachisi$Game", "playOn", "(I)I"⟩, 7), (⟨"BridgedPachisi$Game", "bestPiece", "()I"⟩, 7), (⟨"BridgedPachisi$Game", "worthOfMove", "(I)I"⟩, 7), (⟨"BridgedPachisi$Pad", "faultIndex", "()I"⟩, 2), (⟨"BridgedPachisi$Pad", "moves", "()I"⟩, 2), (⟨"BridgedPachisi$Pad", "castOfMove", "(I)I"⟩, 2)]
theorem lw_r2 : ∀ q ∈ lw_privs_2, lw_okq q := List.forall_mem_cons.mpr ⟨lw_p16, List.forall_mem_cons.mpr ⟨lw_p17, List.forall_mem_cons.mpr ⟨lw_p18, List.forall_mem_cons.mpr ⟨lw_p19, List.forall_mem_cons.mpr ⟨lw_p20, List.forall_mem_cons.mpr ⟨lw_p21, List.forall_mem_cons.mpr ⟨lw_p22, List.forall_mem_cons.mpr ⟨lw_p23, List.forall_mem_cons.mpr ⟨lw_p24, List.forall_mem_cons.mpr ⟨lw_p25, List.forall_mem_cons.mpr ⟨lw_p26, List.forall_mem_cons.mpr ⟨lw_p27, List.forall_mem_cons.mpr ⟨lw_p28, List.forall_mem_cons.mpr ⟨lw_p29, List.forall_mem_cons.mpr ⟨lw_p30, List.forall_mem_cons.mpr ⟨lw_p31, fun _ h => absurd h List.not_mem_nil⟩⟩⟩⟩⟩⟩⟩⟩⟩⟩⟩⟩⟩⟩⟩⟩
theorem lw_p32 : lw_okq (⟨"BridgedPachisi$Pad", "pieceOfMove", "(I)I"⟩, 2) := ⟨⟨by decide +kernel, by decide +kernel⟩, List.mem_of_getElem? (i := 98) (by decide +kernel), List.mem_of_getElem? (i := 352) (by decide +kernel), List.mem_of_getElem? (i := 353) (by decide +kernel)⟩
theorem lw_p33 : lw_okq (⟨"BridgedPachisi$Game", "makeMove", "(II)Z"⟩, 7) := ⟨⟨by decide +kernel, by decide +kernel⟩, List.mem_of_getElem? (i := 19) (by decide +kernel), List.mem_of_getElem? (i := 356) (by decide +kernel), List.mem_of_getElem? (i := 357) (by decide +kernel)⟩
theorem lw_p34 : lw_okq (⟨"BridgedPachisi$Board", "hasRoomFor", "(II)Z"⟩, 5) := ⟨⟨by decide +kernel, by decide +kernel⟩, List.mem_of_getElem? (i := 25) (by decide +kernel), List.mem_of_getElem? (i := 368) (by decide +kernel), List.mem_of_getElem? (i := 369) (by decide +kernel)⟩
theorem lw_p35 : lw_okq (⟨"BridgedPachisi$Board", "fieldOf", "(I)I"⟩, 5) := ⟨⟨by decide +kernel, by decide +kernel⟩, List.mem_of_getElem? (i := 25) (by decide +kernel), List.mem_of_getElem? (i := 378) (by decide +kernel), List.mem_of_getElem? (i := 379) (by decide +kernel)⟩
theorem lw_p36 : lw_okq (⟨"BridgedPachisi$Board", "isInPair", "(I)Z"⟩, 5) := ⟨⟨by decide +kernel, by decide +kernel⟩, List.mem_of_getElem? (i := 25) (by decide +kernel), List.mem_of_getElem? (i := 382) (by decide +kernel), List.mem_of_getElem? (i := 383) (by decide +kernel)⟩
theorem lw_p37 : lw_okq (⟨"BridgedPachisi$Board", "lowestOn", "(I)I"⟩, 5) := ⟨⟨by decide +kernel, by decide +kernel⟩, List.mem_of_getElem? (i := 25) (by decide +kernel), List.mem_of_getElem? (i := 392) (by decide +kernel), List.mem_of_getElem? (i := 393) (by decide +kernel)⟩
theorem lw_p38 : lw_okq (⟨"BridgedPachisi$Game", "turnsUntilMended", "(I)I"⟩, 7) := ⟨⟨by decide +kernel, by decide +kernel⟩, List.mem_of_getElem? (i := 19) (by decide +kernel), List.mem_of_getElem? (i := 398) (by decide +kernel), List.mem_of_getElem? (i := 399) (by decide +kernel)⟩
theorem lw_p39 : lw_okq (⟨"BridgedPachisi$Board", "sentBackInAll", "()I"⟩, 5) := ⟨⟨by decide +kernel, by decide +kernel⟩, List.mem_of_getElem? (i := 25) (by decide +kernel), List.mem_of_getElem? (i := 416) (by decide +kernel), List.mem_of_getElem? (i := 417) (by decide +kernel)⟩
theorem lw_p40 : lw_okq (⟨"BridgedPachisi$Board", "fallenSet", "()I"⟩, 5) := ⟨⟨by decide +kernel, by decide +kernel⟩, List.mem_of_getElem? (i := 25) (by decide +kernel), List.mem_of_getElem? (i := 420) (by decide +kernel), List.mem_of_getElem? (i := 421) (by decide +kernel)⟩
theorem lw_p41 : lw_okq (⟨"BridgedPachisi$Route", "fromHomeOn", "(LBridgedPachisi$Board;II)I"⟩, 1) := ⟨⟨by decide +kernel, by decide +kernel⟩, List.mem_of_getElem? (i := 88) (by decide +kernel), List.mem_of_getElem? (i := 433) (by decide +kernel), List.mem_of_getElem? (i := 434) (by decide +kernel)⟩
theorem lw_p42 : lw_okq (⟨"BridgedPachisi$Route", "goingWide", "(LBridgedPachisi$Board;II)I"⟩, 1) := ⟨⟨by decide +kernel, by decide +kernel⟩, List.mem_of_getElem? (i := 88) (by decide +kernel), List.mem_of_getElem? (i := 439) (by decide +kernel), List.mem_of_getElem? (i := 440) (by decide +kernel)⟩
theorem lw_p43 : lw_okq (⟨"BridgedPachisi$Route", "widen", "(LBridgedPachisi$Board;II)V"⟩, 1) := ⟨⟨by decide +kernel, by decide +kernel⟩, List.mem_of_getElem? (i := 88) (by decide +kernel), List.mem_of_getElem? (i := 443) (by decide +kernel), List.mem_of_getElem? (i := 444) (by decide +kernel)⟩
theorem lw_p44 : lw_okq (⟨"BridgedPachisi$Pad", "append", "(JI)V"⟩, 2) := ⟨⟨by decide +kernel, by decide +kernel⟩, List.mem_of_getElem? (i := 98) (by decide +kernel), List.mem_of_getElem? (i := 468) (by decide +kernel), List.mem_of_getElem? (i := 469) (by decide +kernel)⟩
theorem lw_p45 : lw_okq (⟨"BridgedPachisi$History", "takeBack", "(LBridgedPachisi$Game;)Z"⟩, 3) := ⟨⟨by decide +kernel, by decide +kernel⟩, List.mem_of_getElem? (i := 113) (by decide +kernel), List.mem_of_getElem? (i := 485) (by decide +kernel), List.mem_of_getElem? (i := 486) (by decide +kernel)⟩
theorem lw_p46 : lw_okq (⟨"BridgedPachisiModel", "record", "()V"⟩, 10) := ⟨⟨by decide +kernel, by decide +kernel⟩, List.mem_of_getElem? (i := 497) (by decide +kernel), List.mem_of_getElem? (i := 550) (by decide +kernel), List.mem_of_getElem? (i := 551) (by decide +kernel)⟩
theorem lw_p47 : lw_okq (⟨"BridgedPachisiModel", "isOver", "()Z"⟩, 10) := ⟨⟨by decide +kernel, by decide +kernel⟩, List.mem_of_getElem? (i := 497) (by decide +kernel), List.mem_of_getElem? (i := 572) (by decide +kernel), List.mem_of_getElem? (i := 573) (by decide +kernel)⟩
def lw_privs_3 : List (MethodName × Nat) := [(⟨"BridgedPachisi$Pad", "pieceOfMove", "(I)I"⟩, 2), (⟨"BridgedPachisi$Game", "makeMove", "(II)Z"⟩, 7), (⟨"BridgedPachisi$Board", "hasRoomFor", "(II)Z"⟩, 5), (⟨"BridgedPachisi$Board", "fieldOf", "(I)I"⟩, 5), (⟨"BridgedPachisi$Board", "isInPair", "(I)Z"⟩, 5), (⟨"BridgedPachisi$Board", "lowestOn", "(I)I"⟩, 5), (⟨"BridgedPachisi$Game", "turnsUntilMended", "(I)I"⟩, 7), (⟨"BridgedPachisi$Board", "sentBackInAll", "()I"⟩, 5), (⟨"BridgedPachisi$Board", "fallenSet", "()I"⟩, 5), (⟨"BridgedPachisi$Route", "fromHomeOn", "(LBridgedPachisi$Board;II)I"⟩, 1), (⟨"BridgedPachisi$Route", "goingWide", "(LBridgedPachisi$Board;II)I"⟩, 1), (⟨"BridgedPachisi$Route", "widen", "(LBridgedPachisi$Board;II)V"⟩, 1), (⟨"BridgedPachisi$Pad", "append", "(JI)V"⟩, 2), (⟨"BridgedPachisi$History", "takeBack", "(LBridgedPachisi$Game;)Z"⟩, 3), (⟨"BridgedPachisiModel", "record", "()V"⟩, 10), (⟨"BridgedPachisiModel", "isOver", "()Z"⟩, 10)]
theorem lw_r3 : ∀ q ∈ lw_privs_3, lw_okq q := List.forall_mem_cons.mpr ⟨lw_p32, List.forall_mem_cons.mpr ⟨lw_p33, List.forall_mem_cons.mpr ⟨lw_p34, List.forall_mem_cons.mpr ⟨lw_p35, List.forall_mem_cons.mpr ⟨lw_p36, List.forall_mem_cons.mpr ⟨lw_p37, List.forall_mem_cons.mpr ⟨lw_p38, List.forall_mem_cons.mpr ⟨lw_p39, List.forall_mem_cons.mpr ⟨lw_p40, List.forall_mem_cons.mpr ⟨lw_p41, List.forall_mem_cons.mpr ⟨lw_p42, List.forall_mem_cons.mpr ⟨lw_p43, List.forall_mem_cons.mpr ⟨lw_p44, List.forall_mem_cons.mpr ⟨lw_p45, List.forall_mem_cons.mpr ⟨lw_p46, List.forall_mem_cons.mpr ⟨lw_p47, fun _ h => absurd h List.not_mem_nil⟩⟩⟩⟩⟩⟩⟩⟩⟩⟩⟩⟩⟩⟩⟩⟩
theorem lw_p48 : lw_okq (⟨"BridgedPachisiModel", "winner", "()I"⟩, 10) := ⟨⟨by decide +kernel, by decide +kernel⟩, List.mem_of_getElem? (i := 497) (by decide +kernel), List.mem_of_getElem? (i := 576) (by decide +kernel), List.mem_of_getElem? (i := 577) (by decide +kernel)⟩
theorem lw_p49 : lw_okq (⟨"BridgedPachisiModel", "atHome", "(I)I"⟩, 10) := ⟨⟨by decide +kernel, by decide +kernel⟩, List.mem_of_getElem? (i := 497) (by decide +kernel), List.mem_of_getElem? (i := 580) (by decide +kernel), List.mem_of_getElem? (i := 581) (by decide +kernel)⟩
theorem lw_p50 : lw_okq (⟨"BridgedPachisiModel", "hasCast", "()Z"⟩, 10) := ⟨⟨by decide +kernel, by decide +kernel⟩, List.mem_of_getElem? (i := 497) (by decide +kernel), List.mem_of_getElem? (i := 584) (by decide +kernel), List.mem_of_getElem? (i := 585) (by decide +kernel)⟩
theorem lw_p51 : lw_okq (⟨"BridgedPachisiModel", "draw", "()I"⟩, 10) := ⟨⟨by decide +kernel, by decide +kernel⟩, List.mem_of_getElem? (i := 497) (by decide +kernel), List.mem_of_getElem? (i := 588) (by decide +kernel), List.mem_of_getElem? (i := 589) (by decide +kernel)⟩
theorem lw_p52 : lw_okq (⟨"BridgedPachisiModel", "doCast", "(I)V"⟩, 10) := ⟨⟨by decide +kernel, by decide +kernel⟩, List.mem_of_getElem? (i := 497) (by decide +kernel), List.mem_of_getElem? (i := 596) (by decide +kernel), List.mem_of_getElem? (i := 597) (by decide +kernel)⟩
theorem lw_p53 : lw_okq (⟨"BridgedPachisiModel", "whyNot", "(II)I"⟩, 10) := ⟨⟨by decide +kernel, by decide +kernel⟩, List.mem_of_getElem? (i := 497) (by decide +kernel), List.mem_of_getElem? (i := 604) (by decide +kernel), List.mem_of_getElem? (i := 605) (by decide +kernel)⟩
theorem lw_p54 : lw_okq (⟨"BridgedPachisiModel", "stepOn", "(III)I"⟩, 10) := ⟨⟨by decide +kernel, by decide +kernel⟩, List.mem_of_getElem? (i := 497) (by decide +kernel), List.mem_of_getElem? (i := 608) (by decide +kernel), List.mem_of_getElem? (i := 609) (by decide +kernel)⟩
theorem lw_p55 : lw_okq (⟨"BridgedPachisiModel", "isFallen", "(I)Z"⟩, 10) := ⟨⟨by decide +kernel, by decide +kernel⟩, List.mem_of_getElem? (i := 497) (by decide +kernel), List.mem_of_getElem? (i := 615) (by decide +kernel), List.mem_of_getElem? (i := 616) (by decide +kernel)⟩
theorem lw_p56 : lw_okq (⟨"BridgedPachisiModel", "isBlocked", "(II)Z"⟩, 10) := ⟨⟨by decide +kernel, by decide +kernel⟩, List.mem_of_getElem? (i := 497) (by decide +kernel), List.mem_of_getElem? (i := 622) (by decide +kernel), List.mem_of_getElem? (i := 623) (by decide +kernel)⟩
theorem lw_p57 : lw_okq (⟨"BridgedPachisiModel", "piecesOn", "(II)I"⟩, 10) := ⟨⟨by decide +kernel, by decide +kernel⟩, List.mem_of_getElem? (i := 497) (by decide +kernel), List.mem_of_getElem? (i := 626) (by decide +kernel), List.mem_of_getElem? (i := 627) (by decide +kernel)⟩
theorem lw_p58 : lw_okq (⟨"BridgedPachisiModel", "fieldOf", "(I)I"⟩, 10) := ⟨⟨by decide +kernel, by decide +kernel⟩, List.mem_of_getElem? (i := 497) (by decide +kernel), List.mem_of_getElem? (i := 630) (by decide +kernel), List.mem_of_getElem? (i := 631) (by decide +kernel)⟩
theorem lw_p59 : lw_okq (⟨"BridgedPachisiModel", "allOn", "(I)I"⟩, 10) := ⟨⟨by decide +kernel, by decide +kernel⟩, List.mem_of_getElem? (i := 497) (by decide +kernel), List.mem_of_getElem? (i := 637) (by decide +kernel), List.mem_of_getElem? (i := 638) (by decide +kernel)⟩
theorem lw_p60 : lw_okq (⟨"BridgedPachisiModel", "doMove", "(II)V"⟩, 10) := ⟨⟨by decide +kernel, by decide +kernel⟩, List.mem_of_getElem? (i := 497) (by decide +kernel), List.mem_of_getElem? (i := 641) (by decide +kernel), List.mem_of_getElem? (i := 642) (by decide +kernel)⟩
theorem lw_p61 : lw_okq (⟨"BridgedPachisiModel", "otherOn", "(II)I"⟩, 10) := ⟨⟨by decide +kernel, by decide +kernel⟩, List.mem_of_getElem? (i := 497) (by decide +kernel), List.mem_of_getElem? (i := 645) (by decide +kernel), List.mem_of_getElem? (i := 646) (by decide +kernel)⟩
theorem lw_p62 : lw_okq (⟨"BridgedPachisiModel", "lookAtBridges", "()V"⟩, 10) := ⟨⟨by decide +kernel, by decide +kernel⟩, List.mem_of_getElem? (i := 497) (by decide +kernel), List.mem_of_getElem? (i := 649) (by decide +kernel), List.mem_of_getElem? (i := 650) (by decide +kernel)⟩
theorem lw_p63 : lw_okq (⟨"BridgedPachisiModel", "isPairOn", "(I)Z"⟩, 10) := ⟨⟨by decide +kernel, by decide +kernel⟩, List.mem_of_getElem? (i := 497) (by decide +kernel), List.mem_of_getElem? (i := 653) (by decide +kernel), List.mem_of_getElem? (i := 654) (by decide +kernel)⟩
def lw_privs_4 : List (MethodName × Nat) := [(⟨"BridgedPachisiModel", "winner", "()I"⟩, 10), (⟨"BridgedPachisiModel", "atHome", "(I)I"⟩, 10), (⟨"BridgedPachisiModel", "hasCast", "()Z"⟩, 10), (⟨"BridgedPachisiModel", "draw", "()I"⟩, 10), (⟨"BridgedPachisiModel", "doCast", "(I)V"⟩, 10), (⟨"BridgedPachisiModel", "whyNot", "(II)I"⟩, 10), (⟨"BridgedPachisiModel", "stepOn", "(III)I"⟩, 10), (⟨"BridgedPachisiModel", "isFallen", "(I)Z"⟩, 10), (⟨"BridgedPachisiModel", "isBlocked", "(II)Z"⟩, 10), (⟨"BridgedPachisiModel", "piecesOn", "(II)I"⟩, 10), (⟨"BridgedPachisiModel", "fieldOf", "(I)I"⟩, 10), (⟨"BridgedPachisiModel", "allOn", "(I)I"⟩, 10), (⟨"BridgedPachisiModel", "doMove", "(II)V"⟩, 10), (⟨"BridgedPachisiModel", "otherOn", "(II)I"⟩, 10), (⟨"BridgedPachisiModel", "lookAtBridges", "()V"⟩, 10), (⟨"BridgedPachisiModel", "isPairOn", "(I)Z"⟩, 10)]
theorem lw_r4 : ∀ q ∈ lw_privs_4, lw_okq q := List.forall_mem_cons.mpr ⟨lw_p48, List.forall_mem_cons.mpr ⟨lw_p49, List.forall_mem_cons.mpr ⟨lw_p50, List.forall_mem_cons.mpr ⟨lw_p51, List.forall_mem_cons.mpr ⟨lw_p52, List.forall_mem_cons.mpr ⟨lw_p53, List.forall_mem_cons.mpr ⟨lw_p54, List.forall_mem_cons.mpr ⟨lw_p55, List.forall_mem_cons.mpr ⟨lw_p56, List.forall_mem_cons.mpr ⟨lw_p57, List.forall_mem_cons.mpr ⟨lw_p58, List.forall_mem_cons.mpr ⟨lw_p59, List.forall_mem_cons.mpr ⟨lw_p60, List.forall_mem_cons.mpr ⟨lw_p61, List.forall_mem_cons.mpr ⟨lw_p62, List.forall_mem_cons.mpr ⟨lw_p63, fun _ h => absurd h List.not_mem_nil⟩⟩⟩⟩⟩⟩⟩⟩⟩⟩⟩⟩⟩⟩⟩⟩
theorem lw_p64 : lw_okq (⟨"BridgedPachisiModel", "goOn", "()V"⟩, 10) := ⟨⟨by decide +kernel, by decide +kernel⟩, List.mem_of_getElem? (i := 497) (by decide +kernel), List.mem_of_getElem? (i := 657) (by decide +kernel), List.mem_of_getElem? (i := 658) (by decide +kernel)⟩
theorem lw_p65 : lw_okq (⟨"BridgedPachisiModel", "canMove", "(I)Z"⟩, 10) := ⟨⟨by decide +kernel, by decide +kernel⟩, List.mem_of_getElem? (i := 497) (by decide +kernel), List.mem_of_getElem? (i := 665) (by decide +kernel), List.mem_of_getElem? (i := 666) (by decide +kernel)⟩
theorem lw_p66 : lw_okq (⟨"BridgedPachisiModel", "doPlay", "(I)I"⟩, 10) := ⟨⟨by decide +kernel, by decide +kernel⟩, List.mem_of_getElem? (i := 497) (by decide +kernel), List.mem_of_getElem? (i := 673) (by decide +kernel), List.mem_of_getElem? (i := 674) (by decide +kernel)⟩
theorem lw_p67 : lw_okq (⟨"BridgedPachisiModel", "bestPiece", "()I"⟩, 10) := ⟨⟨by decide +kernel, by decide +kernel⟩, List.mem_of_getElem? (i := 497) (by decide +kernel), List.mem_of_getElem? (i := 677) (by decide +kernel), List.mem_of_getElem? (i := 678) (by decide +kernel)⟩
theorem lw_p68 : lw_okq (⟨"BridgedPachisiModel", "kindOf", "(II)I"⟩, 10) := ⟨⟨by decide +kernel, by decide +kernel⟩, List.mem_of_getElem? (i := 497) (by decide +kernel), List.mem_of_getElem? (i := 681) (by decide +kernel), List.mem_of_getElem? (i := 682) (by decide +kernel)⟩
theorem lw_p69 : lw_okq (⟨"BridgedPachisiModel", "findFault", "()I"⟩, 10) := ⟨⟨by decide +kernel, by decide +kernel⟩, List.mem_of_getElem? (i := 497) (by decide +kernel), List.mem_of_getElem? (i := 689) (by decide +kernel), List.mem_of_getElem? (i := 690) (by decide +kernel)⟩
theorem lw_p70 : lw_okq (⟨"BridgedPachisiModel", "lowestOn", "(I)I"⟩, 10) := ⟨⟨by decide +kernel, by decide +kernel⟩, List.mem_of_getElem? (i := 497) (by decide +kernel), List.mem_of_getElem? (i := 708) (by decide +kernel), List.mem_of_getElem? (i := 709) (by decide +kernel)⟩
theorem lw_p71 : lw_okq (⟨"BridgedPachisiModel", "bridgeOn", "(I)I"⟩, 10) := ⟨⟨by decide +kernel, by decide +kernel⟩, List.mem_of_getElem? (i := 497) (by decide +kernel), List.mem_of_getElem? (i := 712) (by decide +kernel), List.mem_of_getElem? (i := 713) (by decide +kernel)⟩
theorem lw_p72 : lw_okq (⟨"BridgedPachisiModel", "mendedIn", "(I)I"⟩, 10) := ⟨⟨by decide +kernel, by decide +kernel⟩, List.mem_of_getElem? (i := 497) (by decide +kernel), List.mem_of_getElem? (i := 716) (by decide +kernel), List.mem_of_getElem? (i := 717) (by decide +kernel)⟩
theorem lw_p73 : lw_okq (⟨"BridgedPachisiModel", "fallenBridges", "()I"⟩, 10) := ⟨⟨by decide +kernel, by decide +kernel⟩, List.mem_of_getElem? (i := 497) (by decide +kernel), List.mem_of_getElem? (i := 728) (by decide +kernel), List.mem_of_getElem? (i := 729) (by decide +kernel)⟩
theorem lw_p74 : lw_okq (⟨"BridgedPachisiModel", "throwsNeeded", "(I)I"⟩, 10) := ⟨⟨by decide +kernel, by decide +kernel⟩, List.mem_of_getElem? (i := 497) (by decide +kernel), List.mem_of_getElem? (i := 740) (by decide +kernel), List.mem_of_getElem? (i := 741) (by decide +kernel)⟩
theorem lw_p75 : lw_okq (⟨"BridgedPachisiModel", "putAside", "()V"⟩, 10) := ⟨⟨by decide +kernel, by decide +kernel⟩, List.mem_of_getElem? (i := 497) (by decide +kernel), List.mem_of_getElem? (i := 752) (by decide +kernel), List.mem_of_getElem? (i := 753) (by decide +kernel)⟩
theorem lw_p76 : lw_okq (⟨"BridgedPachisiModel", "putBack", "()V"⟩, 10) := ⟨⟨by decide +kernel, by decide +kernel⟩, List.mem_of_getElem? (i := 497) (by decide +kernel), List.mem_of_getElem? (i := 756) (by decide +kernel), List.mem_of_getElem? (i := 757) (by decide +kernel)⟩
def lw_privs_5 : List (MethodName × Nat) := [(⟨"BridgedPachisiModel", "goOn", "()V"⟩, 10), (⟨"BridgedPachisiModel", "canMove", "(I)Z"⟩, 10), (⟨"BridgedPachisiModel", "doPlay", "(I)I"⟩, 10), (⟨"BridgedPachisiModel", "bestPiece", "()I"⟩, 10), (⟨"BridgedPachisiModel", "kindOf", "(II)I"⟩, 10), (⟨"BridgedPachisiModel", "findFault", "()I"⟩, 10), (⟨"BridgedPachisiModel", "lowestOn", "(I)I"⟩, 10), (⟨"BridgedPachisiModel", "bridgeOn", "(I)I"⟩, 10), (⟨"BridgedPachisiModel", "mendedIn", "(I)I"⟩, 10), (⟨"BridgedPachisiModel", "fallenBridges", "()I"⟩, 10), (⟨"BridgedPachisiModel", "throwsNeeded", "(I)I"⟩, 10), (⟨"BridgedPachisiModel", "putAside", "()V"⟩, 10), (⟨"BridgedPachisiModel", "putBack", "()V"⟩, 10)]
theorem lw_r5 : ∀ q ∈ lw_privs_5, lw_okq q := List.forall_mem_cons.mpr ⟨lw_p64, List.forall_mem_cons.mpr ⟨lw_p65, List.forall_mem_cons.mpr ⟨lw_p66, List.forall_mem_cons.mpr ⟨lw_p67, List.forall_mem_cons.mpr ⟨lw_p68, List.forall_mem_cons.mpr ⟨lw_p69, List.forall_mem_cons.mpr ⟨lw_p70, List.forall_mem_cons.mpr ⟨lw_p71, List.forall_mem_cons.mpr ⟨lw_p72, List.forall_mem_cons.mpr ⟨lw_p73, List.forall_mem_cons.mpr ⟨lw_p74, List.forall_mem_cons.mpr ⟨lw_p75, List.forall_mem_cons.mpr ⟨lw_p76, fun _ h => absurd h List.not_mem_nil⟩⟩⟩⟩⟩⟩⟩⟩⟩⟩⟩⟩⟩
def lw_privs : List (MethodName × Nat) := lw_privs_1 ++ (lw_privs_2 ++ (lw_privs_3 ++ (lw_privs_4 ++ (lw_privs_5))))
def lw_tbl : List Cond := k2_sels lw_privs ++ tables_1
theorem lw_privs_ok : ∀ q ∈ lw_privs, lw_okq q := by
  show ∀ q ∈ lw_privs_1 ++ (lw_privs_2 ++ (lw_privs_3 ++ (lw_privs_4 ++ (lw_privs_5)))), lw_okq q
  exact List.forall_mem_append.mpr ⟨lw_r1, List.forall_mem_append.mpr ⟨lw_r2, List.forall_mem_append.mpr ⟨lw_r3, List.forall_mem_append.mpr ⟨lw_r4, lw_r5⟩⟩⟩⟩
end
section
/-! ===== BEGIN words of one list among another's, by their places ===== -/
theorem goodIn_r {big : List Cond} (ws : List Cond) (ps : List Nat) (hp : ws = ps.filterMap (fun i => big[i]?)) (h : ws.all goodWord = true) : GoodIn big ws := by
  intro w hw
  have h1 := List.all_eq_true.mp h w hw
  rw [hp] at hw
  obtain ⟨i, -, hi⟩ := List.mem_filterMap.mp hw
  have hm : w ∈ big := by first | exact List.mem_of_getElem? hi | exact List.getElem?_mem hi
  exact ⟨hm, good_of_word h1⟩
theorem goodIn_app {big a b : List Cond} (ha : GoodIn big a) (hb : GoodIn big b) : GoodIn big (a ++ b) := fun w h => (List.mem_append.mp h).elim (ha w) (hb w)
theorem goodIn_ca {big a b : List Cond} {c : Cond} (ha : GoodIn big (c :: a)) (hb : GoodIn big b) : GoodIn big (c :: (a ++ b)) := fun w h => (List.mem_cons.mp h).elim (fun e => ha w (List.mem_cons.mpr (Or.inl e))) (fun h => (List.mem_append.mp h).elim (fun h => ha w (List.mem_cons.mpr (Or.inr h))) (hb w))
theorem goodIn_sub {big ws : List Cond} (hm : ∀ w ∈ ws, w ∈ big) (h : ws.all goodWord = true) : GoodIn big ws := fun w hw => ⟨hm w hw, good_of_word (List.all_eq_true.mp h w hw)⟩
/-! ===== END ===== -/

/-! ===== BEGIN printed: names, fields, word lists, decode rows ===== -/
def RX0 : String := "BridgedPachisi$Board"
def TX0 : u_T := fun k => match k with
  | 0 => ("BridgedPachisi$Board", "progress", "[I", true)
  | 1 => ("BridgedPachisi$Board", "sentBack", "[I", true)
  | 2 => ("BridgedPachisi$Board", "bridges", "[I", true)
  | 3 => ("BridgedPachisi$Board", "fellIn", "[I", true)
  | _ => ("BridgedPachisi$Board", "falls", "I", false)
def tyX0 : Nat → FieldType := fun k => match k with
  | 0 => .array .int
  | 1 => .array .int
  | 2 => .array .int
  | 3 => .array .int
  | _ => .int
abbrev wsX00 : List Cond := u_ws RX0 TX0 5
theorem nmX0 : ∀ a, a < 5 → ∀ b, b < 5 → a ≠ b → (TX0 a).2.1 ≠ (TX0 b).2.1 := by decide +kernel
theorem tyX0_ok : ∀ k, k < 5 → parseFieldDescriptor (TX0 k).2.2.1 = some (tyX0 k) := by decide +kernel
abbrev cX0_init : ByteArray := prog_2_method_1_code
def yX0_init : MethodName := ⟨RX0, "<init>", "()V"⟩
abbrev cX0_copyFrom : ByteArray := prog_2_method_2_code
def yX0_copyFrom : MethodName := ⟨RX0, "copyFrom", "(LBridgedPachisi$Board;)V"⟩
abbrev cX0_fieldOf : ByteArray := prog_2_method_3_code
def yX0_fieldOf : MethodName := ⟨RX0, "fieldOf", "(I)I"⟩
abbrev cX0_piecesOn : ByteArray := prog_2_method_4_code
def yX0_piecesOn : MethodName := ⟨RX0, "piecesOn", "(I)I"⟩
abbrev cX0_lowestOn : ByteArray := prog_2_method_5_code
def yX0_lowestOn : MethodName := ⟨RX0, "lowestOn", "(I)I"⟩
abbrev cX0_rivalsAt : ByteArray := prog_2_method_6_code
def yX0_rivalsAt : MethodName := ⟨RX0, "rivalsAt", "(II)I"⟩
abbrev cX0_matesAt : ByteArray := prog_2_method_7_code
def yX0_matesAt : MethodName := ⟨RX0, "matesAt", "(II)I"⟩
abbrev cX0_isInPair : ByteArray := prog_2_method_8_code
def yX0_isInPair : MethodName := ⟨RX0, "isInPair", "(I)Z"⟩
abbrev cX0_isFullFor : ByteArray := prog_2_method_9_code
def yX0_isFullFor : MethodName := ⟨RX0, "isFullFor", "(II)Z"⟩
abbrev cX0_hasRoomFor : ByteArray := prog_2_method_10_code
def yX0_hasRoomFor : MethodName := ⟨RX0, "hasRoomFor", "(II)Z"⟩
abbrev cX0_homeOf : ByteArray := prog_2_method_11_code
def yX0_homeOf : MethodName := ⟨RX0, "homeOf", "(I)I"⟩
abbrev cX0_winner : ByteArray := prog_2_method_12_code
def yX0_winner : MethodName := ⟨RX0, "winner", "()I"⟩
abbrev cX0_sentBackInAll : ByteArray := prog_2_method_13_code
def yX0_sentBackInAll : MethodName := ⟨RX0, "sentBackInAll", "()I"⟩
abbrev cX0_bridgeState : ByteArray := prog_2_method_14_code
def yX0_bridgeState : MethodName := ⟨RX0, "bridgeState", "(I)I"⟩
abbrev cX0_isFallenAt : ByteArray := prog_2_method_15_code
def yX0_isFallenAt : MethodName := ⟨RX0, "isFallenAt", "(II)Z"⟩
abbrev cX0_fallenSet : ByteArray := prog_2_method_16_code
def yX0_fallenSet : MethodName := ⟨RX0, "fallenSet", "()I"⟩
abbrev cX0_target : ByteArray := prog_2_method_17_code
def yX0_target : MethodName := ⟨RX0, "target", "(III)I"⟩
abbrev cX0_isBlockedOnWay : ByteArray := prog_2_method_18_code
def yX0_isBlockedOnWay : MethodName := ⟨RX0, "isBlockedOnWay", "(III)Z"⟩
abbrev cX0_sendRivalsBack : ByteArray := prog_2_method_19_code
def yX0_sendRivalsBack : MethodName := ⟨RX0, "sendRivalsBack", "(II)V"⟩
abbrev cX0_place : ByteArray := prog_2_method_20_code
def yX0_place : MethodName := ⟨RX0, "place", "(III)V"⟩
abbrev cX0_strainAndFall : ByteArray := prog_2_method_21_code
def yX0_strainAndFall : MethodName := ⟨RX0, "strainAndFall", "(I)V"⟩
abbrev cX0_mend : ByteArray := prog_2_method_22_code
def yX0_mend : MethodName := ⟨RX0, "mend", "(II)V"⟩
def RX1 : String := "BridgedPachisi$Game"
def TX1 : u_T := fun k => match k with
  | 0 => ("BridgedPachisi$Game", "board", "LBridgedPachisi$Board;", true)
  | 1 => ("BridgedPachisi$Game", "settings", "[I", true)
  | 2 => ("BridgedPachisi$Game", "x", "I", false)
  | 3 => ("BridgedPachisi$Game", "player", "I", false)
  | 4 => ("BridgedPachisi$Game", "thrown", "I", false)
  | 5 => ("BridgedPachisi$Game", "turns", "I", false)
  | _ => ("BridgedPachisi$Game", "casts", "I", false)
def tyX1 : Nat → FieldType := fun k => match k with
  | 0 => .object "BridgedPachisi$Board"
  | 1 => .array .int
  | 2 => .int
  | 3 => .int
  | 4 => .int
  | 5 => .int
  | _ => .int
abbrev wsX10 : List Cond := u_ws RX1 TX1 7
theorem nmX1 : ∀ a, a < 7 → ∀ b, b < 7 → a ≠ b → (TX1 a).2.1 ≠ (TX1 b).2.1 := by decide +kernel
theorem tyX1_ok : ∀ k, k < 7 → parseFieldDescriptor (TX1 k).2.2.1 = some (tyX1 k) := by decide +kernel
abbrev cX1_init : ByteArray := prog_3_method_1_code
def yX1_init : MethodName := ⟨RX1, "<init>", "()V"⟩
abbrev cX1_copyFrom : ByteArray := prog_3_method_2_code
def yX1_copyFrom : MethodName := ⟨RX1, "copyFrom", "(LBridgedPachisi$Game;)V"⟩
abbrev cX1_isOver : ByteArray := prog_3_method_3_code
def yX1_isOver : MethodName := ⟨RX1, "isOver", "()Z"⟩
abbrev cX1_hasThrow : ByteArray := prog_3_method_4_code
def yX1_hasThrow : MethodName := ⟨RX1, "hasThrow", "()Z"⟩
abbrev cX1_reason : ByteArray := prog_3_method_5_code
def yX1_reason : MethodName := ⟨RX1, "reason", "(II)I"⟩
abbrev cX1_canMoveBy : ByteArray := prog_3_method_6_code
def yX1_canMoveBy : MethodName := ⟨RX1, "canMoveBy", "(I)Z"⟩
abbrev cX1_bestPiece : ByteArray := prog_3_method_7_code
def yX1_bestPiece : MethodName := ⟨RX1, "bestPiece", "()I"⟩
abbrev cX1_worthOfMove : ByteArray := prog_3_method_8_code
def yX1_worthOfMove : MethodName := ⟨RX1, "worthOfMove", "(I)I"⟩
abbrev cX1_throwByX : ByteArray := prog_3_method_9_code
def yX1_throwByX : MethodName := ⟨RX1, "throwByX", "()V"⟩
abbrev cX1_takeThrow : ByteArray := prog_3_method_10_code
def yX1_takeThrow : MethodName := ⟨RX1, "takeThrow", "(I)V"⟩
abbrev cX1_moveByThrow : ByteArray := prog_3_method_11_code
def yX1_moveByThrow : MethodName := ⟨RX1, "moveByThrow", "(I)I"⟩
abbrev cX1_endThrow : ByteArray := prog_3_method_12_code
def yX1_endThrow : MethodName := ⟨RX1, "endThrow", "()V"⟩
abbrev cX1_beginTurn : ByteArray := prog_3_method_13_code
def yX1_beginTurn : MethodName := ⟨RX1, "beginTurn", "()V"⟩
abbrev cX1_playOn : ByteArray := prog_3_method_14_code
def yX1_playOn : MethodName := ⟨RX1, "playOn", "(I)I"⟩
abbrev cX1_makeMove : ByteArray := prog_3_method_15_code
def yX1_makeMove : MethodName := ⟨RX1, "makeMove", "(II)Z"⟩
abbrev cX1_turnsUntilMended : ByteArray := prog_3_method_16_code
def yX1_turnsUntilMended : MethodName := ⟨RX1, "turnsUntilMended", "(I)I"⟩
def RX2 : String := "BridgedPachisi$History"
def TX2 : u_T := fun k => match k with
  | 0 => ("BridgedPachisi$History", "states", "[LBridgedPachisi$Game;", true)
  | 1 => ("BridgedPachisi$History", "next", "I", false)
  | _ => ("BridgedPachisi$History", "size", "I", false)
def tyX2 : Nat → FieldType := fun k => match k with
  | 0 => .array (.object "BridgedPachisi$Game")
  | 1 => .int
  | _ => .int
abbrev wsX20 : List Cond := u_ws RX2 TX2 3
theorem nmX2 : ∀ a, a < 3 → ∀ b, b < 3 → a ≠ b → (TX2 a).2.1 ≠ (TX2 b).2.1 := by decide +kernel
theorem tyX2_ok : ∀ k, k < 3 → parseFieldDescriptor (TX2 k).2.2.1 = some (tyX2 k) := by decide +kernel
abbrev cX2_init : ByteArray := prog_4_method_1_code
def yX2_init : MethodName := ⟨RX2, "<init>", "()V"⟩
abbrev cX2_remember : ByteArray := prog_4_method_2_code
def yX2_remember : MethodName := ⟨RX2, "remember", "(LBridgedPachisi$Game;)V"⟩
abbrev cX2_takeBack : ByteArray := prog_4_method_3_code
def yX2_takeBack : MethodName := ⟨RX2, "takeBack", "(LBridgedPachisi$Game;)Z"⟩
def RX3 : String := "BridgedPachisi$Pad"
def TX3 : u_T := fun k => match k with
  | 0 => ("BridgedPachisi$Pad", "text", "[C", true)
  | _ => ("BridgedPachisi$Pad", "length", "I", false)
def tyX3 : Nat → FieldType := fun k => match k with
  | 0 => .array .char
  | _ => .int
abbrev wsX30 : List Cond := u_ws RX3 TX3 2
theorem nmX3 : ∀ a, a < 2 → ∀ b, b < 2 → a ≠ b → (TX3 a).2.1 ≠ (TX3 b).2.1 := by decide +kernel
theorem tyX3_ok : ∀ k, k < 2 → parseFieldDescriptor (TX3 k).2.2.1 = some (tyX3 k) := by decide +kernel
abbrev cX3_init : ByteArray := prog_5_method_1_code
def yX3_init : MethodName := ⟨RX3, "<init>", "()V"⟩
abbrev cX3_append : ByteArray := prog_5_method_2_code
def yX3_append : MethodName := ⟨RX3, "append", "(JI)V"⟩
abbrev cX3_faultIndex : ByteArray := prog_5_method_3_code
def yX3_faultIndex : MethodName := ⟨RX3, "faultIndex", "()I"⟩
abbrev cX3_isCast : ByteArray := prog_5_method_4_code
def yX3_isCast : MethodName := ⟨RX3, "isCast", "(C)Z"⟩
abbrev cX3_isPieceOrPass : ByteArray := prog_5_method_5_code
def yX3_isPieceOrPass : MethodName := ⟨RX3, "isPieceOrPass", "(C)Z"⟩
abbrev cX3_moves : ByteArray := prog_5_method_6_code
def yX3_moves : MethodName := ⟨RX3, "moves", "()I"⟩
abbrev cX3_castOfMove : ByteArray := prog_5_method_7_code
def yX3_castOfMove : MethodName := ⟨RX3, "castOfMove", "(I)I"⟩
abbrev cX3_pieceOfMove : ByteArray := prog_5_method_8_code
def yX3_pieceOfMove : MethodName := ⟨RX3, "pieceOfMove", "(I)I"⟩
def RX4 : String := "BridgedPachisi$Route"
def TX4 : u_T := fun k => match k with
  | _ => ("BridgedPachisi$Route", "needed", "[I", true)
def tyX4 : Nat → FieldType := fun k => match k with
  | _ => .array .int
abbrev wsX40 : List Cond := u_ws RX4 TX4 1
theorem nmX4 : ∀ a, a < 1 → ∀ b, b < 1 → a ≠ b → (TX4 a).2.1 ≠ (TX4 b).2.1 := by decide +kernel
theorem tyX4_ok : ∀ k, k < 1 → parseFieldDescriptor (TX4 k).2.2.1 = some (tyX4 k) := by decide +kernel
abbrev cX4_init : ByteArray := prog_6_method_1_code
def yX4_init : MethodName := ⟨RX4, "<init>", "()V"⟩
abbrev cX4_fromHomeOn : ByteArray := prog_6_method_2_code
def yX4_fromHomeOn : MethodName := ⟨RX4, "fromHomeOn", "(LBridgedPachisi$Board;II)I"⟩
abbrev cX4_goingWide : ByteArray := prog_6_method_3_code
def yX4_goingWide : MethodName := ⟨RX4, "goingWide", "(LBridgedPachisi$Board;II)I"⟩
abbrev cX4_widen : ByteArray := prog_6_method_4_code
def yX4_widen : MethodName := ⟨RX4, "widen", "(LBridgedPachisi$Board;II)V"⟩
def RX5 : String := "BridgedPachisi"
def TX5 : u_T := fun k => match k with
  | 0 => ("BridgedPachisi", "game", "LBridgedPachisi$Game;", true)
  | 1 => ("BridgedPachisi", "trial", "LBridgedPachisi$Game;", true)
  | 2 => ("BridgedPachisi", "route", "LBridgedPachisi$Route;", true)
  | 3 => ("BridgedPachisi", "pad", "LBridgedPachisi$Pad;", true)
  | 4 => ("BridgedPachisi", "history", "LBridgedPachisi$History;", true)
  | _ => ("BridgedPachisi", "slots", "[LBridgedPachisi$Game;", true)
def tyX5 : Nat → FieldType := fun k => match k with
  | 0 => .object "BridgedPachisi$Game"
  | 1 => .object "BridgedPachisi$Game"
  | 2 => .object "BridgedPachisi$Route"
  | 3 => .object "BridgedPachisi$Pad"
  | 4 => .object "BridgedPachisi$History"
  | _ => .array (.object "BridgedPachisi$Game")
abbrev wsX50 : List Cond := u_ws RX5 TX5 6
theorem nmX5 : ∀ a, a < 6 → ∀ b, b < 6 → a ≠ b → (TX5 a).2.1 ≠ (TX5 b).2.1 := by decide +kernel
theorem tyX5_ok : ∀ k, k < 6 → parseFieldDescriptor (TX5 k).2.2.1 = some (tyX5 k) := by decide +kernel
abbrev cX5_init : ByteArray := prog_1_method_1_code
def yX5_init : MethodName := ⟨RX5, "<init>", "()V"⟩
abbrev cX5_set : ByteArray := prog_1_method_2_code
def yX5_set : MethodName := ⟨RX5, "set", "(II)I"⟩
abbrev cX5_seed : ByteArray := prog_1_method_3_code
def yX5_seed : MethodName := ⟨RX5, "seed", "(I)I"⟩
abbrev cX5_cast : ByteArray := prog_1_method_4_code
def yX5_cast : MethodName := ⟨RX5, "cast", "()I"⟩
abbrev cX5_move : ByteArray := prog_1_method_5_code
def yX5_move : MethodName := ⟨RX5, "move", "(I)I"⟩
abbrev cX5_skip : ByteArray := prog_1_method_6_code
def yX5_skip : MethodName := ⟨RX5, "skip", "()I"⟩
abbrev cX5_play : ByteArray := prog_1_method_7_code
def yX5_play : MethodName := ⟨RX5, "play", "(I)I"⟩
abbrev cX5_read : ByteArray := prog_1_method_8_code
def yX5_read : MethodName := ⟨RX5, "read", "()I"⟩
abbrev cX5_lay : ByteArray := prog_1_method_9_code
def yX5_lay : MethodName := ⟨RX5, "lay", "(II)I"⟩
abbrev cX5_piece : ByteArray := prog_1_method_10_code
def yX5_piece : MethodName := ⟨RX5, "piece", "(II)I"⟩
abbrev cX5_field : ByteArray := prog_1_method_11_code
def yX5_field : MethodName := ⟨RX5, "field", "(II)I"⟩
abbrev cX5_why : ByteArray := prog_1_method_12_code
def yX5_why : MethodName := ⟨RX5, "why", "(II)I"⟩
abbrev cX5_count : ByteArray := prog_1_method_13_code
def yX5_count : MethodName := ⟨RX5, "count", "(I)I"⟩
abbrev cX5_best : ByteArray := prog_1_method_14_code
def yX5_best : MethodName := ⟨RX5, "best", "()I"⟩
abbrev cX5_needs : ByteArray := prog_1_method_15_code
def yX5_needs : MethodName := ⟨RX5, "needs", "(II)I"⟩
abbrev cX5_nextCast : ByteArray := prog_1_method_16_code
def yX5_nextCast : MethodName := ⟨RX5, "nextCast", "(I)I"⟩
abbrev cX5_untilOver : ByteArray := prog_1_method_17_code
def yX5_untilOver : MethodName := ⟨RX5, "untilOver", "()I"⟩
abbrev cX5_put : ByteArray := prog_1_method_18_code
def yX5_put : MethodName := ⟨RX5, "put", "(J)I"⟩
abbrev cX5_wipe : ByteArray := prog_1_method_19_code
def yX5_wipe : MethodName := ⟨RX5, "wipe", "()I"⟩
abbrev cX5_fault : ByteArray := prog_1_method_20_code
def yX5_fault : MethodName := ⟨RX5, "fault", "()I"⟩
abbrev cX5_undo : ByteArray := prog_1_method_21_code
def yX5_undo : MethodName := ⟨RX5, "undo", "()I"⟩
abbrev cX5_save : ByteArray := prog_1_method_22_code
def yX5_save : MethodName := ⟨RX5, "save", "(I)I"⟩
abbrev cX5_restore : ByteArray := prog_1_method_23_code
def yX5_restore : MethodName := ⟨RX5, "restore", "(I)I"⟩
abbrev cX5_isNoPiece : ByteArray := prog_1_method_24_code
def yX5_isNoPiece : MethodName := ⟨RX5, "isNoPiece", "(I)Z"⟩
abbrev cX5_isOnRing : ByteArray := prog_1_method_25_code
def yX5_isOnRing : MethodName := ⟨RX5, "isOnRing", "(I)Z"⟩
abbrev cX5_isSafe : ByteArray := prog_1_method_26_code
def yX5_isSafe : MethodName := ⟨RX5, "isSafe", "(I)Z"⟩
abbrev cX5_bridgeOn : ByteArray := prog_1_method_27_code
def yX5_bridgeOn : MethodName := ⟨RX5, "bridgeOn", "(I)I"⟩
abbrev cX5_ringField : ByteArray := prog_1_method_28_code
def yX5_ringField : MethodName := ⟨RX5, "ringField", "(II)I"⟩
abbrev cX5_nextX : ByteArray := prog_1_method_29_code
def yX5_nextX : MethodName := ⟨RX5, "nextX", "(I)I"⟩
abbrev cX5_castOf : ByteArray := prog_1_method_30_code
def yX5_castOf : MethodName := ⟨RX5, "castOf", "(I)I"⟩
abbrev cX5_lengthOf : ByteArray := prog_1_method_31_code
def yX5_lengthOf : MethodName := ⟨RX5, "lengthOf", "(J)I"⟩
def RX6 : String := "BridgedPachisiModel"
def TX6 : u_T := fun k => match k with
  | 0 => ("BridgedPachisiModel", "z", "[I", true)
  | 1 => ("BridgedPachisiModel", "aside", "[I", true)
  | 2 => ("BridgedPachisiModel", "before", "[I", true)
  | 3 => ("BridgedPachisiModel", "states", "I", false)
  | 4 => ("BridgedPachisiModel", "slots", "[I", true)
  | 5 => ("BridgedPachisiModel", "isSaved", "[Z", true)
  | 6 => ("BridgedPachisiModel", "pad", "[I", true)
  | 7 => ("BridgedPachisiModel", "length", "I", false)
  | 8 => ("BridgedPachisiModel", "goal", "I", false)
  | _ => ("BridgedPachisiModel", "needed", "[I", true)
def tyX6 : Nat → FieldType := fun k => match k with
  | 0 => .array .int
  | 1 => .array .int
  | 2 => .array .int
  | 3 => .int
  | 4 => .array .int
  | 5 => .array .boolean
  | 6 => .array .int
  | 7 => .int
  | 8 => .int
  | _ => .array .int
abbrev wsX60 : List Cond := u_ws RX6 TX6 10
theorem nmX6 : ∀ a, a < 10 → ∀ b, b < 10 → a ≠ b → (TX6 a).2.1 ≠ (TX6 b).2.1 := by decide +kernel
theorem tyX6_ok : ∀ k, k < 10 → parseFieldDescriptor (TX6 k).2.2.1 = some (tyX6 k) := by decide +kernel
abbrev cX6_init : ByteArray := prog_8_method_1_code
def yX6_init : MethodName := ⟨RX6, "<init>", "()V"⟩
abbrev cX6_in : ByteArray := prog_8_method_3_code
def yX6_in : MethodName := ⟨RX6, "in", "(III)Z"⟩
abbrev cX6_isPiece : ByteArray := prog_8_method_4_code
def yX6_isPiece : MethodName := ⟨RX6, "isPiece", "(I)Z"⟩
abbrev cX6_fieldAt : ByteArray := prog_8_method_5_code
def yX6_fieldAt : MethodName := ⟨RX6, "fieldAt", "(II)I"⟩
abbrev cX6_fieldOf : ByteArray := prog_8_method_6_code
def yX6_fieldOf : MethodName := ⟨RX6, "fieldOf", "(I)I"⟩
abbrev cX6_isSafe : ByteArray := prog_8_method_7_code
def yX6_isSafe : MethodName := ⟨RX6, "isSafe", "(I)Z"⟩
abbrev cX6_isBridge : ByteArray := prog_8_method_8_code
def yX6_isBridge : MethodName := ⟨RX6, "isBridge", "(I)Z"⟩
abbrev cX6_isFallen : ByteArray := prog_8_method_9_code
def yX6_isFallen : MethodName := ⟨RX6, "isFallen", "(I)Z"⟩
abbrev cX6_piecesOn : ByteArray := prog_8_method_10_code
def yX6_piecesOn : MethodName := ⟨RX6, "piecesOn", "(II)I"⟩
abbrev cX6_allOn : ByteArray := prog_8_method_11_code
def yX6_allOn : MethodName := ⟨RX6, "allOn", "(I)I"⟩
abbrev cX6_isPairOn : ByteArray := prog_8_method_12_code
def yX6_isPairOn : MethodName := ⟨RX6, "isPairOn", "(I)Z"⟩
abbrev cX6_atHome : ByteArray := prog_8_method_13_code
def yX6_atHome : MethodName := ⟨RX6, "atHome", "(I)I"⟩
abbrev cX6_winner : ByteArray := prog_8_method_14_code
def yX6_winner : MethodName := ⟨RX6, "winner", "()I"⟩
abbrev cX6_isOver : ByteArray := prog_8_method_15_code
def yX6_isOver : MethodName := ⟨RX6, "isOver", "()Z"⟩
abbrev cX6_lookAtBridges : ByteArray := prog_8_method_16_code
def yX6_lookAtBridges : MethodName := ⟨RX6, "lookAtBridges", "()V"⟩
abbrev cX6_record : ByteArray := prog_8_method_17_code
def yX6_record : MethodName := ⟨RX6, "record", "()V"⟩
abbrev cX6_undo : ByteArray := prog_8_method_18_code
def yX6_undo : MethodName := ⟨RX6, "undo", "()I"⟩
abbrev cX6_save : ByteArray := prog_8_method_19_code
def yX6_save : MethodName := ⟨RX6, "save", "(I)I"⟩
abbrev cX6_restore : ByteArray := prog_8_method_20_code
def yX6_restore : MethodName := ⟨RX6, "restore", "(I)I"⟩
abbrev cX6_putAside : ByteArray := prog_8_method_21_code
def yX6_putAside : MethodName := ⟨RX6, "putAside", "()V"⟩
abbrev cX6_putBack : ByteArray := prog_8_method_22_code
def yX6_putBack : MethodName := ⟨RX6, "putBack", "()V"⟩
abbrev cX6_isBlocked : ByteArray := prog_8_method_23_code
def yX6_isBlocked : MethodName := ⟨RX6, "isBlocked", "(II)Z"⟩
abbrev cX6_stepOn : ByteArray := prog_8_method_24_code
def yX6_stepOn : MethodName := ⟨RX6, "stepOn", "(III)I"⟩
abbrev cX6_whyNot : ByteArray := prog_8_method_25_code
def yX6_whyNot : MethodName := ⟨RX6, "whyNot", "(II)I"⟩
abbrev cX6_otherOn : ByteArray := prog_8_method_26_code
def yX6_otherOn : MethodName := ⟨RX6, "otherOn", "(II)I"⟩
abbrev cX6_doMove : ByteArray := prog_8_method_27_code
def yX6_doMove : MethodName := ⟨RX6, "doMove", "(II)V"⟩
abbrev cX6_canMove : ByteArray := prog_8_method_28_code
def yX6_canMove : MethodName := ⟨RX6, "canMove", "(I)Z"⟩
abbrev cX6_goOn : ByteArray := prog_8_method_29_code
def yX6_goOn : MethodName := ⟨RX6, "goOn", "()V"⟩
abbrev cX6_draw : ByteArray := prog_8_method_30_code
def yX6_draw : MethodName := ⟨RX6, "draw", "()I"⟩
abbrev cX6_least : ByteArray := prog_8_method_31_code
def yX6_least : MethodName := ⟨RX6, "least", "(I)I"⟩
abbrev cX6_most : ByteArray := prog_8_method_32_code
def yX6_most : MethodName := ⟨RX6, "most", "(I)I"⟩
abbrev cX6_set : ByteArray := prog_8_method_33_code
def yX6_set : MethodName := ⟨RX6, "set", "(II)I"⟩
abbrev cX6_seed : ByteArray := prog_8_method_34_code
def yX6_seed : MethodName := ⟨RX6, "seed", "(I)I"⟩
abbrev cX6_hasCast : ByteArray := prog_8_method_35_code
def yX6_hasCast : MethodName := ⟨RX6, "hasCast", "()Z"⟩
abbrev cX6_doCast : ByteArray := prog_8_method_36_code
def yX6_doCast : MethodName := ⟨RX6, "doCast", "(I)V"⟩
abbrev cX6_cast : ByteArray := prog_8_method_37_code
def yX6_cast : MethodName := ⟨RX6, "cast", "()I"⟩
abbrev cX6_move : ByteArray := prog_8_method_38_code
def yX6_move : MethodName := ⟨RX6, "move", "(I)I"⟩
abbrev cX6_skip : ByteArray := prog_8_method_39_code
def yX6_skip : MethodName := ⟨RX6, "skip", "()I"⟩
abbrev cX6_doPlay : ByteArray := prog_8_method_40_code
def yX6_doPlay : MethodName := ⟨RX6, "doPlay", "(I)I"⟩
abbrev cX6_play : ByteArray := prog_8_method_41_code
def yX6_play : MethodName := ⟨RX6, "play", "(I)I"⟩
abbrev cX6_read : ByteArray := prog_8_method_42_code
def yX6_read : MethodName := ⟨RX6, "read", "()I"⟩
abbrev cX6_lay : ByteArray := prog_8_method_43_code
def yX6_lay : MethodName := ⟨RX6, "lay", "(II)I"⟩
abbrev cX6_piece : ByteArray := prog_8_method_44_code
def yX6_piece : MethodName := ⟨RX6, "piece", "(II)I"⟩
abbrev cX6_lowestOn : ByteArray := prog_8_method_45_code
def yX6_lowestOn : MethodName := ⟨RX6, "lowestOn", "(I)I"⟩
abbrev cX6_bridgeOn : ByteArray := prog_8_method_46_code
def yX6_bridgeOn : MethodName := ⟨RX6, "bridgeOn", "(I)I"⟩
abbrev cX6_mendedIn : ByteArray := prog_8_method_47_code
def yX6_mendedIn : MethodName := ⟨RX6, "mendedIn", "(I)I"⟩
abbrev cX6_field : ByteArray := prog_8_method_48_code
def yX6_field : MethodName := ⟨RX6, "field", "(II)I"⟩
abbrev cX6_why : ByteArray := prog_8_method_49_code
def yX6_why : MethodName := ⟨RX6, "why", "(II)I"⟩
abbrev cX6_fallenBridges : ByteArray := prog_8_method_50_code
def yX6_fallenBridges : MethodName := ⟨RX6, "fallenBridges", "()I"⟩
abbrev cX6_count : ByteArray := prog_8_method_51_code
def yX6_count : MethodName := ⟨RX6, "count", "(I)I"⟩
abbrev cX6_kindOf : ByteArray := prog_8_method_52_code
def yX6_kindOf : MethodName := ⟨RX6, "kindOf", "(II)I"⟩
abbrev cX6_bestPiece : ByteArray := prog_8_method_53_code
def yX6_bestPiece : MethodName := ⟨RX6, "bestPiece", "()I"⟩
abbrev cX6_best : ByteArray := prog_8_method_54_code
def yX6_best : MethodName := ⟨RX6, "best", "()I"⟩
abbrev cX6_throwsNeeded : ByteArray := prog_8_method_55_code
def yX6_throwsNeeded : MethodName := ⟨RX6, "throwsNeeded", "(I)I"⟩
abbrev cX6_needs : ByteArray := prog_8_method_56_code
def yX6_needs : MethodName := ⟨RX6, "needs", "(II)I"⟩
abbrev cX6_nextCast : ByteArray := prog_8_method_57_code
def yX6_nextCast : MethodName := ⟨RX6, "nextCast", "(I)I"⟩
abbrev cX6_untilOver : ByteArray := prog_8_method_58_code
def yX6_untilOver : MethodName := ⟨RX6, "untilOver", "()I"⟩
abbrev cX6_put : ByteArray := prog_8_method_59_code
def yX6_put : MethodName := ⟨RX6, "put", "(J)I"⟩
abbrev cX6_wipe : ByteArray := prog_8_method_60_code
def yX6_wipe : MethodName := ⟨RX6, "wipe", "()I"⟩
abbrev cX6_findFault : ByteArray := prog_8_method_61_code
def yX6_findFault : MethodName := ⟨RX6, "findFault", "()I"⟩
abbrev cX6_fault : ByteArray := prog_8_method_62_code
def yX6_fault : MethodName := ⟨RX6, "fault", "()I"⟩
def RJ9 : String := "java/lang/Math"
def TJ9 : u_T := fun k => match k with
  | _ => ("", "", "", false)
def tyJ9 : Nat → FieldType := fun k => match k with
  | _ => .int
abbrev wsJ90 : List Cond := u_ws RJ9 TJ9 0
theorem nmJ9 : ∀ a, a < 0 → ∀ b, b < 0 → a ≠ b → (TJ9 a).2.1 ≠ (TJ9 b).2.1 := by decide +kernel
theorem tyJ9_ok : ∀ k, k < 0 → parseFieldDescriptor (TJ9 k).2.2.1 = some (tyJ9 k) := by decide +kernel
abbrev cJ9_max_7cf53 : ByteArray := prog_9_method_65_code
def yJ9_max_7cf53 : MethodName := ⟨RJ9, "max", "(II)I"⟩
abbrev cJ9_min_7cf53 : ByteArray := prog_9_method_69_code
def yJ9_min_7cf53 : MethodName := ⟨RJ9, "min", "(II)I"⟩
def RJ10 : String := "java/lang/System"
def TJ10 : u_T := fun k => match k with
  | _ => ("", "", "", false)
def tyJ10 : Nat → FieldType := fun k => match k with
  | _ => .int
abbrev wsJ100 : List Cond := u_ws RJ10 TJ10 0
theorem nmJ10 : ∀ a, a < 0 → ∀ b, b < 0 → a ≠ b → (TJ10 a).2.1 ≠ (TJ10 b).2.1 := by decide +kernel
theorem tyJ10_ok : ∀ k, k < 0 → parseFieldDescriptor (TJ10 k).2.2.1 = some (tyJ10 k) := by decide +kernel
def RL : String := "BridgedPachisiLaw"
abbrev cL_law : ByteArray := code
def yL_law : MethodName := ⟨RL, "law", "([I)Z"⟩
def wsL_law_r1 : List Cond := [Cond.classLink RL 7 RX5, Cond.instantiable RX5 6, Cond.initialized RX5, Cond.classLink RL 10 RX6, Cond.instantiable RX6 10, Cond.initialized RX6, Cond.constantLong RL 80 (4294967295), Cond.methodLink RL 9 yX5_init, Cond.instanceMethod yX5_init, Cond.code yX5_init cX5_init 1 none, Cond.methodLink RX5 3 objectInit, Cond.instanceMethod objectInit, Cond.code objectInit ⟨#[0xb1]⟩ 1 none, Cond.classLink RX5 9 RX1, Cond.instantiable RX1 7, Cond.initialized RX1, Cond.fieldLink RX5 12 "BridgedPachisi" "game" "LBridgedPachisi$Game;", Cond.fieldLink RX5 16 "BridgedPachisi" "trial" "LBridgedPachisi$Game;", Cond.classLink RX5 19 RX4, Cond.instantiable RX4 1, Cond.initialized RX4, Cond.fieldLink RX5 22 "BridgedPachisi" "route" "LBridgedPachisi$Route;", Cond.classLink RX5 26 RX3, Cond.instantiable RX3 2]
def wsL_law_r2 : List Cond := [Cond.initialized RX3, Cond.fieldLink RX5 29 "BridgedPachisi" "pad" "LBridgedPachisi$Pad;", Cond.classLink RX5 33 RX2, Cond.instantiable RX2 3, Cond.initialized RX2, Cond.fieldLink RX5 36 "BridgedPachisi" "history" "LBridgedPachisi$History;", Cond.fieldLink RX5 40 "BridgedPachisi" "slots" "[LBridgedPachisi$Game;", Cond.instanceMethod yX1_init, Cond.code yX1_init cX1_init 1 none, Cond.methodLink RX1 3 objectInit, Cond.classLink RX1 9 RX0, Cond.instantiable RX0 5, Cond.initialized RX0, Cond.fieldLink RX1 12 "BridgedPachisi$Game" "board" "LBridgedPachisi$Board;", Cond.arrayClass .int, Cond.fieldLink RX1 18 "BridgedPachisi$Game" "settings" "[I", Cond.fieldLink RX1 22 "BridgedPachisi$Game" "x" "I", Cond.fieldLink RX1 26 "BridgedPachisi$Game" "player" "I", Cond.fieldLink RX1 29 "BridgedPachisi$Game" "thrown" "I", Cond.fieldLink RX1 32 "BridgedPachisi$Game" "turns" "I", Cond.fieldLink RX1 35 "BridgedPachisi$Game" "casts" "I", Cond.methodLink RX1 41 arraycopyName, Cond.native arraycopyName, Cond.static arraycopyName]
def wsL_law_r3 : List Cond := [Cond.initialized "java/lang/System", Cond.instanceMethod yX0_init, Cond.code yX0_init cX0_init 2 none, Cond.methodLink RX0 3 objectInit, Cond.fieldLink RX0 9 "BridgedPachisi$Board" "progress" "[I", Cond.fieldLink RX0 15 "BridgedPachisi$Board" "sentBack" "[I", Cond.fieldLink RX0 18 "BridgedPachisi$Board" "bridges" "[I", Cond.fieldLink RX0 21 "BridgedPachisi$Board" "fellIn" "[I", Cond.fieldLink RX0 24 "BridgedPachisi$Board" "falls" "I", Cond.instanceMethod yX4_init, Cond.code yX4_init cX4_init 1 none, Cond.methodLink RX4 3 objectInit, Cond.fieldLink RX4 9 "BridgedPachisi$Route" "needed" "[I", Cond.instanceMethod yX3_init, Cond.code yX3_init cX3_init 1 none, Cond.methodLink RX3 3 objectInit, Cond.arrayClass .char, Cond.fieldLink RX3 9 "BridgedPachisi$Pad" "text" "[C", Cond.fieldLink RX3 15 "BridgedPachisi$Pad" "length" "I", Cond.instanceMethod yX2_init, Cond.code yX2_init cX2_init 1 none, Cond.methodLink RX2 3 objectInit, Cond.classLink RX2 9 RX1, Cond.fieldLink RX2 11 "BridgedPachisi$History" "states" "[LBridgedPachisi$Game;"]
def wsL_law_r4 : List Cond := [Cond.fieldLink RX2 17 "BridgedPachisi$History" "next" "I", Cond.fieldLink RX2 21 "BridgedPachisi$History" "size" "I", Cond.methodLink RL 12 yX6_init, Cond.instanceMethod yX6_init, Cond.code yX6_init cX6_init 2 none, Cond.methodLink RX6 1 objectInit, Cond.fieldLink RX6 7 "BridgedPachisiModel" "z" "[I", Cond.fieldLink RX6 13 "BridgedPachisiModel" "aside" "[I", Cond.fieldLink RX6 16 "BridgedPachisiModel" "before" "[I", Cond.fieldLink RX6 19 "BridgedPachisiModel" "slots" "[I", Cond.arrayClass .boolean, Cond.fieldLink RX6 22 "BridgedPachisiModel" "isSaved" "[Z", Cond.fieldLink RX6 26 "BridgedPachisiModel" "pad" "[I", Cond.fieldLink RX6 29 "BridgedPachisiModel" "needed" "[I", Cond.methodLink RL 13 yX5_set, Cond.instanceMethod yX5_set, Cond.selects RX5 yX5_set yX5_set, Cond.code yX5_set cX5_set 4 (some .int), Cond.fieldLink RX5 44 "BridgedPachisi" "LEAST_VALUE" "[I", Cond.fieldLink RX5 48 "BridgedPachisi" "GREATEST_VALUE" "[I", Cond.instanceMethod yX2_remember, Cond.selects RX2 yX2_remember yX2_remember, Cond.code yX2_remember cX2_remember 3 none, Cond.methodLink RX2 29 Lib.Math.min.name]
def wsL_law_r5 : List Cond := [Cond.static Lib.Math.min.name, Cond.initialized "java/lang/Math", Cond.code Lib.Math.min.name Lib.Math.min.code 2 (some .int), Cond.instanceMethod yX1_copyFrom, Cond.selects RX1 yX1_copyFrom yX1_copyFrom, Cond.code yX1_copyFrom cX1_copyFrom 2 none, Cond.instanceMethod yX0_copyFrom, Cond.selects RX0 yX0_copyFrom yX0_copyFrom, Cond.code yX0_copyFrom cX0_copyFrom 2 none, Cond.methodLink RX0 28 arraycopyName, Cond.methodLink RL 17 yX6_set, Cond.instanceMethod yX6_set, Cond.selects RX6 yX6_set yX6_set, Cond.code yX6_set cX6_set 4 (some .int), Cond.methodLink RX6 32 yX6_in, Cond.static yX6_in, Cond.code yX6_in cX6_in 3 (some .boolean), Cond.methodLink RX6 108 yX6_least, Cond.static yX6_least, Cond.code yX6_least cX6_least 1 (some .int), Cond.methodLink RX6 111 yX6_most, Cond.static yX6_most, Cond.code yX6_most cX6_most 1 (some .int), Cond.methodLink RX6 68 yX6_record]
def wsL_law_r6 : List Cond := [Cond.instanceMethod yX6_record, Cond.selects RX6 yX6_record yX6_record, Cond.code yX6_record cX6_record 2 none, Cond.fieldLink RX6 64 "BridgedPachisiModel" "states" "I", Cond.methodLink RL 18 yX5_seed, Cond.instanceMethod yX5_seed, Cond.selects RX5 yX5_seed yX5_seed, Cond.code yX5_seed cX5_seed 3 (some .int), Cond.methodLink RL 22 yX6_seed, Cond.instanceMethod yX6_seed, Cond.selects RX6 yX6_seed yX6_seed, Cond.code yX6_seed cX6_seed 3 (some .int), Cond.methodLink RL 23 yX5_cast, Cond.instanceMethod yX5_cast, Cond.selects RX5 yX5_cast yX5_cast, Cond.code yX5_cast cX5_cast 1 (some .int), Cond.instanceMethod yX1_isOver, Cond.selects RX1 yX1_isOver yX1_isOver, Cond.code yX1_isOver cX1_isOver 1 (some .boolean), Cond.instanceMethod yX0_winner, Cond.selects RX0 yX0_winner yX0_winner, Cond.code yX0_winner cX0_winner 2 (some .int), Cond.methodLink RX0 55 yX0_homeOf, Cond.instanceMethod yX0_homeOf]
def wsL_law_r7 : List Cond := [Cond.selects RX0 yX0_homeOf yX0_homeOf, Cond.code yX0_homeOf cX0_homeOf 4 (some .int), Cond.instanceMethod yX1_hasThrow, Cond.selects RX1 yX1_hasThrow yX1_hasThrow, Cond.code yX1_hasThrow cX1_hasThrow 1 (some .boolean), Cond.instanceMethod yX1_throwByX, Cond.selects RX1 yX1_throwByX yX1_throwByX, Cond.code yX1_throwByX cX1_throwByX 1 none, Cond.static yX5_nextX, Cond.code yX5_nextX cX5_nextX 1 (some .int), Cond.constantLong RX5 214 (1103515245), Cond.constantLong RX5 216 (12345), Cond.constantLong RX5 218 (2147483648), Cond.static yX5_castOf, Cond.code yX5_castOf cX5_castOf 1 (some .int), Cond.constant RX5 220 (65536), Cond.methodLink RX1 100 yX1_takeThrow, Cond.instanceMethod yX1_takeThrow, Cond.selects RX1 yX1_takeThrow yX1_takeThrow, Cond.code yX1_takeThrow cX1_takeThrow 2 none, Cond.methodLink RL 27 yX6_cast, Cond.instanceMethod yX6_cast, Cond.selects RX6 yX6_cast yX6_cast, Cond.code yX6_cast cX6_cast 1 (some .int)]
def wsL_law_r8 : List Cond := [Cond.methodLink RX6 97 yX6_isOver, Cond.instanceMethod yX6_isOver, Cond.selects RX6 yX6_isOver yX6_isOver, Cond.code yX6_isOver cX6_isOver 1 (some .boolean), Cond.methodLink RX6 54 yX6_winner, Cond.instanceMethod yX6_winner, Cond.selects RX6 yX6_winner yX6_winner, Cond.code yX6_winner cX6_winner 3 (some .int), Cond.methodLink RX6 51 yX6_atHome, Cond.instanceMethod yX6_atHome, Cond.selects RX6 yX6_atHome yX6_atHome, Cond.code yX6_atHome cX6_atHome 4 (some .int), Cond.methodLink RX6 114 yX6_hasCast, Cond.instanceMethod yX6_hasCast, Cond.selects RX6 yX6_hasCast yX6_hasCast, Cond.code yX6_hasCast cX6_hasCast 1 (some .boolean), Cond.methodLink RX6 117 yX6_draw, Cond.instanceMethod yX6_draw, Cond.selects RX6 yX6_draw yX6_draw, Cond.code yX6_draw cX6_draw 1 (some .int), Cond.constantLong RX6 101 (1103515245), Cond.constantLong RX6 103 (12345), Cond.constantLong RX6 105 (2147483648), Cond.constant RX6 107 (65536)]
def wsL_law_r9 : List Cond := [Cond.methodLink RX6 120 yX6_doCast, Cond.instanceMethod yX6_doCast, Cond.selects RX6 yX6_doCast yX6_doCast, Cond.code yX6_doCast cX6_doCast 2 none, Cond.methodLink RL 28 yX5_move, Cond.instanceMethod yX5_move, Cond.selects RX5 yX5_move yX5_move, Cond.code yX5_move cX5_move 3 (some .int), Cond.instanceMethod yX1_reason, Cond.selects RX1 yX1_reason yX1_reason, Cond.code yX1_reason cX1_reason 6 (some .int), Cond.instanceMethod yX0_target, Cond.selects RX0 yX0_target yX0_target, Cond.code yX0_target cX0_target 6 (some .int), Cond.methodLink RX0 52 yX0_isFallenAt, Cond.instanceMethod yX0_isFallenAt, Cond.selects RX0 yX0_isFallenAt yX0_isFallenAt, Cond.code yX0_isFallenAt cX0_isFallenAt 3 (some .boolean), Cond.static yX5_ringField, Cond.code yX5_ringField cX5_ringField 2 (some .int), Cond.methodLink RX0 62 yX0_bridgeState, Cond.instanceMethod yX0_bridgeState, Cond.selects RX0 yX0_bridgeState yX0_bridgeState, Cond.code yX0_bridgeState cX0_bridgeState 3 (some .int)]
def wsL_law_r10 : List Cond := [Cond.static yX5_bridgeOn, Cond.code yX5_bridgeOn cX5_bridgeOn 1 (some .int), Cond.instanceMethod yX0_isBlockedOnWay, Cond.selects RX0 yX0_isBlockedOnWay yX0_isBlockedOnWay, Cond.code yX0_isBlockedOnWay cX0_isBlockedOnWay 6 (some .boolean), Cond.methodLink RX0 45 yX0_rivalsAt, Cond.instanceMethod yX0_rivalsAt, Cond.selects RX0 yX0_rivalsAt yX0_rivalsAt, Cond.code yX0_rivalsAt cX0_rivalsAt 6 (some .int), Cond.instanceMethod yX0_isFullFor, Cond.selects RX0 yX0_isFullFor yX0_isFullFor, Cond.code yX0_isFullFor cX0_isFullFor 3 (some .boolean), Cond.methodLink RX0 42 yX0_matesAt, Cond.instanceMethod yX0_matesAt, Cond.selects RX0 yX0_matesAt yX0_matesAt, Cond.code yX0_matesAt cX0_matesAt 6 (some .int), Cond.static yX5_isSafe, Cond.code yX5_isSafe cX5_isSafe 1 (some .boolean), Cond.instanceMethod yX1_moveByThrow, Cond.selects RX1 yX1_moveByThrow yX1_moveByThrow, Cond.code yX1_moveByThrow cX1_moveByThrow 3 (some .int), Cond.instanceMethod yX0_sendRivalsBack, Cond.selects RX0 yX0_sendRivalsBack yX0_sendRivalsBack, Cond.code yX0_sendRivalsBack cX0_sendRivalsBack 5 none]
def wsL_law_r11 : List Cond := [Cond.instanceMethod yX0_place, Cond.selects RX0 yX0_place yX0_place, Cond.code yX0_place cX0_place 4 none, Cond.methodLink RX0 65 yX0_strainAndFall, Cond.instanceMethod yX0_strainAndFall, Cond.selects RX0 yX0_strainAndFall yX0_strainAndFall, Cond.code yX0_strainAndFall cX0_strainAndFall 4 none, Cond.methodLink RX0 69 yX0_piecesOn, Cond.instanceMethod yX0_piecesOn, Cond.selects RX0 yX0_piecesOn yX0_piecesOn, Cond.code yX0_piecesOn cX0_piecesOn 4 (some .int), Cond.methodLink RX1 112 yX1_endThrow, Cond.instanceMethod yX1_endThrow, Cond.selects RX1 yX1_endThrow yX1_endThrow, Cond.code yX1_endThrow cX1_endThrow 2 none, Cond.methodLink RX1 115 yX1_isOver, Cond.methodLink RX1 119 yX1_beginTurn, Cond.instanceMethod yX1_beginTurn, Cond.selects RX1 yX1_beginTurn yX1_beginTurn, Cond.code yX1_beginTurn cX1_beginTurn 1 none, Cond.instanceMethod yX0_mend, Cond.selects RX0 yX0_mend yX0_mend, Cond.code yX0_mend cX0_mend 4 none, Cond.methodLink RL 31 yX6_move]
def wsL_law_r12 : List Cond := [Cond.instanceMethod yX6_move, Cond.selects RX6 yX6_move yX6_move, Cond.code yX6_move cX6_move 3 (some .int), Cond.methodLink RX6 88 yX6_whyNot, Cond.instanceMethod yX6_whyNot, Cond.selects RX6 yX6_whyNot yX6_whyNot, Cond.code yX6_whyNot cX6_whyNot 7 (some .int), Cond.fieldLink RX6 78 "BridgedPachisiModel" "goal" "I", Cond.methodLink RX6 74 yX6_stepOn, Cond.instanceMethod yX6_stepOn, Cond.selects RX6 yX6_stepOn yX6_stepOn, Cond.code yX6_stepOn cX6_stepOn 8 (some .int), Cond.methodLink RX6 36 yX6_fieldAt, Cond.static yX6_fieldAt, Cond.code yX6_fieldAt cX6_fieldAt 2 (some .int), Cond.methodLink RX6 71 yX6_isFallen, Cond.instanceMethod yX6_isFallen, Cond.selects RX6 yX6_isFallen yX6_isFallen, Cond.code yX6_isFallen cX6_isFallen 2 (some .boolean), Cond.methodLink RX6 40 yX6_isBridge, Cond.static yX6_isBridge, Cond.code yX6_isBridge cX6_isBridge 1 (some .boolean), Cond.methodLink RX6 81 yX6_isBlocked, Cond.instanceMethod yX6_isBlocked]
def wsL_law_r13 : List Cond := [Cond.selects RX6 yX6_isBlocked yX6_isBlocked, Cond.code yX6_isBlocked cX6_isBlocked 5 (some .boolean), Cond.methodLink RX6 48 yX6_piecesOn, Cond.instanceMethod yX6_piecesOn, Cond.selects RX6 yX6_piecesOn yX6_piecesOn, Cond.code yX6_piecesOn cX6_piecesOn 5 (some .int), Cond.methodLink RX6 44 yX6_fieldOf, Cond.instanceMethod yX6_fieldOf, Cond.selects RX6 yX6_fieldOf yX6_fieldOf, Cond.code yX6_fieldOf cX6_fieldOf 2 (some .int), Cond.methodLink RX6 85 yX6_isSafe, Cond.static yX6_isSafe, Cond.code yX6_isSafe cX6_isSafe 1 (some .boolean), Cond.methodLink RX6 61 yX6_allOn, Cond.instanceMethod yX6_allOn, Cond.selects RX6 yX6_allOn yX6_allOn, Cond.code yX6_allOn cX6_allOn 4 (some .int), Cond.methodLink RX6 124 yX6_doMove, Cond.instanceMethod yX6_doMove, Cond.selects RX6 yX6_doMove yX6_doMove, Cond.code yX6_doMove cX6_doMove 4 none, Cond.methodLink RX6 91 yX6_otherOn, Cond.instanceMethod yX6_otherOn, Cond.selects RX6 yX6_otherOn yX6_otherOn]
def wsL_law_r14 : List Cond := [Cond.code yX6_otherOn cX6_otherOn 5 (some .int), Cond.methodLink RX6 94 yX6_lookAtBridges, Cond.instanceMethod yX6_lookAtBridges, Cond.selects RX6 yX6_lookAtBridges yX6_lookAtBridges, Cond.code yX6_lookAtBridges cX6_lookAtBridges 3 none, Cond.methodLink RX6 58 yX6_isPairOn, Cond.instanceMethod yX6_isPairOn, Cond.selects RX6 yX6_isPairOn yX6_isPairOn, Cond.code yX6_isPairOn cX6_isPairOn 4 (some .boolean), Cond.methodLink RX6 128 yX6_goOn, Cond.instanceMethod yX6_goOn, Cond.selects RX6 yX6_goOn yX6_goOn, Cond.code yX6_goOn cX6_goOn 3 none, Cond.methodLink RL 32 yX5_skip, Cond.instanceMethod yX5_skip, Cond.selects RX5 yX5_skip yX5_skip, Cond.code yX5_skip cX5_skip 1 (some .int), Cond.instanceMethod yX1_canMoveBy, Cond.selects RX1 yX1_canMoveBy yX1_canMoveBy, Cond.code yX1_canMoveBy cX1_canMoveBy 3 (some .boolean), Cond.methodLink RX1 81 yX1_reason, Cond.methodLink RL 35 yX6_skip, Cond.instanceMethod yX6_skip, Cond.selects RX6 yX6_skip yX6_skip]
def wsL_law_r15 : List Cond := [Cond.code yX6_skip cX6_skip 1 (some .int), Cond.methodLink RX6 131 yX6_canMove, Cond.instanceMethod yX6_canMove, Cond.selects RX6 yX6_canMove yX6_canMove, Cond.code yX6_canMove cX6_canMove 4 (some .boolean), Cond.methodLink RL 36 yX5_play, Cond.instanceMethod yX5_play, Cond.selects RX5 yX5_play yX5_play, Cond.code yX5_play cX5_play 2 (some .int), Cond.instanceMethod yX1_playOn, Cond.selects RX1 yX1_playOn yX1_playOn, Cond.code yX1_playOn cX1_playOn 4 (some .int), Cond.methodLink RX1 125 yX1_throwByX, Cond.methodLink RX1 128 yX1_bestPiece, Cond.instanceMethod yX1_bestPiece, Cond.selects RX1 yX1_bestPiece yX1_bestPiece, Cond.code yX1_bestPiece cX1_bestPiece 5 (some .int), Cond.methodLink RX1 84 yX1_worthOfMove, Cond.instanceMethod yX1_worthOfMove, Cond.selects RX1 yX1_worthOfMove yX1_worthOfMove, Cond.code yX1_worthOfMove cX1_worthOfMove 5 (some .int), Cond.static yX5_isOnRing, Cond.code yX5_isOnRing cX5_isOnRing 1 (some .boolean), Cond.methodLink RX1 131 yX1_moveByThrow]
def wsL_law_r16 : List Cond := [Cond.methodLink RL 39 yX6_play, Cond.instanceMethod yX6_play, Cond.selects RX6 yX6_play yX6_play, Cond.code yX6_play cX6_play 2 (some .int), Cond.methodLink RX6 137 yX6_doPlay, Cond.instanceMethod yX6_doPlay, Cond.selects RX6 yX6_doPlay yX6_doPlay, Cond.code yX6_doPlay cX6_doPlay 4 (some .int), Cond.methodLink RX6 134 yX6_bestPiece, Cond.instanceMethod yX6_bestPiece, Cond.selects RX6 yX6_bestPiece yX6_bestPiece, Cond.code yX6_bestPiece cX6_bestPiece 6 (some .int), Cond.methodLink RX6 161 yX6_kindOf, Cond.instanceMethod yX6_kindOf, Cond.selects RX6 yX6_kindOf yX6_kindOf, Cond.code yX6_kindOf cX6_kindOf 6 (some .int), Cond.methodLink RL 40 yX5_read, Cond.instanceMethod yX5_read, Cond.selects RX5 yX5_read yX5_read, Cond.code yX5_read cX5_read 2 (some .int), Cond.instanceMethod yX3_faultIndex, Cond.selects RX3 yX3_faultIndex yX3_faultIndex, Cond.code yX3_faultIndex cX3_faultIndex 2 (some .int), Cond.methodLink RX3 21 yX3_isCast]
def wsL_law_r17 : List Cond := [Cond.static yX3_isCast, Cond.code yX3_isCast cX3_isCast 1 (some .boolean), Cond.methodLink RX3 25 yX3_isPieceOrPass, Cond.static yX3_isPieceOrPass, Cond.code yX3_isPieceOrPass cX3_isPieceOrPass 1 (some .boolean), Cond.instanceMethod yX3_moves, Cond.selects RX3 yX3_moves yX3_moves, Cond.code yX3_moves cX3_moves 1 (some .int), Cond.instanceMethod yX3_castOfMove, Cond.selects RX3 yX3_castOfMove yX3_castOfMove, Cond.code yX3_castOfMove cX3_castOfMove 2 (some .int), Cond.instanceMethod yX3_pieceOfMove, Cond.selects RX3 yX3_pieceOfMove yX3_pieceOfMove, Cond.code yX3_pieceOfMove cX3_pieceOfMove 3 (some .int), Cond.instanceMethod yX1_makeMove, Cond.selects RX1 yX1_makeMove yX1_makeMove, Cond.code yX1_makeMove cX1_makeMove 4 (some .boolean), Cond.methodLink RX1 134 yX1_canMoveBy, Cond.methodLink RL 43 yX6_read, Cond.instanceMethod yX6_read, Cond.selects RX6 yX6_read yX6_read, Cond.code yX6_read cX6_read 6 (some .int), Cond.fieldLink RX6 143 "BridgedPachisiModel" "length" "I", Cond.methodLink RX6 140 yX6_findFault]
def wsL_law_r18 : List Cond := [Cond.instanceMethod yX6_findFault, Cond.selects RX6 yX6_findFault yX6_findFault, Cond.code yX6_findFault cX6_findFault 3 (some .int), Cond.methodLink RL 44 yX5_lay, Cond.instanceMethod yX5_lay, Cond.selects RX5 yX5_lay yX5_lay, Cond.code yX5_lay cX5_lay 4 (some .int), Cond.methodLink RX5 116 yX5_isNoPiece, Cond.static yX5_isNoPiece, Cond.code yX5_isNoPiece cX5_isNoPiece 1 (some .boolean), Cond.instanceMethod yX0_hasRoomFor, Cond.selects RX0 yX0_hasRoomFor yX0_hasRoomFor, Cond.code yX0_hasRoomFor cX0_hasRoomFor 4 (some .boolean), Cond.methodLink RX0 48 yX0_isFullFor, Cond.methodLink RL 47 yX6_lay, Cond.instanceMethod yX6_lay, Cond.selects RX6 yX6_lay yX6_lay, Cond.code yX6_lay cX6_lay 7 (some .int), Cond.methodLink RX6 146 yX6_isPiece, Cond.static yX6_isPiece, Cond.code yX6_isPiece cX6_isPiece 1 (some .boolean), Cond.methodLink RL 48 yX5_piece, Cond.instanceMethod yX5_piece, Cond.selects RX5 yX5_piece yX5_piece]
def wsL_law_r19 : List Cond := [Cond.code yX5_piece cX5_piece 3 (some .int), Cond.instanceMethod yX0_fieldOf, Cond.selects RX0 yX0_fieldOf yX0_fieldOf, Cond.code yX0_fieldOf cX0_fieldOf 2 (some .int), Cond.instanceMethod yX0_isInPair, Cond.selects RX0 yX0_isInPair yX0_isInPair, Cond.code yX0_isInPair cX0_isInPair 2 (some .boolean), Cond.methodLink RL 51 yX6_piece, Cond.instanceMethod yX6_piece, Cond.selects RX6 yX6_piece yX6_piece, Cond.code yX6_piece cX6_piece 3 (some .int), Cond.methodLink RL 52 yX5_field, Cond.instanceMethod yX5_field, Cond.selects RX5 yX5_field yX5_field, Cond.code yX5_field cX5_field 3 (some .int), Cond.instanceMethod yX0_lowestOn, Cond.selects RX0 yX0_lowestOn yX0_lowestOn, Cond.code yX0_lowestOn cX0_lowestOn 3 (some .int), Cond.methodLink RX5 153 yX5_isSafe, Cond.instanceMethod yX1_turnsUntilMended, Cond.selects RX1 yX1_turnsUntilMended yX1_turnsUntilMended, Cond.code yX1_turnsUntilMended cX1_turnsUntilMended 3 (some .int), Cond.methodLink RX1 146 Lib.Math.max.name, Cond.static Lib.Math.max.name]
def wsL_law_r20 : List Cond := [Cond.code Lib.Math.max.name Lib.Math.max.code 2 (some .int), Cond.methodLink RL 55 yX6_field, Cond.instanceMethod yX6_field, Cond.selects RX6 yX6_field yX6_field, Cond.code yX6_field cX6_field 3 (some .int), Cond.methodLink RX6 149 yX6_lowestOn, Cond.instanceMethod yX6_lowestOn, Cond.selects RX6 yX6_lowestOn yX6_lowestOn, Cond.code yX6_lowestOn cX6_lowestOn 4 (some .int), Cond.methodLink RX6 152 yX6_bridgeOn, Cond.instanceMethod yX6_bridgeOn, Cond.selects RX6 yX6_bridgeOn yX6_bridgeOn, Cond.code yX6_bridgeOn cX6_bridgeOn 3 (some .int), Cond.methodLink RX6 155 yX6_mendedIn, Cond.instanceMethod yX6_mendedIn, Cond.selects RX6 yX6_mendedIn yX6_mendedIn, Cond.code yX6_mendedIn cX6_mendedIn 3 (some .int), Cond.methodLink RL 56 yX5_why, Cond.instanceMethod yX5_why, Cond.selects RX5 yX5_why yX5_why, Cond.code yX5_why cX5_why 3 (some .int), Cond.methodLink RL 59 yX6_why, Cond.instanceMethod yX6_why, Cond.selects RX6 yX6_why yX6_why]
def wsL_law_r21 : List Cond := [Cond.code yX6_why cX6_why 3 (some .int), Cond.methodLink RL 60 yX5_count, Cond.instanceMethod yX5_count, Cond.selects RX5 yX5_count yX5_count, Cond.code yX5_count cX5_count 2 (some .int), Cond.instanceMethod yX0_sentBackInAll, Cond.selects RX0 yX0_sentBackInAll yX0_sentBackInAll, Cond.code yX0_sentBackInAll cX0_sentBackInAll 3 (some .int), Cond.instanceMethod yX0_fallenSet, Cond.selects RX0 yX0_fallenSet yX0_fallenSet, Cond.code yX0_fallenSet cX0_fallenSet 3 (some .int), Cond.methodLink RL 63 yX6_count, Cond.instanceMethod yX6_count, Cond.selects RX6 yX6_count yX6_count, Cond.code yX6_count cX6_count 2 (some .int), Cond.methodLink RX6 158 yX6_fallenBridges, Cond.instanceMethod yX6_fallenBridges, Cond.selects RX6 yX6_fallenBridges yX6_fallenBridges, Cond.code yX6_fallenBridges cX6_fallenBridges 3 (some .int), Cond.methodLink RL 64 yX5_best, Cond.instanceMethod yX5_best, Cond.selects RX5 yX5_best yX5_best, Cond.code yX5_best cX5_best 2 (some .int), Cond.methodLink RL 67 yX6_best]
def wsL_law_r22 : List Cond := [Cond.instanceMethod yX6_best, Cond.selects RX6 yX6_best yX6_best, Cond.code yX6_best cX6_best 1 (some .int), Cond.methodLink RL 68 yX5_needs, Cond.instanceMethod yX5_needs, Cond.selects RX5 yX5_needs yX5_needs, Cond.code yX5_needs cX5_needs 7 (some .int), Cond.instanceMethod yX4_fromHomeOn, Cond.selects RX4 yX4_fromHomeOn yX4_fromHomeOn, Cond.code yX4_fromHomeOn cX4_fromHomeOn 8 (some .int), Cond.methodLink RX4 21 Lib.Math.min.name, Cond.instanceMethod yX4_goingWide, Cond.selects RX4 yX4_goingWide yX4_goingWide, Cond.code yX4_goingWide cX4_goingWide 5 (some .int), Cond.methodLink RX4 27 yX4_widen, Cond.instanceMethod yX4_widen, Cond.selects RX4 yX4_widen yX4_widen, Cond.code yX4_widen cX4_widen 7 none, Cond.methodLink RL 71 yX6_needs, Cond.instanceMethod yX6_needs, Cond.selects RX6 yX6_needs yX6_needs, Cond.code yX6_needs cX6_needs 3 (some .int), Cond.methodLink RX6 164 yX6_throwsNeeded, Cond.instanceMethod yX6_throwsNeeded]
def wsL_law_r23 : List Cond := [Cond.selects RX6 yX6_throwsNeeded yX6_throwsNeeded, Cond.code yX6_throwsNeeded cX6_throwsNeeded 6 (some .int), Cond.methodLink RL 72 yX5_nextCast, Cond.instanceMethod yX5_nextCast, Cond.selects RX5 yX5_nextCast yX5_nextCast, Cond.code yX5_nextCast cX5_nextCast 4 (some .int), Cond.methodLink RX5 193 yX5_nextX, Cond.methodLink RX5 196 yX5_castOf, Cond.methodLink RL 75 yX6_nextCast, Cond.instanceMethod yX6_nextCast, Cond.selects RX6 yX6_nextCast yX6_nextCast, Cond.code yX6_nextCast cX6_nextCast 5 (some .int), Cond.methodLink RL 76 yX5_untilOver, Cond.instanceMethod yX5_untilOver, Cond.selects RX5 yX5_untilOver yX5_untilOver, Cond.code yX5_untilOver cX5_untilOver 2 (some .int), Cond.methodLink RL 79 yX6_untilOver, Cond.instanceMethod yX6_untilOver, Cond.selects RX6 yX6_untilOver yX6_untilOver, Cond.code yX6_untilOver cX6_untilOver 3 (some .int), Cond.methodLink RX6 167 yX6_putAside, Cond.instanceMethod yX6_putAside, Cond.selects RX6 yX6_putAside yX6_putAside, Cond.code yX6_putAside cX6_putAside 2 none]
def wsL_law_r24 : List Cond := [Cond.methodLink RX6 170 yX6_putBack, Cond.instanceMethod yX6_putBack, Cond.selects RX6 yX6_putBack yX6_putBack, Cond.code yX6_putBack cX6_putBack 2 none, Cond.methodLink RL 82 yX5_put, Cond.instanceMethod yX5_put, Cond.selects RX5 yX5_put yX5_put, Cond.code yX5_put cX5_put 4 (some .int), Cond.methodLink RX5 202 yX5_lengthOf, Cond.static yX5_lengthOf, Cond.code yX5_lengthOf cX5_lengthOf 7 (some .int), Cond.constantLong RX5 221 (255), Cond.constantLong RX5 223 (33), Cond.constantLong RX5 225 (126), Cond.instanceMethod yX3_append, Cond.selects RX3 yX3_append yX3_append, Cond.code yX3_append cX3_append 5 none, Cond.constantLong RX3 19 (255), Cond.methodLink RL 86 yX6_put, Cond.instanceMethod yX6_put, Cond.selects RX6 yX6_put yX6_put, Cond.code yX6_put cX6_put 8 (some .int), Cond.constantLong RX6 173 (255), Cond.methodLink RL 87 yX5_wipe]
def wsL_law_r25 : List Cond := [Cond.instanceMethod yX5_wipe, Cond.selects RX5 yX5_wipe yX5_wipe, Cond.code yX5_wipe cX5_wipe 2 (some .int), Cond.methodLink RL 90 yX6_wipe, Cond.instanceMethod yX6_wipe, Cond.selects RX6 yX6_wipe yX6_wipe, Cond.code yX6_wipe cX6_wipe 2 (some .int), Cond.methodLink RL 91 yX5_fault, Cond.instanceMethod yX5_fault, Cond.selects RX5 yX5_fault yX5_fault, Cond.code yX5_fault cX5_fault 1 (some .int), Cond.methodLink RL 94 yX6_fault, Cond.instanceMethod yX6_fault, Cond.selects RX6 yX6_fault yX6_fault, Cond.code yX6_fault cX6_fault 1 (some .int), Cond.methodLink RL 95 yX5_undo, Cond.instanceMethod yX5_undo, Cond.selects RX5 yX5_undo yX5_undo, Cond.code yX5_undo cX5_undo 1 (some .int), Cond.instanceMethod yX2_takeBack, Cond.selects RX2 yX2_takeBack yX2_takeBack, Cond.code yX2_takeBack cX2_takeBack 4 (some .boolean), Cond.methodLink RL 98 yX6_undo, Cond.instanceMethod yX6_undo]
def wsL_law_r26 : List Cond := [Cond.selects RX6 yX6_undo yX6_undo, Cond.code yX6_undo cX6_undo 2 (some .int), Cond.methodLink RL 99 yX5_save, Cond.instanceMethod yX5_save, Cond.selects RX5 yX5_save yX5_save, Cond.code yX5_save cX5_save 3 (some .int), Cond.methodLink RL 102 yX6_save, Cond.instanceMethod yX6_save, Cond.selects RX6 yX6_save yX6_save, Cond.code yX6_save cX6_save 3 (some .int), Cond.methodLink RL 103 yX5_restore, Cond.instanceMethod yX5_restore, Cond.selects RX5 yX5_restore yX5_restore, Cond.code yX5_restore cX5_restore 3 (some .int), Cond.methodLink RL 106 yX6_restore, Cond.instanceMethod yX6_restore, Cond.selects RX6 yX6_restore yX6_restore, Cond.code yX6_restore cX6_restore 3 (some .int)]
def wsL_law : List Cond := (wsL_law_r1 ++ (wsL_law_r2 ++ (wsL_law_r3 ++ (wsL_law_r4 ++ (wsL_law_r5 ++ (wsL_law_r6 ++ (wsL_law_r7 ++ (wsL_law_r8 ++ (wsL_law_r9 ++ (wsL_law_r10 ++ (wsL_law_r11 ++ (wsL_law_r12 ++ (wsL_law_r13 ++ (wsL_law_r14 ++ (wsL_law_r15 ++ (wsL_law_r16 ++ (wsL_law_r17 ++ (wsL_law_r18 ++ (wsL_law_r19 ++ (wsL_law_r20 ++ (wsL_law_r21 ++ (wsL_law_r22 ++ (wsL_law_r23 ++ (wsL_law_r24 ++ (wsL_law_r25 ++ wsL_law_r26))))))))))))))))))))))))) ++ wsX50 ++ wsX60 ++ wsX10 ++ wsX40 ++ wsX30 ++ wsX20 ++ wsX00 ++ ([] : List Cond)
set_option maxRecDepth 20000 in
theorem wsL_law_r1_in : GoodIn lw_tbl wsL_law_r1 := goodIn_r _ [87, 88, 78, 573, 574, 85, 849, 89, 90, 91, 92, 93, 94, 95, 96, 79, 208, 209, 164, 165, 82, 210, 174, 175] (by decide +kernel) (by decide +kernel)
set_option maxRecDepth 20000 in
theorem wsL_law_r2_in : GoodIn lw_tbl wsL_law_r2 := goodIn_r _ [83, 211, 189, 190, 84, 212, 213, 98, 99, 100, 101, 102, 80, 135, 129, 137, 139, 141, 143, 145, 147, 132, 134, 133] (by decide +kernel) (by decide +kernel)
set_option maxRecDepth 20000 in
theorem wsL_law_r3_in : GoodIn lw_tbl wsL_law_r3 := goodIn_r _ [81, 104, 105, 106, 107, 110, 112, 114, 116, 167, 168, 169, 170, 177, 178, 179, 188, 180, 181, 192, 193, 194, 195, 197] (by decide +kernel) (by decide +kernel)
set_option maxRecDepth 20000 in
theorem wsL_law_r4_in : GoodIn lw_tbl wsL_law_r4 := goodIn_r _ [198, 199, 575, 576, 577, 578, 579, 580, 581, 583, 610, 584, 585, 588, 227, 228, 229, 230, 231, 233, 237, 0, 238, 249] (by decide +kernel) (by decide +kernel)
set_option maxRecDepth 20000 in
theorem wsL_law_r5_in : GoodIn lw_tbl wsL_law_r5 := goodIn_r _ [250, 86, 251, 242, 1, 243, 246, 2, 247, 248, 630, 631, 632, 633, 619, 620, 621, 634, 635, 636, 637, 638, 639, 626] (by decide +kernel) (by decide +kernel)
set_option maxRecDepth 20000 in
theorem wsL_law_r6_in : GoodIn lw_tbl wsL_law_r6 := goodIn_r _ [628, 46, 629, 582, 252, 253, 254, 255, 640, 641, 642, 643, 256, 257, 258, 259, 262, 3, 263, 266, 4, 267, 268, 270] (by decide +kernel) (by decide +kernel)
set_option maxRecDepth 20000 in
theorem wsL_law_r7_in : GoodIn lw_tbl wsL_law_r7 := goodIn_r _ [5, 271, 274, 6, 275, 278, 7, 279, 281, 282, 283, 284, 285, 287, 288, 289, 290, 292, 8, 293, 644, 645, 646, 647] (by decide +kernel) (by decide +kernel)
set_option maxRecDepth 20000 in
theorem wsL_law_r8_in : GoodIn lw_tbl wsL_law_r8 := goodIn_r _ [648, 650, 47, 651, 652, 654, 48, 655, 656, 658, 49, 659, 660, 662, 50, 663, 664, 666, 51, 667, 668, 669, 670, 671] (by decide +kernel) (by decide +kernel)
set_option maxRecDepth 20000 in
theorem wsL_law_r9_in : GoodIn lw_tbl wsL_law_r9 := goodIn_r _ [672, 674, 52, 675, 294, 295, 296, 297, 300, 9, 301, 304, 10, 305, 306, 308, 11, 309, 311, 312, 313, 315, 12, 316] (by decide +kernel) (by decide +kernel)
set_option maxRecDepth 20000 in
theorem wsL_law_r10_in : GoodIn lw_tbl wsL_law_r10 := goodIn_r _ [318, 319, 322, 13, 323, 324, 326, 14, 327, 330, 15, 331, 332, 334, 16, 335, 338, 339, 343, 17, 344, 347, 18, 348] (by decide +kernel) (by decide +kernel)
set_option maxRecDepth 20000 in
theorem wsL_law_r11_in : GoodIn lw_tbl wsL_law_r11 := goodIn_r _ [351, 19, 352, 353, 355, 20, 356, 357, 359, 21, 360, 361, 363, 22, 364, 365, 366, 368, 23, 369, 372, 24, 373, 676] (by decide +kernel) (by decide +kernel)
set_option maxRecDepth 20000 in
theorem wsL_law_r12_in : GoodIn lw_tbl wsL_law_r12 := goodIn_r _ [677, 678, 679, 680, 682, 53, 683, 587, 684, 686, 54, 687, 688, 689, 690, 691, 693, 55, 694, 695, 696, 697, 698, 700] (by decide +kernel) (by decide +kernel)
set_option maxRecDepth 20000 in
theorem wsL_law_r13_in : GoodIn lw_tbl wsL_law_r13 := goodIn_r _ [56, 701, 702, 704, 57, 705, 706, 708, 58, 709, 710, 711, 712, 713, 715, 59, 716, 717, 719, 60, 720, 721, 723, 61] (by decide +kernel) (by decide +kernel)
set_option maxRecDepth 20000 in
theorem wsL_law_r14_in : GoodIn lw_tbl wsL_law_r14 := goodIn_r _ [724, 725, 727, 62, 728, 729, 731, 63, 732, 733, 735, 64, 736, 374, 375, 376, 377, 380, 25, 381, 382, 737, 738, 739] (by decide +kernel) (by decide +kernel)
set_option maxRecDepth 20000 in
theorem wsL_law_r15_in : GoodIn lw_tbl wsL_law_r15 := goodIn_r _ [740, 741, 743, 65, 744, 384, 385, 386, 387, 390, 26, 391, 392, 393, 395, 27, 396, 397, 399, 28, 400, 402, 403, 405] (by decide +kernel) (by decide +kernel)
set_option maxRecDepth 20000 in
theorem wsL_law_r16_in : GoodIn lw_tbl wsL_law_r16 := goodIn_r _ [745, 746, 747, 748, 749, 751, 66, 752, 753, 755, 67, 756, 757, 759, 68, 760, 406, 407, 408, 409, 412, 29, 413, 414] (by decide +kernel) (by decide +kernel)
set_option maxRecDepth 20000 in
theorem wsL_law_r17_in : GoodIn lw_tbl wsL_law_r17 := goodIn_r _ [415, 416, 417, 418, 419, 422, 30, 423, 426, 31, 427, 430, 32, 431, 434, 33, 435, 436, 761, 762, 763, 764, 586, 765] (by decide +kernel) (by decide +kernel)
set_option maxRecDepth 20000 in
theorem wsL_law_r18_in : GoodIn lw_tbl wsL_law_r18 := goodIn_r _ [767, 69, 768, 437, 438, 439, 440, 441, 442, 443, 446, 34, 447, 448, 769, 770, 771, 772, 773, 774, 775, 450, 451, 452] (by decide +kernel) (by decide +kernel)
set_option maxRecDepth 20000 in
theorem wsL_law_r19_in : GoodIn lw_tbl wsL_law_r19 := goodIn_r _ [453, 456, 35, 457, 460, 36, 461, 776, 777, 778, 779, 463, 464, 465, 466, 470, 37, 471, 472, 476, 38, 477, 479, 480] (by decide +kernel) (by decide +kernel)
set_option maxRecDepth 20000 in
theorem wsL_law_r20_in : GoodIn lw_tbl wsL_law_r20 := goodIn_r _ [481, 780, 781, 782, 783, 784, 786, 70, 787, 788, 790, 71, 791, 792, 794, 72, 795, 482, 483, 484, 485, 796, 797, 798] (by decide +kernel) (by decide +kernel)
set_option maxRecDepth 20000 in
theorem wsL_law_r21_in : GoodIn lw_tbl wsL_law_r21 := goodIn_r _ [799, 486, 487, 488, 489, 494, 39, 495, 498, 40, 499, 800, 801, 802, 803, 804, 806, 73, 807, 500, 501, 502, 503, 808] (by decide +kernel) (by decide +kernel)
set_option maxRecDepth 20000 in
theorem wsL_law_r22_in : GoodIn lw_tbl wsL_law_r22 := goodIn_r _ [809, 810, 811, 505, 506, 507, 508, 511, 41, 512, 514, 517, 42, 518, 519, 521, 43, 522, 812, 813, 814, 815, 816, 818] (by decide +kernel) (by decide +kernel)
set_option maxRecDepth 20000 in
theorem wsL_law_r23_in : GoodIn lw_tbl wsL_law_r23 := goodIn_r _ [74, 819, 523, 524, 525, 526, 527, 528, 820, 821, 822, 823, 529, 530, 531, 532, 824, 825, 826, 827, 828, 830, 75, 831] (by decide +kernel) (by decide +kernel)
set_option maxRecDepth 20000 in
theorem wsL_law_r24_in : GoodIn lw_tbl wsL_law_r24 := goodIn_r _ [832, 834, 76, 835, 534, 535, 536, 537, 538, 539, 540, 541, 542, 543, 546, 44, 547, 548, 836, 837, 838, 839, 840, 549] (by decide +kernel) (by decide +kernel)
set_option maxRecDepth 20000 in
theorem wsL_law_r25_in : GoodIn lw_tbl wsL_law_r25 := goodIn_r _ [550, 551, 552, 841, 842, 843, 844, 553, 554, 555, 556, 845, 846, 847, 848, 557, 558, 559, 560, 563, 45, 564, 611, 612] (by decide +kernel) (by decide +kernel)
set_option maxRecDepth 20000 in
theorem wsL_law_r26_in : GoodIn lw_tbl wsL_law_r26 := goodIn_r _ [613, 614, 565, 566, 567, 568, 615, 616, 617, 618, 569, 570, 571, 572, 622, 623, 624, 625] (by decide +kernel) (by decide +kernel)
set_option maxRecDepth 20000 in
theorem wsX50_in : GoodIn lw_tbl wsX50 := goodIn_p _ [] rfl (by decide +kernel)
set_option maxRecDepth 20000 in
theorem wsX60_in : GoodIn lw_tbl wsX60 := goodIn_p _ [] rfl (by decide +kernel)
set_option maxRecDepth 20000 in
theorem wsX10_in : GoodIn lw_tbl wsX10 := goodIn_p _ [] rfl (by decide +kernel)
set_option maxRecDepth 20000 in
theorem wsX40_in : GoodIn lw_tbl wsX40 := goodIn_p _ [] rfl (by decide +kernel)
set_option maxRecDepth 20000 in
theorem wsX30_in : GoodIn lw_tbl wsX30 := goodIn_p _ [] rfl (by decide +kernel)
set_option maxRecDepth 20000 in
theorem wsX20_in : GoodIn lw_tbl wsX20 := goodIn_p _ [] rfl (by decide +kernel)
set_option maxRecDepth 20000 in
theorem wsX00_in : GoodIn lw_tbl wsX00 := goodIn_p _ [] rfl (by decide +kernel)
theorem wsL_law_in : ∀ w ∈ wsL_law, w ∈ lw_tbl := fun w h => ((goodIn_app (goodIn_app (goodIn_app (goodIn_app (goodIn_app (goodIn_app (goodIn_app (goodIn_app (goodIn_app wsL_law_r1_in (goodIn_app wsL_law_r2_in (goodIn_app wsL_law_r3_in (goodIn_app wsL_law_r4_in (goodIn_app wsL_law_r5_in (goodIn_app wsL_law_r6_in (goodIn_app wsL_law_r7_in (goodIn_app wsL_law_r8_in (goodIn_app wsL_law_r9_in (goodIn_app wsL_law_r10_in (goodIn_app wsL_law_r11_in (goodIn_app wsL_law_r12_in (goodIn_app wsL_law_r13_in (goodIn_app wsL_law_r14_in (goodIn_app wsL_law_r15_in (goodIn_app wsL_law_r16_in (goodIn_app wsL_law_r17_in (goodIn_app wsL_law_r18_in (goodIn_app wsL_law_r19_in (goodIn_app wsL_law_r20_in (goodIn_app wsL_law_r21_in (goodIn_app wsL_law_r22_in (goodIn_app wsL_law_r23_in (goodIn_app wsL_law_r24_in (goodIn_app wsL_law_r25_in wsL_law_r26_in))))))))))))))))))))))))) wsX50_in) wsX60_in) wsX10_in) wsX40_in) wsX30_in) wsX20_in) wsX00_in) (fun _ h => absurd h List.not_mem_nil)) w h).1
theorem inlX0 : ∀ w ∈ wsX00, w ∈ wsL_law := fun _ h => List.mem_append_left _ (List.mem_append_right _ h)
theorem inX0 : ∀ w ∈ wsX00, w ∈ lw_tbl := fun w h => wsL_law_in w (inlX0 w h)
theorem inlX1 : ∀ w ∈ wsX10, w ∈ wsL_law := fun _ h => List.mem_append_left _ (List.mem_append_left _ (List.mem_append_left _ (List.mem_append_left _ (List.mem_append_left _ (List.mem_append_right _ h)))))
theorem inX1 : ∀ w ∈ wsX10, w ∈ lw_tbl := fun w h => wsL_law_in w (inlX1 w h)
theorem inlX2 : ∀ w ∈ wsX20, w ∈ wsL_law := fun _ h => List.mem_append_left _ (List.mem_append_left _ (List.mem_append_right _ h))
theorem inX2 : ∀ w ∈ wsX20, w ∈ lw_tbl := fun w h => wsL_law_in w (inlX2 w h)
theorem inlX3 : ∀ w ∈ wsX30, w ∈ wsL_law := fun _ h => List.mem_append_left _ (List.mem_append_left _ (List.mem_append_left _ (List.mem_append_right _ h)))
theorem inX3 : ∀ w ∈ wsX30, w ∈ lw_tbl := fun w h => wsL_law_in w (inlX3 w h)
theorem inlX4 : ∀ w ∈ wsX40, w ∈ wsL_law := fun _ h => List.mem_append_left _ (List.mem_append_left _ (List.mem_append_left _ (List.mem_append_left _ (List.mem_append_right _ h))))
theorem inX4 : ∀ w ∈ wsX40, w ∈ lw_tbl := fun w h => wsL_law_in w (inlX4 w h)
theorem inlX5 : ∀ w ∈ wsX50, w ∈ wsL_law := fun _ h => List.mem_append_left _ (List.mem_append_left _ (List.mem_append_left _ (List.mem_append_left _ (List.mem_append_left _ (List.mem_append_left _ (List.mem_append_left _ (List.mem_append_right _ h)))))))
theorem inX5 : ∀ w ∈ wsX50, w ∈ lw_tbl := fun w h => wsL_law_in w (inlX5 w h)
theorem inlX6 : ∀ w ∈ wsX60, w ∈ wsL_law := fun _ h => List.mem_append_left _ (List.mem_append_left _ (List.mem_append_left _ (List.mem_append_left _ (List.mem_append_left _ (List.mem_append_left _ (List.mem_append_right _ h))))))
theorem inX6 : ∀ w ∈ wsX60, w ∈ lw_tbl := fun w h => wsL_law_in w (inlX6 w h)
theorem inJ9 : ∀ w ∈ wsJ90, w ∈ lw_tbl := by decide +kernel
theorem inJ10 : ∀ w ∈ wsJ100, w ∈ lw_tbl := by decide +kernel
abbrev vwCl : List vw_C := [(RX0, TX0, 5), (RX1, TX1, 7), (RX2, TX2, 3), (RX3, TX3, 2), (RX4, TX4, 1), (RX5, TX5, 6), (RX6, TX6, 10)]
end
section
theorem dX0_init_0 : decode cX0_init 0 = .ok (.aload_n 0, 1) := by decide +kernel
theorem dX0_init_1 : decode cX0_init 1 = .ok (.invokespecial 3, 3) := by decide +kernel
theorem dX0_init_4 : decode cX0_init 4 = .ok (.aload_n 0, 1) := by decide +kernel
theorem dX0_init_5 : decode cX0_init 5 = .ok (.bipush 12, 2) := by decide +kernel
theorem dX0_init_7 : decode cX0_init 7 = .ok (.newarray .int, 2) := by decide +kernel
theorem dX0_init_9 : decode cX0_init 9 = .ok (.putfield 9, 3) := by decide +kernel
theorem dX0_init_12 : decode cX0_init 12 = .ok (.aload_n 0, 1) := by decide +kernel
theorem dX0_init_13 : decode cX0_init 13 = .ok (.bipush 12, 2) := by decide +kernel
theorem dX0_init_15 : decode cX0_init 15 = .ok (.newarray .int, 2) := by decide +kernel
theorem dX0_init_17 : decode cX0_init 17 = .ok (.putfield 15, 3) := by decide +kernel
theorem dX0_init_20 : decode cX0_init 20 = .ok (.aload_n 0, 1) := by decide +kernel
theorem dX0_init_21 : decode cX0_init 21 = .ok (.iconst 4, 1) := by decide +kernel
theorem dX0_init_22 : decode cX0_init 22 = .ok (.newarray .int, 2) := by decide +kernel
theorem dX0_init_24 : decode cX0_init 24 = .ok (.putfield 18, 3) := by decide +kernel
theorem dX0_init_27 : decode cX0_init 27 = .ok (.aload_n 0, 1) := by decide +kernel
theorem dX0_init_28 : decode cX0_init 28 = .ok (.iconst 4, 1) := by decide +kernel
theorem dX0_init_29 : decode cX0_init 29 = .ok (.newarray .int, 2) := by decide +kernel
theorem dX0_init_31 : decode cX0_init 31 = .ok (.putfield 21, 3) := by decide +kernel
theorem dX0_init_34 : decode cX0_init 34 = .ok (.aload_n 0, 1) := by decide +kernel
theorem dX0_init_35 : decode cX0_init 35 = .ok (.iconst 0, 1) := by decide +kernel
theorem dX0_init_36 : decode cX0_init 36 = .ok (.putfield 24, 3) := by decide +kernel
theorem dX0_init_39 : decode cX0_init 39 = .ok (.iconst 0, 1) := by decide +kernel
theorem dX0_init_40 : decode cX0_init 40 = .ok (.istore_n 1, 1) := by decide +kernel
theorem dX0_init_41 : decode cX0_init 41 = .ok (.iload_n 1, 1) := by decide +kernel
theorem dX0_init_42 : decode cX0_init 42 = .ok (.bipush 12, 2) := by decide +kernel
theorem dX0_init_44 : decode cX0_init 44 = .ok (.if_icmp .ge 17, 3) := by decide +kernel
theorem dX0_init_47 : decode cX0_init 47 = .ok (.aload_n 0, 1) := by decide +kernel
theorem dX0_init_48 : decode cX0_init 48 = .ok (.getfield 9, 3) := by decide +kernel
theorem dX0_init_51 : decode cX0_init 51 = .ok (.iload_n 1, 1) := by decide +kernel
theorem dX0_init_52 : decode cX0_init 52 = .ok (.bipush (-6), 2) := by decide +kernel
theorem dX0_init_54 : decode cX0_init 54 = .ok (.iastore, 1) := by decide +kernel
theorem dX0_init_55 : decode cX0_init 55 = .ok (.iinc 1 1, 3) := by decide +kernel
theorem dX0_init_58 : decode cX0_init 58 = .ok (.goto (-17), 3) := by decide +kernel
theorem dX0_init_61 : decode cX0_init 61 = .ok (.iconst 0, 1) := by decide +kernel
theorem dX0_init_62 : decode cX0_init 62 = .ok (.istore_n 1, 1) := by decide +kernel
theorem dX0_init_63 : decode cX0_init 63 = .ok (.iload_n 1, 1) := by decide +kernel
theorem dX0_init_64 : decode cX0_init 64 = .ok (.iconst 4, 1) := by decide +kernel
theorem dX0_init_65 : decode cX0_init 65 = .ok (.if_icmp .ge 16, 3) := by decide +kernel
theorem dX0_init_68 : decode cX0_init 68 = .ok (.aload_n 0, 1) := by decide +kernel
theorem dX0_init_69 : decode cX0_init 69 = .ok (.getfield 18, 3) := by decide +kernel
theorem dX0_init_72 : decode cX0_init 72 = .ok (.iload_n 1, 1) := by decide +kernel
theorem dX0_init_73 : decode cX0_init 73 = .ok (.iconst 1, 1) := by decide +kernel
theorem dX0_init_74 : decode cX0_init 74 = .ok (.iastore, 1) := by decide +kernel
theorem dX0_init_75 : decode cX0_init 75 = .ok (.iinc 1 1, 3) := by decide +kernel
theorem dX0_init_78 : decode cX0_init 78 = .ok (.goto (-15), 3) := by decide +kernel
theorem dX0_init_81 : decode cX0_init 81 = .ok (.return_, 1) := by decide +kernel
theorem dX0_copyFrom_0 : decode cX0_copyFrom 0 = .ok (.aload_n 1, 1) := by decide +kernel
theorem dX0_copyFrom_1 : decode cX0_copyFrom 1 = .ok (.getfield 9, 3) := by decide +kernel
theorem dX0_copyFrom_4 : decode cX0_copyFrom 4 = .ok (.iconst 0, 1) := by decide +kernel
theorem dX0_copyFrom_5 : decode cX0_copyFrom 5 = .ok (.aload_n 0, 1) := by decide +kernel
theorem dX0_copyFrom_6 : decode cX0_copyFrom 6 = .ok (.getfield 9, 3) := by decide +kernel
theorem dX0_copyFrom_9 : decode cX0_copyFrom 9 = .ok (.iconst 0, 1) := by decide +kernel
theorem dX0_copyFrom_10 : decode cX0_copyFrom 10 = .ok (.bipush 12, 2) := by decide +kernel
theorem dX0_copyFrom_12 : decode cX0_copyFrom 12 = .ok (.invokestatic 28, 3) := by decide +kernel
theorem dX0_copyFrom_15 : decode cX0_copyFrom 15 = .ok (.aload_n 1, 1) := by decide +kernel
theorem dX0_copyFrom_16 : decode cX0_copyFrom 16 = .ok (.getfield 15, 3) := by decide +kernel
theorem dX0_copyFrom_19 : decode cX0_copyFrom 19 = .ok (.iconst 0, 1) := by decide +kernel
theorem dX0_copyFrom_20 : decode cX0_copyFrom 20 = .ok (.aload_n 0, 1) := by decide +kernel
theorem dX0_copyFrom_21 : decode cX0_copyFrom 21 = .ok (.getfield 15, 3) := by decide +kernel
theorem dX0_copyFrom_24 : decode cX0_copyFrom 24 = .ok (.iconst 0, 1) := by decide +kernel
theorem dX0_copyFrom_25 : decode cX0_copyFrom 25 = .ok (.bipush 12, 2) := by decide +kernel
theorem dX0_copyFrom_27 : decode cX0_copyFrom 27 = .ok (.invokestatic 28, 3) := by decide +kernel
theorem dX0_copyFrom_30 : decode cX0_copyFrom 30 = .ok (.aload_n 1, 1) := by decide +kernel
theorem dX0_copyFrom_31 : decode cX0_copyFrom 31 = .ok (.getfield 18, 3) := by decide +kernel
theorem dX0_copyFrom_34 : decode cX0_copyFrom 34 = .ok (.iconst 0, 1) := by decide +kernel
theorem dX0_copyFrom_35 : decode cX0_copyFrom 35 = .ok (.aload_n 0, 1) := by decide +kernel
theorem dX0_copyFrom_36 : decode cX0_copyFrom 36 = .ok (.getfield 18, 3) := by decide +kernel
theorem dX0_copyFrom_39 : decode cX0_copyFrom 39 = .ok (.iconst 0, 1) := by decide +kernel
theorem dX0_copyFrom_40 : decode cX0_copyFrom 40 = .ok (.iconst 4, 1) := by decide +kernel
theorem dX0_copyFrom_41 : decode cX0_copyFrom 41 = .ok (.invokestatic 28, 3) := by decide +kernel
theorem dX0_copyFrom_44 : decode cX0_copyFrom 44 = .ok (.aload_n 1, 1) := by decide +kernel
theorem dX0_copyFrom_45 : decode cX0_copyFrom 45 = .ok (.getfield 21, 3) := by decide +kernel
theorem dX0_copyFrom_48 : decode cX0_copyFrom 48 = .ok (.iconst 0, 1) := by decide +kernel
theorem dX0_copyFrom_49 : decode cX0_copyFrom 49 = .ok (.aload_n 0, 1) := by decide +kernel
theorem dX0_copyFrom_50 : decode cX0_copyFrom 50 = .ok (.getfield 21, 3) := by decide +kernel
theorem dX0_copyFrom_53 : decode cX0_copyFrom 53 = .ok (.iconst 0, 1) := by decide +kernel
theorem dX0_copyFrom_54 : decode cX0_copyFrom 54 = .ok (.iconst 4, 1) := by decide +kernel
theorem dX0_copyFrom_55 : decode cX0_copyFrom 55 = .ok (.invokestatic 28, 3) := by decide +kernel
theorem dX0_copyFrom_58 : decode cX0_copyFrom 58 = .ok (.aload_n 0, 1) := by decide +kernel
theorem dX0_copyFrom_59 : decode cX0_copyFrom 59 = .ok (.aload_n 1, 1) := by decide +kernel
theorem dX0_copyFrom_60 : decode cX0_copyFrom 60 = .ok (.getfield 24, 3) := by decide +kernel
theorem dX0_copyFrom_63 : decode cX0_copyFrom 63 = .ok (.putfield 24, 3) := by decide +kernel
theorem dX0_copyFrom_66 : decode cX0_copyFrom 66 = .ok (.return_, 1) := by decide +kernel
theorem dX0_fieldOf_0 : decode cX0_fieldOf 0 = .ok (.iload_n 1, 1) := by decide +kernel
theorem dX0_fieldOf_1 : decode cX0_fieldOf 1 = .ok (.iconst 3, 1) := by decide +kernel
theorem dX0_fieldOf_2 : decode cX0_fieldOf 2 = .ok (.idiv, 1) := by decide +kernel
theorem dX0_fieldOf_3 : decode cX0_fieldOf 3 = .ok (.aload_n 0, 1) := by decide +kernel
theorem dX0_fieldOf_4 : decode cX0_fieldOf 4 = .ok (.getfield 9, 3) := by decide +kernel
theorem dX0_fieldOf_7 : decode cX0_fieldOf 7 = .ok (.iload_n 1, 1) := by decide +kernel
theorem dX0_fieldOf_8 : decode cX0_fieldOf 8 = .ok (.iaload, 1) := by decide +kernel
theorem dX0_fieldOf_9 : decode cX0_fieldOf 9 = .ok (.invokestatic 34, 3) := by decide +kernel
theorem dX0_fieldOf_12 : decode cX0_fieldOf 12 = .ok (.ireturn, 1) := by decide +kernel
theorem dX0_piecesOn_0 : decode cX0_piecesOn 0 = .ok (.iconst 0, 1) := by decide +kernel
theorem dX0_piecesOn_1 : decode cX0_piecesOn 1 = .ok (.istore_n 2, 1) := by decide +kernel
theorem dX0_piecesOn_2 : decode cX0_piecesOn 2 = .ok (.iconst 0, 1) := by decide +kernel
theorem dX0_piecesOn_3 : decode cX0_piecesOn 3 = .ok (.istore_n 3, 1) := by decide +kernel
theorem dX0_piecesOn_4 : decode cX0_piecesOn 4 = .ok (.iload_n 3, 1) := by decide +kernel
theorem dX0_piecesOn_5 : decode cX0_piecesOn 5 = .ok (.bipush 12, 2) := by decide +kernel
theorem dX0_piecesOn_7 : decode cX0_piecesOn 7 = .ok (.if_icmp .ge 28, 3) := by decide +kernel
theorem dX0_piecesOn_10 : decode cX0_piecesOn 10 = .ok (.iload_n 3, 1) := by decide +kernel
theorem dX0_piecesOn_11 : decode cX0_piecesOn 11 = .ok (.iconst 3, 1) := by decide +kernel
theorem dX0_piecesOn_12 : decode cX0_piecesOn 12 = .ok (.idiv, 1) := by decide +kernel
theorem dX0_piecesOn_13 : decode cX0_piecesOn 13 = .ok (.aload_n 0, 1) := by decide +kernel
theorem dX0_piecesOn_14 : decode cX0_piecesOn 14 = .ok (.getfield 9, 3) := by decide +kernel
theorem dX0_piecesOn_17 : decode cX0_piecesOn 17 = .ok (.iload_n 3, 1) := by decide +kernel
theorem dX0_piecesOn_18 : decode cX0_piecesOn 18 = .ok (.iaload, 1) := by decide +kernel
theorem dX0_piecesOn_19 : decode cX0_piecesOn 19 = .ok (.invokestatic 34, 3) := by decide +kernel
theorem dX0_piecesOn_22 : decode cX0_piecesOn 22 = .ok (.iload_n 1, 1) := by decide +kernel
theorem dX0_piecesOn_23 : decode cX0_piecesOn 23 = .ok (.if_icmp .ne 6, 3) := by decide +kernel
theorem dX0_piecesOn_26 : decode cX0_piecesOn 26 = .ok (.iinc 2 1, 3) := by decide +kernel
theorem dX0_piecesOn_29 : decode cX0_piecesOn 29 = .ok (.iinc 3 1, 3) := by decide +kernel
theorem dX0_piecesOn_32 : decode cX0_piecesOn 32 = .ok (.goto (-28), 3) := by decide +kernel
theorem dX0_piecesOn_35 : decode cX0_piecesOn 35 = .ok (.iload_n 2, 1) := by decide +kernel
theorem dX0_piecesOn_36 : decode cX0_piecesOn 36 = .ok (.ireturn, 1) := by decide +kernel
theorem dX0_lowestOn_0 : decode cX0_lowestOn 0 = .ok (.iconst 0, 1) := by decide +kernel
theorem dX0_lowestOn_1 : decode cX0_lowestOn 1 = .ok (.istore_n 2, 1) := by decide +kernel
theorem dX0_lowestOn_2 : decode cX0_lowestOn 2 = .ok (.iload_n 2, 1) := by decide +kernel
theorem dX0_lowestOn_3 : decode cX0_lowestOn 3 = .ok (.bipush 12, 2) := by decide +kernel
theorem dX0_lowestOn_5 : decode cX0_lowestOn 5 = .ok (.if_icmp .ge 27, 3) := by decide +kernel
theorem dX0_lowestOn_8 : decode cX0_lowestOn 8 = .ok (.iload_n 2, 1) := by decide +kernel
theorem dX0_lowestOn_9 : decode cX0_lowestOn 9 = .ok (.iconst 3, 1) := by decide +kernel
theorem dX0_lowestOn_10 : decode cX0_lowestOn 10 = .ok (.idiv, 1) := by decide +kernel
theorem dX0_lowestOn_11 : decode cX0_lowestOn 11 = .ok (.aload_n 0, 1) := by decide +kernel
theorem dX0_lowestOn_12 : decode cX0_lowestOn 12 = .ok (.getfield 9, 3) := by decide +kernel
theorem dX0_lowestOn_15 : decode cX0_lowestOn 15 = .ok (.iload_n 2, 1) := by decide +kernel
theorem dX0_lowestOn_16 : decode cX0_lowestOn 16 = .ok (.iaload, 1) := by decide +kernel
theorem dX0_lowestOn_17 : decode cX0_lowestOn 17 = .ok (.invokestatic 34, 3) := by decide +kernel
theorem dX0_lowestOn_20 : decode cX0_lowestOn 20 = .ok (.iload_n 1, 1) := by decide +kernel
theorem dX0_lowestOn_21 : decode cX0_lowestOn 21 = .ok (.if_icmp .ne 5, 3) := by decide +kernel
theorem dX0_lowestOn_24 : decode cX0_lowestOn 24 = .ok (.iload_n 2, 1) := by decide +kernel
theorem dX0_lowestOn_25 : decode cX0_lowestOn 25 = .ok (.ireturn, 1) := by decide +kernel
theorem dX0_lowestOn_26 : decode cX0_lowestOn 26 = .ok (.iinc 2 1, 3) := by decide +kernel
theorem dX0_lowestOn_29 : decode cX0_lowestOn 29 = .ok (.goto (-27), 3) := by decide +kernel
theorem dX0_lowestOn_32 : decode cX0_lowestOn 32 = .ok (.bipush (-6), 2) := by decide +kernel
theorem dX0_lowestOn_34 : decode cX0_lowestOn 34 = .ok (.ireturn, 1) := by decide +kernel
theorem dX0_rivalsAt_0 : decode cX0_rivalsAt 0 = .ok (.iload_n 1, 1) := by decide +kernel
theorem dX0_rivalsAt_1 : decode cX0_rivalsAt 1 = .ok (.iload_n 2, 1) := by decide +kernel
theorem dX0_rivalsAt_2 : decode cX0_rivalsAt 2 = .ok (.invokestatic 34, 3) := by decide +kernel
theorem dX0_rivalsAt_5 : decode cX0_rivalsAt 5 = .ok (.istore_n 3, 1) := by decide +kernel
theorem dX0_rivalsAt_6 : decode cX0_rivalsAt 6 = .ok (.iconst 0, 1) := by decide +kernel
theorem dX0_rivalsAt_7 : decode cX0_rivalsAt 7 = .ok (.istore 4, 2) := by decide +kernel
theorem dX0_rivalsAt_9 : decode cX0_rivalsAt 9 = .ok (.iconst 0, 1) := by decide +kernel
theorem dX0_rivalsAt_10 : decode cX0_rivalsAt 10 = .ok (.istore 5, 2) := by decide +kernel
theorem dX0_rivalsAt_12 : decode cX0_rivalsAt 12 = .ok (.iload 5, 2) := by decide +kernel
theorem dX0_rivalsAt_14 : decode cX0_rivalsAt 14 = .ok (.bipush 12, 2) := by decide +kernel
theorem dX0_rivalsAt_16 : decode cX0_rivalsAt 16 = .ok (.if_icmp .ge 44, 3) := by decide +kernel
theorem dX0_rivalsAt_19 : decode cX0_rivalsAt 19 = .ok (.iload_n 3, 1) := by decide +kernel
theorem dX0_rivalsAt_20 : decode cX0_rivalsAt 20 = .ok (.bipush (-6), 2) := by decide +kernel
theorem dX0_rivalsAt_22 : decode cX0_rivalsAt 22 = .ok (.if_icmp .eq 38, 3) := by decide +kernel
theorem dX0_rivalsAt_25 : decode cX0_rivalsAt 25 = .ok (.iload 5, 2) := by decide +kernel
theorem dX0_rivalsAt_27 : decode cX0_rivalsAt 27 = .ok (.iconst 3, 1) := by decide +kernel
theorem dX0_rivalsAt_28 : decode cX0_rivalsAt 28 = .ok (.idiv, 1) := by decide +kernel
theorem dX0_rivalsAt_29 : decode cX0_rivalsAt 29 = .ok (.iload_n 1, 1) := by decide +kernel
theorem dX0_rivalsAt_30 : decode cX0_rivalsAt 30 = .ok (.if_icmp .eq 24, 3) := by decide +kernel
theorem dX0_rivalsAt_33 : decode cX0_rivalsAt 33 = .ok (.iload 5, 2) := by decide +kernel
theorem dX0_rivalsAt_35 : decode cX0_rivalsAt 35 = .ok (.iconst 3, 1) := by decide +kernel
theorem dX0_rivalsAt_36 : decode cX0_rivalsAt 36 = .ok (.idiv, 1) := by decide +kernel
theorem dX0_rivalsAt_37 : decode cX0_rivalsAt 37 = .ok (.aload_n 0, 1) := by decide +kernel
theorem dX0_rivalsAt_38 : decode cX0_rivalsAt 38 = .ok (.getfield 9, 3) := by decide +kernel
theorem dX0_rivalsAt_41 : decode cX0_rivalsAt 41 = .ok (.iload 5, 2) := by decide +kernel
theorem dX0_rivalsAt_43 : decode cX0_rivalsAt 43 = .ok (.iaload, 1) := by decide +kernel
theorem dX0_rivalsAt_44 : decode cX0_rivalsAt 44 = .ok (.invokestatic 34, 3) := by decide +kernel
theorem dX0_rivalsAt_47 : decode cX0_rivalsAt 47 = .ok (.iload_n 3, 1) := by decide +kernel
theorem dX0_rivalsAt_48 : decode cX0_rivalsAt 48 = .ok (.if_icmp .ne 6, 3) := by decide +kernel
theorem dX0_rivalsAt_51 : decode cX0_rivalsAt 51 = .ok (.iinc 4 1, 3) := by decide +kernel
theorem dX0_rivalsAt_54 : decode cX0_rivalsAt 54 = .ok (.iinc 5 1, 3) := by decide +kernel
theorem dX0_rivalsAt_57 : decode cX0_rivalsAt 57 = .ok (.goto (-45), 3) := by decide +kernel
theorem dX0_rivalsAt_60 : decode cX0_rivalsAt 60 = .ok (.iload 4, 2) := by decide +kernel
theorem dX0_rivalsAt_62 : decode cX0_rivalsAt 62 = .ok (.ireturn, 1) := by decide +kernel
theorem dX0_matesAt_0 : decode cX0_matesAt 0 = .ok (.iload_n 1, 1) := by decide +kernel
theorem dX0_matesAt_1 : decode cX0_matesAt 1 = .ok (.iload_n 1, 1) := by decide +kernel
theorem dX0_matesAt_2 : decode cX0_matesAt 2 = .ok (.iconst 3, 1) := by decide +kernel
theorem dX0_matesAt_3 : decode cX0_matesAt 3 = .ok (.irem, 1) := by decide +kernel
theorem dX0_matesAt_4 : decode cX0_matesAt 4 = .ok (.isub, 1) := by decide +kernel
theorem dX0_matesAt_5 : decode cX0_matesAt 5 = .ok (.istore_n 3, 1) := by decide +kernel
theorem dX0_matesAt_6 : decode cX0_matesAt 6 = .ok (.iconst 0, 1) := by decide +kernel
theorem dX0_matesAt_7 : decode cX0_matesAt 7 = .ok (.istore 4, 2) := by decide +kernel
theorem dX0_matesAt_9 : decode cX0_matesAt 9 = .ok (.iload_n 3, 1) := by decide +kernel
theorem dX0_matesAt_10 : decode cX0_matesAt 10 = .ok (.istore 5, 2) := by decide +kernel
theorem dX0_matesAt_12 : decode cX0_matesAt 12 = .ok (.iload 5, 2) := by decide +kernel
theorem dX0_matesAt_14 : decode cX0_matesAt 14 = .ok (.iload_n 3, 1) := by decide +kernel
theorem dX0_matesAt_15 : decode cX0_matesAt 15 = .ok (.iconst 3, 1) := by decide +kernel
theorem dX0_matesAt_16 : decode cX0_matesAt 16 = .ok (.iadd, 1) := by decide +kernel
theorem dX0_matesAt_17 : decode cX0_matesAt 17 = .ok (.if_icmp .ge 29, 3) := by decide +kernel
theorem dX0_matesAt_20 : decode cX0_matesAt 20 = .ok (.iload 5, 2) := by decide +kernel
theorem dX0_matesAt_22 : decode cX0_matesAt 22 = .ok (.iload_n 1, 1) := by decide +kernel
theorem dX0_matesAt_23 : decode cX0_matesAt 23 = .ok (.if_icmp .eq 17, 3) := by decide +kernel
theorem dX0_matesAt_26 : decode cX0_matesAt 26 = .ok (.aload_n 0, 1) := by decide +kernel
theorem dX0_matesAt_27 : decode cX0_matesAt 27 = .ok (.getfield 9, 3) := by decide +kernel
theorem dX0_matesAt_30 : decode cX0_matesAt 30 = .ok (.iload 5, 2) := by decide +kernel
theorem dX0_matesAt_32 : decode cX0_matesAt 32 = .ok (.iaload, 1) := by decide +kernel
theorem dX0_matesAt_33 : decode cX0_matesAt 33 = .ok (.iload_n 2, 1) := by decide +kernel
theorem dX0_matesAt_34 : decode cX0_matesAt 34 = .ok (.if_icmp .ne 6, 3) := by decide +kernel
theorem dX0_matesAt_37 : decode cX0_matesAt 37 = .ok (.iinc 4 1, 3) := by decide +kernel
theorem dX0_matesAt_40 : decode cX0_matesAt 40 = .ok (.iinc 5 1, 3) := by decide +kernel
theorem dX0_matesAt_43 : decode cX0_matesAt 43 = .ok (.goto (-31), 3) := by decide +kernel
theorem dX0_matesAt_46 : decode cX0_matesAt 46 = .ok (.iload 4, 2) := by decide +kernel
theorem dX0_matesAt_48 : decode cX0_matesAt 48 = .ok (.ireturn, 1) := by decide +kernel
theorem dX0_isInPair_0 : decode cX0_isInPair 0 = .ok (.aload_n 0, 1) := by decide +kernel
theorem dX0_isInPair_1 : decode cX0_isInPair 1 = .ok (.getfield 9, 3) := by decide +kernel
theorem dX0_isInPair_4 : decode cX0_isInPair 4 = .ok (.iload_n 1, 1) := by decide +kernel
theorem dX0_isInPair_5 : decode cX0_isInPair 5 = .ok (.iaload, 1) := by decide +kernel
theorem dX0_isInPair_6 : decode cX0_isInPair 6 = .ok (.invokestatic 38, 3) := by decide +kernel
theorem dX0_isInPair_9 : decode cX0_isInPair 9 = .ok (.ifCond .eq 21, 3) := by decide +kernel
theorem dX0_isInPair_12 : decode cX0_isInPair 12 = .ok (.aload_n 0, 1) := by decide +kernel
theorem dX0_isInPair_13 : decode cX0_isInPair 13 = .ok (.iload_n 1, 1) := by decide +kernel
theorem dX0_isInPair_14 : decode cX0_isInPair 14 = .ok (.aload_n 0, 1) := by decide +kernel
theorem dX0_isInPair_15 : decode cX0_isInPair 15 = .ok (.getfield 9, 3) := by decide +kernel
theorem dX0_isInPair_18 : decode cX0_isInPair 18 = .ok (.iload_n 1, 1) := by decide +kernel
theorem dX0_isInPair_19 : decode cX0_isInPair 19 = .ok (.iaload, 1) := by decide +kernel
theorem dX0_isInPair_20 : decode cX0_isInPair 20 = .ok (.invokevirtual 42, 3) := by decide +kernel
theorem dX0_isInPair_23 : decode cX0_isInPair 23 = .ok (.ifCond .le 7, 3) := by decide +kernel
theorem dX0_isInPair_26 : decode cX0_isInPair 26 = .ok (.iconst 1, 1) := by decide +kernel
theorem dX0_isInPair_27 : decode cX0_isInPair 27 = .ok (.goto 4, 3) := by decide +kernel
theorem dX0_isInPair_30 : decode cX0_isInPair 30 = .ok (.iconst 0, 1) := by decide +kernel
theorem dX0_isInPair_31 : decode cX0_isInPair 31 = .ok (.ireturn, 1) := by decide +kernel
theorem dX0_isFullFor_0 : decode cX0_isFullFor 0 = .ok (.iload_n 2, 1) := by decide +kernel
theorem dX0_isFullFor_1 : decode cX0_isFullFor 1 = .ok (.bipush (-6), 2) := by decide +kernel
theorem dX0_isFullFor_3 : decode cX0_isFullFor 3 = .ok (.if_icmp .eq 23, 3) := by decide +kernel
theorem dX0_isFullFor_6 : decode cX0_isFullFor 6 = .ok (.iload_n 2, 1) := by decide +kernel
theorem dX0_isFullFor_7 : decode cX0_isFullFor 7 = .ok (.bipush 35, 2) := by decide +kernel
theorem dX0_isFullFor_9 : decode cX0_isFullFor 9 = .ok (.if_icmp .eq 17, 3) := by decide +kernel
theorem dX0_isFullFor_12 : decode cX0_isFullFor 12 = .ok (.aload_n 0, 1) := by decide +kernel
theorem dX0_isFullFor_13 : decode cX0_isFullFor 13 = .ok (.iload_n 1, 1) := by decide +kernel
theorem dX0_isFullFor_14 : decode cX0_isFullFor 14 = .ok (.iload_n 2, 1) := by decide +kernel
theorem dX0_isFullFor_15 : decode cX0_isFullFor 15 = .ok (.invokevirtual 42, 3) := by decide +kernel
theorem dX0_isFullFor_18 : decode cX0_isFullFor 18 = .ok (.iconst 2, 1) := by decide +kernel
theorem dX0_isFullFor_19 : decode cX0_isFullFor 19 = .ok (.if_icmp .lt 7, 3) := by decide +kernel
theorem dX0_isFullFor_22 : decode cX0_isFullFor 22 = .ok (.iconst 1, 1) := by decide +kernel
theorem dX0_isFullFor_23 : decode cX0_isFullFor 23 = .ok (.goto 4, 3) := by decide +kernel
theorem dX0_isFullFor_26 : decode cX0_isFullFor 26 = .ok (.iconst 0, 1) := by decide +kernel
theorem dX0_isFullFor_27 : decode cX0_isFullFor 27 = .ok (.ireturn, 1) := by decide +kernel
theorem dX0_hasRoomFor_0 : decode cX0_hasRoomFor 0 = .ok (.iload_n 1, 1) := by decide +kernel
theorem dX0_hasRoomFor_1 : decode cX0_hasRoomFor 1 = .ok (.iconst 3, 1) := by decide +kernel
theorem dX0_hasRoomFor_2 : decode cX0_hasRoomFor 2 = .ok (.idiv, 1) := by decide +kernel
theorem dX0_hasRoomFor_3 : decode cX0_hasRoomFor 3 = .ok (.istore_n 3, 1) := by decide +kernel
theorem dX0_hasRoomFor_4 : decode cX0_hasRoomFor 4 = .ok (.aload_n 0, 1) := by decide +kernel
theorem dX0_hasRoomFor_5 : decode cX0_hasRoomFor 5 = .ok (.iload_n 3, 1) := by decide +kernel
theorem dX0_hasRoomFor_6 : decode cX0_hasRoomFor 6 = .ok (.iload_n 2, 1) := by decide +kernel
theorem dX0_hasRoomFor_7 : decode cX0_hasRoomFor 7 = .ok (.invokevirtual 45, 3) := by decide +kernel
theorem dX0_hasRoomFor_10 : decode cX0_hasRoomFor 10 = .ok (.ifCond .ne 25, 3) := by decide +kernel
theorem dX0_hasRoomFor_13 : decode cX0_hasRoomFor 13 = .ok (.aload_n 0, 1) := by decide +kernel
theorem dX0_hasRoomFor_14 : decode cX0_hasRoomFor 14 = .ok (.iload_n 1, 1) := by decide +kernel
theorem dX0_hasRoomFor_15 : decode cX0_hasRoomFor 15 = .ok (.iload_n 2, 1) := by decide +kernel
theorem dX0_hasRoomFor_16 : decode cX0_hasRoomFor 16 = .ok (.invokevirtual 48, 3) := by decide +kernel
theorem dX0_hasRoomFor_19 : decode cX0_hasRoomFor 19 = .ok (.ifCond .ne 16, 3) := by decide +kernel
theorem dX0_hasRoomFor_22 : decode cX0_hasRoomFor 22 = .ok (.aload_n 0, 1) := by decide +kernel
theorem dX0_hasRoomFor_23 : decode cX0_hasRoomFor 23 = .ok (.iload_n 3, 1) := by decide +kernel
theorem dX0_hasRoomFor_24 : decode cX0_hasRoomFor 24 = .ok (.iload_n 2, 1) := by decide +kernel
theorem dX0_hasRoomFor_25 : decode cX0_hasRoomFor 25 = .ok (.invokevirtual 52, 3) := by decide +kernel
theorem dX0_hasRoomFor_28 : decode cX0_hasRoomFor 28 = .ok (.ifCond .ne 7, 3) := by decide +kernel
theorem dX0_hasRoomFor_31 : decode cX0_hasRoomFor 31 = .ok (.iconst 1, 1) := by decide +kernel
theorem dX0_hasRoomFor_32 : decode cX0_hasRoomFor 32 = .ok (.goto 4, 3) := by decide +kernel
theorem dX0_hasRoomFor_35 : decode cX0_hasRoomFor 35 = .ok (.iconst 0, 1) := by decide +kernel
theorem dX0_hasRoomFor_36 : decode cX0_hasRoomFor 36 = .ok (.ireturn, 1) := by decide +kernel
theorem dX0_homeOf_0 : decode cX0_homeOf 0 = .ok (.iconst 0, 1) := by decide +kernel
theorem dX0_homeOf_1 : decode cX0_homeOf 1 = .ok (.istore_n 2, 1) := by decide +kernel
theorem dX0_homeOf_2 : decode cX0_homeOf 2 = .ok (.iload_n 1, 1) := by decide +kernel
theorem dX0_homeOf_3 : decode cX0_homeOf 3 = .ok (.iconst 3, 1) := by decide +kernel
theorem dX0_homeOf_4 : decode cX0_homeOf 4 = .ok (.imul, 1) := by decide +kernel
theorem dX0_homeOf_5 : decode cX0_homeOf 5 = .ok (.istore_n 3, 1) := by decide +kernel
theorem dX0_homeOf_6 : decode cX0_homeOf 6 = .ok (.iload_n 3, 1) := by decide +kernel
theorem dX0_homeOf_7 : decode cX0_homeOf 7 = .ok (.iload_n 1, 1) := by decide +kernel
theorem dX0_homeOf_8 : decode cX0_homeOf 8 = .ok (.iconst 3, 1) := by decide +kernel
theorem dX0_homeOf_9 : decode cX0_homeOf 9 = .ok (.imul, 1) := by decide +kernel
theorem dX0_homeOf_10 : decode cX0_homeOf 10 = .ok (.iconst 3, 1) := by decide +kernel
theorem dX0_homeOf_11 : decode cX0_homeOf 11 = .ok (.iadd, 1) := by decide +kernel
theorem dX0_homeOf_12 : decode cX0_homeOf 12 = .ok (.if_icmp .ge 23, 3) := by decide +kernel
theorem dX0_homeOf_15 : decode cX0_homeOf 15 = .ok (.aload_n 0, 1) := by decide +kernel
theorem dX0_homeOf_16 : decode cX0_homeOf 16 = .ok (.getfield 9, 3) := by decide +kernel
theorem dX0_homeOf_19 : decode cX0_homeOf 19 = .ok (.iload_n 3, 1) := by decide +kernel
theorem dX0_homeOf_20 : decode cX0_homeOf 20 = .ok (.iaload, 1) := by decide +kernel
theorem dX0_homeOf_21 : decode cX0_homeOf 21 = .ok (.bipush 35, 2) := by decide +kernel
theorem dX0_homeOf_23 : decode cX0_homeOf 23 = .ok (.if_icmp .ne 6, 3) := by decide +kernel
theorem dX0_homeOf_26 : decode cX0_homeOf 26 = .ok (.iinc 2 1, 3) := by decide +kernel
theorem dX0_homeOf_29 : decode cX0_homeOf 29 = .ok (.iinc 3 1, 3) := by decide +kernel
theorem dX0_homeOf_32 : decode cX0_homeOf 32 = .ok (.goto (-26), 3) := by decide +kernel
theorem dX0_homeOf_35 : decode cX0_homeOf 35 = .ok (.iload_n 2, 1) := by decide +kernel
theorem dX0_homeOf_36 : decode cX0_homeOf 36 = .ok (.ireturn, 1) := by decide +kernel
theorem dX0_winner_0 : decode cX0_winner 0 = .ok (.iconst 0, 1) := by decide +kernel
theorem dX0_winner_1 : decode cX0_winner 1 = .ok (.istore_n 1, 1) := by decide +kernel
theorem dX0_winner_2 : decode cX0_winner 2 = .ok (.iload_n 1, 1) := by decide +kernel
theorem dX0_winner_3 : decode cX0_winner 3 = .ok (.iconst 4, 1) := by decide +kernel
theorem dX0_winner_4 : decode cX0_winner 4 = .ok (.if_icmp .ge 20, 3) := by decide +kernel
theorem dX0_winner_7 : decode cX0_winner 7 = .ok (.aload_n 0, 1) := by decide +kernel
theorem dX0_winner_8 : decode cX0_winner 8 = .ok (.iload_n 1, 1) := by decide +kernel
theorem dX0_winner_9 : decode cX0_winner 9 = .ok (.invokevirtual 55, 3) := by decide +kernel
theorem dX0_winner_12 : decode cX0_winner 12 = .ok (.iconst 3, 1) := by decide +kernel
theorem dX0_winner_13 : decode cX0_winner 13 = .ok (.if_icmp .ne 5, 3) := by decide +kernel
theorem dX0_winner_16 : decode cX0_winner 16 = .ok (.iload_n 1, 1) := by decide +kernel
theorem dX0_winner_17 : decode cX0_winner 17 = .ok (.ireturn, 1) := by decide +kernel
theorem dX0_winner_18 : decode cX0_winner 18 = .ok (.iinc 1 1, 3) := by decide +kernel
theorem dX0_winner_21 : decode cX0_winner 21 = .ok (.goto (-19), 3) := by decide +kernel
theorem dX0_winner_24 : decode cX0_winner 24 = .ok (.bipush (-6), 2) := by decide +kernel
theorem dX0_winner_26 : decode cX0_winner 26 = .ok (.ireturn, 1) := by decide +kernel
theorem dX0_sentBackInAll_0 : decode cX0_sentBackInAll 0 = .ok (.iconst 0, 1) := by decide +kernel
theorem dX0_sentBackInAll_1 : decode cX0_sentBackInAll 1 = .ok (.istore_n 1, 1) := by decide +kernel
theorem dX0_sentBackInAll_2 : decode cX0_sentBackInAll 2 = .ok (.iconst 0, 1) := by decide +kernel
theorem dX0_sentBackInAll_3 : decode cX0_sentBackInAll 3 = .ok (.istore_n 2, 1) := by decide +kernel
theorem dX0_sentBackInAll_4 : decode cX0_sentBackInAll 4 = .ok (.iload_n 2, 1) := by decide +kernel
theorem dX0_sentBackInAll_5 : decode cX0_sentBackInAll 5 = .ok (.bipush 12, 2) := by decide +kernel
theorem dX0_sentBackInAll_7 : decode cX0_sentBackInAll 7 = .ok (.if_icmp .ge 18, 3) := by decide +kernel
theorem dX0_sentBackInAll_10 : decode cX0_sentBackInAll 10 = .ok (.iload_n 1, 1) := by decide +kernel
theorem dX0_sentBackInAll_11 : decode cX0_sentBackInAll 11 = .ok (.aload_n 0, 1) := by decide +kernel
theorem dX0_sentBackInAll_12 : decode cX0_sentBackInAll 12 = .ok (.getfield 15, 3) := by decide +kernel
theorem dX0_sentBackInAll_15 : decode cX0_sentBackInAll 15 = .ok (.iload_n 2, 1) := by decide +kernel
theorem dX0_sentBackInAll_16 : decode cX0_sentBackInAll 16 = .ok (.iaload, 1) := by decide +kernel
theorem dX0_sentBackInAll_17 : decode cX0_sentBackInAll 17 = .ok (.iadd, 1) := by decide +kernel
theorem dX0_sentBackInAll_18 : decode cX0_sentBackInAll 18 = .ok (.istore_n 1, 1) := by decide +kernel
theorem dX0_sentBackInAll_19 : decode cX0_sentBackInAll 19 = .ok (.iinc 2 1, 3) := by decide +kernel
theorem dX0_sentBackInAll_22 : decode cX0_sentBackInAll 22 = .ok (.goto (-18), 3) := by decide +kernel
theorem dX0_sentBackInAll_25 : decode cX0_sentBackInAll 25 = .ok (.iload_n 1, 1) := by decide +kernel
theorem dX0_sentBackInAll_26 : decode cX0_sentBackInAll 26 = .ok (.ireturn, 1) := by decide +kernel
theorem dX0_bridgeState_0 : decode cX0_bridgeState 0 = .ok (.iload_n 1, 1) := by decide +kernel
theorem dX0_bridgeState_1 : decode cX0_bridgeState 1 = .ok (.invokestatic 59, 3) := by decide +kernel
theorem dX0_bridgeState_4 : decode cX0_bridgeState 4 = .ok (.istore_n 2, 1) := by decide +kernel
theorem dX0_bridgeState_5 : decode cX0_bridgeState 5 = .ok (.iload_n 2, 1) := by decide +kernel
theorem dX0_bridgeState_6 : decode cX0_bridgeState 6 = .ok (.bipush (-6), 2) := by decide +kernel
theorem dX0_bridgeState_8 : decode cX0_bridgeState 8 = .ok (.if_icmp .ne 7, 3) := by decide +kernel
theorem dX0_bridgeState_11 : decode cX0_bridgeState 11 = .ok (.iconst 0, 1) := by decide +kernel
theorem dX0_bridgeState_12 : decode cX0_bridgeState 12 = .ok (.goto 9, 3) := by decide +kernel
theorem dX0_bridgeState_15 : decode cX0_bridgeState 15 = .ok (.aload_n 0, 1) := by decide +kernel
theorem dX0_bridgeState_16 : decode cX0_bridgeState 16 = .ok (.getfield 18, 3) := by decide +kernel
theorem dX0_bridgeState_19 : decode cX0_bridgeState 19 = .ok (.iload_n 2, 1) := by decide +kernel
theorem dX0_bridgeState_20 : decode cX0_bridgeState 20 = .ok (.iaload, 1) := by decide +kernel
theorem dX0_bridgeState_21 : decode cX0_bridgeState 21 = .ok (.ireturn, 1) := by decide +kernel
theorem dX0_isFallenAt_0 : decode cX0_isFallenAt 0 = .ok (.aload_n 0, 1) := by decide +kernel
theorem dX0_isFallenAt_1 : decode cX0_isFallenAt 1 = .ok (.iload_n 1, 1) := by decide +kernel
theorem dX0_isFallenAt_2 : decode cX0_isFallenAt 2 = .ok (.iload_n 2, 1) := by decide +kernel
theorem dX0_isFallenAt_3 : decode cX0_isFallenAt 3 = .ok (.invokestatic 34, 3) := by decide +kernel
theorem dX0_isFallenAt_6 : decode cX0_isFallenAt 6 = .ok (.invokevirtual 62, 3) := by decide +kernel
theorem dX0_isFallenAt_9 : decode cX0_isFallenAt 9 = .ok (.iconst 3, 1) := by decide +kernel
theorem dX0_isFallenAt_10 : decode cX0_isFallenAt 10 = .ok (.if_icmp .ne 7, 3) := by decide +kernel
theorem dX0_isFallenAt_13 : decode cX0_isFallenAt 13 = .ok (.iconst 1, 1) := by decide +kernel
theorem dX0_isFallenAt_14 : decode cX0_isFallenAt 14 = .ok (.goto 4, 3) := by decide +kernel
theorem dX0_isFallenAt_17 : decode cX0_isFallenAt 17 = .ok (.iconst 0, 1) := by decide +kernel
theorem dX0_isFallenAt_18 : decode cX0_isFallenAt 18 = .ok (.ireturn, 1) := by decide +kernel
theorem dX0_fallenSet_0 : decode cX0_fallenSet 0 = .ok (.iconst 0, 1) := by decide +kernel
theorem dX0_fallenSet_1 : decode cX0_fallenSet 1 = .ok (.istore_n 1, 1) := by decide +kernel
theorem dX0_fallenSet_2 : decode cX0_fallenSet 2 = .ok (.iconst 0, 1) := by decide +kernel
theorem dX0_fallenSet_3 : decode cX0_fallenSet 3 = .ok (.istore_n 2, 1) := by decide +kernel
theorem dX0_fallenSet_4 : decode cX0_fallenSet 4 = .ok (.iload_n 2, 1) := by decide +kernel
theorem dX0_fallenSet_5 : decode cX0_fallenSet 5 = .ok (.iconst 4, 1) := by decide +kernel
theorem dX0_fallenSet_6 : decode cX0_fallenSet 6 = .ok (.if_icmp .ge 25, 3) := by decide +kernel
theorem dX0_fallenSet_9 : decode cX0_fallenSet 9 = .ok (.aload_n 0, 1) := by decide +kernel
theorem dX0_fallenSet_10 : decode cX0_fallenSet 10 = .ok (.getfield 18, 3) := by decide +kernel
theorem dX0_fallenSet_13 : decode cX0_fallenSet 13 = .ok (.iload_n 2, 1) := by decide +kernel
theorem dX0_fallenSet_14 : decode cX0_fallenSet 14 = .ok (.iaload, 1) := by decide +kernel
theorem dX0_fallenSet_15 : decode cX0_fallenSet 15 = .ok (.iconst 3, 1) := by decide +kernel
theorem dX0_fallenSet_16 : decode cX0_fallenSet 16 = .ok (.if_icmp .ne 9, 3) := by decide +kernel
theorem dX0_fallenSet_19 : decode cX0_fallenSet 19 = .ok (.iload_n 1, 1) := by decide +kernel
theorem dX0_fallenSet_20 : decode cX0_fallenSet 20 = .ok (.iconst 1, 1) := by decide +kernel
theorem dX0_fallenSet_21 : decode cX0_fallenSet 21 = .ok (.iload_n 2, 1) := by decide +kernel
theorem dX0_fallenSet_22 : decode cX0_fallenSet 22 = .ok (.ishl, 1) := by decide +kernel
theorem dX0_fallenSet_23 : decode cX0_fallenSet 23 = .ok (.ior, 1) := by decide +kernel
theorem dX0_fallenSet_24 : decode cX0_fallenSet 24 = .ok (.istore_n 1, 1) := by decide +kernel
theorem dX0_fallenSet_25 : decode cX0_fallenSet 25 = .ok (.iinc 2 1, 3) := by decide +kernel
theorem dX0_fallenSet_28 : decode cX0_fallenSet 28 = .ok (.goto (-24), 3) := by decide +kernel
theorem dX0_fallenSet_31 : decode cX0_fallenSet 31 = .ok (.iload_n 1, 1) := by decide +kernel
theorem dX0_fallenSet_32 : decode cX0_fallenSet 32 = .ok (.ireturn, 1) := by decide +kernel
theorem dX0_target_0 : decode cX0_target 0 = .ok (.iload_n 2, 1) := by decide +kernel
theorem dX0_target_1 : decode cX0_target 1 = .ok (.bipush (-6), 2) := by decide +kernel
theorem dX0_target_3 : decode cX0_target 3 = .ok (.if_icmp .ne 5, 3) := by decide +kernel
theorem dX0_target_6 : decode cX0_target 6 = .ok (.iconst 0, 1) := by decide +kernel
theorem dX0_target_7 : decode cX0_target 7 = .ok (.ireturn, 1) := by decide +kernel
theorem dX0_target_8 : decode cX0_target 8 = .ok (.iload_n 2, 1) := by decide +kernel
theorem dX0_target_9 : decode cX0_target 9 = .ok (.istore 4, 2) := by decide +kernel
theorem dX0_target_11 : decode cX0_target 11 = .ok (.iload_n 3, 1) := by decide +kernel
theorem dX0_target_12 : decode cX0_target 12 = .ok (.istore 5, 2) := by decide +kernel
theorem dX0_target_14 : decode cX0_target 14 = .ok (.iload 5, 2) := by decide +kernel
theorem dX0_target_16 : decode cX0_target 16 = .ok (.ifCond .le 36, 3) := by decide +kernel
theorem dX0_target_19 : decode cX0_target 19 = .ok (.iload 4, 2) := by decide +kernel
theorem dX0_target_21 : decode cX0_target 21 = .ok (.bipush 35, 2) := by decide +kernel
theorem dX0_target_23 : decode cX0_target 23 = .ok (.if_icmp .ge 29, 3) := by decide +kernel
theorem dX0_target_26 : decode cX0_target 26 = .ok (.iinc 4 1, 3) := by decide +kernel
theorem dX0_target_29 : decode cX0_target 29 = .ok (.iload 5, 2) := by decide +kernel
theorem dX0_target_31 : decode cX0_target 31 = .ok (.aload_n 0, 1) := by decide +kernel
theorem dX0_target_32 : decode cX0_target 32 = .ok (.iload_n 1, 1) := by decide +kernel
theorem dX0_target_33 : decode cX0_target 33 = .ok (.iload 4, 2) := by decide +kernel
theorem dX0_target_35 : decode cX0_target 35 = .ok (.invokevirtual 52, 3) := by decide +kernel
theorem dX0_target_38 : decode cX0_target 38 = .ok (.ifCond .eq 7, 3) := by decide +kernel
theorem dX0_target_41 : decode cX0_target 41 = .ok (.iconst 2, 1) := by decide +kernel
theorem dX0_target_42 : decode cX0_target 42 = .ok (.goto 4, 3) := by decide +kernel
theorem dX0_target_45 : decode cX0_target 45 = .ok (.iconst 1, 1) := by decide +kernel
theorem dX0_target_46 : decode cX0_target 46 = .ok (.isub, 1) := by decide +kernel
theorem dX0_target_47 : decode cX0_target 47 = .ok (.istore 5, 2) := by decide +kernel
theorem dX0_target_49 : decode cX0_target 49 = .ok (.goto (-35), 3) := by decide +kernel
theorem dX0_target_52 : decode cX0_target 52 = .ok (.iload 5, 2) := by decide +kernel
theorem dX0_target_54 : decode cX0_target 54 = .ok (.ifCond .ne 13, 3) := by decide +kernel
theorem dX0_target_57 : decode cX0_target 57 = .ok (.aload_n 0, 1) := by decide +kernel
theorem dX0_target_58 : decode cX0_target 58 = .ok (.iload_n 1, 1) := by decide +kernel
theorem dX0_target_59 : decode cX0_target 59 = .ok (.iload 4, 2) := by decide +kernel
theorem dX0_target_61 : decode cX0_target 61 = .ok (.invokevirtual 52, 3) := by decide +kernel
theorem dX0_target_64 : decode cX0_target 64 = .ok (.ifCond .eq 8, 3) := by decide +kernel
theorem dX0_target_67 : decode cX0_target 67 = .ok (.bipush (-6), 2) := by decide +kernel
theorem dX0_target_69 : decode cX0_target 69 = .ok (.goto 5, 3) := by decide +kernel
theorem dX0_target_72 : decode cX0_target 72 = .ok (.iload 4, 2) := by decide +kernel
theorem dX0_target_74 : decode cX0_target 74 = .ok (.ireturn, 1) := by decide +kernel
theorem dX0_isBlockedOnWay_0 : decode cX0_isBlockedOnWay 0 = .ok (.iload_n 2, 1) := by decide +kernel
theorem dX0_isBlockedOnWay_1 : decode cX0_isBlockedOnWay 1 = .ok (.bipush (-6), 2) := by decide +kernel
theorem dX0_isBlockedOnWay_3 : decode cX0_isBlockedOnWay 3 = .ok (.if_icmp .ne 7, 3) := by decide +kernel
theorem dX0_isBlockedOnWay_6 : decode cX0_isBlockedOnWay 6 = .ok (.iconst 0, 1) := by decide +kernel
theorem dX0_isBlockedOnWay_7 : decode cX0_isBlockedOnWay 7 = .ok (.goto 6, 3) := by decide +kernel
theorem dX0_isBlockedOnWay_10 : decode cX0_isBlockedOnWay 10 = .ok (.iload_n 2, 1) := by decide +kernel
theorem dX0_isBlockedOnWay_11 : decode cX0_isBlockedOnWay 11 = .ok (.iconst 1, 1) := by decide +kernel
theorem dX0_isBlockedOnWay_12 : decode cX0_isBlockedOnWay 12 = .ok (.iadd, 1) := by decide +kernel
theorem dX0_isBlockedOnWay_13 : decode cX0_isBlockedOnWay 13 = .ok (.istore 4, 2) := by decide +kernel
theorem dX0_isBlockedOnWay_15 : decode cX0_isBlockedOnWay 15 = .ok (.iload 4, 2) := by decide +kernel
theorem dX0_isBlockedOnWay_17 : decode cX0_isBlockedOnWay 17 = .ok (.istore 5, 2) := by decide +kernel
theorem dX0_isBlockedOnWay_19 : decode cX0_isBlockedOnWay 19 = .ok (.iload 5, 2) := by decide +kernel
theorem dX0_isBlockedOnWay_21 : decode cX0_isBlockedOnWay 21 = .ok (.iload_n 3, 1) := by decide +kernel
theorem dX0_isBlockedOnWay_22 : decode cX0_isBlockedOnWay 22 = .ok (.if_icmp .gt 22, 3) := by decide +kernel
theorem dX0_isBlockedOnWay_25 : decode cX0_isBlockedOnWay 25 = .ok (.aload_n 0, 1) := by decide +kernel
theorem dX0_isBlockedOnWay_26 : decode cX0_isBlockedOnWay 26 = .ok (.iload_n 1, 1) := by decide +kernel
theorem dX0_isBlockedOnWay_27 : decode cX0_isBlockedOnWay 27 = .ok (.iload 5, 2) := by decide +kernel
theorem dX0_isBlockedOnWay_29 : decode cX0_isBlockedOnWay 29 = .ok (.invokevirtual 45, 3) := by decide +kernel
theorem dX0_isBlockedOnWay_32 : decode cX0_isBlockedOnWay 32 = .ok (.iconst 2, 1) := by decide +kernel
theorem dX0_isBlockedOnWay_33 : decode cX0_isBlockedOnWay 33 = .ok (.if_icmp .lt 5, 3) := by decide +kernel
theorem dX0_isBlockedOnWay_36 : decode cX0_isBlockedOnWay 36 = .ok (.iconst 1, 1) := by decide +kernel
theorem dX0_isBlockedOnWay_37 : decode cX0_isBlockedOnWay 37 = .ok (.ireturn, 1) := by decide +kernel
theorem dX0_isBlockedOnWay_38 : decode cX0_isBlockedOnWay 38 = .ok (.iinc 5 1, 3) := by decide +kernel
theorem dX0_isBlockedOnWay_41 : decode cX0_isBlockedOnWay 41 = .ok (.goto (-22), 3) := by decide +kernel
theorem dX0_isBlockedOnWay_44 : decode cX0_isBlockedOnWay 44 = .ok (.iconst 0, 1) := by decide +kernel
theorem dX0_isBlockedOnWay_45 : decode cX0_isBlockedOnWay 45 = .ok (.ireturn, 1) := by decide +kernel
theorem dX0_sendRivalsBack_0 : decode cX0_sendRivalsBack 0 = .ok (.iload_n 1, 1) := by decide +kernel
theorem dX0_sendRivalsBack_1 : decode cX0_sendRivalsBack 1 = .ok (.iload_n 2, 1) := by decide +kernel
theorem dX0_sendRivalsBack_2 : decode cX0_sendRivalsBack 2 = .ok (.invokestatic 34, 3) := by decide +kernel
theorem dX0_sendRivalsBack_5 : decode cX0_sendRivalsBack 5 = .ok (.istore_n 3, 1) := by decide +kernel
theorem dX0_sendRivalsBack_6 : decode cX0_sendRivalsBack 6 = .ok (.iconst 0, 1) := by decide +kernel
theorem dX0_sendRivalsBack_7 : decode cX0_sendRivalsBack 7 = .ok (.istore 4, 2) := by decide +kernel
theorem dX0_sendRivalsBack_9 : decode cX0_sendRivalsBack 9 = .ok (.iload 4, 2) := by decide +kernel
theorem dX0_sendRivalsBack_11 : decode cX0_sendRivalsBack 11 = .ok (.bipush 12, 2) := by decide +kernel
theorem dX0_sendRivalsBack_13 : decode cX0_sendRivalsBack 13 = .ok (.if_icmp .ge 61, 3) := by decide +kernel
theorem dX0_sendRivalsBack_16 : decode cX0_sendRivalsBack 16 = .ok (.iload_n 3, 1) := by decide +kernel
theorem dX0_sendRivalsBack_17 : decode cX0_sendRivalsBack 17 = .ok (.bipush (-6), 2) := by decide +kernel
theorem dX0_sendRivalsBack_19 : decode cX0_sendRivalsBack 19 = .ok (.if_icmp .eq 55, 3) := by decide +kernel
theorem dX0_sendRivalsBack_22 : decode cX0_sendRivalsBack 22 = .ok (.iload 4, 2) := by decide +kernel
theorem dX0_sendRivalsBack_24 : decode cX0_sendRivalsBack 24 = .ok (.iconst 3, 1) := by decide +kernel
theorem dX0_sendRivalsBack_25 : decode cX0_sendRivalsBack 25 = .ok (.idiv, 1) := by decide +kernel
theorem dX0_sendRivalsBack_26 : decode cX0_sendRivalsBack 26 = .ok (.iload_n 1, 1) := by decide +kernel
theorem dX0_sendRivalsBack_27 : decode cX0_sendRivalsBack 27 = .ok (.if_icmp .eq 41, 3) := by decide +kernel
theorem dX0_sendRivalsBack_30 : decode cX0_sendRivalsBack 30 = .ok (.iload 4, 2) := by decide +kernel
theorem dX0_sendRivalsBack_32 : decode cX0_sendRivalsBack 32 = .ok (.iconst 3, 1) := by decide +kernel
theorem dX0_sendRivalsBack_33 : decode cX0_sendRivalsBack 33 = .ok (.idiv, 1) := by decide +kernel
theorem dX0_sendRivalsBack_34 : decode cX0_sendRivalsBack 34 = .ok (.aload_n 0, 1) := by decide +kernel
theorem dX0_sendRivalsBack_35 : decode cX0_sendRivalsBack 35 = .ok (.getfield 9, 3) := by decide +kernel
theorem dX0_sendRivalsBack_38 : decode cX0_sendRivalsBack 38 = .ok (.iload 4, 2) := by decide +kernel
theorem dX0_sendRivalsBack_40 : decode cX0_sendRivalsBack 40 = .ok (.iaload, 1) := by decide +kernel
theorem dX0_sendRivalsBack_41 : decode cX0_sendRivalsBack 41 = .ok (.invokestatic 34, 3) := by decide +kernel
theorem dX0_sendRivalsBack_44 : decode cX0_sendRivalsBack 44 = .ok (.iload_n 3, 1) := by decide +kernel
theorem dX0_sendRivalsBack_45 : decode cX0_sendRivalsBack 45 = .ok (.if_icmp .ne 23, 3) := by decide +kernel
theorem dX0_sendRivalsBack_48 : decode cX0_sendRivalsBack 48 = .ok (.aload_n 0, 1) := by decide +kernel
theorem dX0_sendRivalsBack_49 : decode cX0_sendRivalsBack 49 = .ok (.getfield 9, 3) := by decide +kernel
theorem dX0_sendRivalsBack_52 : decode cX0_sendRivalsBack 52 = .ok (.iload 4, 2) := by decide +kernel
theorem dX0_sendRivalsBack_54 : decode cX0_sendRivalsBack 54 = .ok (.bipush (-6), 2) := by decide +kernel
theorem dX0_sendRivalsBack_56 : decode cX0_sendRivalsBack 56 = .ok (.iastore, 1) := by decide +kernel
theorem dX0_sendRivalsBack_57 : decode cX0_sendRivalsBack 57 = .ok (.aload_n 0, 1) := by decide +kernel
theorem dX0_sendRivalsBack_58 : decode cX0_sendRivalsBack 58 = .ok (.getfield 15, 3) := by decide +kernel
theorem dX0_sendRivalsBack_61 : decode cX0_sendRivalsBack 61 = .ok (.iload 4, 2) := by decide +kernel
theorem dX0_sendRivalsBack_63 : decode cX0_sendRivalsBack 63 = .ok (.dup2, 1) := by decide +kernel
theorem dX0_sendRivalsBack_64 : decode cX0_sendRivalsBack 64 = .ok (.iaload, 1) := by decide +kernel
theorem dX0_sendRivalsBack_65 : decode cX0_sendRivalsBack 65 = .ok (.iconst 1, 1) := by decide +kernel
theorem dX0_sendRivalsBack_66 : decode cX0_sendRivalsBack 66 = .ok (.iadd, 1) := by decide +kernel
theorem dX0_sendRivalsBack_67 : decode cX0_sendRivalsBack 67 = .ok (.iastore, 1) := by decide +kernel
theorem dX0_sendRivalsBack_68 : decode cX0_sendRivalsBack 68 = .ok (.iinc 4 1, 3) := by decide +kernel
theorem dX0_sendRivalsBack_71 : decode cX0_sendRivalsBack 71 = .ok (.goto (-62), 3) := by decide +kernel
theorem dX0_sendRivalsBack_74 : decode cX0_sendRivalsBack 74 = .ok (.return_, 1) := by decide +kernel
theorem dX0_place_0 : decode cX0_place 0 = .ok (.aload_n 0, 1) := by decide +kernel
theorem dX0_place_1 : decode cX0_place 1 = .ok (.getfield 9, 3) := by decide +kernel
theorem dX0_place_4 : decode cX0_place 4 = .ok (.iload_n 1, 1) := by decide +kernel
theorem dX0_place_5 : decode cX0_place 5 = .ok (.iload_n 2, 1) := by decide +kernel
theorem dX0_place_6 : decode cX0_place 6 = .ok (.iastore, 1) := by decide +kernel
theorem dX0_place_7 : decode cX0_place 7 = .ok (.aload_n 0, 1) := by decide +kernel
theorem dX0_place_8 : decode cX0_place 8 = .ok (.iload_n 3, 1) := by decide +kernel
theorem dX0_place_9 : decode cX0_place 9 = .ok (.invokevirtual 65, 3) := by decide +kernel
theorem dX0_place_12 : decode cX0_place 12 = .ok (.return_, 1) := by decide +kernel
theorem dX0_strainAndFall_0 : decode cX0_strainAndFall 0 = .ok (.iconst 0, 1) := by decide +kernel
theorem dX0_strainAndFall_1 : decode cX0_strainAndFall 1 = .ok (.istore_n 2, 1) := by decide +kernel
theorem dX0_strainAndFall_2 : decode cX0_strainAndFall 2 = .ok (.iload_n 2, 1) := by decide +kernel
theorem dX0_strainAndFall_3 : decode cX0_strainAndFall 3 = .ok (.iconst 4, 1) := by decide +kernel
theorem dX0_strainAndFall_4 : decode cX0_strainAndFall 4 = .ok (.if_icmp .ge 83, 3) := by decide +kernel
theorem dX0_strainAndFall_7 : decode cX0_strainAndFall 7 = .ok (.aload_n 0, 1) := by decide +kernel
theorem dX0_strainAndFall_8 : decode cX0_strainAndFall 8 = .ok (.bipush 8, 2) := by decide +kernel
theorem dX0_strainAndFall_10 : decode cX0_strainAndFall 10 = .ok (.iload_n 2, 1) := by decide +kernel
theorem dX0_strainAndFall_11 : decode cX0_strainAndFall 11 = .ok (.imul, 1) := by decide +kernel
theorem dX0_strainAndFall_12 : decode cX0_strainAndFall 12 = .ok (.iconst 4, 1) := by decide +kernel
theorem dX0_strainAndFall_13 : decode cX0_strainAndFall 13 = .ok (.iadd, 1) := by decide +kernel
theorem dX0_strainAndFall_14 : decode cX0_strainAndFall 14 = .ok (.invokevirtual 69, 3) := by decide +kernel
theorem dX0_strainAndFall_17 : decode cX0_strainAndFall 17 = .ok (.istore_n 3, 1) := by decide +kernel
theorem dX0_strainAndFall_18 : decode cX0_strainAndFall 18 = .ok (.aload_n 0, 1) := by decide +kernel
theorem dX0_strainAndFall_19 : decode cX0_strainAndFall 19 = .ok (.getfield 18, 3) := by decide +kernel
theorem dX0_strainAndFall_22 : decode cX0_strainAndFall 22 = .ok (.iload_n 2, 1) := by decide +kernel
theorem dX0_strainAndFall_23 : decode cX0_strainAndFall 23 = .ok (.iaload, 1) := by decide +kernel
theorem dX0_strainAndFall_24 : decode cX0_strainAndFall 24 = .ok (.iconst 1, 1) := by decide +kernel
theorem dX0_strainAndFall_25 : decode cX0_strainAndFall 25 = .ok (.if_icmp .ne 18, 3) := by decide +kernel
theorem dX0_strainAndFall_28 : decode cX0_strainAndFall 28 = .ok (.iload_n 3, 1) := by decide +kernel
theorem dX0_strainAndFall_29 : decode cX0_strainAndFall 29 = .ok (.iconst 2, 1) := by decide +kernel
theorem dX0_strainAndFall_30 : decode cX0_strainAndFall 30 = .ok (.if_icmp .lt 13, 3) := by decide +kernel
theorem dX0_strainAndFall_33 : decode cX0_strainAndFall 33 = .ok (.aload_n 0, 1) := by decide +kernel
theorem dX0_strainAndFall_34 : decode cX0_strainAndFall 34 = .ok (.getfield 18, 3) := by decide +kernel
theorem dX0_strainAndFall_37 : decode cX0_strainAndFall 37 = .ok (.iload_n 2, 1) := by decide +kernel
theorem dX0_strainAndFall_38 : decode cX0_strainAndFall 38 = .ok (.iconst 2, 1) := by decide +kernel
theorem dX0_strainAndFall_39 : decode cX0_strainAndFall 39 = .ok (.iastore, 1) := by decide +kernel
theorem dX0_strainAndFall_40 : decode cX0_strainAndFall 40 = .ok (.goto 41, 3) := by decide +kernel
theorem dX0_strainAndFall_43 : decode cX0_strainAndFall 43 = .ok (.aload_n 0, 1) := by decide +kernel
theorem dX0_strainAndFall_44 : decode cX0_strainAndFall 44 = .ok (.getfield 18, 3) := by decide +kernel
theorem dX0_strainAndFall_47 : decode cX0_strainAndFall 47 = .ok (.iload_n 2, 1) := by decide +kernel
theorem dX0_strainAndFall_48 : decode cX0_strainAndFall 48 = .ok (.iaload, 1) := by decide +kernel
theorem dX0_strainAndFall_49 : decode cX0_strainAndFall 49 = .ok (.iconst 2, 1) := by decide +kernel
theorem dX0_strainAndFall_50 : decode cX0_strainAndFall 50 = .ok (.if_icmp .ne 31, 3) := by decide +kernel
theorem dX0_strainAndFall_53 : decode cX0_strainAndFall 53 = .ok (.iload_n 3, 1) := by decide +kernel
theorem dX0_strainAndFall_54 : decode cX0_strainAndFall 54 = .ok (.ifCond .ne 27, 3) := by decide +kernel
theorem dX0_strainAndFall_57 : decode cX0_strainAndFall 57 = .ok (.aload_n 0, 1) := by decide +kernel
theorem dX0_strainAndFall_58 : decode cX0_strainAndFall 58 = .ok (.getfield 18, 3) := by decide +kernel
theorem dX0_strainAndFall_61 : decode cX0_strainAndFall 61 = .ok (.iload_n 2, 1) := by decide +kernel
theorem dX0_strainAndFall_62 : decode cX0_strainAndFall 62 = .ok (.iconst 3, 1) := by decide +kernel
theorem dX0_strainAndFall_63 : decode cX0_strainAndFall 63 = .ok (.iastore, 1) := by decide +kernel
theorem dX0_strainAndFall_64 : decode cX0_strainAndFall 64 = .ok (.aload_n 0, 1) := by decide +kernel
theorem dX0_strainAndFall_65 : decode cX0_strainAndFall 65 = .ok (.getfield 21, 3) := by decide +kernel
theorem dX0_strainAndFall_68 : decode cX0_strainAndFall 68 = .ok (.iload_n 2, 1) := by decide +kernel
theorem dX0_strainAndFall_69 : decode cX0_strainAndFall 69 = .ok (.iload_n 1, 1) := by decide +kernel
theorem dX0_strainAndFall_70 : decode cX0_strainAndFall 70 = .ok (.iastore, 1) := by decide +kernel
theorem dX0_strainAndFall_71 : decode cX0_strainAndFall 71 = .ok (.aload_n 0, 1) := by decide +kernel
theorem dX0_strainAndFall_72 : decode cX0_strainAndFall 72 = .ok (.dup, 1) := by decide +kernel
theorem dX0_strainAndFall_73 : decode cX0_strainAndFall 73 = .ok (.getfield 24, 3) := by decide +kernel
theorem dX0_strainAndFall_76 : decode cX0_strainAndFall 76 = .ok (.iconst 1, 1) := by decide +kernel
theorem dX0_strainAndFall_77 : decode cX0_strainAndFall 77 = .ok (.iadd, 1) := by decide +kernel
theorem dX0_strainAndFall_78 : decode cX0_strainAndFall 78 = .ok (.putfield 24, 3) := by decide +kernel
theorem dX0_strainAndFall_81 : decode cX0_strainAndFall 81 = .ok (.iinc 2 1, 3) := by decide +kernel
theorem dX0_strainAndFall_84 : decode cX0_strainAndFall 84 = .ok (.goto (-82), 3) := by decide +kernel
theorem dX0_strainAndFall_87 : decode cX0_strainAndFall 87 = .ok (.return_, 1) := by decide +kernel
theorem dX0_mend_0 : decode cX0_mend 0 = .ok (.iconst 0, 1) := by decide +kernel
theorem dX0_mend_1 : decode cX0_mend 1 = .ok (.istore_n 3, 1) := by decide +kernel
theorem dX0_mend_2 : decode cX0_mend 2 = .ok (.iload_n 3, 1) := by decide +kernel
theorem dX0_mend_3 : decode cX0_mend 3 = .ok (.iconst 4, 1) := by decide +kernel
theorem dX0_mend_4 : decode cX0_mend 4 = .ok (.if_icmp .ge 42, 3) := by decide +kernel
theorem dX0_mend_7 : decode cX0_mend 7 = .ok (.aload_n 0, 1) := by decide +kernel
theorem dX0_mend_8 : decode cX0_mend 8 = .ok (.getfield 18, 3) := by decide +kernel
theorem dX0_mend_11 : decode cX0_mend 11 = .ok (.iload_n 3, 1) := by decide +kernel
theorem dX0_mend_12 : decode cX0_mend 12 = .ok (.iaload, 1) := by decide +kernel
theorem dX0_mend_13 : decode cX0_mend 13 = .ok (.iconst 3, 1) := by decide +kernel
theorem dX0_mend_14 : decode cX0_mend 14 = .ok (.if_icmp .ne 26, 3) := by decide +kernel
theorem dX0_mend_17 : decode cX0_mend 17 = .ok (.iload_n 2, 1) := by decide +kernel
theorem dX0_mend_18 : decode cX0_mend 18 = .ok (.ifCond .eq 22, 3) := by decide +kernel
theorem dX0_mend_21 : decode cX0_mend 21 = .ok (.iload_n 1, 1) := by decide +kernel
theorem dX0_mend_22 : decode cX0_mend 22 = .ok (.aload_n 0, 1) := by decide +kernel
theorem dX0_mend_23 : decode cX0_mend 23 = .ok (.getfield 21, 3) := by decide +kernel
theorem dX0_mend_26 : decode cX0_mend 26 = .ok (.iload_n 3, 1) := by decide +kernel
theorem dX0_mend_27 : decode cX0_mend 27 = .ok (.iaload, 1) := by decide +kernel
theorem dX0_mend_28 : decode cX0_mend 28 = .ok (.isub, 1) := by decide +kernel
theorem dX0_mend_29 : decode cX0_mend 29 = .ok (.iload_n 2, 1) := by decide +kernel
theorem dX0_mend_30 : decode cX0_mend 30 = .ok (.if_icmp .lt 10, 3) := by decide +kernel
theorem dX0_mend_33 : decode cX0_mend 33 = .ok (.aload_n 0, 1) := by decide +kernel
theorem dX0_mend_34 : decode cX0_mend 34 = .ok (.getfield 18, 3) := by decide +kernel
theorem dX0_mend_37 : decode cX0_mend 37 = .ok (.iload_n 3, 1) := by decide +kernel
theorem dX0_mend_38 : decode cX0_mend 38 = .ok (.iconst 1, 1) := by decide +kernel
theorem dX0_mend_39 : decode cX0_mend 39 = .ok (.iastore, 1) := by decide +kernel
theorem dX0_mend_40 : decode cX0_mend 40 = .ok (.iinc 3 1, 3) := by decide +kernel
theorem dX0_mend_43 : decode cX0_mend 43 = .ok (.goto (-41), 3) := by decide +kernel
theorem dX0_mend_46 : decode cX0_mend 46 = .ok (.return_, 1) := by decide +kernel
theorem dX1_init_0 : decode cX1_init 0 = .ok (.aload_n 0, 1) := by decide +kernel
theorem dX1_init_1 : decode cX1_init 1 = .ok (.invokespecial 3, 3) := by decide +kernel
theorem dX1_init_4 : decode cX1_init 4 = .ok (.aload_n 0, 1) := by decide +kernel
theorem dX1_init_5 : decode cX1_init 5 = .ok (.new 9, 3) := by decide +kernel
theorem dX1_init_8 : decode cX1_init 8 = .ok (.dup, 1) := by decide +kernel
theorem dX1_init_9 : decode cX1_init 9 = .ok (.invokespecial 11, 3) := by decide +kernel
theorem dX1_init_12 : decode cX1_init 12 = .ok (.putfield 12, 3) := by decide +kernel
theorem dX1_init_15 : decode cX1_init 15 = .ok (.aload_n 0, 1) := by decide +kernel
theorem dX1_init_16 : decode cX1_init 16 = .ok (.iconst 3, 1) := by decide +kernel
theorem dX1_init_17 : decode cX1_init 17 = .ok (.newarray .int, 2) := by decide +kernel
theorem dX1_init_19 : decode cX1_init 19 = .ok (.putfield 18, 3) := by decide +kernel
theorem dX1_init_22 : decode cX1_init 22 = .ok (.aload_n 0, 1) := by decide +kernel
theorem dX1_init_23 : decode cX1_init 23 = .ok (.iconst 1, 1) := by decide +kernel
theorem dX1_init_24 : decode cX1_init 24 = .ok (.putfield 22, 3) := by decide +kernel
theorem dX1_init_27 : decode cX1_init 27 = .ok (.aload_n 0, 1) := by decide +kernel
theorem dX1_init_28 : decode cX1_init 28 = .ok (.iconst 0, 1) := by decide +kernel
theorem dX1_init_29 : decode cX1_init 29 = .ok (.putfield 26, 3) := by decide +kernel
theorem dX1_init_32 : decode cX1_init 32 = .ok (.aload_n 0, 1) := by decide +kernel
theorem dX1_init_33 : decode cX1_init 33 = .ok (.bipush (-6), 2) := by decide +kernel
theorem dX1_init_35 : decode cX1_init 35 = .ok (.putfield 29, 3) := by decide +kernel
theorem dX1_init_38 : decode cX1_init 38 = .ok (.aload_n 0, 1) := by decide +kernel
theorem dX1_init_39 : decode cX1_init 39 = .ok (.iconst 1, 1) := by decide +kernel
theorem dX1_init_40 : decode cX1_init 40 = .ok (.putfield 32, 3) := by decide +kernel
theorem dX1_init_43 : decode cX1_init 43 = .ok (.aload_n 0, 1) := by decide +kernel
theorem dX1_init_44 : decode cX1_init 44 = .ok (.iconst 0, 1) := by decide +kernel
theorem dX1_init_45 : decode cX1_init 45 = .ok (.putfield 35, 3) := by decide +kernel
theorem dX1_init_48 : decode cX1_init 48 = .ok (.getstatic 38, 3) := by decide +kernel
theorem dX1_init_51 : decode cX1_init 51 = .ok (.iconst 0, 1) := by decide +kernel
theorem dX1_init_52 : decode cX1_init 52 = .ok (.aload_n 0, 1) := by decide +kernel
theorem dX1_init_53 : decode cX1_init 53 = .ok (.getfield 18, 3) := by decide +kernel
theorem dX1_init_56 : decode cX1_init 56 = .ok (.iconst 0, 1) := by decide +kernel
theorem dX1_init_57 : decode cX1_init 57 = .ok (.iconst 3, 1) := by decide +kernel
theorem dX1_init_58 : decode cX1_init 58 = .ok (.invokestatic 41, 3) := by decide +kernel
theorem dX1_init_61 : decode cX1_init 61 = .ok (.return_, 1) := by decide +kernel
theorem dX1_copyFrom_0 : decode cX1_copyFrom 0 = .ok (.aload_n 0, 1) := by decide +kernel
theorem dX1_copyFrom_1 : decode cX1_copyFrom 1 = .ok (.getfield 12, 3) := by decide +kernel
theorem dX1_copyFrom_4 : decode cX1_copyFrom 4 = .ok (.aload_n 1, 1) := by decide +kernel
theorem dX1_copyFrom_5 : decode cX1_copyFrom 5 = .ok (.getfield 12, 3) := by decide +kernel
theorem dX1_copyFrom_8 : decode cX1_copyFrom 8 = .ok (.invokevirtual 47, 3) := by decide +kernel
theorem dX1_copyFrom_11 : decode cX1_copyFrom 11 = .ok (.aload_n 1, 1) := by decide +kernel
theorem dX1_copyFrom_12 : decode cX1_copyFrom 12 = .ok (.getfield 18, 3) := by decide +kernel
theorem dX1_copyFrom_15 : decode cX1_copyFrom 15 = .ok (.iconst 0, 1) := by decide +kernel
theorem dX1_copyFrom_16 : decode cX1_copyFrom 16 = .ok (.aload_n 0, 1) := by decide +kernel
theorem dX1_copyFrom_17 : decode cX1_copyFrom 17 = .ok (.getfield 18, 3) := by decide +kernel
theorem dX1_copyFrom_20 : decode cX1_copyFrom 20 = .ok (.iconst 0, 1) := by decide +kernel
theorem dX1_copyFrom_21 : decode cX1_copyFrom 21 = .ok (.iconst 3, 1) := by decide +kernel
theorem dX1_copyFrom_22 : decode cX1_copyFrom 22 = .ok (.invokestatic 41, 3) := by decide +kernel
theorem dX1_copyFrom_25 : decode cX1_copyFrom 25 = .ok (.aload_n 0, 1) := by decide +kernel
theorem dX1_copyFrom_26 : decode cX1_copyFrom 26 = .ok (.aload_n 1, 1) := by decide +kernel
theorem dX1_copyFrom_27 : decode cX1_copyFrom 27 = .ok (.getfield 22, 3) := by decide +kernel
theorem dX1_copyFrom_30 : decode cX1_copyFrom 30 = .ok (.putfield 22, 3) := by decide +kernel
theorem dX1_copyFrom_33 : decode cX1_copyFrom 33 = .ok (.aload_n 0, 1) := by decide +kernel
theorem dX1_copyFrom_34 : decode cX1_copyFrom 34 = .ok (.aload_n 1, 1) := by decide +kernel
theorem dX1_copyFrom_35 : decode cX1_copyFrom 35 = .ok (.getfield 26, 3) := by decide +kernel
theorem dX1_copyFrom_38 : decode cX1_copyFrom 38 = .ok (.putfield 26, 3) := by decide +kernel
theorem dX1_copyFrom_41 : decode cX1_copyFrom 41 = .ok (.aload_n 0, 1) := by decide +kernel
theorem dX1_copyFrom_42 : decode cX1_copyFrom 42 = .ok (.aload_n 1, 1) := by decide +kernel
theorem dX1_copyFrom_43 : decode cX1_copyFrom 43 = .ok (.getfield 29, 3) := by decide +kernel
theorem dX1_copyFrom_46 : decode cX1_copyFrom 46 = .ok (.putfield 29, 3) := by decide +kernel
theorem dX1_copyFrom_49 : decode cX1_copyFrom 49 = .ok (.aload_n 0, 1) := by decide +kernel
theorem dX1_copyFrom_50 : decode cX1_copyFrom 50 = .ok (.aload_n 1, 1) := by decide +kernel
theorem dX1_copyFrom_51 : decode cX1_copyFrom 51 = .ok (.getfield 32, 3) := by decide +kernel
theorem dX1_copyFrom_54 : decode cX1_copyFrom 54 = .ok (.putfield 32, 3) := by decide +kernel
theorem dX1_copyFrom_57 : decode cX1_copyFrom 57 = .ok (.aload_n 0, 1) := by decide +kernel
theorem dX1_copyFrom_58 : decode cX1_copyFrom 58 = .ok (.aload_n 1, 1) := by decide +kernel
theorem dX1_copyFrom_59 : decode cX1_copyFrom 59 = .ok (.getfield 35, 3) := by decide +kernel
theorem dX1_copyFrom_62 : decode cX1_copyFrom 62 = .ok (.putfield 35, 3) := by decide +kernel
theorem dX1_copyFrom_65 : decode cX1_copyFrom 65 = .ok (.return_, 1) := by decide +kernel
theorem dX1_isOver_0 : decode cX1_isOver 0 = .ok (.aload_n 0, 1) := by decide +kernel
theorem dX1_isOver_1 : decode cX1_isOver 1 = .ok (.getfield 12, 3) := by decide +kernel
theorem dX1_isOver_4 : decode cX1_isOver 4 = .ok (.invokevirtual 51, 3) := by decide +kernel
theorem dX1_isOver_7 : decode cX1_isOver 7 = .ok (.bipush (-6), 2) := by decide +kernel
theorem dX1_isOver_9 : decode cX1_isOver 9 = .ok (.if_icmp .eq 7, 3) := by decide +kernel
theorem dX1_isOver_12 : decode cX1_isOver 12 = .ok (.iconst 1, 1) := by decide +kernel
theorem dX1_isOver_13 : decode cX1_isOver 13 = .ok (.goto 4, 3) := by decide +kernel
theorem dX1_isOver_16 : decode cX1_isOver 16 = .ok (.iconst 0, 1) := by decide +kernel
theorem dX1_isOver_17 : decode cX1_isOver 17 = .ok (.ireturn, 1) := by decide +kernel
theorem dX1_hasThrow_0 : decode cX1_hasThrow 0 = .ok (.aload_n 0, 1) := by decide +kernel
theorem dX1_hasThrow_1 : decode cX1_hasThrow 1 = .ok (.getfield 29, 3) := by decide +kernel
theorem dX1_hasThrow_4 : decode cX1_hasThrow 4 = .ok (.bipush (-6), 2) := by decide +kernel
theorem dX1_hasThrow_6 : decode cX1_hasThrow 6 = .ok (.if_icmp .eq 7, 3) := by decide +kernel
theorem dX1_hasThrow_9 : decode cX1_hasThrow 9 = .ok (.iconst 1, 1) := by decide +kernel
theorem dX1_hasThrow_10 : decode cX1_hasThrow 10 = .ok (.goto 4, 3) := by decide +kernel
theorem dX1_hasThrow_13 : decode cX1_hasThrow 13 = .ok (.iconst 0, 1) := by decide +kernel
theorem dX1_hasThrow_14 : decode cX1_hasThrow 14 = .ok (.ireturn, 1) := by decide +kernel
theorem dX1_reason_0 : decode cX1_reason 0 = .ok (.iload_n 1, 1) := by decide +kernel
theorem dX1_reason_1 : decode cX1_reason 1 = .ok (.iconst 3, 1) := by decide +kernel
theorem dX1_reason_2 : decode cX1_reason 2 = .ok (.idiv, 1) := by decide +kernel
theorem dX1_reason_3 : decode cX1_reason 3 = .ok (.istore_n 3, 1) := by decide +kernel
theorem dX1_reason_4 : decode cX1_reason 4 = .ok (.aload_n 0, 1) := by decide +kernel
theorem dX1_reason_5 : decode cX1_reason 5 = .ok (.getfield 12, 3) := by decide +kernel
theorem dX1_reason_8 : decode cX1_reason 8 = .ok (.getfield 55, 3) := by decide +kernel
theorem dX1_reason_11 : decode cX1_reason 11 = .ok (.iload_n 1, 1) := by decide +kernel
theorem dX1_reason_12 : decode cX1_reason 12 = .ok (.iaload, 1) := by decide +kernel
theorem dX1_reason_13 : decode cX1_reason 13 = .ok (.istore 4, 2) := by decide +kernel
theorem dX1_reason_15 : decode cX1_reason 15 = .ok (.iload 4, 2) := by decide +kernel
theorem dX1_reason_17 : decode cX1_reason 17 = .ok (.bipush 35, 2) := by decide +kernel
theorem dX1_reason_19 : decode cX1_reason 19 = .ok (.if_icmp .ne 5, 3) := by decide +kernel
theorem dX1_reason_22 : decode cX1_reason 22 = .ok (.iconst 1, 1) := by decide +kernel
theorem dX1_reason_23 : decode cX1_reason 23 = .ok (.ireturn, 1) := by decide +kernel
theorem dX1_reason_24 : decode cX1_reason 24 = .ok (.iload 4, 2) := by decide +kernel
theorem dX1_reason_26 : decode cX1_reason 26 = .ok (.bipush (-6), 2) := by decide +kernel
theorem dX1_reason_28 : decode cX1_reason 28 = .ok (.if_icmp .ne 15, 3) := by decide +kernel
theorem dX1_reason_31 : decode cX1_reason 31 = .ok (.iload_n 2, 1) := by decide +kernel
theorem dX1_reason_32 : decode cX1_reason 32 = .ok (.aload_n 0, 1) := by decide +kernel
theorem dX1_reason_33 : decode cX1_reason 33 = .ok (.getfield 18, 3) := by decide +kernel
theorem dX1_reason_36 : decode cX1_reason 36 = .ok (.iconst 0, 1) := by decide +kernel
theorem dX1_reason_37 : decode cX1_reason 37 = .ok (.iaload, 1) := by decide +kernel
theorem dX1_reason_38 : decode cX1_reason 38 = .ok (.if_icmp .ge 5, 3) := by decide +kernel
theorem dX1_reason_41 : decode cX1_reason 41 = .ok (.iconst 2, 1) := by decide +kernel
theorem dX1_reason_42 : decode cX1_reason 42 = .ok (.ireturn, 1) := by decide +kernel
theorem dX1_reason_43 : decode cX1_reason 43 = .ok (.aload_n 0, 1) := by decide +kernel
theorem dX1_reason_44 : decode cX1_reason 44 = .ok (.getfield 12, 3) := by decide +kernel
theorem dX1_reason_47 : decode cX1_reason 47 = .ok (.iload_n 3, 1) := by decide +kernel
theorem dX1_reason_48 : decode cX1_reason 48 = .ok (.iload 4, 2) := by decide +kernel
theorem dX1_reason_50 : decode cX1_reason 50 = .ok (.iload_n 2, 1) := by decide +kernel
theorem dX1_reason_51 : decode cX1_reason 51 = .ok (.invokevirtual 58, 3) := by decide +kernel
theorem dX1_reason_54 : decode cX1_reason 54 = .ok (.istore 5, 2) := by decide +kernel
theorem dX1_reason_56 : decode cX1_reason 56 = .ok (.iload 5, 2) := by decide +kernel
theorem dX1_reason_58 : decode cX1_reason 58 = .ok (.bipush (-6), 2) := by decide +kernel
theorem dX1_reason_60 : decode cX1_reason 60 = .ok (.if_icmp .ne 5, 3) := by decide +kernel
theorem dX1_reason_63 : decode cX1_reason 63 = .ok (.iconst 3, 1) := by decide +kernel
theorem dX1_reason_64 : decode cX1_reason 64 = .ok (.ireturn, 1) := by decide +kernel
theorem dX1_reason_65 : decode cX1_reason 65 = .ok (.aload_n 0, 1) := by decide +kernel
theorem dX1_reason_66 : decode cX1_reason 66 = .ok (.getfield 12, 3) := by decide +kernel
theorem dX1_reason_69 : decode cX1_reason 69 = .ok (.iload_n 3, 1) := by decide +kernel
theorem dX1_reason_70 : decode cX1_reason 70 = .ok (.iload 4, 2) := by decide +kernel
theorem dX1_reason_72 : decode cX1_reason 72 = .ok (.iload 5, 2) := by decide +kernel
theorem dX1_reason_74 : decode cX1_reason 74 = .ok (.invokevirtual 62, 3) := by decide +kernel
theorem dX1_reason_77 : decode cX1_reason 77 = .ok (.ifCond .eq 5, 3) := by decide +kernel
theorem dX1_reason_80 : decode cX1_reason 80 = .ok (.iconst 4, 1) := by decide +kernel
theorem dX1_reason_81 : decode cX1_reason 81 = .ok (.ireturn, 1) := by decide +kernel
theorem dX1_reason_82 : decode cX1_reason 82 = .ok (.aload_n 0, 1) := by decide +kernel
theorem dX1_reason_83 : decode cX1_reason 83 = .ok (.getfield 12, 3) := by decide +kernel
theorem dX1_reason_86 : decode cX1_reason 86 = .ok (.iload_n 1, 1) := by decide +kernel
theorem dX1_reason_87 : decode cX1_reason 87 = .ok (.iload 5, 2) := by decide +kernel
theorem dX1_reason_89 : decode cX1_reason 89 = .ok (.invokevirtual 66, 3) := by decide +kernel
theorem dX1_reason_92 : decode cX1_reason 92 = .ok (.ifCond .eq 5, 3) := by decide +kernel
theorem dX1_reason_95 : decode cX1_reason 95 = .ok (.iconst 5, 1) := by decide +kernel
theorem dX1_reason_96 : decode cX1_reason 96 = .ok (.ireturn, 1) := by decide +kernel
theorem dX1_reason_97 : decode cX1_reason 97 = .ok (.iload_n 3, 1) := by decide +kernel
theorem dX1_reason_98 : decode cX1_reason 98 = .ok (.iload 5, 2) := by decide +kernel
theorem dX1_reason_100 : decode cX1_reason 100 = .ok (.invokestatic 70, 3) := by decide +kernel
theorem dX1_reason_103 : decode cX1_reason 103 = .ok (.invokestatic 74, 3) := by decide +kernel
theorem dX1_reason_106 : decode cX1_reason 106 = .ok (.ifCond .eq 19, 3) := by decide +kernel
theorem dX1_reason_109 : decode cX1_reason 109 = .ok (.aload_n 0, 1) := by decide +kernel
theorem dX1_reason_110 : decode cX1_reason 110 = .ok (.getfield 12, 3) := by decide +kernel
theorem dX1_reason_113 : decode cX1_reason 113 = .ok (.iload_n 3, 1) := by decide +kernel
theorem dX1_reason_114 : decode cX1_reason 114 = .ok (.iload 5, 2) := by decide +kernel
theorem dX1_reason_116 : decode cX1_reason 116 = .ok (.invokevirtual 78, 3) := by decide +kernel
theorem dX1_reason_119 : decode cX1_reason 119 = .ok (.ifCond .le 6, 3) := by decide +kernel
theorem dX1_reason_122 : decode cX1_reason 122 = .ok (.bipush 6, 2) := by decide +kernel
theorem dX1_reason_124 : decode cX1_reason 124 = .ok (.ireturn, 1) := by decide +kernel
theorem dX1_reason_125 : decode cX1_reason 125 = .ok (.iconst 0, 1) := by decide +kernel
theorem dX1_reason_126 : decode cX1_reason 126 = .ok (.ireturn, 1) := by decide +kernel
theorem dX1_canMoveBy_0 : decode cX1_canMoveBy 0 = .ok (.aload_n 0, 1) := by decide +kernel
theorem dX1_canMoveBy_1 : decode cX1_canMoveBy 1 = .ok (.getfield 26, 3) := by decide +kernel
theorem dX1_canMoveBy_4 : decode cX1_canMoveBy 4 = .ok (.iconst 3, 1) := by decide +kernel
theorem dX1_canMoveBy_5 : decode cX1_canMoveBy 5 = .ok (.imul, 1) := by decide +kernel
theorem dX1_canMoveBy_6 : decode cX1_canMoveBy 6 = .ok (.istore_n 2, 1) := by decide +kernel
theorem dX1_canMoveBy_7 : decode cX1_canMoveBy 7 = .ok (.iload_n 2, 1) := by decide +kernel
theorem dX1_canMoveBy_8 : decode cX1_canMoveBy 8 = .ok (.aload_n 0, 1) := by decide +kernel
theorem dX1_canMoveBy_9 : decode cX1_canMoveBy 9 = .ok (.getfield 26, 3) := by decide +kernel
theorem dX1_canMoveBy_12 : decode cX1_canMoveBy 12 = .ok (.iconst 3, 1) := by decide +kernel
theorem dX1_canMoveBy_13 : decode cX1_canMoveBy 13 = .ok (.imul, 1) := by decide +kernel
theorem dX1_canMoveBy_14 : decode cX1_canMoveBy 14 = .ok (.iconst 3, 1) := by decide +kernel
theorem dX1_canMoveBy_15 : decode cX1_canMoveBy 15 = .ok (.iadd, 1) := by decide +kernel
theorem dX1_canMoveBy_16 : decode cX1_canMoveBy 16 = .ok (.if_icmp .ge 20, 3) := by decide +kernel
theorem dX1_canMoveBy_19 : decode cX1_canMoveBy 19 = .ok (.aload_n 0, 1) := by decide +kernel
theorem dX1_canMoveBy_20 : decode cX1_canMoveBy 20 = .ok (.iload_n 2, 1) := by decide +kernel
theorem dX1_canMoveBy_21 : decode cX1_canMoveBy 21 = .ok (.iload_n 1, 1) := by decide +kernel
theorem dX1_canMoveBy_22 : decode cX1_canMoveBy 22 = .ok (.invokevirtual 81, 3) := by decide +kernel
theorem dX1_canMoveBy_25 : decode cX1_canMoveBy 25 = .ok (.ifCond .ne 5, 3) := by decide +kernel
theorem dX1_canMoveBy_28 : decode cX1_canMoveBy 28 = .ok (.iconst 1, 1) := by decide +kernel
theorem dX1_canMoveBy_29 : decode cX1_canMoveBy 29 = .ok (.ireturn, 1) := by decide +kernel
theorem dX1_canMoveBy_30 : decode cX1_canMoveBy 30 = .ok (.iinc 2 1, 3) := by decide +kernel
theorem dX1_canMoveBy_33 : decode cX1_canMoveBy 33 = .ok (.goto (-26), 3) := by decide +kernel
theorem dX1_canMoveBy_36 : decode cX1_canMoveBy 36 = .ok (.iconst 0, 1) := by decide +kernel
theorem dX1_canMoveBy_37 : decode cX1_canMoveBy 37 = .ok (.ireturn, 1) := by decide +kernel
theorem dX1_bestPiece_0 : decode cX1_bestPiece 0 = .ok (.bipush (-6), 2) := by decide +kernel
theorem dX1_bestPiece_2 : decode cX1_bestPiece 2 = .ok (.istore_n 1, 1) := by decide +kernel
theorem dX1_bestPiece_3 : decode cX1_bestPiece 3 = .ok (.iconst 0, 1) := by decide +kernel
theorem dX1_bestPiece_4 : decode cX1_bestPiece 4 = .ok (.istore_n 2, 1) := by decide +kernel
theorem dX1_bestPiece_5 : decode cX1_bestPiece 5 = .ok (.aload_n 0, 1) := by decide +kernel
theorem dX1_bestPiece_6 : decode cX1_bestPiece 6 = .ok (.getfield 26, 3) := by decide +kernel
theorem dX1_bestPiece_9 : decode cX1_bestPiece 9 = .ok (.iconst 3, 1) := by decide +kernel
theorem dX1_bestPiece_10 : decode cX1_bestPiece 10 = .ok (.imul, 1) := by decide +kernel
theorem dX1_bestPiece_11 : decode cX1_bestPiece 11 = .ok (.istore_n 3, 1) := by decide +kernel
theorem dX1_bestPiece_12 : decode cX1_bestPiece 12 = .ok (.iload_n 3, 1) := by decide +kernel
theorem dX1_bestPiece_13 : decode cX1_bestPiece 13 = .ok (.aload_n 0, 1) := by decide +kernel
theorem dX1_bestPiece_14 : decode cX1_bestPiece 14 = .ok (.getfield 26, 3) := by decide +kernel
theorem dX1_bestPiece_17 : decode cX1_bestPiece 17 = .ok (.iconst 3, 1) := by decide +kernel
theorem dX1_bestPiece_18 : decode cX1_bestPiece 18 = .ok (.imul, 1) := by decide +kernel
theorem dX1_bestPiece_19 : decode cX1_bestPiece 19 = .ok (.iconst 3, 1) := by decide +kernel
theorem dX1_bestPiece_20 : decode cX1_bestPiece 20 = .ok (.iadd, 1) := by decide +kernel
theorem dX1_bestPiece_21 : decode cX1_bestPiece 21 = .ok (.if_icmp .ge 45, 3) := by decide +kernel
theorem dX1_bestPiece_24 : decode cX1_bestPiece 24 = .ok (.aload_n 0, 1) := by decide +kernel
theorem dX1_bestPiece_25 : decode cX1_bestPiece 25 = .ok (.iload_n 3, 1) := by decide +kernel
theorem dX1_bestPiece_26 : decode cX1_bestPiece 26 = .ok (.aload_n 0, 1) := by decide +kernel
theorem dX1_bestPiece_27 : decode cX1_bestPiece 27 = .ok (.getfield 29, 3) := by decide +kernel
theorem dX1_bestPiece_30 : decode cX1_bestPiece 30 = .ok (.invokevirtual 81, 3) := by decide +kernel
theorem dX1_bestPiece_33 : decode cX1_bestPiece 33 = .ok (.ifCond .ne 27, 3) := by decide +kernel
theorem dX1_bestPiece_36 : decode cX1_bestPiece 36 = .ok (.aload_n 0, 1) := by decide +kernel
theorem dX1_bestPiece_37 : decode cX1_bestPiece 37 = .ok (.iload_n 3, 1) := by decide +kernel
theorem dX1_bestPiece_38 : decode cX1_bestPiece 38 = .ok (.invokevirtual 84, 3) := by decide +kernel
theorem dX1_bestPiece_41 : decode cX1_bestPiece 41 = .ok (.istore 4, 2) := by decide +kernel
theorem dX1_bestPiece_43 : decode cX1_bestPiece 43 = .ok (.iload_n 1, 1) := by decide +kernel
theorem dX1_bestPiece_44 : decode cX1_bestPiece 44 = .ok (.bipush (-6), 2) := by decide +kernel
theorem dX1_bestPiece_46 : decode cX1_bestPiece 46 = .ok (.if_icmp .eq 9, 3) := by decide +kernel
theorem dX1_bestPiece_49 : decode cX1_bestPiece 49 = .ok (.iload 4, 2) := by decide +kernel
theorem dX1_bestPiece_51 : decode cX1_bestPiece 51 = .ok (.iload_n 2, 1) := by decide +kernel
theorem dX1_bestPiece_52 : decode cX1_bestPiece 52 = .ok (.if_icmp .le 8, 3) := by decide +kernel
theorem dX1_bestPiece_55 : decode cX1_bestPiece 55 = .ok (.iload_n 3, 1) := by decide +kernel
theorem dX1_bestPiece_56 : decode cX1_bestPiece 56 = .ok (.istore_n 1, 1) := by decide +kernel
theorem dX1_bestPiece_57 : decode cX1_bestPiece 57 = .ok (.iload 4, 2) := by decide +kernel
theorem dX1_bestPiece_59 : decode cX1_bestPiece 59 = .ok (.istore_n 2, 1) := by decide +kernel
theorem dX1_bestPiece_60 : decode cX1_bestPiece 60 = .ok (.iinc 3 1, 3) := by decide +kernel
theorem dX1_bestPiece_63 : decode cX1_bestPiece 63 = .ok (.goto (-51), 3) := by decide +kernel
theorem dX1_bestPiece_66 : decode cX1_bestPiece 66 = .ok (.iload_n 1, 1) := by decide +kernel
theorem dX1_bestPiece_67 : decode cX1_bestPiece 67 = .ok (.ireturn, 1) := by decide +kernel
theorem dX1_worthOfMove_0 : decode cX1_worthOfMove 0 = .ok (.aload_n 0, 1) := by decide +kernel
theorem dX1_worthOfMove_1 : decode cX1_worthOfMove 1 = .ok (.getfield 12, 3) := by decide +kernel
theorem dX1_worthOfMove_4 : decode cX1_worthOfMove 4 = .ok (.getfield 55, 3) := by decide +kernel
theorem dX1_worthOfMove_7 : decode cX1_worthOfMove 7 = .ok (.iload_n 1, 1) := by decide +kernel
theorem dX1_worthOfMove_8 : decode cX1_worthOfMove 8 = .ok (.iaload, 1) := by decide +kernel
theorem dX1_worthOfMove_9 : decode cX1_worthOfMove 9 = .ok (.istore_n 2, 1) := by decide +kernel
theorem dX1_worthOfMove_10 : decode cX1_worthOfMove 10 = .ok (.aload_n 0, 1) := by decide +kernel
theorem dX1_worthOfMove_11 : decode cX1_worthOfMove 11 = .ok (.getfield 12, 3) := by decide +kernel
theorem dX1_worthOfMove_14 : decode cX1_worthOfMove 14 = .ok (.aload_n 0, 1) := by decide +kernel
theorem dX1_worthOfMove_15 : decode cX1_worthOfMove 15 = .ok (.getfield 26, 3) := by decide +kernel
theorem dX1_worthOfMove_18 : decode cX1_worthOfMove 18 = .ok (.iload_n 2, 1) := by decide +kernel
theorem dX1_worthOfMove_19 : decode cX1_worthOfMove 19 = .ok (.aload_n 0, 1) := by decide +kernel
theorem dX1_worthOfMove_20 : decode cX1_worthOfMove 20 = .ok (.getfield 29, 3) := by decide +kernel
theorem dX1_worthOfMove_23 : decode cX1_worthOfMove 23 = .ok (.invokevirtual 58, 3) := by decide +kernel
theorem dX1_worthOfMove_26 : decode cX1_worthOfMove 26 = .ok (.istore_n 3, 1) := by decide +kernel
theorem dX1_worthOfMove_27 : decode cX1_worthOfMove 27 = .ok (.iconst 0, 1) := by decide +kernel
theorem dX1_worthOfMove_28 : decode cX1_worthOfMove 28 = .ok (.istore 4, 2) := by decide +kernel
theorem dX1_worthOfMove_30 : decode cX1_worthOfMove 30 = .ok (.iload_n 3, 1) := by decide +kernel
theorem dX1_worthOfMove_31 : decode cX1_worthOfMove 31 = .ok (.bipush 35, 2) := by decide +kernel
theorem dX1_worthOfMove_33 : decode cX1_worthOfMove 33 = .ok (.if_icmp .ne 9, 3) := by decide +kernel
theorem dX1_worthOfMove_36 : decode cX1_worthOfMove 36 = .ok (.iconst 3, 1) := by decide +kernel
theorem dX1_worthOfMove_37 : decode cX1_worthOfMove 37 = .ok (.istore 4, 2) := by decide +kernel
theorem dX1_worthOfMove_39 : decode cX1_worthOfMove 39 = .ok (.goto 46, 3) := by decide +kernel
theorem dX1_worthOfMove_42 : decode cX1_worthOfMove 42 = .ok (.aload_n 0, 1) := by decide +kernel
theorem dX1_worthOfMove_43 : decode cX1_worthOfMove 43 = .ok (.getfield 12, 3) := by decide +kernel
theorem dX1_worthOfMove_46 : decode cX1_worthOfMove 46 = .ok (.aload_n 0, 1) := by decide +kernel
theorem dX1_worthOfMove_47 : decode cX1_worthOfMove 47 = .ok (.getfield 26, 3) := by decide +kernel
theorem dX1_worthOfMove_50 : decode cX1_worthOfMove 50 = .ok (.iload_n 3, 1) := by decide +kernel
theorem dX1_worthOfMove_51 : decode cX1_worthOfMove 51 = .ok (.invokevirtual 78, 3) := by decide +kernel
theorem dX1_worthOfMove_54 : decode cX1_worthOfMove 54 = .ok (.ifCond .le 9, 3) := by decide +kernel
theorem dX1_worthOfMove_57 : decode cX1_worthOfMove 57 = .ok (.iconst 2, 1) := by decide +kernel
theorem dX1_worthOfMove_58 : decode cX1_worthOfMove 58 = .ok (.istore 4, 2) := by decide +kernel
theorem dX1_worthOfMove_60 : decode cX1_worthOfMove 60 = .ok (.goto 25, 3) := by decide +kernel
theorem dX1_worthOfMove_63 : decode cX1_worthOfMove 63 = .ok (.iload_n 3, 1) := by decide +kernel
theorem dX1_worthOfMove_64 : decode cX1_worthOfMove 64 = .ok (.invokestatic 88, 3) := by decide +kernel
theorem dX1_worthOfMove_67 : decode cX1_worthOfMove 67 = .ok (.ifCond .eq 18, 3) := by decide +kernel
theorem dX1_worthOfMove_70 : decode cX1_worthOfMove 70 = .ok (.aload_n 0, 1) := by decide +kernel
theorem dX1_worthOfMove_71 : decode cX1_worthOfMove 71 = .ok (.getfield 12, 3) := by decide +kernel
theorem dX1_worthOfMove_74 : decode cX1_worthOfMove 74 = .ok (.iload_n 1, 1) := by decide +kernel
theorem dX1_worthOfMove_75 : decode cX1_worthOfMove 75 = .ok (.iload_n 3, 1) := by decide +kernel
theorem dX1_worthOfMove_76 : decode cX1_worthOfMove 76 = .ok (.invokevirtual 91, 3) := by decide +kernel
theorem dX1_worthOfMove_79 : decode cX1_worthOfMove 79 = .ok (.ifCond .le 6, 3) := by decide +kernel
theorem dX1_worthOfMove_82 : decode cX1_worthOfMove 82 = .ok (.iconst 1, 1) := by decide +kernel
theorem dX1_worthOfMove_83 : decode cX1_worthOfMove 83 = .ok (.istore 4, 2) := by decide +kernel
theorem dX1_worthOfMove_85 : decode cX1_worthOfMove 85 = .ok (.iload 4, 2) := by decide +kernel
theorem dX1_worthOfMove_87 : decode cX1_worthOfMove 87 = .ok (.bipush 100, 2) := by decide +kernel
theorem dX1_worthOfMove_89 : decode cX1_worthOfMove 89 = .ok (.imul, 1) := by decide +kernel
theorem dX1_worthOfMove_90 : decode cX1_worthOfMove 90 = .ok (.iload_n 2, 1) := by decide +kernel
theorem dX1_worthOfMove_91 : decode cX1_worthOfMove 91 = .ok (.iadd, 1) := by decide +kernel
theorem dX1_worthOfMove_92 : decode cX1_worthOfMove 92 = .ok (.ireturn, 1) := by decide +kernel
theorem dX1_throwByX_0 : decode cX1_throwByX 0 = .ok (.aload_n 0, 1) := by decide +kernel
theorem dX1_throwByX_1 : decode cX1_throwByX 1 = .ok (.aload_n 0, 1) := by decide +kernel
theorem dX1_throwByX_2 : decode cX1_throwByX 2 = .ok (.getfield 22, 3) := by decide +kernel
theorem dX1_throwByX_5 : decode cX1_throwByX 5 = .ok (.invokestatic 94, 3) := by decide +kernel
theorem dX1_throwByX_8 : decode cX1_throwByX 8 = .ok (.putfield 22, 3) := by decide +kernel
theorem dX1_throwByX_11 : decode cX1_throwByX 11 = .ok (.aload_n 0, 1) := by decide +kernel
theorem dX1_throwByX_12 : decode cX1_throwByX 12 = .ok (.aload_n 0, 1) := by decide +kernel
theorem dX1_throwByX_13 : decode cX1_throwByX 13 = .ok (.getfield 22, 3) := by decide +kernel
theorem dX1_throwByX_16 : decode cX1_throwByX 16 = .ok (.invokestatic 97, 3) := by decide +kernel
theorem dX1_throwByX_19 : decode cX1_throwByX 19 = .ok (.invokevirtual 100, 3) := by decide +kernel
theorem dX1_throwByX_22 : decode cX1_throwByX 22 = .ok (.return_, 1) := by decide +kernel
theorem dX1_takeThrow_0 : decode cX1_takeThrow 0 = .ok (.aload_n 0, 1) := by decide +kernel
theorem dX1_takeThrow_1 : decode cX1_takeThrow 1 = .ok (.iload_n 1, 1) := by decide +kernel
theorem dX1_takeThrow_2 : decode cX1_takeThrow 2 = .ok (.putfield 29, 3) := by decide +kernel
theorem dX1_takeThrow_5 : decode cX1_takeThrow 5 = .ok (.aload_n 0, 1) := by decide +kernel
theorem dX1_takeThrow_6 : decode cX1_takeThrow 6 = .ok (.dup, 1) := by decide +kernel
theorem dX1_takeThrow_7 : decode cX1_takeThrow 7 = .ok (.getfield 35, 3) := by decide +kernel
theorem dX1_takeThrow_10 : decode cX1_takeThrow 10 = .ok (.iconst 1, 1) := by decide +kernel
theorem dX1_takeThrow_11 : decode cX1_takeThrow 11 = .ok (.iadd, 1) := by decide +kernel
theorem dX1_takeThrow_12 : decode cX1_takeThrow 12 = .ok (.putfield 35, 3) := by decide +kernel
theorem dX1_takeThrow_15 : decode cX1_takeThrow 15 = .ok (.return_, 1) := by decide +kernel
theorem dX1_moveByThrow_0 : decode cX1_moveByThrow 0 = .ok (.aload_n 0, 1) := by decide +kernel
theorem dX1_moveByThrow_1 : decode cX1_moveByThrow 1 = .ok (.getfield 12, 3) := by decide +kernel
theorem dX1_moveByThrow_4 : decode cX1_moveByThrow 4 = .ok (.aload_n 0, 1) := by decide +kernel
theorem dX1_moveByThrow_5 : decode cX1_moveByThrow 5 = .ok (.getfield 26, 3) := by decide +kernel
theorem dX1_moveByThrow_8 : decode cX1_moveByThrow 8 = .ok (.aload_n 0, 1) := by decide +kernel
theorem dX1_moveByThrow_9 : decode cX1_moveByThrow 9 = .ok (.getfield 12, 3) := by decide +kernel
theorem dX1_moveByThrow_12 : decode cX1_moveByThrow 12 = .ok (.getfield 55, 3) := by decide +kernel
theorem dX1_moveByThrow_15 : decode cX1_moveByThrow 15 = .ok (.iload_n 1, 1) := by decide +kernel
theorem dX1_moveByThrow_16 : decode cX1_moveByThrow 16 = .ok (.iaload, 1) := by decide +kernel
theorem dX1_moveByThrow_17 : decode cX1_moveByThrow 17 = .ok (.aload_n 0, 1) := by decide +kernel
theorem dX1_moveByThrow_18 : decode cX1_moveByThrow 18 = .ok (.getfield 29, 3) := by decide +kernel
theorem dX1_moveByThrow_21 : decode cX1_moveByThrow 21 = .ok (.invokevirtual 58, 3) := by decide +kernel
theorem dX1_moveByThrow_24 : decode cX1_moveByThrow 24 = .ok (.istore_n 2, 1) := by decide +kernel
theorem dX1_moveByThrow_25 : decode cX1_moveByThrow 25 = .ok (.aload_n 0, 1) := by decide +kernel
theorem dX1_moveByThrow_26 : decode cX1_moveByThrow 26 = .ok (.getfield 12, 3) := by decide +kernel
theorem dX1_moveByThrow_29 : decode cX1_moveByThrow 29 = .ok (.aload_n 0, 1) := by decide +kernel
theorem dX1_moveByThrow_30 : decode cX1_moveByThrow 30 = .ok (.getfield 26, 3) := by decide +kernel
theorem dX1_moveByThrow_33 : decode cX1_moveByThrow 33 = .ok (.iload_n 2, 1) := by decide +kernel
theorem dX1_moveByThrow_34 : decode cX1_moveByThrow 34 = .ok (.invokevirtual 104, 3) := by decide +kernel
theorem dX1_moveByThrow_37 : decode cX1_moveByThrow 37 = .ok (.aload_n 0, 1) := by decide +kernel
theorem dX1_moveByThrow_38 : decode cX1_moveByThrow 38 = .ok (.getfield 12, 3) := by decide +kernel
theorem dX1_moveByThrow_41 : decode cX1_moveByThrow 41 = .ok (.iload_n 1, 1) := by decide +kernel
theorem dX1_moveByThrow_42 : decode cX1_moveByThrow 42 = .ok (.iload_n 2, 1) := by decide +kernel
theorem dX1_moveByThrow_43 : decode cX1_moveByThrow 43 = .ok (.aload_n 0, 1) := by decide +kernel
theorem dX1_moveByThrow_44 : decode cX1_moveByThrow 44 = .ok (.getfield 32, 3) := by decide +kernel
theorem dX1_moveByThrow_47 : decode cX1_moveByThrow 47 = .ok (.invokevirtual 108, 3) := by decide +kernel
theorem dX1_moveByThrow_50 : decode cX1_moveByThrow 50 = .ok (.aload_n 0, 1) := by decide +kernel
theorem dX1_moveByThrow_51 : decode cX1_moveByThrow 51 = .ok (.invokevirtual 112, 3) := by decide +kernel
theorem dX1_moveByThrow_54 : decode cX1_moveByThrow 54 = .ok (.iload_n 2, 1) := by decide +kernel
theorem dX1_moveByThrow_55 : decode cX1_moveByThrow 55 = .ok (.ireturn, 1) := by decide +kernel
theorem dX1_endThrow_0 : decode cX1_endThrow 0 = .ok (.aload_n 0, 1) := by decide +kernel
theorem dX1_endThrow_1 : decode cX1_endThrow 1 = .ok (.getfield 29, 3) := by decide +kernel
theorem dX1_endThrow_4 : decode cX1_endThrow 4 = .ok (.bipush 6, 2) := by decide +kernel
theorem dX1_endThrow_6 : decode cX1_endThrow 6 = .ok (.if_icmp .ne 20, 3) := by decide +kernel
theorem dX1_endThrow_9 : decode cX1_endThrow 9 = .ok (.aload_n 0, 1) := by decide +kernel
theorem dX1_endThrow_10 : decode cX1_endThrow 10 = .ok (.getfield 35, 3) := by decide +kernel
theorem dX1_endThrow_13 : decode cX1_endThrow 13 = .ok (.aload_n 0, 1) := by decide +kernel
theorem dX1_endThrow_14 : decode cX1_endThrow 14 = .ok (.getfield 18, 3) := by decide +kernel
theorem dX1_endThrow_17 : decode cX1_endThrow 17 = .ok (.iconst 2, 1) := by decide +kernel
theorem dX1_endThrow_18 : decode cX1_endThrow 18 = .ok (.iaload, 1) := by decide +kernel
theorem dX1_endThrow_19 : decode cX1_endThrow 19 = .ok (.if_icmp .gt 7, 3) := by decide +kernel
theorem dX1_endThrow_22 : decode cX1_endThrow 22 = .ok (.iconst 1, 1) := by decide +kernel
theorem dX1_endThrow_23 : decode cX1_endThrow 23 = .ok (.goto 4, 3) := by decide +kernel
theorem dX1_endThrow_26 : decode cX1_endThrow 26 = .ok (.iconst 0, 1) := by decide +kernel
theorem dX1_endThrow_27 : decode cX1_endThrow 27 = .ok (.istore_n 1, 1) := by decide +kernel
theorem dX1_endThrow_28 : decode cX1_endThrow 28 = .ok (.aload_n 0, 1) := by decide +kernel
theorem dX1_endThrow_29 : decode cX1_endThrow 29 = .ok (.bipush (-6), 2) := by decide +kernel
theorem dX1_endThrow_31 : decode cX1_endThrow 31 = .ok (.putfield 29, 3) := by decide +kernel
theorem dX1_endThrow_34 : decode cX1_endThrow 34 = .ok (.iload_n 1, 1) := by decide +kernel
theorem dX1_endThrow_35 : decode cX1_endThrow 35 = .ok (.ifCond .ne 14, 3) := by decide +kernel
theorem dX1_endThrow_38 : decode cX1_endThrow 38 = .ok (.aload_n 0, 1) := by decide +kernel
theorem dX1_endThrow_39 : decode cX1_endThrow 39 = .ok (.invokevirtual 115, 3) := by decide +kernel
theorem dX1_endThrow_42 : decode cX1_endThrow 42 = .ok (.ifCond .ne 7, 3) := by decide +kernel
theorem dX1_endThrow_45 : decode cX1_endThrow 45 = .ok (.aload_n 0, 1) := by decide +kernel
theorem dX1_endThrow_46 : decode cX1_endThrow 46 = .ok (.invokevirtual 119, 3) := by decide +kernel
theorem dX1_endThrow_49 : decode cX1_endThrow 49 = .ok (.return_, 1) := by decide +kernel
theorem dX1_beginTurn_0 : decode cX1_beginTurn 0 = .ok (.aload_n 0, 1) := by decide +kernel
theorem dX1_beginTurn_1 : decode cX1_beginTurn 1 = .ok (.aload_n 0, 1) := by decide +kernel
theorem dX1_beginTurn_2 : decode cX1_beginTurn 2 = .ok (.getfield 26, 3) := by decide +kernel
theorem dX1_beginTurn_5 : decode cX1_beginTurn 5 = .ok (.iconst 1, 1) := by decide +kernel
theorem dX1_beginTurn_6 : decode cX1_beginTurn 6 = .ok (.iadd, 1) := by decide +kernel
theorem dX1_beginTurn_7 : decode cX1_beginTurn 7 = .ok (.iconst 4, 1) := by decide +kernel
theorem dX1_beginTurn_8 : decode cX1_beginTurn 8 = .ok (.irem, 1) := by decide +kernel
theorem dX1_beginTurn_9 : decode cX1_beginTurn 9 = .ok (.putfield 26, 3) := by decide +kernel
theorem dX1_beginTurn_12 : decode cX1_beginTurn 12 = .ok (.aload_n 0, 1) := by decide +kernel
theorem dX1_beginTurn_13 : decode cX1_beginTurn 13 = .ok (.dup, 1) := by decide +kernel
theorem dX1_beginTurn_14 : decode cX1_beginTurn 14 = .ok (.getfield 32, 3) := by decide +kernel
theorem dX1_beginTurn_17 : decode cX1_beginTurn 17 = .ok (.iconst 1, 1) := by decide +kernel
theorem dX1_beginTurn_18 : decode cX1_beginTurn 18 = .ok (.iadd, 1) := by decide +kernel
theorem dX1_beginTurn_19 : decode cX1_beginTurn 19 = .ok (.putfield 32, 3) := by decide +kernel
theorem dX1_beginTurn_22 : decode cX1_beginTurn 22 = .ok (.aload_n 0, 1) := by decide +kernel
theorem dX1_beginTurn_23 : decode cX1_beginTurn 23 = .ok (.iconst 0, 1) := by decide +kernel
theorem dX1_beginTurn_24 : decode cX1_beginTurn 24 = .ok (.putfield 35, 3) := by decide +kernel
theorem dX1_beginTurn_27 : decode cX1_beginTurn 27 = .ok (.aload_n 0, 1) := by decide +kernel
theorem dX1_beginTurn_28 : decode cX1_beginTurn 28 = .ok (.getfield 12, 3) := by decide +kernel
theorem dX1_beginTurn_31 : decode cX1_beginTurn 31 = .ok (.aload_n 0, 1) := by decide +kernel
theorem dX1_beginTurn_32 : decode cX1_beginTurn 32 = .ok (.getfield 32, 3) := by decide +kernel
theorem dX1_beginTurn_35 : decode cX1_beginTurn 35 = .ok (.aload_n 0, 1) := by decide +kernel
theorem dX1_beginTurn_36 : decode cX1_beginTurn 36 = .ok (.getfield 18, 3) := by decide +kernel
theorem dX1_beginTurn_39 : decode cX1_beginTurn 39 = .ok (.iconst 1, 1) := by decide +kernel
theorem dX1_beginTurn_40 : decode cX1_beginTurn 40 = .ok (.iaload, 1) := by decide +kernel
theorem dX1_beginTurn_41 : decode cX1_beginTurn 41 = .ok (.invokevirtual 122, 3) := by decide +kernel
theorem dX1_beginTurn_44 : decode cX1_beginTurn 44 = .ok (.return_, 1) := by decide +kernel
theorem dX1_playOn_0 : decode cX1_playOn 0 = .ok (.iconst 0, 1) := by decide +kernel
theorem dX1_playOn_1 : decode cX1_playOn 1 = .ok (.istore_n 2, 1) := by decide +kernel
theorem dX1_playOn_2 : decode cX1_playOn 2 = .ok (.iload_n 2, 1) := by decide +kernel
theorem dX1_playOn_3 : decode cX1_playOn 3 = .ok (.iload_n 1, 1) := by decide +kernel
theorem dX1_playOn_4 : decode cX1_playOn 4 = .ok (.if_icmp .ge 44, 3) := by decide +kernel
theorem dX1_playOn_7 : decode cX1_playOn 7 = .ok (.aload_n 0, 1) := by decide +kernel
theorem dX1_playOn_8 : decode cX1_playOn 8 = .ok (.invokevirtual 115, 3) := by decide +kernel
theorem dX1_playOn_11 : decode cX1_playOn 11 = .ok (.ifCond .ne 37, 3) := by decide +kernel
theorem dX1_playOn_14 : decode cX1_playOn 14 = .ok (.aload_n 0, 1) := by decide +kernel
theorem dX1_playOn_15 : decode cX1_playOn 15 = .ok (.invokevirtual 125, 3) := by decide +kernel
theorem dX1_playOn_18 : decode cX1_playOn 18 = .ok (.aload_n 0, 1) := by decide +kernel
theorem dX1_playOn_19 : decode cX1_playOn 19 = .ok (.invokevirtual 128, 3) := by decide +kernel
theorem dX1_playOn_22 : decode cX1_playOn 22 = .ok (.istore_n 3, 1) := by decide +kernel
theorem dX1_playOn_23 : decode cX1_playOn 23 = .ok (.iload_n 3, 1) := by decide +kernel
theorem dX1_playOn_24 : decode cX1_playOn 24 = .ok (.bipush (-6), 2) := by decide +kernel
theorem dX1_playOn_26 : decode cX1_playOn 26 = .ok (.if_icmp .ne 10, 3) := by decide +kernel
theorem dX1_playOn_29 : decode cX1_playOn 29 = .ok (.aload_n 0, 1) := by decide +kernel
theorem dX1_playOn_30 : decode cX1_playOn 30 = .ok (.invokevirtual 112, 3) := by decide +kernel
theorem dX1_playOn_33 : decode cX1_playOn 33 = .ok (.goto 9, 3) := by decide +kernel
theorem dX1_playOn_36 : decode cX1_playOn 36 = .ok (.aload_n 0, 1) := by decide +kernel
theorem dX1_playOn_37 : decode cX1_playOn 37 = .ok (.iload_n 3, 1) := by decide +kernel
theorem dX1_playOn_38 : decode cX1_playOn 38 = .ok (.invokevirtual 131, 3) := by decide +kernel
theorem dX1_playOn_41 : decode cX1_playOn 41 = .ok (.pop, 1) := by decide +kernel
theorem dX1_playOn_42 : decode cX1_playOn 42 = .ok (.iinc 2 1, 3) := by decide +kernel
theorem dX1_playOn_45 : decode cX1_playOn 45 = .ok (.goto (-43), 3) := by decide +kernel
theorem dX1_playOn_48 : decode cX1_playOn 48 = .ok (.iload_n 2, 1) := by decide +kernel
theorem dX1_playOn_49 : decode cX1_playOn 49 = .ok (.ireturn, 1) := by decide +kernel
theorem dX1_makeMove_0 : decode cX1_makeMove 0 = .ok (.iload_n 2, 1) := by decide +kernel
theorem dX1_makeMove_1 : decode cX1_makeMove 1 = .ok (.bipush (-6), 2) := by decide +kernel
theorem dX1_makeMove_3 : decode cX1_makeMove 3 = .ok (.if_icmp .ne 24, 3) := by decide +kernel
theorem dX1_makeMove_6 : decode cX1_makeMove 6 = .ok (.aload_n 0, 1) := by decide +kernel
theorem dX1_makeMove_7 : decode cX1_makeMove 7 = .ok (.iload_n 1, 1) := by decide +kernel
theorem dX1_makeMove_8 : decode cX1_makeMove 8 = .ok (.invokevirtual 134, 3) := by decide +kernel
theorem dX1_makeMove_11 : decode cX1_makeMove 11 = .ok (.ifCond .eq 5, 3) := by decide +kernel
theorem dX1_makeMove_14 : decode cX1_makeMove 14 = .ok (.iconst 0, 1) := by decide +kernel
theorem dX1_makeMove_15 : decode cX1_makeMove 15 = .ok (.ireturn, 1) := by decide +kernel
theorem dX1_makeMove_16 : decode cX1_makeMove 16 = .ok (.aload_n 0, 1) := by decide +kernel
theorem dX1_makeMove_17 : decode cX1_makeMove 17 = .ok (.iload_n 1, 1) := by decide +kernel
theorem dX1_makeMove_18 : decode cX1_makeMove 18 = .ok (.invokevirtual 100, 3) := by decide +kernel
theorem dX1_makeMove_21 : decode cX1_makeMove 21 = .ok (.aload_n 0, 1) := by decide +kernel
theorem dX1_makeMove_22 : decode cX1_makeMove 22 = .ok (.invokevirtual 112, 3) := by decide +kernel
theorem dX1_makeMove_25 : decode cX1_makeMove 25 = .ok (.iconst 1, 1) := by decide +kernel
theorem dX1_makeMove_26 : decode cX1_makeMove 26 = .ok (.ireturn, 1) := by decide +kernel
theorem dX1_makeMove_27 : decode cX1_makeMove 27 = .ok (.aload_n 0, 1) := by decide +kernel
theorem dX1_makeMove_28 : decode cX1_makeMove 28 = .ok (.getfield 26, 3) := by decide +kernel
theorem dX1_makeMove_31 : decode cX1_makeMove 31 = .ok (.iconst 3, 1) := by decide +kernel
theorem dX1_makeMove_32 : decode cX1_makeMove 32 = .ok (.imul, 1) := by decide +kernel
theorem dX1_makeMove_33 : decode cX1_makeMove 33 = .ok (.iload_n 2, 1) := by decide +kernel
theorem dX1_makeMove_34 : decode cX1_makeMove 34 = .ok (.iadd, 1) := by decide +kernel
theorem dX1_makeMove_35 : decode cX1_makeMove 35 = .ok (.istore_n 3, 1) := by decide +kernel
theorem dX1_makeMove_36 : decode cX1_makeMove 36 = .ok (.aload_n 0, 1) := by decide +kernel
theorem dX1_makeMove_37 : decode cX1_makeMove 37 = .ok (.iload_n 3, 1) := by decide +kernel
theorem dX1_makeMove_38 : decode cX1_makeMove 38 = .ok (.iload_n 1, 1) := by decide +kernel
theorem dX1_makeMove_39 : decode cX1_makeMove 39 = .ok (.invokevirtual 81, 3) := by decide +kernel
theorem dX1_makeMove_42 : decode cX1_makeMove 42 = .ok (.ifCond .eq 5, 3) := by decide +kernel
theorem dX1_makeMove_45 : decode cX1_makeMove 45 = .ok (.iconst 0, 1) := by decide +kernel
theorem dX1_makeMove_46 : decode cX1_makeMove 46 = .ok (.ireturn, 1) := by decide +kernel
theorem dX1_makeMove_47 : decode cX1_makeMove 47 = .ok (.aload_n 0, 1) := by decide +kernel
theorem dX1_makeMove_48 : decode cX1_makeMove 48 = .ok (.iload_n 1, 1) := by decide +kernel
theorem dX1_makeMove_49 : decode cX1_makeMove 49 = .ok (.invokevirtual 100, 3) := by decide +kernel
theorem dX1_makeMove_52 : decode cX1_makeMove 52 = .ok (.aload_n 0, 1) := by decide +kernel
theorem dX1_makeMove_53 : decode cX1_makeMove 53 = .ok (.iload_n 3, 1) := by decide +kernel
theorem dX1_makeMove_54 : decode cX1_makeMove 54 = .ok (.invokevirtual 131, 3) := by decide +kernel
theorem dX1_makeMove_57 : decode cX1_makeMove 57 = .ok (.pop, 1) := by decide +kernel
theorem dX1_makeMove_58 : decode cX1_makeMove 58 = .ok (.iconst 1, 1) := by decide +kernel
theorem dX1_makeMove_59 : decode cX1_makeMove 59 = .ok (.ireturn, 1) := by decide +kernel
theorem dX1_turnsUntilMended_0 : decode cX1_turnsUntilMended 0 = .ok (.iload_n 1, 1) := by decide +kernel
theorem dX1_turnsUntilMended_1 : decode cX1_turnsUntilMended 1 = .ok (.invokestatic 137, 3) := by decide +kernel
theorem dX1_turnsUntilMended_4 : decode cX1_turnsUntilMended 4 = .ok (.istore_n 2, 1) := by decide +kernel
theorem dX1_turnsUntilMended_5 : decode cX1_turnsUntilMended 5 = .ok (.iload_n 2, 1) := by decide +kernel
theorem dX1_turnsUntilMended_6 : decode cX1_turnsUntilMended 6 = .ok (.bipush (-6), 2) := by decide +kernel
theorem dX1_turnsUntilMended_8 : decode cX1_turnsUntilMended 8 = .ok (.if_icmp .eq 25, 3) := by decide +kernel
theorem dX1_turnsUntilMended_11 : decode cX1_turnsUntilMended 11 = .ok (.aload_n 0, 1) := by decide +kernel
theorem dX1_turnsUntilMended_12 : decode cX1_turnsUntilMended 12 = .ok (.getfield 12, 3) := by decide +kernel
theorem dX1_turnsUntilMended_15 : decode cX1_turnsUntilMended 15 = .ok (.getfield 140, 3) := by decide +kernel
theorem dX1_turnsUntilMended_18 : decode cX1_turnsUntilMended 18 = .ok (.iload_n 2, 1) := by decide +kernel
theorem dX1_turnsUntilMended_19 : decode cX1_turnsUntilMended 19 = .ok (.iaload, 1) := by decide +kernel
theorem dX1_turnsUntilMended_20 : decode cX1_turnsUntilMended 20 = .ok (.iconst 3, 1) := by decide +kernel
theorem dX1_turnsUntilMended_21 : decode cX1_turnsUntilMended 21 = .ok (.if_icmp .ne 12, 3) := by decide +kernel
theorem dX1_turnsUntilMended_24 : decode cX1_turnsUntilMended 24 = .ok (.aload_n 0, 1) := by decide +kernel
theorem dX1_turnsUntilMended_25 : decode cX1_turnsUntilMended 25 = .ok (.getfield 18, 3) := by decide +kernel
theorem dX1_turnsUntilMended_28 : decode cX1_turnsUntilMended 28 = .ok (.iconst 1, 1) := by decide +kernel
theorem dX1_turnsUntilMended_29 : decode cX1_turnsUntilMended 29 = .ok (.iaload, 1) := by decide +kernel
theorem dX1_turnsUntilMended_30 : decode cX1_turnsUntilMended 30 = .ok (.ifCond .ne 6, 3) := by decide +kernel
theorem dX1_turnsUntilMended_33 : decode cX1_turnsUntilMended 33 = .ok (.bipush (-6), 2) := by decide +kernel
theorem dX1_turnsUntilMended_35 : decode cX1_turnsUntilMended 35 = .ok (.ireturn, 1) := by decide +kernel
theorem dX1_turnsUntilMended_36 : decode cX1_turnsUntilMended 36 = .ok (.iconst 1, 1) := by decide +kernel
theorem dX1_turnsUntilMended_37 : decode cX1_turnsUntilMended 37 = .ok (.aload_n 0, 1) := by decide +kernel
theorem dX1_turnsUntilMended_38 : decode cX1_turnsUntilMended 38 = .ok (.getfield 18, 3) := by decide +kernel
theorem dX1_turnsUntilMended_41 : decode cX1_turnsUntilMended 41 = .ok (.iconst 1, 1) := by decide +kernel
theorem dX1_turnsUntilMended_42 : decode cX1_turnsUntilMended 42 = .ok (.iaload, 1) := by decide +kernel
theorem dX1_turnsUntilMended_43 : decode cX1_turnsUntilMended 43 = .ok (.aload_n 0, 1) := by decide +kernel
theorem dX1_turnsUntilMended_44 : decode cX1_turnsUntilMended 44 = .ok (.getfield 32, 3) := by decide +kernel
theorem dX1_turnsUntilMended_47 : decode cX1_turnsUntilMended 47 = .ok (.aload_n 0, 1) := by decide +kernel
theorem dX1_turnsUntilMended_48 : decode cX1_turnsUntilMended 48 = .ok (.getfield 12, 3) := by decide +kernel
theorem dX1_turnsUntilMended_51 : decode cX1_turnsUntilMended 51 = .ok (.getfield 143, 3) := by decide +kernel
theorem dX1_turnsUntilMended_54 : decode cX1_turnsUntilMended 54 = .ok (.iload_n 2, 1) := by decide +kernel
theorem dX1_turnsUntilMended_55 : decode cX1_turnsUntilMended 55 = .ok (.iaload, 1) := by decide +kernel
theorem dX1_turnsUntilMended_56 : decode cX1_turnsUntilMended 56 = .ok (.isub, 1) := by decide +kernel
theorem dX1_turnsUntilMended_57 : decode cX1_turnsUntilMended 57 = .ok (.isub, 1) := by decide +kernel
theorem dX1_turnsUntilMended_58 : decode cX1_turnsUntilMended 58 = .ok (.invokestatic 146, 3) := by decide +kernel
theorem dX1_turnsUntilMended_61 : decode cX1_turnsUntilMended 61 = .ok (.ireturn, 1) := by decide +kernel
theorem dX2_init_0 : decode cX2_init 0 = .ok (.aload_n 0, 1) := by decide +kernel
theorem dX2_init_1 : decode cX2_init 1 = .ok (.invokespecial 3, 3) := by decide +kernel
theorem dX2_init_4 : decode cX2_init 4 = .ok (.aload_n 0, 1) := by decide +kernel
theorem dX2_init_5 : decode cX2_init 5 = .ok (.bipush 6, 2) := by decide +kernel
theorem dX2_init_7 : decode cX2_init 7 = .ok (.anewarray 9, 3) := by decide +kernel
theorem dX2_init_10 : decode cX2_init 10 = .ok (.putfield 11, 3) := by decide +kernel
theorem dX2_init_13 : decode cX2_init 13 = .ok (.aload_n 0, 1) := by decide +kernel
theorem dX2_init_14 : decode cX2_init 14 = .ok (.iconst 0, 1) := by decide +kernel
theorem dX2_init_15 : decode cX2_init 15 = .ok (.putfield 17, 3) := by decide +kernel
theorem dX2_init_18 : decode cX2_init 18 = .ok (.aload_n 0, 1) := by decide +kernel
theorem dX2_init_19 : decode cX2_init 19 = .ok (.iconst 0, 1) := by decide +kernel
theorem dX2_init_20 : decode cX2_init 20 = .ok (.putfield 21, 3) := by decide +kernel
theorem dX2_init_23 : decode cX2_init 23 = .ok (.return_, 1) := by decide +kernel
theorem dX2_remember_0 : decode cX2_remember 0 = .ok (.aload_n 0, 1) := by decide +kernel
theorem dX2_remember_1 : decode cX2_remember 1 = .ok (.getfield 11, 3) := by decide +kernel
theorem dX2_remember_4 : decode cX2_remember 4 = .ok (.aload_n 0, 1) := by decide +kernel
theorem dX2_remember_5 : decode cX2_remember 5 = .ok (.getfield 17, 3) := by decide +kernel
theorem dX2_remember_8 : decode cX2_remember 8 = .ok (.aaload, 1) := by decide +kernel
theorem dX2_remember_9 : decode cX2_remember 9 = .ok (.astore_n 2, 1) := by decide +kernel
theorem dX2_remember_10 : decode cX2_remember 10 = .ok (.aload_n 2, 1) := by decide +kernel
theorem dX2_remember_11 : decode cX2_remember 11 = .ok (.ifnonnull 21, 3) := by decide +kernel
theorem dX2_remember_14 : decode cX2_remember 14 = .ok (.new 9, 3) := by decide +kernel
theorem dX2_remember_17 : decode cX2_remember 17 = .ok (.dup, 1) := by decide +kernel
theorem dX2_remember_18 : decode cX2_remember 18 = .ok (.invokespecial 24, 3) := by decide +kernel
theorem dX2_remember_21 : decode cX2_remember 21 = .ok (.astore_n 2, 1) := by decide +kernel
theorem dX2_remember_22 : decode cX2_remember 22 = .ok (.aload_n 0, 1) := by decide +kernel
theorem dX2_remember_23 : decode cX2_remember 23 = .ok (.getfield 11, 3) := by decide +kernel
theorem dX2_remember_26 : decode cX2_remember 26 = .ok (.aload_n 0, 1) := by decide +kernel
theorem dX2_remember_27 : decode cX2_remember 27 = .ok (.getfield 17, 3) := by decide +kernel
theorem dX2_remember_30 : decode cX2_remember 30 = .ok (.aload_n 2, 1) := by decide +kernel
theorem dX2_remember_31 : decode cX2_remember 31 = .ok (.aastore, 1) := by decide +kernel
theorem dX2_remember_32 : decode cX2_remember 32 = .ok (.aload_n 2, 1) := by decide +kernel
theorem dX2_remember_33 : decode cX2_remember 33 = .ok (.aload_n 1, 1) := by decide +kernel
theorem dX2_remember_34 : decode cX2_remember 34 = .ok (.invokevirtual 25, 3) := by decide +kernel
theorem dX2_remember_37 : decode cX2_remember 37 = .ok (.aload_n 0, 1) := by decide +kernel
theorem dX2_remember_38 : decode cX2_remember 38 = .ok (.aload_n 0, 1) := by decide +kernel
theorem dX2_remember_39 : decode cX2_remember 39 = .ok (.getfield 17, 3) := by decide +kernel
theorem dX2_remember_42 : decode cX2_remember 42 = .ok (.iconst 1, 1) := by decide +kernel
theorem dX2_remember_43 : decode cX2_remember 43 = .ok (.iadd, 1) := by decide +kernel
theorem dX2_remember_44 : decode cX2_remember 44 = .ok (.bipush 6, 2) := by decide +kernel
theorem dX2_remember_46 : decode cX2_remember 46 = .ok (.irem, 1) := by decide +kernel
theorem dX2_remember_47 : decode cX2_remember 47 = .ok (.putfield 17, 3) := by decide +kernel
theorem dX2_remember_50 : decode cX2_remember 50 = .ok (.aload_n 0, 1) := by decide +kernel
theorem dX2_remember_51 : decode cX2_remember 51 = .ok (.aload_n 0, 1) := by decide +kernel
theorem dX2_remember_52 : decode cX2_remember 52 = .ok (.getfield 21, 3) := by decide +kernel
theorem dX2_remember_55 : decode cX2_remember 55 = .ok (.iconst 1, 1) := by decide +kernel
theorem dX2_remember_56 : decode cX2_remember 56 = .ok (.iadd, 1) := by decide +kernel
theorem dX2_remember_57 : decode cX2_remember 57 = .ok (.bipush 6, 2) := by decide +kernel
theorem dX2_remember_59 : decode cX2_remember 59 = .ok (.invokestatic 29, 3) := by decide +kernel
theorem dX2_remember_62 : decode cX2_remember 62 = .ok (.putfield 21, 3) := by decide +kernel
theorem dX2_remember_65 : decode cX2_remember 65 = .ok (.return_, 1) := by decide +kernel
theorem dX2_takeBack_0 : decode cX2_takeBack 0 = .ok (.aload_n 0, 1) := by decide +kernel
theorem dX2_takeBack_1 : decode cX2_takeBack 1 = .ok (.getfield 17, 3) := by decide +kernel
theorem dX2_takeBack_4 : decode cX2_takeBack 4 = .ok (.bipush 6, 2) := by decide +kernel
theorem dX2_takeBack_6 : decode cX2_takeBack 6 = .ok (.iadd, 1) := by decide +kernel
theorem dX2_takeBack_7 : decode cX2_takeBack 7 = .ok (.iconst 1, 1) := by decide +kernel
theorem dX2_takeBack_8 : decode cX2_takeBack 8 = .ok (.isub, 1) := by decide +kernel
theorem dX2_takeBack_9 : decode cX2_takeBack 9 = .ok (.bipush 6, 2) := by decide +kernel
theorem dX2_takeBack_11 : decode cX2_takeBack 11 = .ok (.irem, 1) := by decide +kernel
theorem dX2_takeBack_12 : decode cX2_takeBack 12 = .ok (.istore_n 2, 1) := by decide +kernel
theorem dX2_takeBack_13 : decode cX2_takeBack 13 = .ok (.aload_n 0, 1) := by decide +kernel
theorem dX2_takeBack_14 : decode cX2_takeBack 14 = .ok (.getfield 11, 3) := by decide +kernel
theorem dX2_takeBack_17 : decode cX2_takeBack 17 = .ok (.iload_n 2, 1) := by decide +kernel
theorem dX2_takeBack_18 : decode cX2_takeBack 18 = .ok (.aaload, 1) := by decide +kernel
theorem dX2_takeBack_19 : decode cX2_takeBack 19 = .ok (.astore_n 3, 1) := by decide +kernel
theorem dX2_takeBack_20 : decode cX2_takeBack 20 = .ok (.aload_n 0, 1) := by decide +kernel
theorem dX2_takeBack_21 : decode cX2_takeBack 21 = .ok (.getfield 21, 3) := by decide +kernel
theorem dX2_takeBack_24 : decode cX2_takeBack 24 = .ok (.ifCond .eq 7, 3) := by decide +kernel
theorem dX2_takeBack_27 : decode cX2_takeBack 27 = .ok (.aload_n 3, 1) := by decide +kernel
theorem dX2_takeBack_28 : decode cX2_takeBack 28 = .ok (.ifnonnull 5, 3) := by decide +kernel
theorem dX2_takeBack_31 : decode cX2_takeBack 31 = .ok (.iconst 0, 1) := by decide +kernel
theorem dX2_takeBack_32 : decode cX2_takeBack 32 = .ok (.ireturn, 1) := by decide +kernel
theorem dX2_takeBack_33 : decode cX2_takeBack 33 = .ok (.aload_n 1, 1) := by decide +kernel
theorem dX2_takeBack_34 : decode cX2_takeBack 34 = .ok (.aload_n 3, 1) := by decide +kernel
theorem dX2_takeBack_35 : decode cX2_takeBack 35 = .ok (.invokevirtual 25, 3) := by decide +kernel
theorem dX2_takeBack_38 : decode cX2_takeBack 38 = .ok (.aload_n 0, 1) := by decide +kernel
theorem dX2_takeBack_39 : decode cX2_takeBack 39 = .ok (.iload_n 2, 1) := by decide +kernel
theorem dX2_takeBack_40 : decode cX2_takeBack 40 = .ok (.putfield 17, 3) := by decide +kernel
theorem dX2_takeBack_43 : decode cX2_takeBack 43 = .ok (.aload_n 0, 1) := by decide +kernel
theorem dX2_takeBack_44 : decode cX2_takeBack 44 = .ok (.dup, 1) := by decide +kernel
theorem dX2_takeBack_45 : decode cX2_takeBack 45 = .ok (.getfield 21, 3) := by decide +kernel
theorem dX2_takeBack_48 : decode cX2_takeBack 48 = .ok (.iconst 1, 1) := by decide +kernel
theorem dX2_takeBack_49 : decode cX2_takeBack 49 = .ok (.isub, 1) := by decide +kernel
theorem dX2_takeBack_50 : decode cX2_takeBack 50 = .ok (.putfield 21, 3) := by decide +kernel
theorem dX2_takeBack_53 : decode cX2_takeBack 53 = .ok (.iconst 1, 1) := by decide +kernel
theorem dX2_takeBack_54 : decode cX2_takeBack 54 = .ok (.ireturn, 1) := by decide +kernel
theorem dX3_init_0 : decode cX3_init 0 = .ok (.aload_n 0, 1) := by decide +kernel
theorem dX3_init_1 : decode cX3_init 1 = .ok (.invokespecial 3, 3) := by decide +kernel
theorem dX3_init_4 : decode cX3_init 4 = .ok (.aload_n 0, 1) := by decide +kernel
theorem dX3_init_5 : decode cX3_init 5 = .ok (.bipush 60, 2) := by decide +kernel
theorem dX3_init_7 : decode cX3_init 7 = .ok (.newarray .char, 2) := by decide +kernel
theorem dX3_init_9 : decode cX3_init 9 = .ok (.putfield 9, 3) := by decide +kernel
theorem dX3_init_12 : decode cX3_init 12 = .ok (.aload_n 0, 1) := by decide +kernel
theorem dX3_init_13 : decode cX3_init 13 = .ok (.iconst 0, 1) := by decide +kernel
theorem dX3_init_14 : decode cX3_init 14 = .ok (.putfield 15, 3) := by decide +kernel
theorem dX3_init_17 : decode cX3_init 17 = .ok (.return_, 1) := by decide +kernel
theorem dX3_append_0 : decode cX3_append 0 = .ok (.iload_n 3, 1) := by decide +kernel
theorem dX3_append_1 : decode cX3_append 1 = .ok (.iconst 1, 1) := by decide +kernel
theorem dX3_append_2 : decode cX3_append 2 = .ok (.isub, 1) := by decide +kernel
theorem dX3_append_3 : decode cX3_append 3 = .ok (.istore 4, 2) := by decide +kernel
theorem dX3_append_5 : decode cX3_append 5 = .ok (.iload 4, 2) := by decide +kernel
theorem dX3_append_7 : decode cX3_append 7 = .ok (.ifCond .lt 50, 3) := by decide +kernel
theorem dX3_append_10 : decode cX3_append 10 = .ok (.aload_n 0, 1) := by decide +kernel
theorem dX3_append_11 : decode cX3_append 11 = .ok (.getfield 15, 3) := by decide +kernel
theorem dX3_append_14 : decode cX3_append 14 = .ok (.bipush 60, 2) := by decide +kernel
theorem dX3_append_16 : decode cX3_append 16 = .ok (.if_icmp .ge 41, 3) := by decide +kernel
theorem dX3_append_19 : decode cX3_append 19 = .ok (.aload_n 0, 1) := by decide +kernel
theorem dX3_append_20 : decode cX3_append 20 = .ok (.getfield 9, 3) := by decide +kernel
theorem dX3_append_23 : decode cX3_append 23 = .ok (.aload_n 0, 1) := by decide +kernel
theorem dX3_append_24 : decode cX3_append 24 = .ok (.getfield 15, 3) := by decide +kernel
theorem dX3_append_27 : decode cX3_append 27 = .ok (.lload_n 1, 1) := by decide +kernel
theorem dX3_append_28 : decode cX3_append 28 = .ok (.bipush 8, 2) := by decide +kernel
theorem dX3_append_30 : decode cX3_append 30 = .ok (.iload 4, 2) := by decide +kernel
theorem dX3_append_32 : decode cX3_append 32 = .ok (.imul, 1) := by decide +kernel
theorem dX3_append_33 : decode cX3_append 33 = .ok (.lushr, 1) := by decide +kernel
theorem dX3_append_34 : decode cX3_append 34 = .ok (.ldc2_w 19, 3) := by decide +kernel
theorem dX3_append_37 : decode cX3_append 37 = .ok (.land, 1) := by decide +kernel
theorem dX3_append_38 : decode cX3_append 38 = .ok (.l2i, 1) := by decide +kernel
theorem dX3_append_39 : decode cX3_append 39 = .ok (.i2c, 1) := by decide +kernel
theorem dX3_append_40 : decode cX3_append 40 = .ok (.castore, 1) := by decide +kernel
theorem dX3_append_41 : decode cX3_append 41 = .ok (.aload_n 0, 1) := by decide +kernel
theorem dX3_append_42 : decode cX3_append 42 = .ok (.dup, 1) := by decide +kernel
theorem dX3_append_43 : decode cX3_append 43 = .ok (.getfield 15, 3) := by decide +kernel
theorem dX3_append_46 : decode cX3_append 46 = .ok (.iconst 1, 1) := by decide +kernel
theorem dX3_append_47 : decode cX3_append 47 = .ok (.iadd, 1) := by decide +kernel
theorem dX3_append_48 : decode cX3_append 48 = .ok (.putfield 15, 3) := by decide +kernel
theorem dX3_append_51 : decode cX3_append 51 = .ok (.iinc 4 (-1), 3) := by decide +kernel
theorem dX3_append_54 : decode cX3_append 54 = .ok (.goto (-49), 3) := by decide +kernel
theorem dX3_append_57 : decode cX3_append 57 = .ok (.return_, 1) := by decide +kernel
theorem dX3_faultIndex_0 : decode cX3_faultIndex 0 = .ok (.iconst 0, 1) := by decide +kernel
theorem dX3_faultIndex_1 : decode cX3_faultIndex 1 = .ok (.istore_n 1, 1) := by decide +kernel
theorem dX3_faultIndex_2 : decode cX3_faultIndex 2 = .ok (.iload_n 1, 1) := by decide +kernel
theorem dX3_faultIndex_3 : decode cX3_faultIndex 3 = .ok (.aload_n 0, 1) := by decide +kernel
theorem dX3_faultIndex_4 : decode cX3_faultIndex 4 = .ok (.getfield 15, 3) := by decide +kernel
theorem dX3_faultIndex_7 : decode cX3_faultIndex 7 = .ok (.if_icmp .ge 44, 3) := by decide +kernel
theorem dX3_faultIndex_10 : decode cX3_faultIndex 10 = .ok (.iload_n 1, 1) := by decide +kernel
theorem dX3_faultIndex_11 : decode cX3_faultIndex 11 = .ok (.iconst 2, 1) := by decide +kernel
theorem dX3_faultIndex_12 : decode cX3_faultIndex 12 = .ok (.irem, 1) := by decide +kernel
theorem dX3_faultIndex_13 : decode cX3_faultIndex 13 = .ok (.ifCond .ne 18, 3) := by decide +kernel
theorem dX3_faultIndex_16 : decode cX3_faultIndex 16 = .ok (.aload_n 0, 1) := by decide +kernel
theorem dX3_faultIndex_17 : decode cX3_faultIndex 17 = .ok (.getfield 9, 3) := by decide +kernel
theorem dX3_faultIndex_20 : decode cX3_faultIndex 20 = .ok (.iload_n 1, 1) := by decide +kernel
theorem dX3_faultIndex_21 : decode cX3_faultIndex 21 = .ok (.caload, 1) := by decide +kernel
theorem dX3_faultIndex_22 : decode cX3_faultIndex 22 = .ok (.invokestatic 21, 3) := by decide +kernel
theorem dX3_faultIndex_25 : decode cX3_faultIndex 25 = .ok (.ifCond .eq 18, 3) := by decide +kernel
theorem dX3_faultIndex_28 : decode cX3_faultIndex 28 = .ok (.goto 17, 3) := by decide +kernel
theorem dX3_faultIndex_31 : decode cX3_faultIndex 31 = .ok (.aload_n 0, 1) := by decide +kernel
theorem dX3_faultIndex_32 : decode cX3_faultIndex 32 = .ok (.getfield 9, 3) := by decide +kernel
theorem dX3_faultIndex_35 : decode cX3_faultIndex 35 = .ok (.iload_n 1, 1) := by decide +kernel
theorem dX3_faultIndex_36 : decode cX3_faultIndex 36 = .ok (.caload, 1) := by decide +kernel
theorem dX3_faultIndex_37 : decode cX3_faultIndex 37 = .ok (.invokestatic 25, 3) := by decide +kernel
theorem dX3_faultIndex_40 : decode cX3_faultIndex 40 = .ok (.ifCond .ne 5, 3) := by decide +kernel
theorem dX3_faultIndex_43 : decode cX3_faultIndex 43 = .ok (.iload_n 1, 1) := by decide +kernel
theorem dX3_faultIndex_44 : decode cX3_faultIndex 44 = .ok (.ireturn, 1) := by decide +kernel
theorem dX3_faultIndex_45 : decode cX3_faultIndex 45 = .ok (.iinc 1 1, 3) := by decide +kernel
theorem dX3_faultIndex_48 : decode cX3_faultIndex 48 = .ok (.goto (-46), 3) := by decide +kernel
theorem dX3_faultIndex_51 : decode cX3_faultIndex 51 = .ok (.aload_n 0, 1) := by decide +kernel
theorem dX3_faultIndex_52 : decode cX3_faultIndex 52 = .ok (.getfield 15, 3) := by decide +kernel
theorem dX3_faultIndex_55 : decode cX3_faultIndex 55 = .ok (.ifCond .eq 13, 3) := by decide +kernel
theorem dX3_faultIndex_58 : decode cX3_faultIndex 58 = .ok (.aload_n 0, 1) := by decide +kernel
theorem dX3_faultIndex_59 : decode cX3_faultIndex 59 = .ok (.getfield 15, 3) := by decide +kernel
theorem dX3_faultIndex_62 : decode cX3_faultIndex 62 = .ok (.iconst 2, 1) := by decide +kernel
theorem dX3_faultIndex_63 : decode cX3_faultIndex 63 = .ok (.irem, 1) := by decide +kernel
theorem dX3_faultIndex_64 : decode cX3_faultIndex 64 = .ok (.iconst 1, 1) := by decide +kernel
end
section
theorem dX3_faultIndex_65 : decode cX3_faultIndex 65 = .ok (.if_icmp .ne 10, 3) := by decide +kernel
theorem dX3_faultIndex_68 : decode cX3_faultIndex 68 = .ok (.aload_n 0, 1) := by decide +kernel
theorem dX3_faultIndex_69 : decode cX3_faultIndex 69 = .ok (.getfield 15, 3) := by decide +kernel
theorem dX3_faultIndex_72 : decode cX3_faultIndex 72 = .ok (.goto 5, 3) := by decide +kernel
theorem dX3_faultIndex_75 : decode cX3_faultIndex 75 = .ok (.bipush (-6), 2) := by decide +kernel
theorem dX3_faultIndex_77 : decode cX3_faultIndex 77 = .ok (.ireturn, 1) := by decide +kernel
theorem dX3_isCast_0 : decode cX3_isCast 0 = .ok (.iload_n 0, 1) := by decide +kernel
theorem dX3_isCast_1 : decode cX3_isCast 1 = .ok (.bipush 49, 2) := by decide +kernel
theorem dX3_isCast_3 : decode cX3_isCast 3 = .ok (.if_icmp .lt 13, 3) := by decide +kernel
theorem dX3_isCast_6 : decode cX3_isCast 6 = .ok (.iload_n 0, 1) := by decide +kernel
theorem dX3_isCast_7 : decode cX3_isCast 7 = .ok (.bipush 54, 2) := by decide +kernel
theorem dX3_isCast_9 : decode cX3_isCast 9 = .ok (.if_icmp .gt 7, 3) := by decide +kernel
theorem dX3_isCast_12 : decode cX3_isCast 12 = .ok (.iconst 1, 1) := by decide +kernel
theorem dX3_isCast_13 : decode cX3_isCast 13 = .ok (.goto 4, 3) := by decide +kernel
theorem dX3_isCast_16 : decode cX3_isCast 16 = .ok (.iconst 0, 1) := by decide +kernel
theorem dX3_isCast_17 : decode cX3_isCast 17 = .ok (.ireturn, 1) := by decide +kernel
theorem dX3_isPieceOrPass_0 : decode cX3_isPieceOrPass 0 = .ok (.iload_n 0, 1) := by decide +kernel
theorem dX3_isPieceOrPass_1 : decode cX3_isPieceOrPass 1 = .ok (.bipush 97, 2) := by decide +kernel
theorem dX3_isPieceOrPass_3 : decode cX3_isPieceOrPass 3 = .ok (.if_icmp .lt 9, 3) := by decide +kernel
theorem dX3_isPieceOrPass_6 : decode cX3_isPieceOrPass 6 = .ok (.iload_n 0, 1) := by decide +kernel
theorem dX3_isPieceOrPass_7 : decode cX3_isPieceOrPass 7 = .ok (.bipush 99, 2) := by decide +kernel
theorem dX3_isPieceOrPass_9 : decode cX3_isPieceOrPass 9 = .ok (.if_icmp .le 9, 3) := by decide +kernel
theorem dX3_isPieceOrPass_12 : decode cX3_isPieceOrPass 12 = .ok (.iload_n 0, 1) := by decide +kernel
theorem dX3_isPieceOrPass_13 : decode cX3_isPieceOrPass 13 = .ok (.bipush 45, 2) := by decide +kernel
theorem dX3_isPieceOrPass_15 : decode cX3_isPieceOrPass 15 = .ok (.if_icmp .ne 7, 3) := by decide +kernel
theorem dX3_isPieceOrPass_18 : decode cX3_isPieceOrPass 18 = .ok (.iconst 1, 1) := by decide +kernel
theorem dX3_isPieceOrPass_19 : decode cX3_isPieceOrPass 19 = .ok (.goto 4, 3) := by decide +kernel
theorem dX3_isPieceOrPass_22 : decode cX3_isPieceOrPass 22 = .ok (.iconst 0, 1) := by decide +kernel
theorem dX3_isPieceOrPass_23 : decode cX3_isPieceOrPass 23 = .ok (.ireturn, 1) := by decide +kernel
theorem dX3_moves_0 : decode cX3_moves 0 = .ok (.aload_n 0, 1) := by decide +kernel
theorem dX3_moves_1 : decode cX3_moves 1 = .ok (.getfield 15, 3) := by decide +kernel
theorem dX3_moves_4 : decode cX3_moves 4 = .ok (.iconst 2, 1) := by decide +kernel
theorem dX3_moves_5 : decode cX3_moves 5 = .ok (.idiv, 1) := by decide +kernel
theorem dX3_moves_6 : decode cX3_moves 6 = .ok (.ireturn, 1) := by decide +kernel
theorem dX3_castOfMove_0 : decode cX3_castOfMove 0 = .ok (.aload_n 0, 1) := by decide +kernel
theorem dX3_castOfMove_1 : decode cX3_castOfMove 1 = .ok (.getfield 9, 3) := by decide +kernel
theorem dX3_castOfMove_4 : decode cX3_castOfMove 4 = .ok (.iconst 2, 1) := by decide +kernel
theorem dX3_castOfMove_5 : decode cX3_castOfMove 5 = .ok (.iload_n 1, 1) := by decide +kernel
theorem dX3_castOfMove_6 : decode cX3_castOfMove 6 = .ok (.imul, 1) := by decide +kernel
theorem dX3_castOfMove_7 : decode cX3_castOfMove 7 = .ok (.caload, 1) := by decide +kernel
theorem dX3_castOfMove_8 : decode cX3_castOfMove 8 = .ok (.bipush 48, 2) := by decide +kernel
theorem dX3_castOfMove_10 : decode cX3_castOfMove 10 = .ok (.isub, 1) := by decide +kernel
theorem dX3_castOfMove_11 : decode cX3_castOfMove 11 = .ok (.ireturn, 1) := by decide +kernel
theorem dX3_pieceOfMove_0 : decode cX3_pieceOfMove 0 = .ok (.aload_n 0, 1) := by decide +kernel
theorem dX3_pieceOfMove_1 : decode cX3_pieceOfMove 1 = .ok (.getfield 9, 3) := by decide +kernel
theorem dX3_pieceOfMove_4 : decode cX3_pieceOfMove 4 = .ok (.iconst 2, 1) := by decide +kernel
theorem dX3_pieceOfMove_5 : decode cX3_pieceOfMove 5 = .ok (.iload_n 1, 1) := by decide +kernel
theorem dX3_pieceOfMove_6 : decode cX3_pieceOfMove 6 = .ok (.imul, 1) := by decide +kernel
theorem dX3_pieceOfMove_7 : decode cX3_pieceOfMove 7 = .ok (.iconst 1, 1) := by decide +kernel
theorem dX3_pieceOfMove_8 : decode cX3_pieceOfMove 8 = .ok (.iadd, 1) := by decide +kernel
theorem dX3_pieceOfMove_9 : decode cX3_pieceOfMove 9 = .ok (.caload, 1) := by decide +kernel
theorem dX3_pieceOfMove_10 : decode cX3_pieceOfMove 10 = .ok (.istore_n 2, 1) := by decide +kernel
theorem dX3_pieceOfMove_11 : decode cX3_pieceOfMove 11 = .ok (.iload_n 2, 1) := by decide +kernel
theorem dX3_pieceOfMove_12 : decode cX3_pieceOfMove 12 = .ok (.bipush 45, 2) := by decide +kernel
theorem dX3_pieceOfMove_14 : decode cX3_pieceOfMove 14 = .ok (.if_icmp .ne 8, 3) := by decide +kernel
theorem dX3_pieceOfMove_17 : decode cX3_pieceOfMove 17 = .ok (.bipush (-6), 2) := by decide +kernel
theorem dX3_pieceOfMove_19 : decode cX3_pieceOfMove 19 = .ok (.goto 7, 3) := by decide +kernel
theorem dX3_pieceOfMove_22 : decode cX3_pieceOfMove 22 = .ok (.iload_n 2, 1) := by decide +kernel
theorem dX3_pieceOfMove_23 : decode cX3_pieceOfMove 23 = .ok (.bipush 97, 2) := by decide +kernel
theorem dX3_pieceOfMove_25 : decode cX3_pieceOfMove 25 = .ok (.isub, 1) := by decide +kernel
theorem dX3_pieceOfMove_26 : decode cX3_pieceOfMove 26 = .ok (.ireturn, 1) := by decide +kernel
theorem dX4_init_0 : decode cX4_init 0 = .ok (.aload_n 0, 1) := by decide +kernel
theorem dX4_init_1 : decode cX4_init 1 = .ok (.invokespecial 3, 3) := by decide +kernel
theorem dX4_init_4 : decode cX4_init 4 = .ok (.aload_n 0, 1) := by decide +kernel
theorem dX4_init_5 : decode cX4_init 5 = .ok (.bipush 36, 2) := by decide +kernel
theorem dX4_init_7 : decode cX4_init 7 = .ok (.newarray .int, 2) := by decide +kernel
theorem dX4_init_9 : decode cX4_init 9 = .ok (.putfield 9, 3) := by decide +kernel
theorem dX4_init_12 : decode cX4_init 12 = .ok (.return_, 1) := by decide +kernel
theorem dX4_fromHomeOn_0 : decode cX4_fromHomeOn 0 = .ok (.aload_n 0, 1) := by decide +kernel
theorem dX4_fromHomeOn_1 : decode cX4_fromHomeOn 1 = .ok (.getfield 9, 3) := by decide +kernel
theorem dX4_fromHomeOn_4 : decode cX4_fromHomeOn 4 = .ok (.bipush 35, 2) := by decide +kernel
theorem dX4_fromHomeOn_6 : decode cX4_fromHomeOn 6 = .ok (.iconst 0, 1) := by decide +kernel
theorem dX4_fromHomeOn_7 : decode cX4_fromHomeOn 7 = .ok (.iastore, 1) := by decide +kernel
theorem dX4_fromHomeOn_8 : decode cX4_fromHomeOn 8 = .ok (.bipush 34, 2) := by decide +kernel
theorem dX4_fromHomeOn_10 : decode cX4_fromHomeOn 10 = .ok (.istore 4, 2) := by decide +kernel
theorem dX4_fromHomeOn_12 : decode cX4_fromHomeOn 12 = .ok (.iload 4, 2) := by decide +kernel
theorem dX4_fromHomeOn_14 : decode cX4_fromHomeOn 14 = .ok (.iload_n 3, 1) := by decide +kernel
theorem dX4_fromHomeOn_15 : decode cX4_fromHomeOn 15 = .ok (.if_icmp .lt 72, 3) := by decide +kernel
theorem dX4_fromHomeOn_18 : decode cX4_fromHomeOn 18 = .ok (.bipush 36, 2) := by decide +kernel
theorem dX4_fromHomeOn_20 : decode cX4_fromHomeOn 20 = .ok (.istore 5, 2) := by decide +kernel
theorem dX4_fromHomeOn_22 : decode cX4_fromHomeOn 22 = .ok (.iconst 1, 1) := by decide +kernel
theorem dX4_fromHomeOn_23 : decode cX4_fromHomeOn 23 = .ok (.istore 6, 2) := by decide +kernel
theorem dX4_fromHomeOn_25 : decode cX4_fromHomeOn 25 = .ok (.iload 6, 2) := by decide +kernel
theorem dX4_fromHomeOn_27 : decode cX4_fromHomeOn 27 = .ok (.bipush 6, 2) := by decide +kernel
theorem dX4_fromHomeOn_29 : decode cX4_fromHomeOn 29 = .ok (.if_icmp .gt 43, 3) := by decide +kernel
theorem dX4_fromHomeOn_32 : decode cX4_fromHomeOn 32 = .ok (.aload_n 1, 1) := by decide +kernel
theorem dX4_fromHomeOn_33 : decode cX4_fromHomeOn 33 = .ok (.iload_n 2, 1) := by decide +kernel
theorem dX4_fromHomeOn_34 : decode cX4_fromHomeOn 34 = .ok (.iload 4, 2) := by decide +kernel
theorem dX4_fromHomeOn_36 : decode cX4_fromHomeOn 36 = .ok (.iload 6, 2) := by decide +kernel
theorem dX4_fromHomeOn_38 : decode cX4_fromHomeOn 38 = .ok (.invokevirtual 15, 3) := by decide +kernel
theorem dX4_fromHomeOn_41 : decode cX4_fromHomeOn 41 = .ok (.istore 7, 2) := by decide +kernel
theorem dX4_fromHomeOn_43 : decode cX4_fromHomeOn 43 = .ok (.iload 7, 2) := by decide +kernel
theorem dX4_fromHomeOn_45 : decode cX4_fromHomeOn 45 = .ok (.bipush (-6), 2) := by decide +kernel
theorem dX4_fromHomeOn_47 : decode cX4_fromHomeOn 47 = .ok (.if_icmp .eq 19, 3) := by decide +kernel
theorem dX4_fromHomeOn_50 : decode cX4_fromHomeOn 50 = .ok (.iload 5, 2) := by decide +kernel
theorem dX4_fromHomeOn_52 : decode cX4_fromHomeOn 52 = .ok (.aload_n 0, 1) := by decide +kernel
theorem dX4_fromHomeOn_53 : decode cX4_fromHomeOn 53 = .ok (.getfield 9, 3) := by decide +kernel
theorem dX4_fromHomeOn_56 : decode cX4_fromHomeOn 56 = .ok (.iload 7, 2) := by decide +kernel
theorem dX4_fromHomeOn_58 : decode cX4_fromHomeOn 58 = .ok (.iaload, 1) := by decide +kernel
theorem dX4_fromHomeOn_59 : decode cX4_fromHomeOn 59 = .ok (.iconst 1, 1) := by decide +kernel
theorem dX4_fromHomeOn_60 : decode cX4_fromHomeOn 60 = .ok (.iadd, 1) := by decide +kernel
theorem dX4_fromHomeOn_61 : decode cX4_fromHomeOn 61 = .ok (.invokestatic 21, 3) := by decide +kernel
theorem dX4_fromHomeOn_64 : decode cX4_fromHomeOn 64 = .ok (.istore 5, 2) := by decide +kernel
theorem dX4_fromHomeOn_66 : decode cX4_fromHomeOn 66 = .ok (.iinc 6 1, 3) := by decide +kernel
theorem dX4_fromHomeOn_69 : decode cX4_fromHomeOn 69 = .ok (.goto (-44), 3) := by decide +kernel
theorem dX4_fromHomeOn_72 : decode cX4_fromHomeOn 72 = .ok (.aload_n 0, 1) := by decide +kernel
theorem dX4_fromHomeOn_73 : decode cX4_fromHomeOn 73 = .ok (.getfield 9, 3) := by decide +kernel
theorem dX4_fromHomeOn_76 : decode cX4_fromHomeOn 76 = .ok (.iload 4, 2) := by decide +kernel
theorem dX4_fromHomeOn_78 : decode cX4_fromHomeOn 78 = .ok (.iload 5, 2) := by decide +kernel
theorem dX4_fromHomeOn_80 : decode cX4_fromHomeOn 80 = .ok (.iastore, 1) := by decide +kernel
theorem dX4_fromHomeOn_81 : decode cX4_fromHomeOn 81 = .ok (.iinc 4 (-1), 3) := by decide +kernel
theorem dX4_fromHomeOn_84 : decode cX4_fromHomeOn 84 = .ok (.goto (-72), 3) := by decide +kernel
theorem dX4_fromHomeOn_87 : decode cX4_fromHomeOn 87 = .ok (.aload_n 0, 1) := by decide +kernel
theorem dX4_fromHomeOn_88 : decode cX4_fromHomeOn 88 = .ok (.getfield 9, 3) := by decide +kernel
theorem dX4_fromHomeOn_91 : decode cX4_fromHomeOn 91 = .ok (.iload_n 3, 1) := by decide +kernel
theorem dX4_fromHomeOn_92 : decode cX4_fromHomeOn 92 = .ok (.iaload, 1) := by decide +kernel
theorem dX4_fromHomeOn_93 : decode cX4_fromHomeOn 93 = .ok (.ireturn, 1) := by decide +kernel
theorem dX4_goingWide_0 : decode cX4_goingWide 0 = .ok (.iconst 0, 1) := by decide +kernel
theorem dX4_goingWide_1 : decode cX4_goingWide 1 = .ok (.istore 4, 2) := by decide +kernel
theorem dX4_goingWide_3 : decode cX4_goingWide 3 = .ok (.iload 4, 2) := by decide +kernel
theorem dX4_goingWide_5 : decode cX4_goingWide 5 = .ok (.bipush 35, 2) := by decide +kernel
theorem dX4_goingWide_7 : decode cX4_goingWide 7 = .ok (.if_icmp .gt 18, 3) := by decide +kernel
theorem dX4_goingWide_10 : decode cX4_goingWide 10 = .ok (.aload_n 0, 1) := by decide +kernel
theorem dX4_goingWide_11 : decode cX4_goingWide 11 = .ok (.getfield 9, 3) := by decide +kernel
theorem dX4_goingWide_14 : decode cX4_goingWide 14 = .ok (.iload 4, 2) := by decide +kernel
theorem dX4_goingWide_16 : decode cX4_goingWide 16 = .ok (.bipush (-6), 2) := by decide +kernel
theorem dX4_goingWide_18 : decode cX4_goingWide 18 = .ok (.iastore, 1) := by decide +kernel
theorem dX4_goingWide_19 : decode cX4_goingWide 19 = .ok (.iinc 4 1, 3) := by decide +kernel
theorem dX4_goingWide_22 : decode cX4_goingWide 22 = .ok (.goto (-19), 3) := by decide +kernel
theorem dX4_goingWide_25 : decode cX4_goingWide 25 = .ok (.aload_n 0, 1) := by decide +kernel
theorem dX4_goingWide_26 : decode cX4_goingWide 26 = .ok (.getfield 9, 3) := by decide +kernel
theorem dX4_goingWide_29 : decode cX4_goingWide 29 = .ok (.iload_n 3, 1) := by decide +kernel
theorem dX4_goingWide_30 : decode cX4_goingWide 30 = .ok (.iconst 0, 1) := by decide +kernel
theorem dX4_goingWide_31 : decode cX4_goingWide 31 = .ok (.iastore, 1) := by decide +kernel
theorem dX4_goingWide_32 : decode cX4_goingWide 32 = .ok (.iconst 0, 1) := by decide +kernel
theorem dX4_goingWide_33 : decode cX4_goingWide 33 = .ok (.istore 4, 2) := by decide +kernel
theorem dX4_goingWide_35 : decode cX4_goingWide 35 = .ok (.iload 4, 2) := by decide +kernel
theorem dX4_goingWide_37 : decode cX4_goingWide 37 = .ok (.bipush 35, 2) := by decide +kernel
theorem dX4_goingWide_39 : decode cX4_goingWide 39 = .ok (.if_icmp .gt 29, 3) := by decide +kernel
theorem dX4_goingWide_42 : decode cX4_goingWide 42 = .ok (.aload_n 0, 1) := by decide +kernel
theorem dX4_goingWide_43 : decode cX4_goingWide 43 = .ok (.getfield 9, 3) := by decide +kernel
theorem dX4_goingWide_46 : decode cX4_goingWide 46 = .ok (.bipush 35, 2) := by decide +kernel
theorem dX4_goingWide_48 : decode cX4_goingWide 48 = .ok (.iaload, 1) := by decide +kernel
theorem dX4_goingWide_49 : decode cX4_goingWide 49 = .ok (.bipush (-6), 2) := by decide +kernel
theorem dX4_goingWide_51 : decode cX4_goingWide 51 = .ok (.if_icmp .ne 17, 3) := by decide +kernel
theorem dX4_goingWide_54 : decode cX4_goingWide 54 = .ok (.aload_n 0, 1) := by decide +kernel
theorem dX4_goingWide_55 : decode cX4_goingWide 55 = .ok (.aload_n 1, 1) := by decide +kernel
theorem dX4_goingWide_56 : decode cX4_goingWide 56 = .ok (.iload_n 2, 1) := by decide +kernel
theorem dX4_goingWide_57 : decode cX4_goingWide 57 = .ok (.iload 4, 2) := by decide +kernel
theorem dX4_goingWide_59 : decode cX4_goingWide 59 = .ok (.invokevirtual 27, 3) := by decide +kernel
theorem dX4_goingWide_62 : decode cX4_goingWide 62 = .ok (.iinc 4 1, 3) := by decide +kernel
theorem dX4_goingWide_65 : decode cX4_goingWide 65 = .ok (.goto (-30), 3) := by decide +kernel
theorem dX4_goingWide_68 : decode cX4_goingWide 68 = .ok (.aload_n 0, 1) := by decide +kernel
theorem dX4_goingWide_69 : decode cX4_goingWide 69 = .ok (.getfield 9, 3) := by decide +kernel
theorem dX4_goingWide_72 : decode cX4_goingWide 72 = .ok (.bipush 35, 2) := by decide +kernel
theorem dX4_goingWide_74 : decode cX4_goingWide 74 = .ok (.iaload, 1) := by decide +kernel
theorem dX4_goingWide_75 : decode cX4_goingWide 75 = .ok (.ireturn, 1) := by decide +kernel
theorem dX4_widen_0 : decode cX4_widen 0 = .ok (.iconst 0, 1) := by decide +kernel
theorem dX4_widen_1 : decode cX4_widen 1 = .ok (.istore 4, 2) := by decide +kernel
theorem dX4_widen_3 : decode cX4_widen 3 = .ok (.iload 4, 2) := by decide +kernel
theorem dX4_widen_5 : decode cX4_widen 5 = .ok (.bipush 35, 2) := by decide +kernel
theorem dX4_widen_7 : decode cX4_widen 7 = .ok (.if_icmp .ge 76, 3) := by decide +kernel
theorem dX4_widen_10 : decode cX4_widen 10 = .ok (.iconst 1, 1) := by decide +kernel
theorem dX4_widen_11 : decode cX4_widen 11 = .ok (.istore 5, 2) := by decide +kernel
theorem dX4_widen_13 : decode cX4_widen 13 = .ok (.iload 5, 2) := by decide +kernel
theorem dX4_widen_15 : decode cX4_widen 15 = .ok (.bipush 6, 2) := by decide +kernel
theorem dX4_widen_17 : decode cX4_widen 17 = .ok (.if_icmp .gt 60, 3) := by decide +kernel
theorem dX4_widen_20 : decode cX4_widen 20 = .ok (.aload_n 0, 1) := by decide +kernel
theorem dX4_widen_21 : decode cX4_widen 21 = .ok (.getfield 9, 3) := by decide +kernel
theorem dX4_widen_24 : decode cX4_widen 24 = .ok (.iload 4, 2) := by decide +kernel
theorem dX4_widen_26 : decode cX4_widen 26 = .ok (.iaload, 1) := by decide +kernel
theorem dX4_widen_27 : decode cX4_widen 27 = .ok (.iload_n 3, 1) := by decide +kernel
theorem dX4_widen_28 : decode cX4_widen 28 = .ok (.if_icmp .ne 49, 3) := by decide +kernel
theorem dX4_widen_31 : decode cX4_widen 31 = .ok (.aload_n 1, 1) := by decide +kernel
theorem dX4_widen_32 : decode cX4_widen 32 = .ok (.iload_n 2, 1) := by decide +kernel
theorem dX4_widen_33 : decode cX4_widen 33 = .ok (.iload 4, 2) := by decide +kernel
theorem dX4_widen_35 : decode cX4_widen 35 = .ok (.iload 5, 2) := by decide +kernel
theorem dX4_widen_37 : decode cX4_widen 37 = .ok (.invokevirtual 15, 3) := by decide +kernel
theorem dX4_widen_40 : decode cX4_widen 40 = .ok (.istore 6, 2) := by decide +kernel
theorem dX4_widen_42 : decode cX4_widen 42 = .ok (.iload 6, 2) := by decide +kernel
theorem dX4_widen_44 : decode cX4_widen 44 = .ok (.bipush (-6), 2) := by decide +kernel
theorem dX4_widen_46 : decode cX4_widen 46 = .ok (.if_icmp .eq 25, 3) := by decide +kernel
theorem dX4_widen_49 : decode cX4_widen 49 = .ok (.aload_n 0, 1) := by decide +kernel
theorem dX4_widen_50 : decode cX4_widen 50 = .ok (.getfield 9, 3) := by decide +kernel
theorem dX4_widen_53 : decode cX4_widen 53 = .ok (.iload 6, 2) := by decide +kernel
theorem dX4_widen_55 : decode cX4_widen 55 = .ok (.iaload, 1) := by decide +kernel
theorem dX4_widen_56 : decode cX4_widen 56 = .ok (.bipush (-6), 2) := by decide +kernel
theorem dX4_widen_58 : decode cX4_widen 58 = .ok (.if_icmp .ne 13, 3) := by decide +kernel
theorem dX4_widen_61 : decode cX4_widen 61 = .ok (.aload_n 0, 1) := by decide +kernel
theorem dX4_widen_62 : decode cX4_widen 62 = .ok (.getfield 9, 3) := by decide +kernel
theorem dX4_widen_65 : decode cX4_widen 65 = .ok (.iload 6, 2) := by decide +kernel
theorem dX4_widen_67 : decode cX4_widen 67 = .ok (.iload_n 3, 1) := by decide +kernel
theorem dX4_widen_68 : decode cX4_widen 68 = .ok (.iconst 1, 1) := by decide +kernel
theorem dX4_widen_69 : decode cX4_widen 69 = .ok (.iadd, 1) := by decide +kernel
theorem dX4_widen_70 : decode cX4_widen 70 = .ok (.iastore, 1) := by decide +kernel
theorem dX4_widen_71 : decode cX4_widen 71 = .ok (.iinc 5 1, 3) := by decide +kernel
theorem dX4_widen_74 : decode cX4_widen 74 = .ok (.goto (-61), 3) := by decide +kernel
theorem dX4_widen_77 : decode cX4_widen 77 = .ok (.iinc 4 1, 3) := by decide +kernel
theorem dX4_widen_80 : decode cX4_widen 80 = .ok (.goto (-77), 3) := by decide +kernel
theorem dX4_widen_83 : decode cX4_widen 83 = .ok (.return_, 1) := by decide +kernel
theorem dX5_init_0 : decode cX5_init 0 = .ok (.aload_n 0, 1) := by decide +kernel
theorem dX5_init_1 : decode cX5_init 1 = .ok (.invokespecial 3, 3) := by decide +kernel
theorem dX5_init_4 : decode cX5_init 4 = .ok (.aload_n 0, 1) := by decide +kernel
theorem dX5_init_5 : decode cX5_init 5 = .ok (.new 9, 3) := by decide +kernel
theorem dX5_init_8 : decode cX5_init 8 = .ok (.dup, 1) := by decide +kernel
theorem dX5_init_9 : decode cX5_init 9 = .ok (.invokespecial 11, 3) := by decide +kernel
theorem dX5_init_12 : decode cX5_init 12 = .ok (.putfield 12, 3) := by decide +kernel
theorem dX5_init_15 : decode cX5_init 15 = .ok (.aload_n 0, 1) := by decide +kernel
theorem dX5_init_16 : decode cX5_init 16 = .ok (.new 9, 3) := by decide +kernel
theorem dX5_init_19 : decode cX5_init 19 = .ok (.dup, 1) := by decide +kernel
theorem dX5_init_20 : decode cX5_init 20 = .ok (.invokespecial 11, 3) := by decide +kernel
theorem dX5_init_23 : decode cX5_init 23 = .ok (.putfield 16, 3) := by decide +kernel
theorem dX5_init_26 : decode cX5_init 26 = .ok (.aload_n 0, 1) := by decide +kernel
theorem dX5_init_27 : decode cX5_init 27 = .ok (.new 19, 3) := by decide +kernel
theorem dX5_init_30 : decode cX5_init 30 = .ok (.dup, 1) := by decide +kernel
theorem dX5_init_31 : decode cX5_init 31 = .ok (.invokespecial 21, 3) := by decide +kernel
theorem dX5_init_34 : decode cX5_init 34 = .ok (.putfield 22, 3) := by decide +kernel
theorem dX5_init_37 : decode cX5_init 37 = .ok (.aload_n 0, 1) := by decide +kernel
theorem dX5_init_38 : decode cX5_init 38 = .ok (.new 26, 3) := by decide +kernel
theorem dX5_init_41 : decode cX5_init 41 = .ok (.dup, 1) := by decide +kernel
theorem dX5_init_42 : decode cX5_init 42 = .ok (.invokespecial 28, 3) := by decide +kernel
theorem dX5_init_45 : decode cX5_init 45 = .ok (.putfield 29, 3) := by decide +kernel
theorem dX5_init_48 : decode cX5_init 48 = .ok (.aload_n 0, 1) := by decide +kernel
theorem dX5_init_49 : decode cX5_init 49 = .ok (.new 33, 3) := by decide +kernel
theorem dX5_init_52 : decode cX5_init 52 = .ok (.dup, 1) := by decide +kernel
theorem dX5_init_53 : decode cX5_init 53 = .ok (.invokespecial 35, 3) := by decide +kernel
theorem dX5_init_56 : decode cX5_init 56 = .ok (.putfield 36, 3) := by decide +kernel
theorem dX5_init_59 : decode cX5_init 59 = .ok (.aload_n 0, 1) := by decide +kernel
theorem dX5_init_60 : decode cX5_init 60 = .ok (.iconst 2, 1) := by decide +kernel
theorem dX5_init_61 : decode cX5_init 61 = .ok (.anewarray 9, 3) := by decide +kernel
theorem dX5_init_64 : decode cX5_init 64 = .ok (.putfield 40, 3) := by decide +kernel
theorem dX5_init_67 : decode cX5_init 67 = .ok (.return_, 1) := by decide +kernel
theorem dX5_set_0 : decode cX5_set 0 = .ok (.iload_n 1, 1) := by decide +kernel
theorem dX5_set_1 : decode cX5_set 1 = .ok (.ifCond .lt 8, 3) := by decide +kernel
theorem dX5_set_4 : decode cX5_set 4 = .ok (.iload_n 1, 1) := by decide +kernel
theorem dX5_set_5 : decode cX5_set 5 = .ok (.iconst 3, 1) := by decide +kernel
theorem dX5_set_6 : decode cX5_set 6 = .ok (.if_icmp .lt 6, 3) := by decide +kernel
theorem dX5_set_9 : decode cX5_set 9 = .ok (.bipush (-2), 2) := by decide +kernel
theorem dX5_set_11 : decode cX5_set 11 = .ok (.ireturn, 1) := by decide +kernel
theorem dX5_set_12 : decode cX5_set 12 = .ok (.iload_n 2, 1) := by decide +kernel
theorem dX5_set_13 : decode cX5_set 13 = .ok (.getstatic 44, 3) := by decide +kernel
theorem dX5_set_16 : decode cX5_set 16 = .ok (.iload_n 1, 1) := by decide +kernel
theorem dX5_set_17 : decode cX5_set 17 = .ok (.iaload, 1) := by decide +kernel
theorem dX5_set_18 : decode cX5_set 18 = .ok (.if_icmp .lt 12, 3) := by decide +kernel
theorem dX5_set_21 : decode cX5_set 21 = .ok (.iload_n 2, 1) := by decide +kernel
theorem dX5_set_22 : decode cX5_set 22 = .ok (.getstatic 48, 3) := by decide +kernel
theorem dX5_set_25 : decode cX5_set 25 = .ok (.iload_n 1, 1) := by decide +kernel
theorem dX5_set_26 : decode cX5_set 26 = .ok (.iaload, 1) := by decide +kernel
theorem dX5_set_27 : decode cX5_set 27 = .ok (.if_icmp .le 6, 3) := by decide +kernel
theorem dX5_set_30 : decode cX5_set 30 = .ok (.bipush (-2), 2) := by decide +kernel
theorem dX5_set_32 : decode cX5_set 32 = .ok (.ireturn, 1) := by decide +kernel
theorem dX5_set_33 : decode cX5_set 33 = .ok (.aload_n 0, 1) := by decide +kernel
theorem dX5_set_34 : decode cX5_set 34 = .ok (.getfield 36, 3) := by decide +kernel
theorem dX5_set_37 : decode cX5_set 37 = .ok (.aload_n 0, 1) := by decide +kernel
theorem dX5_set_38 : decode cX5_set 38 = .ok (.getfield 12, 3) := by decide +kernel
theorem dX5_set_41 : decode cX5_set 41 = .ok (.invokevirtual 51, 3) := by decide +kernel
theorem dX5_set_44 : decode cX5_set 44 = .ok (.aload_n 0, 1) := by decide +kernel
theorem dX5_set_45 : decode cX5_set 45 = .ok (.getfield 12, 3) := by decide +kernel
theorem dX5_set_48 : decode cX5_set 48 = .ok (.getfield 55, 3) := by decide +kernel
theorem dX5_set_51 : decode cX5_set 51 = .ok (.iload_n 1, 1) := by decide +kernel
theorem dX5_set_52 : decode cX5_set 52 = .ok (.iaload, 1) := by decide +kernel
theorem dX5_set_53 : decode cX5_set 53 = .ok (.istore_n 3, 1) := by decide +kernel
theorem dX5_set_54 : decode cX5_set 54 = .ok (.aload_n 0, 1) := by decide +kernel
theorem dX5_set_55 : decode cX5_set 55 = .ok (.getfield 12, 3) := by decide +kernel
theorem dX5_set_58 : decode cX5_set 58 = .ok (.getfield 55, 3) := by decide +kernel
theorem dX5_set_61 : decode cX5_set 61 = .ok (.iload_n 1, 1) := by decide +kernel
theorem dX5_set_62 : decode cX5_set 62 = .ok (.iload_n 2, 1) := by decide +kernel
theorem dX5_set_63 : decode cX5_set 63 = .ok (.iastore, 1) := by decide +kernel
theorem dX5_set_64 : decode cX5_set 64 = .ok (.iload_n 3, 1) := by decide +kernel
theorem dX5_set_65 : decode cX5_set 65 = .ok (.ireturn, 1) := by decide +kernel
theorem dX5_seed_0 : decode cX5_seed 0 = .ok (.iload_n 1, 1) := by decide +kernel
theorem dX5_seed_1 : decode cX5_seed 1 = .ok (.ifCond .ge 6, 3) := by decide +kernel
theorem dX5_seed_4 : decode cX5_seed 4 = .ok (.bipush (-2), 2) := by decide +kernel
theorem dX5_seed_6 : decode cX5_seed 6 = .ok (.ireturn, 1) := by decide +kernel
theorem dX5_seed_7 : decode cX5_seed 7 = .ok (.aload_n 0, 1) := by decide +kernel
theorem dX5_seed_8 : decode cX5_seed 8 = .ok (.getfield 36, 3) := by decide +kernel
theorem dX5_seed_11 : decode cX5_seed 11 = .ok (.aload_n 0, 1) := by decide +kernel
theorem dX5_seed_12 : decode cX5_seed 12 = .ok (.getfield 12, 3) := by decide +kernel
theorem dX5_seed_15 : decode cX5_seed 15 = .ok (.invokevirtual 51, 3) := by decide +kernel
theorem dX5_seed_18 : decode cX5_seed 18 = .ok (.aload_n 0, 1) := by decide +kernel
theorem dX5_seed_19 : decode cX5_seed 19 = .ok (.getfield 12, 3) := by decide +kernel
theorem dX5_seed_22 : decode cX5_seed 22 = .ok (.getfield 58, 3) := by decide +kernel
theorem dX5_seed_25 : decode cX5_seed 25 = .ok (.istore_n 2, 1) := by decide +kernel
theorem dX5_seed_26 : decode cX5_seed 26 = .ok (.aload_n 0, 1) := by decide +kernel
theorem dX5_seed_27 : decode cX5_seed 27 = .ok (.getfield 12, 3) := by decide +kernel
theorem dX5_seed_30 : decode cX5_seed 30 = .ok (.iload_n 1, 1) := by decide +kernel
theorem dX5_seed_31 : decode cX5_seed 31 = .ok (.putfield 58, 3) := by decide +kernel
theorem dX5_seed_34 : decode cX5_seed 34 = .ok (.iload_n 2, 1) := by decide +kernel
theorem dX5_seed_35 : decode cX5_seed 35 = .ok (.ireturn, 1) := by decide +kernel
theorem dX5_cast_0 : decode cX5_cast 0 = .ok (.aload_n 0, 1) := by decide +kernel
theorem dX5_cast_1 : decode cX5_cast 1 = .ok (.getfield 12, 3) := by decide +kernel
theorem dX5_cast_4 : decode cX5_cast 4 = .ok (.invokevirtual 62, 3) := by decide +kernel
theorem dX5_cast_7 : decode cX5_cast 7 = .ok (.ifCond .ne 13, 3) := by decide +kernel
theorem dX5_cast_10 : decode cX5_cast 10 = .ok (.aload_n 0, 1) := by decide +kernel
theorem dX5_cast_11 : decode cX5_cast 11 = .ok (.getfield 12, 3) := by decide +kernel
theorem dX5_cast_14 : decode cX5_cast 14 = .ok (.invokevirtual 66, 3) := by decide +kernel
theorem dX5_cast_17 : decode cX5_cast 17 = .ok (.ifCond .eq 6, 3) := by decide +kernel
theorem dX5_cast_20 : decode cX5_cast 20 = .ok (.bipush (-5), 2) := by decide +kernel
theorem dX5_cast_22 : decode cX5_cast 22 = .ok (.ireturn, 1) := by decide +kernel
theorem dX5_cast_23 : decode cX5_cast 23 = .ok (.aload_n 0, 1) := by decide +kernel
theorem dX5_cast_24 : decode cX5_cast 24 = .ok (.getfield 36, 3) := by decide +kernel
theorem dX5_cast_27 : decode cX5_cast 27 = .ok (.aload_n 0, 1) := by decide +kernel
theorem dX5_cast_28 : decode cX5_cast 28 = .ok (.getfield 12, 3) := by decide +kernel
theorem dX5_cast_31 : decode cX5_cast 31 = .ok (.invokevirtual 51, 3) := by decide +kernel
theorem dX5_cast_34 : decode cX5_cast 34 = .ok (.aload_n 0, 1) := by decide +kernel
theorem dX5_cast_35 : decode cX5_cast 35 = .ok (.getfield 12, 3) := by decide +kernel
theorem dX5_cast_38 : decode cX5_cast 38 = .ok (.invokevirtual 69, 3) := by decide +kernel
theorem dX5_cast_41 : decode cX5_cast 41 = .ok (.aload_n 0, 1) := by decide +kernel
theorem dX5_cast_42 : decode cX5_cast 42 = .ok (.getfield 12, 3) := by decide +kernel
theorem dX5_cast_45 : decode cX5_cast 45 = .ok (.getfield 72, 3) := by decide +kernel
theorem dX5_cast_48 : decode cX5_cast 48 = .ok (.ireturn, 1) := by decide +kernel
theorem dX5_move_0 : decode cX5_move 0 = .ok (.iload_n 1, 1) := by decide +kernel
theorem dX5_move_1 : decode cX5_move 1 = .ok (.ifCond .lt 8, 3) := by decide +kernel
theorem dX5_move_4 : decode cX5_move 4 = .ok (.iload_n 1, 1) := by decide +kernel
theorem dX5_move_5 : decode cX5_move 5 = .ok (.iconst 3, 1) := by decide +kernel
theorem dX5_move_6 : decode cX5_move 6 = .ok (.if_icmp .lt 5, 3) := by decide +kernel
theorem dX5_move_9 : decode cX5_move 9 = .ok (.iconst (-1), 1) := by decide +kernel
theorem dX5_move_10 : decode cX5_move 10 = .ok (.ireturn, 1) := by decide +kernel
theorem dX5_move_11 : decode cX5_move 11 = .ok (.aload_n 0, 1) := by decide +kernel
theorem dX5_move_12 : decode cX5_move 12 = .ok (.getfield 12, 3) := by decide +kernel
theorem dX5_move_15 : decode cX5_move 15 = .ok (.getfield 75, 3) := by decide +kernel
theorem dX5_move_18 : decode cX5_move 18 = .ok (.iconst 3, 1) := by decide +kernel
theorem dX5_move_19 : decode cX5_move 19 = .ok (.imul, 1) := by decide +kernel
theorem dX5_move_20 : decode cX5_move 20 = .ok (.iload_n 1, 1) := by decide +kernel
theorem dX5_move_21 : decode cX5_move 21 = .ok (.iadd, 1) := by decide +kernel
theorem dX5_move_22 : decode cX5_move 22 = .ok (.istore_n 2, 1) := by decide +kernel
theorem dX5_move_23 : decode cX5_move 23 = .ok (.aload_n 0, 1) := by decide +kernel
theorem dX5_move_24 : decode cX5_move 24 = .ok (.getfield 12, 3) := by decide +kernel
theorem dX5_move_27 : decode cX5_move 27 = .ok (.invokevirtual 66, 3) := by decide +kernel
theorem dX5_move_30 : decode cX5_move 30 = .ok (.ifCond .eq 21, 3) := by decide +kernel
theorem dX5_move_33 : decode cX5_move 33 = .ok (.aload_n 0, 1) := by decide +kernel
theorem dX5_move_34 : decode cX5_move 34 = .ok (.getfield 12, 3) := by decide +kernel
theorem dX5_move_37 : decode cX5_move 37 = .ok (.iload_n 2, 1) := by decide +kernel
theorem dX5_move_38 : decode cX5_move 38 = .ok (.aload_n 0, 1) := by decide +kernel
theorem dX5_move_39 : decode cX5_move 39 = .ok (.getfield 12, 3) := by decide +kernel
theorem dX5_move_42 : decode cX5_move 42 = .ok (.getfield 72, 3) := by decide +kernel
theorem dX5_move_45 : decode cX5_move 45 = .ok (.invokevirtual 78, 3) := by decide +kernel
theorem dX5_move_48 : decode cX5_move 48 = .ok (.ifCond .eq 6, 3) := by decide +kernel
theorem dX5_move_51 : decode cX5_move 51 = .ok (.bipush (-5), 2) := by decide +kernel
theorem dX5_move_53 : decode cX5_move 53 = .ok (.ireturn, 1) := by decide +kernel
theorem dX5_move_54 : decode cX5_move 54 = .ok (.aload_n 0, 1) := by decide +kernel
theorem dX5_move_55 : decode cX5_move 55 = .ok (.getfield 36, 3) := by decide +kernel
theorem dX5_move_58 : decode cX5_move 58 = .ok (.aload_n 0, 1) := by decide +kernel
theorem dX5_move_59 : decode cX5_move 59 = .ok (.getfield 12, 3) := by decide +kernel
theorem dX5_move_62 : decode cX5_move 62 = .ok (.invokevirtual 51, 3) := by decide +kernel
theorem dX5_move_65 : decode cX5_move 65 = .ok (.aload_n 0, 1) := by decide +kernel
theorem dX5_move_66 : decode cX5_move 66 = .ok (.getfield 12, 3) := by decide +kernel
theorem dX5_move_69 : decode cX5_move 69 = .ok (.iload_n 2, 1) := by decide +kernel
theorem dX5_move_70 : decode cX5_move 70 = .ok (.invokevirtual 82, 3) := by decide +kernel
theorem dX5_move_73 : decode cX5_move 73 = .ok (.ireturn, 1) := by decide +kernel
theorem dX5_skip_0 : decode cX5_skip 0 = .ok (.aload_n 0, 1) := by decide +kernel
theorem dX5_skip_1 : decode cX5_skip 1 = .ok (.getfield 12, 3) := by decide +kernel
theorem dX5_skip_4 : decode cX5_skip 4 = .ok (.invokevirtual 66, 3) := by decide +kernel
theorem dX5_skip_7 : decode cX5_skip 7 = .ok (.ifCond .eq 20, 3) := by decide +kernel
theorem dX5_skip_10 : decode cX5_skip 10 = .ok (.aload_n 0, 1) := by decide +kernel
theorem dX5_skip_11 : decode cX5_skip 11 = .ok (.getfield 12, 3) := by decide +kernel
theorem dX5_skip_14 : decode cX5_skip 14 = .ok (.aload_n 0, 1) := by decide +kernel
theorem dX5_skip_15 : decode cX5_skip 15 = .ok (.getfield 12, 3) := by decide +kernel
theorem dX5_skip_18 : decode cX5_skip 18 = .ok (.getfield 72, 3) := by decide +kernel
theorem dX5_skip_21 : decode cX5_skip 21 = .ok (.invokevirtual 86, 3) := by decide +kernel
theorem dX5_skip_24 : decode cX5_skip 24 = .ok (.ifCond .eq 6, 3) := by decide +kernel
theorem dX5_skip_27 : decode cX5_skip 27 = .ok (.bipush (-5), 2) := by decide +kernel
theorem dX5_skip_29 : decode cX5_skip 29 = .ok (.ireturn, 1) := by decide +kernel
theorem dX5_skip_30 : decode cX5_skip 30 = .ok (.aload_n 0, 1) := by decide +kernel
theorem dX5_skip_31 : decode cX5_skip 31 = .ok (.getfield 36, 3) := by decide +kernel
theorem dX5_skip_34 : decode cX5_skip 34 = .ok (.aload_n 0, 1) := by decide +kernel
theorem dX5_skip_35 : decode cX5_skip 35 = .ok (.getfield 12, 3) := by decide +kernel
theorem dX5_skip_38 : decode cX5_skip 38 = .ok (.invokevirtual 51, 3) := by decide +kernel
theorem dX5_skip_41 : decode cX5_skip 41 = .ok (.aload_n 0, 1) := by decide +kernel
theorem dX5_skip_42 : decode cX5_skip 42 = .ok (.getfield 12, 3) := by decide +kernel
theorem dX5_skip_45 : decode cX5_skip 45 = .ok (.invokevirtual 90, 3) := by decide +kernel
theorem dX5_skip_48 : decode cX5_skip 48 = .ok (.aload_n 0, 1) := by decide +kernel
theorem dX5_skip_49 : decode cX5_skip 49 = .ok (.getfield 12, 3) := by decide +kernel
theorem dX5_skip_52 : decode cX5_skip 52 = .ok (.getfield 75, 3) := by decide +kernel
theorem dX5_skip_55 : decode cX5_skip 55 = .ok (.ireturn, 1) := by decide +kernel
theorem dX5_play_0 : decode cX5_play 0 = .ok (.iload_n 1, 1) := by decide +kernel
theorem dX5_play_1 : decode cX5_play 1 = .ok (.iconst 1, 1) := by decide +kernel
theorem dX5_play_2 : decode cX5_play 2 = .ok (.if_icmp .lt 9, 3) := by decide +kernel
theorem dX5_play_5 : decode cX5_play 5 = .ok (.iload_n 1, 1) := by decide +kernel
theorem dX5_play_6 : decode cX5_play 6 = .ok (.bipush 100, 2) := by decide +kernel
theorem dX5_play_8 : decode cX5_play 8 = .ok (.if_icmp .le 6, 3) := by decide +kernel
theorem dX5_play_11 : decode cX5_play 11 = .ok (.bipush (-2), 2) := by decide +kernel
theorem dX5_play_13 : decode cX5_play 13 = .ok (.ireturn, 1) := by decide +kernel
theorem dX5_play_14 : decode cX5_play 14 = .ok (.aload_n 0, 1) := by decide +kernel
theorem dX5_play_15 : decode cX5_play 15 = .ok (.getfield 12, 3) := by decide +kernel
theorem dX5_play_18 : decode cX5_play 18 = .ok (.invokevirtual 62, 3) := by decide +kernel
theorem dX5_play_21 : decode cX5_play 21 = .ok (.ifCond .ne 13, 3) := by decide +kernel
theorem dX5_play_24 : decode cX5_play 24 = .ok (.aload_n 0, 1) := by decide +kernel
theorem dX5_play_25 : decode cX5_play 25 = .ok (.getfield 12, 3) := by decide +kernel
theorem dX5_play_28 : decode cX5_play 28 = .ok (.invokevirtual 66, 3) := by decide +kernel
theorem dX5_play_31 : decode cX5_play 31 = .ok (.ifCond .eq 6, 3) := by decide +kernel
theorem dX5_play_34 : decode cX5_play 34 = .ok (.bipush (-5), 2) := by decide +kernel
theorem dX5_play_36 : decode cX5_play 36 = .ok (.ireturn, 1) := by decide +kernel
theorem dX5_play_37 : decode cX5_play 37 = .ok (.aload_n 0, 1) := by decide +kernel
theorem dX5_play_38 : decode cX5_play 38 = .ok (.getfield 36, 3) := by decide +kernel
theorem dX5_play_41 : decode cX5_play 41 = .ok (.aload_n 0, 1) := by decide +kernel
theorem dX5_play_42 : decode cX5_play 42 = .ok (.getfield 12, 3) := by decide +kernel
theorem dX5_play_45 : decode cX5_play 45 = .ok (.invokevirtual 51, 3) := by decide +kernel
theorem dX5_play_48 : decode cX5_play 48 = .ok (.aload_n 0, 1) := by decide +kernel
theorem dX5_play_49 : decode cX5_play 49 = .ok (.getfield 12, 3) := by decide +kernel
theorem dX5_play_52 : decode cX5_play 52 = .ok (.iload_n 1, 1) := by decide +kernel
theorem dX5_play_53 : decode cX5_play 53 = .ok (.invokevirtual 93, 3) := by decide +kernel
theorem dX5_play_56 : decode cX5_play 56 = .ok (.ireturn, 1) := by decide +kernel
theorem dX5_read_0 : decode cX5_read 0 = .ok (.aload_n 0, 1) := by decide +kernel
theorem dX5_read_1 : decode cX5_read 1 = .ok (.getfield 29, 3) := by decide +kernel
theorem dX5_read_4 : decode cX5_read 4 = .ok (.invokevirtual 96, 3) := by decide +kernel
theorem dX5_read_7 : decode cX5_read 7 = .ok (.bipush (-6), 2) := by decide +kernel
theorem dX5_read_9 : decode cX5_read 9 = .ok (.if_icmp .eq 6, 3) := by decide +kernel
theorem dX5_read_12 : decode cX5_read 12 = .ok (.bipush (-3), 2) := by decide +kernel
theorem dX5_read_14 : decode cX5_read 14 = .ok (.ireturn, 1) := by decide +kernel
theorem dX5_read_15 : decode cX5_read 15 = .ok (.aload_n 0, 1) := by decide +kernel
theorem dX5_read_16 : decode cX5_read 16 = .ok (.getfield 12, 3) := by decide +kernel
theorem dX5_read_19 : decode cX5_read 19 = .ok (.invokevirtual 66, 3) := by decide +kernel
theorem dX5_read_22 : decode cX5_read 22 = .ok (.ifCond .eq 6, 3) := by decide +kernel
theorem dX5_read_25 : decode cX5_read 25 = .ok (.bipush (-5), 2) := by decide +kernel
theorem dX5_read_27 : decode cX5_read 27 = .ok (.ireturn, 1) := by decide +kernel
theorem dX5_read_28 : decode cX5_read 28 = .ok (.aload_n 0, 1) := by decide +kernel
theorem dX5_read_29 : decode cX5_read 29 = .ok (.getfield 36, 3) := by decide +kernel
theorem dX5_read_32 : decode cX5_read 32 = .ok (.aload_n 0, 1) := by decide +kernel
theorem dX5_read_33 : decode cX5_read 33 = .ok (.getfield 12, 3) := by decide +kernel
theorem dX5_read_36 : decode cX5_read 36 = .ok (.invokevirtual 51, 3) := by decide +kernel
theorem dX5_read_39 : decode cX5_read 39 = .ok (.iconst 0, 1) := by decide +kernel
theorem dX5_read_40 : decode cX5_read 40 = .ok (.istore_n 1, 1) := by decide +kernel
theorem dX5_read_41 : decode cX5_read 41 = .ok (.iload_n 1, 1) := by decide +kernel
theorem dX5_read_42 : decode cX5_read 42 = .ok (.aload_n 0, 1) := by decide +kernel
theorem dX5_read_43 : decode cX5_read 43 = .ok (.getfield 29, 3) := by decide +kernel
theorem dX5_read_46 : decode cX5_read 46 = .ok (.invokevirtual 100, 3) := by decide +kernel
theorem dX5_read_49 : decode cX5_read 49 = .ok (.if_icmp .ge 45, 3) := by decide +kernel
theorem dX5_read_52 : decode cX5_read 52 = .ok (.aload_n 0, 1) := by decide +kernel
theorem dX5_read_53 : decode cX5_read 53 = .ok (.getfield 12, 3) := by decide +kernel
theorem dX5_read_56 : decode cX5_read 56 = .ok (.invokevirtual 62, 3) := by decide +kernel
theorem dX5_read_59 : decode cX5_read 59 = .ok (.ifCond .ne 35, 3) := by decide +kernel
theorem dX5_read_62 : decode cX5_read 62 = .ok (.aload_n 0, 1) := by decide +kernel
theorem dX5_read_63 : decode cX5_read 63 = .ok (.getfield 12, 3) := by decide +kernel
theorem dX5_read_66 : decode cX5_read 66 = .ok (.aload_n 0, 1) := by decide +kernel
theorem dX5_read_67 : decode cX5_read 67 = .ok (.getfield 29, 3) := by decide +kernel
theorem dX5_read_70 : decode cX5_read 70 = .ok (.iload_n 1, 1) := by decide +kernel
theorem dX5_read_71 : decode cX5_read 71 = .ok (.invokevirtual 103, 3) := by decide +kernel
theorem dX5_read_74 : decode cX5_read 74 = .ok (.aload_n 0, 1) := by decide +kernel
theorem dX5_read_75 : decode cX5_read 75 = .ok (.getfield 29, 3) := by decide +kernel
theorem dX5_read_78 : decode cX5_read 78 = .ok (.iload_n 1, 1) := by decide +kernel
theorem dX5_read_79 : decode cX5_read 79 = .ok (.invokevirtual 106, 3) := by decide +kernel
theorem dX5_read_82 : decode cX5_read 82 = .ok (.invokevirtual 109, 3) := by decide +kernel
theorem dX5_read_85 : decode cX5_read 85 = .ok (.ifCond .eq 9, 3) := by decide +kernel
theorem dX5_read_88 : decode cX5_read 88 = .ok (.iinc 1 1, 3) := by decide +kernel
theorem dX5_read_91 : decode cX5_read 91 = .ok (.goto (-50), 3) := by decide +kernel
theorem dX5_read_94 : decode cX5_read 94 = .ok (.aload_n 0, 1) := by decide +kernel
theorem dX5_read_95 : decode cX5_read 95 = .ok (.getfield 29, 3) := by decide +kernel
theorem dX5_read_98 : decode cX5_read 98 = .ok (.iconst 0, 1) := by decide +kernel
theorem dX5_read_99 : decode cX5_read 99 = .ok (.putfield 113, 3) := by decide +kernel
theorem dX5_read_102 : decode cX5_read 102 = .ok (.iload_n 1, 1) := by decide +kernel
theorem dX5_read_103 : decode cX5_read 103 = .ok (.ireturn, 1) := by decide +kernel
theorem dX5_lay_0 : decode cX5_lay 0 = .ok (.iload_n 1, 1) := by decide +kernel
theorem dX5_lay_1 : decode cX5_lay 1 = .ok (.invokestatic 116, 3) := by decide +kernel
theorem dX5_lay_4 : decode cX5_lay 4 = .ok (.ifCond .eq 5, 3) := by decide +kernel
theorem dX5_lay_7 : decode cX5_lay 7 = .ok (.iconst (-1), 1) := by decide +kernel
theorem dX5_lay_8 : decode cX5_lay 8 = .ok (.ireturn, 1) := by decide +kernel
theorem dX5_lay_9 : decode cX5_lay 9 = .ok (.iload_n 2, 1) := by decide +kernel
theorem dX5_lay_10 : decode cX5_lay 10 = .ok (.bipush (-6), 2) := by decide +kernel
theorem dX5_lay_12 : decode cX5_lay 12 = .ok (.if_icmp .eq 16, 3) := by decide +kernel
theorem dX5_lay_15 : decode cX5_lay 15 = .ok (.iload_n 2, 1) := by decide +kernel
theorem dX5_lay_16 : decode cX5_lay 16 = .ok (.ifCond .lt 9, 3) := by decide +kernel
theorem dX5_lay_19 : decode cX5_lay 19 = .ok (.iload_n 2, 1) := by decide +kernel
theorem dX5_lay_20 : decode cX5_lay 20 = .ok (.bipush 35, 2) := by decide +kernel
theorem dX5_lay_22 : decode cX5_lay 22 = .ok (.if_icmp .le 6, 3) := by decide +kernel
theorem dX5_lay_25 : decode cX5_lay 25 = .ok (.bipush (-2), 2) := by decide +kernel
theorem dX5_lay_27 : decode cX5_lay 27 = .ok (.ireturn, 1) := by decide +kernel
theorem dX5_lay_28 : decode cX5_lay 28 = .ok (.aload_n 0, 1) := by decide +kernel
theorem dX5_lay_29 : decode cX5_lay 29 = .ok (.getfield 12, 3) := by decide +kernel
theorem dX5_lay_32 : decode cX5_lay 32 = .ok (.getfield 119, 3) := by decide +kernel
theorem dX5_lay_35 : decode cX5_lay 35 = .ok (.iload_n 1, 1) := by decide +kernel
theorem dX5_lay_36 : decode cX5_lay 36 = .ok (.iload_n 2, 1) := by decide +kernel
theorem dX5_lay_37 : decode cX5_lay 37 = .ok (.invokevirtual 123, 3) := by decide +kernel
theorem dX5_lay_40 : decode cX5_lay 40 = .ok (.ifCond .ne 6, 3) := by decide +kernel
theorem dX5_lay_43 : decode cX5_lay 43 = .ok (.bipush (-5), 2) := by decide +kernel
theorem dX5_lay_45 : decode cX5_lay 45 = .ok (.ireturn, 1) := by decide +kernel
theorem dX5_lay_46 : decode cX5_lay 46 = .ok (.aload_n 0, 1) := by decide +kernel
theorem dX5_lay_47 : decode cX5_lay 47 = .ok (.getfield 36, 3) := by decide +kernel
theorem dX5_lay_50 : decode cX5_lay 50 = .ok (.aload_n 0, 1) := by decide +kernel
theorem dX5_lay_51 : decode cX5_lay 51 = .ok (.getfield 12, 3) := by decide +kernel
theorem dX5_lay_54 : decode cX5_lay 54 = .ok (.invokevirtual 51, 3) := by decide +kernel
theorem dX5_lay_57 : decode cX5_lay 57 = .ok (.aload_n 0, 1) := by decide +kernel
theorem dX5_lay_58 : decode cX5_lay 58 = .ok (.getfield 12, 3) := by decide +kernel
theorem dX5_lay_61 : decode cX5_lay 61 = .ok (.getfield 119, 3) := by decide +kernel
theorem dX5_lay_64 : decode cX5_lay 64 = .ok (.getfield 128, 3) := by decide +kernel
theorem dX5_lay_67 : decode cX5_lay 67 = .ok (.iload_n 1, 1) := by decide +kernel
theorem dX5_lay_68 : decode cX5_lay 68 = .ok (.iaload, 1) := by decide +kernel
theorem dX5_lay_69 : decode cX5_lay 69 = .ok (.istore_n 3, 1) := by decide +kernel
theorem dX5_lay_70 : decode cX5_lay 70 = .ok (.aload_n 0, 1) := by decide +kernel
theorem dX5_lay_71 : decode cX5_lay 71 = .ok (.getfield 12, 3) := by decide +kernel
theorem dX5_lay_74 : decode cX5_lay 74 = .ok (.getfield 119, 3) := by decide +kernel
theorem dX5_lay_77 : decode cX5_lay 77 = .ok (.iload_n 1, 1) := by decide +kernel
theorem dX5_lay_78 : decode cX5_lay 78 = .ok (.iload_n 2, 1) := by decide +kernel
theorem dX5_lay_79 : decode cX5_lay 79 = .ok (.aload_n 0, 1) := by decide +kernel
theorem dX5_lay_80 : decode cX5_lay 80 = .ok (.getfield 12, 3) := by decide +kernel
theorem dX5_lay_83 : decode cX5_lay 83 = .ok (.getfield 131, 3) := by decide +kernel
theorem dX5_lay_86 : decode cX5_lay 86 = .ok (.invokevirtual 134, 3) := by decide +kernel
theorem dX5_lay_89 : decode cX5_lay 89 = .ok (.iload_n 3, 1) := by decide +kernel
theorem dX5_lay_90 : decode cX5_lay 90 = .ok (.ireturn, 1) := by decide +kernel
theorem dX5_piece_0 : decode cX5_piece 0 = .ok (.iload_n 1, 1) := by decide +kernel
theorem dX5_piece_1 : decode cX5_piece 1 = .ok (.invokestatic 116, 3) := by decide +kernel
theorem dX5_piece_4 : decode cX5_piece 4 = .ok (.ifCond .eq 5, 3) := by decide +kernel
theorem dX5_piece_7 : decode cX5_piece 7 = .ok (.iconst (-1), 1) := by decide +kernel
theorem dX5_piece_8 : decode cX5_piece 8 = .ok (.ireturn, 1) := by decide +kernel
theorem dX5_piece_9 : decode cX5_piece 9 = .ok (.iload_n 2, 1) := by decide +kernel
theorem dX5_piece_10 : decode cX5_piece 10 = .ok (.tableswitch 88 0 3 #[30, 43, 55, 75], 30) := by decide +kernel
theorem dX5_piece_40 : decode cX5_piece 40 = .ok (.aload_n 0, 1) := by decide +kernel
theorem dX5_piece_41 : decode cX5_piece 41 = .ok (.getfield 12, 3) := by decide +kernel
theorem dX5_piece_44 : decode cX5_piece 44 = .ok (.getfield 119, 3) := by decide +kernel
theorem dX5_piece_47 : decode cX5_piece 47 = .ok (.getfield 128, 3) := by decide +kernel
theorem dX5_piece_50 : decode cX5_piece 50 = .ok (.iload_n 1, 1) := by decide +kernel
theorem dX5_piece_51 : decode cX5_piece 51 = .ok (.iaload, 1) := by decide +kernel
theorem dX5_piece_52 : decode cX5_piece 52 = .ok (.ireturn, 1) := by decide +kernel
theorem dX5_piece_53 : decode cX5_piece 53 = .ok (.aload_n 0, 1) := by decide +kernel
theorem dX5_piece_54 : decode cX5_piece 54 = .ok (.getfield 12, 3) := by decide +kernel
theorem dX5_piece_57 : decode cX5_piece 57 = .ok (.getfield 119, 3) := by decide +kernel
theorem dX5_piece_60 : decode cX5_piece 60 = .ok (.iload_n 1, 1) := by decide +kernel
theorem dX5_piece_61 : decode cX5_piece 61 = .ok (.invokevirtual 138, 3) := by decide +kernel
theorem dX5_piece_64 : decode cX5_piece 64 = .ok (.ireturn, 1) := by decide +kernel
theorem dX5_piece_65 : decode cX5_piece 65 = .ok (.aload_n 0, 1) := by decide +kernel
theorem dX5_piece_66 : decode cX5_piece 66 = .ok (.getfield 12, 3) := by decide +kernel
theorem dX5_piece_69 : decode cX5_piece 69 = .ok (.getfield 119, 3) := by decide +kernel
theorem dX5_piece_72 : decode cX5_piece 72 = .ok (.iload_n 1, 1) := by decide +kernel
theorem dX5_piece_73 : decode cX5_piece 73 = .ok (.invokevirtual 141, 3) := by decide +kernel
theorem dX5_piece_76 : decode cX5_piece 76 = .ok (.ifCond .eq 7, 3) := by decide +kernel
theorem dX5_piece_79 : decode cX5_piece 79 = .ok (.iconst 1, 1) := by decide +kernel
theorem dX5_piece_80 : decode cX5_piece 80 = .ok (.goto 4, 3) := by decide +kernel
theorem dX5_piece_83 : decode cX5_piece 83 = .ok (.iconst 0, 1) := by decide +kernel
theorem dX5_piece_84 : decode cX5_piece 84 = .ok (.ireturn, 1) := by decide +kernel
theorem dX5_piece_85 : decode cX5_piece 85 = .ok (.aload_n 0, 1) := by decide +kernel
theorem dX5_piece_86 : decode cX5_piece 86 = .ok (.getfield 12, 3) := by decide +kernel
theorem dX5_piece_89 : decode cX5_piece 89 = .ok (.getfield 119, 3) := by decide +kernel
theorem dX5_piece_92 : decode cX5_piece 92 = .ok (.getfield 144, 3) := by decide +kernel
theorem dX5_piece_95 : decode cX5_piece 95 = .ok (.iload_n 1, 1) := by decide +kernel
theorem dX5_piece_96 : decode cX5_piece 96 = .ok (.iaload, 1) := by decide +kernel
theorem dX5_piece_97 : decode cX5_piece 97 = .ok (.ireturn, 1) := by decide +kernel
theorem dX5_piece_98 : decode cX5_piece 98 = .ok (.bipush (-2), 2) := by decide +kernel
theorem dX5_piece_100 : decode cX5_piece 100 = .ok (.ireturn, 1) := by decide +kernel
theorem dX5_field_0 : decode cX5_field 0 = .ok (.iload_n 1, 1) := by decide +kernel
theorem dX5_field_1 : decode cX5_field 1 = .ok (.ifCond .lt 9, 3) := by decide +kernel
theorem dX5_field_4 : decode cX5_field 4 = .ok (.iload_n 1, 1) := by decide +kernel
theorem dX5_field_5 : decode cX5_field 5 = .ok (.bipush 32, 2) := by decide +kernel
theorem dX5_field_7 : decode cX5_field 7 = .ok (.if_icmp .lt 5, 3) := by decide +kernel
theorem dX5_field_10 : decode cX5_field 10 = .ok (.iconst (-1), 1) := by decide +kernel
theorem dX5_field_11 : decode cX5_field 11 = .ok (.ireturn, 1) := by decide +kernel
theorem dX5_field_12 : decode cX5_field 12 = .ok (.iload_n 2, 1) := by decide +kernel
theorem dX5_field_13 : decode cX5_field 13 = .ok (.tableswitch 93 0 4 #[35, 47, 59, 72, 84], 35) := by decide +kernel
theorem dX5_field_48 : decode cX5_field 48 = .ok (.aload_n 0, 1) := by decide +kernel
theorem dX5_field_49 : decode cX5_field 49 = .ok (.getfield 12, 3) := by decide +kernel
theorem dX5_field_52 : decode cX5_field 52 = .ok (.getfield 119, 3) := by decide +kernel
theorem dX5_field_55 : decode cX5_field 55 = .ok (.iload_n 1, 1) := by decide +kernel
theorem dX5_field_56 : decode cX5_field 56 = .ok (.invokevirtual 147, 3) := by decide +kernel
theorem dX5_field_59 : decode cX5_field 59 = .ok (.ireturn, 1) := by decide +kernel
theorem dX5_field_60 : decode cX5_field 60 = .ok (.aload_n 0, 1) := by decide +kernel
theorem dX5_field_61 : decode cX5_field 61 = .ok (.getfield 12, 3) := by decide +kernel
theorem dX5_field_64 : decode cX5_field 64 = .ok (.getfield 119, 3) := by decide +kernel
theorem dX5_field_67 : decode cX5_field 67 = .ok (.iload_n 1, 1) := by decide +kernel
theorem dX5_field_68 : decode cX5_field 68 = .ok (.invokevirtual 150, 3) := by decide +kernel
theorem dX5_field_71 : decode cX5_field 71 = .ok (.ireturn, 1) := by decide +kernel
theorem dX5_field_72 : decode cX5_field 72 = .ok (.iload_n 1, 1) := by decide +kernel
theorem dX5_field_73 : decode cX5_field 73 = .ok (.invokestatic 153, 3) := by decide +kernel
theorem dX5_field_76 : decode cX5_field 76 = .ok (.ifCond .eq 7, 3) := by decide +kernel
theorem dX5_field_79 : decode cX5_field 79 = .ok (.iconst 1, 1) := by decide +kernel
theorem dX5_field_80 : decode cX5_field 80 = .ok (.goto 4, 3) := by decide +kernel
theorem dX5_field_83 : decode cX5_field 83 = .ok (.iconst 0, 1) := by decide +kernel
theorem dX5_field_84 : decode cX5_field 84 = .ok (.ireturn, 1) := by decide +kernel
theorem dX5_field_85 : decode cX5_field 85 = .ok (.aload_n 0, 1) := by decide +kernel
theorem dX5_field_86 : decode cX5_field 86 = .ok (.getfield 12, 3) := by decide +kernel
theorem dX5_field_89 : decode cX5_field 89 = .ok (.getfield 119, 3) := by decide +kernel
theorem dX5_field_92 : decode cX5_field 92 = .ok (.iload_n 1, 1) := by decide +kernel
theorem dX5_field_93 : decode cX5_field 93 = .ok (.invokevirtual 156, 3) := by decide +kernel
theorem dX5_field_96 : decode cX5_field 96 = .ok (.ireturn, 1) := by decide +kernel
theorem dX5_field_97 : decode cX5_field 97 = .ok (.aload_n 0, 1) := by decide +kernel
theorem dX5_field_98 : decode cX5_field 98 = .ok (.getfield 12, 3) := by decide +kernel
theorem dX5_field_101 : decode cX5_field 101 = .ok (.iload_n 1, 1) := by decide +kernel
theorem dX5_field_102 : decode cX5_field 102 = .ok (.invokevirtual 159, 3) := by decide +kernel
theorem dX5_field_105 : decode cX5_field 105 = .ok (.ireturn, 1) := by decide +kernel
theorem dX5_field_106 : decode cX5_field 106 = .ok (.bipush (-2), 2) := by decide +kernel
theorem dX5_field_108 : decode cX5_field 108 = .ok (.ireturn, 1) := by decide +kernel
theorem dX5_why_0 : decode cX5_why 0 = .ok (.iload_n 1, 1) := by decide +kernel
theorem dX5_why_1 : decode cX5_why 1 = .ok (.invokestatic 116, 3) := by decide +kernel
theorem dX5_why_4 : decode cX5_why 4 = .ok (.ifCond .eq 5, 3) := by decide +kernel
theorem dX5_why_7 : decode cX5_why 7 = .ok (.iconst (-1), 1) := by decide +kernel
theorem dX5_why_8 : decode cX5_why 8 = .ok (.ireturn, 1) := by decide +kernel
theorem dX5_why_9 : decode cX5_why 9 = .ok (.iload_n 2, 1) := by decide +kernel
theorem dX5_why_10 : decode cX5_why 10 = .ok (.iconst 1, 1) := by decide +kernel
theorem dX5_why_11 : decode cX5_why 11 = .ok (.if_icmp .lt 9, 3) := by decide +kernel
theorem dX5_why_14 : decode cX5_why 14 = .ok (.iload_n 2, 1) := by decide +kernel
theorem dX5_why_15 : decode cX5_why 15 = .ok (.bipush 6, 2) := by decide +kernel
theorem dX5_why_17 : decode cX5_why 17 = .ok (.if_icmp .le 6, 3) := by decide +kernel
theorem dX5_why_20 : decode cX5_why 20 = .ok (.bipush (-2), 2) := by decide +kernel
theorem dX5_why_22 : decode cX5_why 22 = .ok (.ireturn, 1) := by decide +kernel
theorem dX5_why_23 : decode cX5_why 23 = .ok (.aload_n 0, 1) := by decide +kernel
theorem dX5_why_24 : decode cX5_why 24 = .ok (.getfield 12, 3) := by decide +kernel
theorem dX5_why_27 : decode cX5_why 27 = .ok (.iload_n 1, 1) := by decide +kernel
theorem dX5_why_28 : decode cX5_why 28 = .ok (.iload_n 2, 1) := by decide +kernel
theorem dX5_why_29 : decode cX5_why 29 = .ok (.invokevirtual 78, 3) := by decide +kernel
theorem dX5_why_32 : decode cX5_why 32 = .ok (.ireturn, 1) := by decide +kernel
theorem dX5_count_0 : decode cX5_count 0 = .ok (.iload_n 1, 1) := by decide +kernel
theorem dX5_count_1 : decode cX5_count 1 = .ok (.tableswitch 212 0 17 #[87, 87, 87, 97, 105, 113, 121, 129, 137, 148, 148, 148, 148, 163, 174, 185, 196, 204], 87) := by decide +kernel
theorem dX5_count_88 : decode cX5_count 88 = .ok (.aload_n 0, 1) := by decide +kernel
theorem dX5_count_89 : decode cX5_count 89 = .ok (.getfield 12, 3) := by decide +kernel
theorem dX5_count_92 : decode cX5_count 92 = .ok (.getfield 55, 3) := by decide +kernel
theorem dX5_count_95 : decode cX5_count 95 = .ok (.iload_n 1, 1) := by decide +kernel
theorem dX5_count_96 : decode cX5_count 96 = .ok (.iaload, 1) := by decide +kernel
theorem dX5_count_97 : decode cX5_count 97 = .ok (.ireturn, 1) := by decide +kernel
theorem dX5_count_98 : decode cX5_count 98 = .ok (.aload_n 0, 1) := by decide +kernel
theorem dX5_count_99 : decode cX5_count 99 = .ok (.getfield 12, 3) := by decide +kernel
theorem dX5_count_102 : decode cX5_count 102 = .ok (.getfield 58, 3) := by decide +kernel
theorem dX5_count_105 : decode cX5_count 105 = .ok (.ireturn, 1) := by decide +kernel
theorem dX5_count_106 : decode cX5_count 106 = .ok (.aload_n 0, 1) := by decide +kernel
theorem dX5_count_107 : decode cX5_count 107 = .ok (.getfield 12, 3) := by decide +kernel
theorem dX5_count_110 : decode cX5_count 110 = .ok (.getfield 75, 3) := by decide +kernel
theorem dX5_count_113 : decode cX5_count 113 = .ok (.ireturn, 1) := by decide +kernel
theorem dX5_count_114 : decode cX5_count 114 = .ok (.aload_n 0, 1) := by decide +kernel
theorem dX5_count_115 : decode cX5_count 115 = .ok (.getfield 12, 3) := by decide +kernel
theorem dX5_count_118 : decode cX5_count 118 = .ok (.getfield 72, 3) := by decide +kernel
theorem dX5_count_121 : decode cX5_count 121 = .ok (.ireturn, 1) := by decide +kernel
theorem dX5_count_122 : decode cX5_count 122 = .ok (.aload_n 0, 1) := by decide +kernel
theorem dX5_count_123 : decode cX5_count 123 = .ok (.getfield 12, 3) := by decide +kernel
theorem dX5_count_126 : decode cX5_count 126 = .ok (.getfield 131, 3) := by decide +kernel
theorem dX5_count_129 : decode cX5_count 129 = .ok (.ireturn, 1) := by decide +kernel
theorem dX5_count_130 : decode cX5_count 130 = .ok (.aload_n 0, 1) := by decide +kernel
theorem dX5_count_131 : decode cX5_count 131 = .ok (.getfield 12, 3) := by decide +kernel
theorem dX5_count_134 : decode cX5_count 134 = .ok (.getfield 162, 3) := by decide +kernel
theorem dX5_count_137 : decode cX5_count 137 = .ok (.ireturn, 1) := by decide +kernel
theorem dX5_count_138 : decode cX5_count 138 = .ok (.aload_n 0, 1) := by decide +kernel
theorem dX5_count_139 : decode cX5_count 139 = .ok (.getfield 12, 3) := by decide +kernel
theorem dX5_count_142 : decode cX5_count 142 = .ok (.getfield 119, 3) := by decide +kernel
theorem dX5_count_145 : decode cX5_count 145 = .ok (.invokevirtual 165, 3) := by decide +kernel
theorem dX5_count_148 : decode cX5_count 148 = .ok (.ireturn, 1) := by decide +kernel
theorem dX5_count_149 : decode cX5_count 149 = .ok (.aload_n 0, 1) := by decide +kernel
theorem dX5_count_150 : decode cX5_count 150 = .ok (.getfield 12, 3) := by decide +kernel
theorem dX5_count_153 : decode cX5_count 153 = .ok (.getfield 119, 3) := by decide +kernel
theorem dX5_count_156 : decode cX5_count 156 = .ok (.iload_n 1, 1) := by decide +kernel
theorem dX5_count_157 : decode cX5_count 157 = .ok (.bipush 9, 2) := by decide +kernel
theorem dX5_count_159 : decode cX5_count 159 = .ok (.isub, 1) := by decide +kernel
theorem dX5_count_160 : decode cX5_count 160 = .ok (.invokevirtual 168, 3) := by decide +kernel
theorem dX5_count_163 : decode cX5_count 163 = .ok (.ireturn, 1) := by decide +kernel
theorem dX5_count_164 : decode cX5_count 164 = .ok (.aload_n 0, 1) := by decide +kernel
theorem dX5_count_165 : decode cX5_count 165 = .ok (.getfield 12, 3) := by decide +kernel
theorem dX5_count_168 : decode cX5_count 168 = .ok (.getfield 119, 3) := by decide +kernel
theorem dX5_count_171 : decode cX5_count 171 = .ok (.invokevirtual 171, 3) := by decide +kernel
theorem dX5_count_174 : decode cX5_count 174 = .ok (.ireturn, 1) := by decide +kernel
theorem dX5_count_175 : decode cX5_count 175 = .ok (.aload_n 0, 1) := by decide +kernel
theorem dX5_count_176 : decode cX5_count 176 = .ok (.getfield 12, 3) := by decide +kernel
theorem dX5_count_179 : decode cX5_count 179 = .ok (.getfield 119, 3) := by decide +kernel
theorem dX5_count_182 : decode cX5_count 182 = .ok (.invokevirtual 174, 3) := by decide +kernel
theorem dX5_count_185 : decode cX5_count 185 = .ok (.ireturn, 1) := by decide +kernel
theorem dX5_count_186 : decode cX5_count 186 = .ok (.aload_n 0, 1) := by decide +kernel
theorem dX5_count_187 : decode cX5_count 187 = .ok (.getfield 12, 3) := by decide +kernel
theorem dX5_count_190 : decode cX5_count 190 = .ok (.getfield 119, 3) := by decide +kernel
theorem dX5_count_193 : decode cX5_count 193 = .ok (.getfield 177, 3) := by decide +kernel
theorem dX5_count_196 : decode cX5_count 196 = .ok (.ireturn, 1) := by decide +kernel
theorem dX5_count_197 : decode cX5_count 197 = .ok (.aload_n 0, 1) := by decide +kernel
theorem dX5_count_198 : decode cX5_count 198 = .ok (.getfield 29, 3) := by decide +kernel
theorem dX5_count_201 : decode cX5_count 201 = .ok (.getfield 113, 3) := by decide +kernel
theorem dX5_count_204 : decode cX5_count 204 = .ok (.ireturn, 1) := by decide +kernel
theorem dX5_count_205 : decode cX5_count 205 = .ok (.aload_n 0, 1) := by decide +kernel
theorem dX5_count_206 : decode cX5_count 206 = .ok (.getfield 36, 3) := by decide +kernel
theorem dX5_count_209 : decode cX5_count 209 = .ok (.getfield 180, 3) := by decide +kernel
theorem dX5_count_212 : decode cX5_count 212 = .ok (.ireturn, 1) := by decide +kernel
theorem dX5_count_213 : decode cX5_count 213 = .ok (.bipush (-2), 2) := by decide +kernel
theorem dX5_count_215 : decode cX5_count 215 = .ok (.ireturn, 1) := by decide +kernel
theorem dX5_best_0 : decode cX5_best 0 = .ok (.aload_n 0, 1) := by decide +kernel
theorem dX5_best_1 : decode cX5_best 1 = .ok (.getfield 12, 3) := by decide +kernel
theorem dX5_best_4 : decode cX5_best 4 = .ok (.invokevirtual 66, 3) := by decide +kernel
theorem dX5_best_7 : decode cX5_best 7 = .ok (.ifCond .ne 6, 3) := by decide +kernel
theorem dX5_best_10 : decode cX5_best 10 = .ok (.bipush (-5), 2) := by decide +kernel
theorem dX5_best_12 : decode cX5_best 12 = .ok (.ireturn, 1) := by decide +kernel
theorem dX5_best_13 : decode cX5_best 13 = .ok (.aload_n 0, 1) := by decide +kernel
theorem dX5_best_14 : decode cX5_best 14 = .ok (.getfield 12, 3) := by decide +kernel
theorem dX5_best_17 : decode cX5_best 17 = .ok (.invokevirtual 183, 3) := by decide +kernel
theorem dX5_best_20 : decode cX5_best 20 = .ok (.istore_n 1, 1) := by decide +kernel
theorem dX5_best_21 : decode cX5_best 21 = .ok (.iload_n 1, 1) := by decide +kernel
theorem dX5_best_22 : decode cX5_best 22 = .ok (.bipush (-6), 2) := by decide +kernel
theorem dX5_best_24 : decode cX5_best 24 = .ok (.if_icmp .ne 8, 3) := by decide +kernel
theorem dX5_best_27 : decode cX5_best 27 = .ok (.bipush (-6), 2) := by decide +kernel
theorem dX5_best_29 : decode cX5_best 29 = .ok (.goto 6, 3) := by decide +kernel
theorem dX5_best_32 : decode cX5_best 32 = .ok (.iload_n 1, 1) := by decide +kernel
theorem dX5_best_33 : decode cX5_best 33 = .ok (.iconst 3, 1) := by decide +kernel
theorem dX5_best_34 : decode cX5_best 34 = .ok (.irem, 1) := by decide +kernel
theorem dX5_best_35 : decode cX5_best 35 = .ok (.ireturn, 1) := by decide +kernel
theorem dX5_needs_0 : decode cX5_needs 0 = .ok (.iload_n 1, 1) := by decide +kernel
theorem dX5_needs_1 : decode cX5_needs 1 = .ok (.invokestatic 116, 3) := by decide +kernel
theorem dX5_needs_4 : decode cX5_needs 4 = .ok (.ifCond .eq 5, 3) := by decide +kernel
theorem dX5_needs_7 : decode cX5_needs 7 = .ok (.iconst (-1), 1) := by decide +kernel
theorem dX5_needs_8 : decode cX5_needs 8 = .ok (.ireturn, 1) := by decide +kernel
theorem dX5_needs_9 : decode cX5_needs 9 = .ok (.iload_n 2, 1) := by decide +kernel
theorem dX5_needs_10 : decode cX5_needs 10 = .ok (.ifCond .eq 11, 3) := by decide +kernel
theorem dX5_needs_13 : decode cX5_needs 13 = .ok (.iload_n 2, 1) := by decide +kernel
theorem dX5_needs_14 : decode cX5_needs 14 = .ok (.iconst 1, 1) := by decide +kernel
theorem dX5_needs_15 : decode cX5_needs 15 = .ok (.if_icmp .eq 6, 3) := by decide +kernel
theorem dX5_needs_18 : decode cX5_needs 18 = .ok (.bipush (-2), 2) := by decide +kernel
theorem dX5_needs_20 : decode cX5_needs 20 = .ok (.ireturn, 1) := by decide +kernel
theorem dX5_needs_21 : decode cX5_needs 21 = .ok (.iload_n 1, 1) := by decide +kernel
theorem dX5_needs_22 : decode cX5_needs 22 = .ok (.iconst 3, 1) := by decide +kernel
theorem dX5_needs_23 : decode cX5_needs 23 = .ok (.idiv, 1) := by decide +kernel
theorem dX5_needs_24 : decode cX5_needs 24 = .ok (.istore_n 3, 1) := by decide +kernel
theorem dX5_needs_25 : decode cX5_needs 25 = .ok (.aload_n 0, 1) := by decide +kernel
theorem dX5_needs_26 : decode cX5_needs 26 = .ok (.getfield 12, 3) := by decide +kernel
theorem dX5_needs_29 : decode cX5_needs 29 = .ok (.getfield 119, 3) := by decide +kernel
theorem dX5_needs_32 : decode cX5_needs 32 = .ok (.getfield 128, 3) := by decide +kernel
theorem dX5_needs_35 : decode cX5_needs 35 = .ok (.iload_n 1, 1) := by decide +kernel
theorem dX5_needs_36 : decode cX5_needs 36 = .ok (.iaload, 1) := by decide +kernel
theorem dX5_needs_37 : decode cX5_needs 37 = .ok (.istore 4, 2) := by decide +kernel
theorem dX5_needs_39 : decode cX5_needs 39 = .ok (.iload 4, 2) := by decide +kernel
theorem dX5_needs_41 : decode cX5_needs 41 = .ok (.bipush (-6), 2) := by decide +kernel
theorem dX5_needs_43 : decode cX5_needs 43 = .ok (.if_icmp .ne 7, 3) := by decide +kernel
theorem dX5_needs_46 : decode cX5_needs 46 = .ok (.iconst 1, 1) := by decide +kernel
theorem dX5_needs_47 : decode cX5_needs 47 = .ok (.goto 4, 3) := by decide +kernel
theorem dX5_needs_50 : decode cX5_needs 50 = .ok (.iconst 0, 1) := by decide +kernel
theorem dX5_needs_51 : decode cX5_needs 51 = .ok (.istore 5, 2) := by decide +kernel
theorem dX5_needs_53 : decode cX5_needs 53 = .ok (.iload 4, 2) := by decide +kernel
theorem dX5_needs_55 : decode cX5_needs 55 = .ok (.bipush (-6), 2) := by decide +kernel
theorem dX5_needs_57 : decode cX5_needs 57 = .ok (.if_icmp .ne 7, 3) := by decide +kernel
theorem dX5_needs_60 : decode cX5_needs 60 = .ok (.iconst 0, 1) := by decide +kernel
theorem dX5_needs_61 : decode cX5_needs 61 = .ok (.goto 5, 3) := by decide +kernel
theorem dX5_needs_64 : decode cX5_needs 64 = .ok (.iload 4, 2) := by decide +kernel
theorem dX5_needs_66 : decode cX5_needs 66 = .ok (.istore 6, 2) := by decide +kernel
theorem dX5_needs_68 : decode cX5_needs 68 = .ok (.iload 5, 2) := by decide +kernel
theorem dX5_needs_70 : decode cX5_needs 70 = .ok (.iload_n 2, 1) := by decide +kernel
theorem dX5_needs_71 : decode cX5_needs 71 = .ok (.ifCond .ne 23, 3) := by decide +kernel
theorem dX5_needs_74 : decode cX5_needs 74 = .ok (.aload_n 0, 1) := by decide +kernel
theorem dX5_needs_75 : decode cX5_needs 75 = .ok (.getfield 22, 3) := by decide +kernel
theorem dX5_needs_78 : decode cX5_needs 78 = .ok (.aload_n 0, 1) := by decide +kernel
theorem dX5_needs_79 : decode cX5_needs 79 = .ok (.getfield 12, 3) := by decide +kernel
theorem dX5_needs_82 : decode cX5_needs 82 = .ok (.getfield 119, 3) := by decide +kernel
theorem dX5_needs_85 : decode cX5_needs 85 = .ok (.iload_n 3, 1) := by decide +kernel
theorem dX5_needs_86 : decode cX5_needs 86 = .ok (.iload 6, 2) := by decide +kernel
theorem dX5_needs_88 : decode cX5_needs 88 = .ok (.invokevirtual 186, 3) := by decide +kernel
theorem dX5_needs_91 : decode cX5_needs 91 = .ok (.goto 20, 3) := by decide +kernel
theorem dX5_needs_94 : decode cX5_needs 94 = .ok (.aload_n 0, 1) := by decide +kernel
theorem dX5_needs_95 : decode cX5_needs 95 = .ok (.getfield 22, 3) := by decide +kernel
theorem dX5_needs_98 : decode cX5_needs 98 = .ok (.aload_n 0, 1) := by decide +kernel
theorem dX5_needs_99 : decode cX5_needs 99 = .ok (.getfield 12, 3) := by decide +kernel
theorem dX5_needs_102 : decode cX5_needs 102 = .ok (.getfield 119, 3) := by decide +kernel
theorem dX5_needs_105 : decode cX5_needs 105 = .ok (.iload_n 3, 1) := by decide +kernel
theorem dX5_needs_106 : decode cX5_needs 106 = .ok (.iload 6, 2) := by decide +kernel
theorem dX5_needs_108 : decode cX5_needs 108 = .ok (.invokevirtual 190, 3) := by decide +kernel
theorem dX5_needs_111 : decode cX5_needs 111 = .ok (.iadd, 1) := by decide +kernel
theorem dX5_needs_112 : decode cX5_needs 112 = .ok (.ireturn, 1) := by decide +kernel
theorem dX5_nextCast_0 : decode cX5_nextCast 0 = .ok (.iload_n 1, 1) := by decide +kernel
theorem dX5_nextCast_1 : decode cX5_nextCast 1 = .ok (.ifCond .lt 9, 3) := by decide +kernel
theorem dX5_nextCast_4 : decode cX5_nextCast 4 = .ok (.iload_n 1, 1) := by decide +kernel
theorem dX5_nextCast_5 : decode cX5_nextCast 5 = .ok (.bipush 99, 2) := by decide +kernel
theorem dX5_nextCast_7 : decode cX5_nextCast 7 = .ok (.if_icmp .le 6, 3) := by decide +kernel
theorem dX5_nextCast_10 : decode cX5_nextCast 10 = .ok (.bipush (-2), 2) := by decide +kernel
theorem dX5_nextCast_12 : decode cX5_nextCast 12 = .ok (.ireturn, 1) := by decide +kernel
theorem dX5_nextCast_13 : decode cX5_nextCast 13 = .ok (.aload_n 0, 1) := by decide +kernel
theorem dX5_nextCast_14 : decode cX5_nextCast 14 = .ok (.getfield 12, 3) := by decide +kernel
theorem dX5_nextCast_17 : decode cX5_nextCast 17 = .ok (.getfield 58, 3) := by decide +kernel
theorem dX5_nextCast_20 : decode cX5_nextCast 20 = .ok (.istore_n 2, 1) := by decide +kernel
theorem dX5_nextCast_21 : decode cX5_nextCast 21 = .ok (.iconst 0, 1) := by decide +kernel
theorem dX5_nextCast_22 : decode cX5_nextCast 22 = .ok (.istore_n 3, 1) := by decide +kernel
theorem dX5_nextCast_23 : decode cX5_nextCast 23 = .ok (.iload_n 3, 1) := by decide +kernel
theorem dX5_nextCast_24 : decode cX5_nextCast 24 = .ok (.iload_n 1, 1) := by decide +kernel
theorem dX5_nextCast_25 : decode cX5_nextCast 25 = .ok (.if_icmp .gt 14, 3) := by decide +kernel
theorem dX5_nextCast_28 : decode cX5_nextCast 28 = .ok (.iload_n 2, 1) := by decide +kernel
theorem dX5_nextCast_29 : decode cX5_nextCast 29 = .ok (.invokestatic 193, 3) := by decide +kernel
theorem dX5_nextCast_32 : decode cX5_nextCast 32 = .ok (.istore_n 2, 1) := by decide +kernel
theorem dX5_nextCast_33 : decode cX5_nextCast 33 = .ok (.iinc 3 1, 3) := by decide +kernel
theorem dX5_nextCast_36 : decode cX5_nextCast 36 = .ok (.goto (-13), 3) := by decide +kernel
theorem dX5_nextCast_39 : decode cX5_nextCast 39 = .ok (.iload_n 2, 1) := by decide +kernel
theorem dX5_nextCast_40 : decode cX5_nextCast 40 = .ok (.invokestatic 196, 3) := by decide +kernel
theorem dX5_nextCast_43 : decode cX5_nextCast 43 = .ok (.ireturn, 1) := by decide +kernel
theorem dX5_untilOver_0 : decode cX5_untilOver 0 = .ok (.aload_n 0, 1) := by decide +kernel
theorem dX5_untilOver_1 : decode cX5_untilOver 1 = .ok (.getfield 12, 3) := by decide +kernel
theorem dX5_untilOver_4 : decode cX5_untilOver 4 = .ok (.invokevirtual 66, 3) := by decide +kernel
theorem dX5_untilOver_7 : decode cX5_untilOver 7 = .ok (.ifCond .eq 6, 3) := by decide +kernel
theorem dX5_untilOver_10 : decode cX5_untilOver 10 = .ok (.bipush (-5), 2) := by decide +kernel
theorem dX5_untilOver_12 : decode cX5_untilOver 12 = .ok (.ireturn, 1) := by decide +kernel
theorem dX5_untilOver_13 : decode cX5_untilOver 13 = .ok (.aload_n 0, 1) := by decide +kernel
theorem dX5_untilOver_14 : decode cX5_untilOver 14 = .ok (.getfield 16, 3) := by decide +kernel
theorem dX5_untilOver_17 : decode cX5_untilOver 17 = .ok (.aload_n 0, 1) := by decide +kernel
theorem dX5_untilOver_18 : decode cX5_untilOver 18 = .ok (.getfield 12, 3) := by decide +kernel
theorem dX5_untilOver_21 : decode cX5_untilOver 21 = .ok (.invokevirtual 199, 3) := by decide +kernel
theorem dX5_untilOver_24 : decode cX5_untilOver 24 = .ok (.aload_n 0, 1) := by decide +kernel
theorem dX5_untilOver_25 : decode cX5_untilOver 25 = .ok (.getfield 16, 3) := by decide +kernel
theorem dX5_untilOver_28 : decode cX5_untilOver 28 = .ok (.sipush 400, 3) := by decide +kernel
theorem dX5_untilOver_31 : decode cX5_untilOver 31 = .ok (.invokevirtual 93, 3) := by decide +kernel
theorem dX5_untilOver_34 : decode cX5_untilOver 34 = .ok (.istore_n 1, 1) := by decide +kernel
theorem dX5_untilOver_35 : decode cX5_untilOver 35 = .ok (.aload_n 0, 1) := by decide +kernel
theorem dX5_untilOver_36 : decode cX5_untilOver 36 = .ok (.getfield 16, 3) := by decide +kernel
theorem dX5_untilOver_39 : decode cX5_untilOver 39 = .ok (.invokevirtual 62, 3) := by decide +kernel
theorem dX5_untilOver_42 : decode cX5_untilOver 42 = .ok (.ifCond .eq 7, 3) := by decide +kernel
theorem dX5_untilOver_45 : decode cX5_untilOver 45 = .ok (.iload_n 1, 1) := by decide +kernel
theorem dX5_untilOver_46 : decode cX5_untilOver 46 = .ok (.goto 5, 3) := by decide +kernel
theorem dX5_untilOver_49 : decode cX5_untilOver 49 = .ok (.bipush (-6), 2) := by decide +kernel
theorem dX5_untilOver_51 : decode cX5_untilOver 51 = .ok (.ireturn, 1) := by decide +kernel
theorem dX5_put_0 : decode cX5_put 0 = .ok (.lload_n 1, 1) := by decide +kernel
theorem dX5_put_1 : decode cX5_put 1 = .ok (.invokestatic 202, 3) := by decide +kernel
theorem dX5_put_4 : decode cX5_put 4 = .ok (.istore_n 3, 1) := by decide +kernel
theorem dX5_put_5 : decode cX5_put 5 = .ok (.iload_n 3, 1) := by decide +kernel
theorem dX5_put_6 : decode cX5_put 6 = .ok (.ifCond .ne 6, 3) := by decide +kernel
theorem dX5_put_9 : decode cX5_put 9 = .ok (.bipush (-2), 2) := by decide +kernel
theorem dX5_put_11 : decode cX5_put 11 = .ok (.ireturn, 1) := by decide +kernel
theorem dX5_put_12 : decode cX5_put 12 = .ok (.aload_n 0, 1) := by decide +kernel
theorem dX5_put_13 : decode cX5_put 13 = .ok (.getfield 29, 3) := by decide +kernel
theorem dX5_put_16 : decode cX5_put 16 = .ok (.getfield 113, 3) := by decide +kernel
theorem dX5_put_19 : decode cX5_put 19 = .ok (.iload_n 3, 1) := by decide +kernel
theorem dX5_put_20 : decode cX5_put 20 = .ok (.iadd, 1) := by decide +kernel
theorem dX5_put_21 : decode cX5_put 21 = .ok (.bipush 60, 2) := by decide +kernel
theorem dX5_put_23 : decode cX5_put 23 = .ok (.if_icmp .le 6, 3) := by decide +kernel
theorem dX5_put_26 : decode cX5_put 26 = .ok (.bipush (-4), 2) := by decide +kernel
theorem dX5_put_28 : decode cX5_put 28 = .ok (.ireturn, 1) := by decide +kernel
theorem dX5_put_29 : decode cX5_put 29 = .ok (.aload_n 0, 1) := by decide +kernel
theorem dX5_put_30 : decode cX5_put 30 = .ok (.getfield 29, 3) := by decide +kernel
theorem dX5_put_33 : decode cX5_put 33 = .ok (.lload_n 1, 1) := by decide +kernel
theorem dX5_put_34 : decode cX5_put 34 = .ok (.iload_n 3, 1) := by decide +kernel
theorem dX5_put_35 : decode cX5_put 35 = .ok (.invokevirtual 206, 3) := by decide +kernel
theorem dX5_put_38 : decode cX5_put 38 = .ok (.aload_n 0, 1) := by decide +kernel
theorem dX5_put_39 : decode cX5_put 39 = .ok (.getfield 29, 3) := by decide +kernel
theorem dX5_put_42 : decode cX5_put 42 = .ok (.getfield 113, 3) := by decide +kernel
theorem dX5_put_45 : decode cX5_put 45 = .ok (.ireturn, 1) := by decide +kernel
theorem dX5_wipe_0 : decode cX5_wipe 0 = .ok (.aload_n 0, 1) := by decide +kernel
theorem dX5_wipe_1 : decode cX5_wipe 1 = .ok (.getfield 29, 3) := by decide +kernel
theorem dX5_wipe_4 : decode cX5_wipe 4 = .ok (.getfield 113, 3) := by decide +kernel
theorem dX5_wipe_7 : decode cX5_wipe 7 = .ok (.istore_n 1, 1) := by decide +kernel
theorem dX5_wipe_8 : decode cX5_wipe 8 = .ok (.aload_n 0, 1) := by decide +kernel
theorem dX5_wipe_9 : decode cX5_wipe 9 = .ok (.getfield 29, 3) := by decide +kernel
theorem dX5_wipe_12 : decode cX5_wipe 12 = .ok (.iconst 0, 1) := by decide +kernel
theorem dX5_wipe_13 : decode cX5_wipe 13 = .ok (.putfield 113, 3) := by decide +kernel
theorem dX5_wipe_16 : decode cX5_wipe 16 = .ok (.iload_n 1, 1) := by decide +kernel
theorem dX5_wipe_17 : decode cX5_wipe 17 = .ok (.ireturn, 1) := by decide +kernel
theorem dX5_fault_0 : decode cX5_fault 0 = .ok (.aload_n 0, 1) := by decide +kernel
theorem dX5_fault_1 : decode cX5_fault 1 = .ok (.getfield 29, 3) := by decide +kernel
theorem dX5_fault_4 : decode cX5_fault 4 = .ok (.invokevirtual 96, 3) := by decide +kernel
theorem dX5_fault_7 : decode cX5_fault 7 = .ok (.ireturn, 1) := by decide +kernel
theorem dX5_undo_0 : decode cX5_undo 0 = .ok (.aload_n 0, 1) := by decide +kernel
theorem dX5_undo_1 : decode cX5_undo 1 = .ok (.getfield 36, 3) := by decide +kernel
theorem dX5_undo_4 : decode cX5_undo 4 = .ok (.aload_n 0, 1) := by decide +kernel
theorem dX5_undo_5 : decode cX5_undo 5 = .ok (.getfield 12, 3) := by decide +kernel
theorem dX5_undo_8 : decode cX5_undo 8 = .ok (.invokevirtual 210, 3) := by decide +kernel
theorem dX5_undo_11 : decode cX5_undo 11 = .ok (.ifCond .ne 6, 3) := by decide +kernel
theorem dX5_undo_14 : decode cX5_undo 14 = .ok (.bipush (-5), 2) := by decide +kernel
theorem dX5_undo_16 : decode cX5_undo 16 = .ok (.ireturn, 1) := by decide +kernel
theorem dX5_undo_17 : decode cX5_undo 17 = .ok (.aload_n 0, 1) := by decide +kernel
theorem dX5_undo_18 : decode cX5_undo 18 = .ok (.getfield 36, 3) := by decide +kernel
theorem dX5_undo_21 : decode cX5_undo 21 = .ok (.getfield 180, 3) := by decide +kernel
theorem dX5_undo_24 : decode cX5_undo 24 = .ok (.ireturn, 1) := by decide +kernel
theorem dX5_save_0 : decode cX5_save 0 = .ok (.iload_n 1, 1) := by decide +kernel
theorem dX5_save_1 : decode cX5_save 1 = .ok (.ifCond .lt 8, 3) := by decide +kernel
theorem dX5_save_4 : decode cX5_save 4 = .ok (.iload_n 1, 1) := by decide +kernel
theorem dX5_save_5 : decode cX5_save 5 = .ok (.iconst 2, 1) := by decide +kernel
theorem dX5_save_6 : decode cX5_save 6 = .ok (.if_icmp .lt 6, 3) := by decide +kernel
theorem dX5_save_9 : decode cX5_save 9 = .ok (.bipush (-2), 2) := by decide +kernel
theorem dX5_save_11 : decode cX5_save 11 = .ok (.ireturn, 1) := by decide +kernel
theorem dX5_save_12 : decode cX5_save 12 = .ok (.aload_n 0, 1) := by decide +kernel
theorem dX5_save_13 : decode cX5_save 13 = .ok (.getfield 40, 3) := by decide +kernel
theorem dX5_save_16 : decode cX5_save 16 = .ok (.iload_n 1, 1) := by decide +kernel
theorem dX5_save_17 : decode cX5_save 17 = .ok (.aaload, 1) := by decide +kernel
theorem dX5_save_18 : decode cX5_save 18 = .ok (.astore_n 2, 1) := by decide +kernel
theorem dX5_save_19 : decode cX5_save 19 = .ok (.aload_n 2, 1) := by decide +kernel
theorem dX5_save_20 : decode cX5_save 20 = .ok (.ifnonnull 18, 3) := by decide +kernel
theorem dX5_save_23 : decode cX5_save 23 = .ok (.new 9, 3) := by decide +kernel
theorem dX5_save_26 : decode cX5_save 26 = .ok (.dup, 1) := by decide +kernel
theorem dX5_save_27 : decode cX5_save 27 = .ok (.invokespecial 11, 3) := by decide +kernel
theorem dX5_save_30 : decode cX5_save 30 = .ok (.astore_n 2, 1) := by decide +kernel
theorem dX5_save_31 : decode cX5_save 31 = .ok (.aload_n 0, 1) := by decide +kernel
theorem dX5_save_32 : decode cX5_save 32 = .ok (.getfield 40, 3) := by decide +kernel
theorem dX5_save_35 : decode cX5_save 35 = .ok (.iload_n 1, 1) := by decide +kernel
theorem dX5_save_36 : decode cX5_save 36 = .ok (.aload_n 2, 1) := by decide +kernel
theorem dX5_save_37 : decode cX5_save 37 = .ok (.aastore, 1) := by decide +kernel
theorem dX5_save_38 : decode cX5_save 38 = .ok (.aload_n 2, 1) := by decide +kernel
theorem dX5_save_39 : decode cX5_save 39 = .ok (.aload_n 0, 1) := by decide +kernel
theorem dX5_save_40 : decode cX5_save 40 = .ok (.getfield 12, 3) := by decide +kernel
theorem dX5_save_43 : decode cX5_save 43 = .ok (.invokevirtual 199, 3) := by decide +kernel
theorem dX5_save_46 : decode cX5_save 46 = .ok (.aload_n 0, 1) := by decide +kernel
theorem dX5_save_47 : decode cX5_save 47 = .ok (.getfield 12, 3) := by decide +kernel
theorem dX5_save_50 : decode cX5_save 50 = .ok (.getfield 131, 3) := by decide +kernel
theorem dX5_save_53 : decode cX5_save 53 = .ok (.ireturn, 1) := by decide +kernel
theorem dX5_restore_0 : decode cX5_restore 0 = .ok (.iload_n 1, 1) := by decide +kernel
theorem dX5_restore_1 : decode cX5_restore 1 = .ok (.ifCond .lt 8, 3) := by decide +kernel
theorem dX5_restore_4 : decode cX5_restore 4 = .ok (.iload_n 1, 1) := by decide +kernel
theorem dX5_restore_5 : decode cX5_restore 5 = .ok (.iconst 2, 1) := by decide +kernel
theorem dX5_restore_6 : decode cX5_restore 6 = .ok (.if_icmp .lt 6, 3) := by decide +kernel
theorem dX5_restore_9 : decode cX5_restore 9 = .ok (.bipush (-2), 2) := by decide +kernel
theorem dX5_restore_11 : decode cX5_restore 11 = .ok (.ireturn, 1) := by decide +kernel
theorem dX5_restore_12 : decode cX5_restore 12 = .ok (.aload_n 0, 1) := by decide +kernel
theorem dX5_restore_13 : decode cX5_restore 13 = .ok (.getfield 40, 3) := by decide +kernel
theorem dX5_restore_16 : decode cX5_restore 16 = .ok (.iload_n 1, 1) := by decide +kernel
theorem dX5_restore_17 : decode cX5_restore 17 = .ok (.aaload, 1) := by decide +kernel
theorem dX5_restore_18 : decode cX5_restore 18 = .ok (.astore_n 2, 1) := by decide +kernel
theorem dX5_restore_19 : decode cX5_restore 19 = .ok (.aload_n 2, 1) := by decide +kernel
theorem dX5_restore_20 : decode cX5_restore 20 = .ok (.ifnonnull 6, 3) := by decide +kernel
theorem dX5_restore_23 : decode cX5_restore 23 = .ok (.bipush (-5), 2) := by decide +kernel
theorem dX5_restore_25 : decode cX5_restore 25 = .ok (.ireturn, 1) := by decide +kernel
theorem dX5_restore_26 : decode cX5_restore 26 = .ok (.aload_n 0, 1) := by decide +kernel
theorem dX5_restore_27 : decode cX5_restore 27 = .ok (.getfield 36, 3) := by decide +kernel
theorem dX5_restore_30 : decode cX5_restore 30 = .ok (.aload_n 0, 1) := by decide +kernel
theorem dX5_restore_31 : decode cX5_restore 31 = .ok (.getfield 12, 3) := by decide +kernel
theorem dX5_restore_34 : decode cX5_restore 34 = .ok (.invokevirtual 51, 3) := by decide +kernel
theorem dX5_restore_37 : decode cX5_restore 37 = .ok (.aload_n 0, 1) := by decide +kernel
theorem dX5_restore_38 : decode cX5_restore 38 = .ok (.getfield 12, 3) := by decide +kernel
theorem dX5_restore_41 : decode cX5_restore 41 = .ok (.aload_n 2, 1) := by decide +kernel
theorem dX5_restore_42 : decode cX5_restore 42 = .ok (.invokevirtual 199, 3) := by decide +kernel
theorem dX5_restore_45 : decode cX5_restore 45 = .ok (.aload_n 0, 1) := by decide +kernel
theorem dX5_restore_46 : decode cX5_restore 46 = .ok (.getfield 12, 3) := by decide +kernel
theorem dX5_restore_49 : decode cX5_restore 49 = .ok (.getfield 131, 3) := by decide +kernel
theorem dX5_restore_52 : decode cX5_restore 52 = .ok (.ireturn, 1) := by decide +kernel
theorem dX5_isNoPiece_0 : decode cX5_isNoPiece 0 = .ok (.iload_n 0, 1) := by decide +kernel
theorem dX5_isNoPiece_1 : decode cX5_isNoPiece 1 = .ok (.ifCond .lt 9, 3) := by decide +kernel
theorem dX5_isNoPiece_4 : decode cX5_isNoPiece 4 = .ok (.iload_n 0, 1) := by decide +kernel
theorem dX5_isNoPiece_5 : decode cX5_isNoPiece 5 = .ok (.bipush 12, 2) := by decide +kernel
theorem dX5_isNoPiece_7 : decode cX5_isNoPiece 7 = .ok (.if_icmp .lt 7, 3) := by decide +kernel
theorem dX5_isNoPiece_10 : decode cX5_isNoPiece 10 = .ok (.iconst 1, 1) := by decide +kernel
theorem dX5_isNoPiece_11 : decode cX5_isNoPiece 11 = .ok (.goto 4, 3) := by decide +kernel
theorem dX5_isNoPiece_14 : decode cX5_isNoPiece 14 = .ok (.iconst 0, 1) := by decide +kernel
theorem dX5_isNoPiece_15 : decode cX5_isNoPiece 15 = .ok (.ireturn, 1) := by decide +kernel
theorem dX5_isOnRing_0 : decode cX5_isOnRing 0 = .ok (.iload_n 0, 1) := by decide +kernel
theorem dX5_isOnRing_1 : decode cX5_isOnRing 1 = .ok (.ifCond .lt 13, 3) := by decide +kernel
theorem dX5_isOnRing_4 : decode cX5_isOnRing 4 = .ok (.iload_n 0, 1) := by decide +kernel
theorem dX5_isOnRing_5 : decode cX5_isOnRing 5 = .ok (.bipush 32, 2) := by decide +kernel
theorem dX5_isOnRing_7 : decode cX5_isOnRing 7 = .ok (.if_icmp .ge 7, 3) := by decide +kernel
theorem dX5_isOnRing_10 : decode cX5_isOnRing 10 = .ok (.iconst 1, 1) := by decide +kernel
theorem dX5_isOnRing_11 : decode cX5_isOnRing 11 = .ok (.goto 4, 3) := by decide +kernel
theorem dX5_isOnRing_14 : decode cX5_isOnRing 14 = .ok (.iconst 0, 1) := by decide +kernel
theorem dX5_isOnRing_15 : decode cX5_isOnRing 15 = .ok (.ireturn, 1) := by decide +kernel
theorem dX5_isSafe_0 : decode cX5_isSafe 0 = .ok (.iload_n 0, 1) := by decide +kernel
theorem dX5_isSafe_1 : decode cX5_isSafe 1 = .ok (.ifCond .lt 14, 3) := by decide +kernel
theorem dX5_isSafe_4 : decode cX5_isSafe 4 = .ok (.iload_n 0, 1) := by decide +kernel
theorem dX5_isSafe_5 : decode cX5_isSafe 5 = .ok (.bipush 8, 2) := by decide +kernel
theorem dX5_isSafe_7 : decode cX5_isSafe 7 = .ok (.irem, 1) := by decide +kernel
theorem dX5_isSafe_8 : decode cX5_isSafe 8 = .ok (.ifCond .ne 7, 3) := by decide +kernel
theorem dX5_isSafe_11 : decode cX5_isSafe 11 = .ok (.iconst 1, 1) := by decide +kernel
theorem dX5_isSafe_12 : decode cX5_isSafe 12 = .ok (.goto 4, 3) := by decide +kernel
theorem dX5_isSafe_15 : decode cX5_isSafe 15 = .ok (.iconst 0, 1) := by decide +kernel
theorem dX5_isSafe_16 : decode cX5_isSafe 16 = .ok (.ireturn, 1) := by decide +kernel
theorem dX5_bridgeOn_0 : decode cX5_bridgeOn 0 = .ok (.iload_n 0, 1) := by decide +kernel
theorem dX5_bridgeOn_1 : decode cX5_bridgeOn 1 = .ok (.ifCond .lt 24, 3) := by decide +kernel
theorem dX5_bridgeOn_4 : decode cX5_bridgeOn 4 = .ok (.iload_n 0, 1) := by decide +kernel
theorem dX5_bridgeOn_5 : decode cX5_bridgeOn 5 = .ok (.bipush 32, 2) := by decide +kernel
theorem dX5_bridgeOn_7 : decode cX5_bridgeOn 7 = .ok (.if_icmp .ge 18, 3) := by decide +kernel
theorem dX5_bridgeOn_10 : decode cX5_bridgeOn 10 = .ok (.iload_n 0, 1) := by decide +kernel
theorem dX5_bridgeOn_11 : decode cX5_bridgeOn 11 = .ok (.bipush 8, 2) := by decide +kernel
theorem dX5_bridgeOn_13 : decode cX5_bridgeOn 13 = .ok (.irem, 1) := by decide +kernel
theorem dX5_bridgeOn_14 : decode cX5_bridgeOn 14 = .ok (.iconst 4, 1) := by decide +kernel
theorem dX5_bridgeOn_15 : decode cX5_bridgeOn 15 = .ok (.if_icmp .ne 10, 3) := by decide +kernel
theorem dX5_bridgeOn_18 : decode cX5_bridgeOn 18 = .ok (.iload_n 0, 1) := by decide +kernel
theorem dX5_bridgeOn_19 : decode cX5_bridgeOn 19 = .ok (.bipush 8, 2) := by decide +kernel
theorem dX5_bridgeOn_21 : decode cX5_bridgeOn 21 = .ok (.idiv, 1) := by decide +kernel
theorem dX5_bridgeOn_22 : decode cX5_bridgeOn 22 = .ok (.goto 5, 3) := by decide +kernel
theorem dX5_bridgeOn_25 : decode cX5_bridgeOn 25 = .ok (.bipush (-6), 2) := by decide +kernel
theorem dX5_bridgeOn_27 : decode cX5_bridgeOn 27 = .ok (.ireturn, 1) := by decide +kernel
theorem dX5_ringField_0 : decode cX5_ringField 0 = .ok (.iload_n 1, 1) := by decide +kernel
theorem dX5_ringField_1 : decode cX5_ringField 1 = .ok (.ifCond .lt 21, 3) := by decide +kernel
theorem dX5_ringField_4 : decode cX5_ringField 4 = .ok (.iload_n 1, 1) := by decide +kernel
theorem dX5_ringField_5 : decode cX5_ringField 5 = .ok (.bipush 32, 2) := by decide +kernel
theorem dX5_ringField_7 : decode cX5_ringField 7 = .ok (.if_icmp .ge 15, 3) := by decide +kernel
theorem dX5_ringField_10 : decode cX5_ringField 10 = .ok (.bipush 8, 2) := by decide +kernel
theorem dX5_ringField_12 : decode cX5_ringField 12 = .ok (.iload_n 0, 1) := by decide +kernel
theorem dX5_ringField_13 : decode cX5_ringField 13 = .ok (.imul, 1) := by decide +kernel
theorem dX5_ringField_14 : decode cX5_ringField 14 = .ok (.iload_n 1, 1) := by decide +kernel
theorem dX5_ringField_15 : decode cX5_ringField 15 = .ok (.iadd, 1) := by decide +kernel
theorem dX5_ringField_16 : decode cX5_ringField 16 = .ok (.bipush 32, 2) := by decide +kernel
theorem dX5_ringField_18 : decode cX5_ringField 18 = .ok (.irem, 1) := by decide +kernel
theorem dX5_ringField_19 : decode cX5_ringField 19 = .ok (.goto 5, 3) := by decide +kernel
theorem dX5_ringField_22 : decode cX5_ringField 22 = .ok (.bipush (-6), 2) := by decide +kernel
theorem dX5_ringField_24 : decode cX5_ringField 24 = .ok (.ireturn, 1) := by decide +kernel
theorem dX5_nextX_0 : decode cX5_nextX 0 = .ok (.iload_n 0, 1) := by decide +kernel
theorem dX5_nextX_1 : decode cX5_nextX 1 = .ok (.i2l, 1) := by decide +kernel
theorem dX5_nextX_2 : decode cX5_nextX 2 = .ok (.ldc2_w 214, 3) := by decide +kernel
theorem dX5_nextX_5 : decode cX5_nextX 5 = .ok (.lmul, 1) := by decide +kernel
theorem dX5_nextX_6 : decode cX5_nextX 6 = .ok (.ldc2_w 216, 3) := by decide +kernel
theorem dX5_nextX_9 : decode cX5_nextX 9 = .ok (.ladd, 1) := by decide +kernel
theorem dX5_nextX_10 : decode cX5_nextX 10 = .ok (.ldc2_w 218, 3) := by decide +kernel
theorem dX5_nextX_13 : decode cX5_nextX 13 = .ok (.lrem, 1) := by decide +kernel
theorem dX5_nextX_14 : decode cX5_nextX 14 = .ok (.l2i, 1) := by decide +kernel
theorem dX5_nextX_15 : decode cX5_nextX 15 = .ok (.ireturn, 1) := by decide +kernel
theorem dX5_castOf_0 : decode cX5_castOf 0 = .ok (.iconst 1, 1) := by decide +kernel
theorem dX5_castOf_1 : decode cX5_castOf 1 = .ok (.iload_n 0, 1) := by decide +kernel
theorem dX5_castOf_2 : decode cX5_castOf 2 = .ok (.ldc 220, 2) := by decide +kernel
theorem dX5_castOf_4 : decode cX5_castOf 4 = .ok (.idiv, 1) := by decide +kernel
theorem dX5_castOf_5 : decode cX5_castOf 5 = .ok (.bipush 6, 2) := by decide +kernel
theorem dX5_castOf_7 : decode cX5_castOf 7 = .ok (.irem, 1) := by decide +kernel
theorem dX5_castOf_8 : decode cX5_castOf 8 = .ok (.iadd, 1) := by decide +kernel
theorem dX5_castOf_9 : decode cX5_castOf 9 = .ok (.ireturn, 1) := by decide +kernel
theorem dX5_lengthOf_0 : decode cX5_lengthOf 0 = .ok (.lload_n 0, 1) := by decide +kernel
theorem dX5_lengthOf_1 : decode cX5_lengthOf 1 = .ok (.lstore_n 2, 1) := by decide +kernel
theorem dX5_lengthOf_2 : decode cX5_lengthOf 2 = .ok (.iconst 0, 1) := by decide +kernel
theorem dX5_lengthOf_3 : decode cX5_lengthOf 3 = .ok (.istore 4, 2) := by decide +kernel
theorem dX5_lengthOf_5 : decode cX5_lengthOf 5 = .ok (.iload 4, 2) := by decide +kernel
theorem dX5_lengthOf_7 : decode cX5_lengthOf 7 = .ok (.bipush 8, 2) := by decide +kernel
theorem dX5_lengthOf_9 : decode cX5_lengthOf 9 = .ok (.if_icmp .ge 51, 3) := by decide +kernel
theorem dX5_lengthOf_12 : decode cX5_lengthOf 12 = .ok (.lload_n 2, 1) := by decide +kernel
theorem dX5_lengthOf_13 : decode cX5_lengthOf 13 = .ok (.ldc2_w 221, 3) := by decide +kernel
theorem dX5_lengthOf_16 : decode cX5_lengthOf 16 = .ok (.land, 1) := by decide +kernel
theorem dX5_lengthOf_17 : decode cX5_lengthOf 17 = .ok (.lconst 0, 1) := by decide +kernel
theorem dX5_lengthOf_18 : decode cX5_lengthOf 18 = .ok (.lcmp, 1) := by decide +kernel
theorem dX5_lengthOf_19 : decode cX5_lengthOf 19 = .ok (.ifCond .eq 41, 3) := by decide +kernel
theorem dX5_lengthOf_22 : decode cX5_lengthOf 22 = .ok (.lload_n 2, 1) := by decide +kernel
theorem dX5_lengthOf_23 : decode cX5_lengthOf 23 = .ok (.ldc2_w 221, 3) := by decide +kernel
theorem dX5_lengthOf_26 : decode cX5_lengthOf 26 = .ok (.land, 1) := by decide +kernel
theorem dX5_lengthOf_27 : decode cX5_lengthOf 27 = .ok (.lstore 5, 2) := by decide +kernel
theorem dX5_lengthOf_29 : decode cX5_lengthOf 29 = .ok (.lload 5, 2) := by decide +kernel
theorem dX5_lengthOf_31 : decode cX5_lengthOf 31 = .ok (.ldc2_w 223, 3) := by decide +kernel
theorem dX5_lengthOf_34 : decode cX5_lengthOf 34 = .ok (.lcmp, 1) := by decide +kernel
theorem dX5_lengthOf_35 : decode cX5_lengthOf 35 = .ok (.ifCond .lt 12, 3) := by decide +kernel
theorem dX5_lengthOf_38 : decode cX5_lengthOf 38 = .ok (.lload 5, 2) := by decide +kernel
theorem dX5_lengthOf_40 : decode cX5_lengthOf 40 = .ok (.ldc2_w 225, 3) := by decide +kernel
theorem dX5_lengthOf_43 : decode cX5_lengthOf 43 = .ok (.lcmp, 1) := by decide +kernel
theorem dX5_lengthOf_44 : decode cX5_lengthOf 44 = .ok (.ifCond .le 5, 3) := by decide +kernel
theorem dX5_lengthOf_47 : decode cX5_lengthOf 47 = .ok (.iconst 0, 1) := by decide +kernel
theorem dX5_lengthOf_48 : decode cX5_lengthOf 48 = .ok (.ireturn, 1) := by decide +kernel
theorem dX5_lengthOf_49 : decode cX5_lengthOf 49 = .ok (.lload_n 2, 1) := by decide +kernel
theorem dX5_lengthOf_50 : decode cX5_lengthOf 50 = .ok (.bipush 8, 2) := by decide +kernel
theorem dX5_lengthOf_52 : decode cX5_lengthOf 52 = .ok (.lushr, 1) := by decide +kernel
theorem dX5_lengthOf_53 : decode cX5_lengthOf 53 = .ok (.lstore_n 2, 1) := by decide +kernel
theorem dX5_lengthOf_54 : decode cX5_lengthOf 54 = .ok (.iinc 4 1, 3) := by decide +kernel
theorem dX5_lengthOf_57 : decode cX5_lengthOf 57 = .ok (.goto (-52), 3) := by decide +kernel
theorem dX5_lengthOf_60 : decode cX5_lengthOf 60 = .ok (.lload_n 2, 1) := by decide +kernel
theorem dX5_lengthOf_61 : decode cX5_lengthOf 61 = .ok (.lconst 0, 1) := by decide +kernel
theorem dX5_lengthOf_62 : decode cX5_lengthOf 62 = .ok (.lcmp, 1) := by decide +kernel
theorem dX5_lengthOf_63 : decode cX5_lengthOf 63 = .ok (.ifCond .ne 8, 3) := by decide +kernel
theorem dX5_lengthOf_66 : decode cX5_lengthOf 66 = .ok (.iload 4, 2) := by decide +kernel
theorem dX5_lengthOf_68 : decode cX5_lengthOf 68 = .ok (.goto 4, 3) := by decide +kernel
theorem dX5_lengthOf_71 : decode cX5_lengthOf 71 = .ok (.iconst 0, 1) := by decide +kernel
theorem dX5_lengthOf_72 : decode cX5_lengthOf 72 = .ok (.ireturn, 1) := by decide +kernel
theorem dX6_init_0 : decode cX6_init 0 = .ok (.aload_n 0, 1) := by decide +kernel
theorem dX6_init_1 : decode cX6_init 1 = .ok (.invokespecial 1, 3) := by decide +kernel
theorem dX6_init_4 : decode cX6_init 4 = .ok (.aload_n 0, 1) := by decide +kernel
theorem dX6_init_5 : decode cX6_init 5 = .ok (.bipush 46, 2) := by decide +kernel
theorem dX6_init_7 : decode cX6_init 7 = .ok (.newarray .int, 2) := by decide +kernel
theorem dX6_init_9 : decode cX6_init 9 = .ok (.putfield 7, 3) := by decide +kernel
theorem dX6_init_12 : decode cX6_init 12 = .ok (.aload_n 0, 1) := by decide +kernel
theorem dX6_init_13 : decode cX6_init 13 = .ok (.bipush 46, 2) := by decide +kernel
theorem dX6_init_15 : decode cX6_init 15 = .ok (.newarray .int, 2) := by decide +kernel
theorem dX6_init_17 : decode cX6_init 17 = .ok (.putfield 13, 3) := by decide +kernel
theorem dX6_init_20 : decode cX6_init 20 = .ok (.aload_n 0, 1) := by decide +kernel
theorem dX6_init_21 : decode cX6_init 21 = .ok (.sipush 276, 3) := by decide +kernel
theorem dX6_init_24 : decode cX6_init 24 = .ok (.newarray .int, 2) := by decide +kernel
theorem dX6_init_26 : decode cX6_init 26 = .ok (.putfield 16, 3) := by decide +kernel
theorem dX6_init_29 : decode cX6_init 29 = .ok (.aload_n 0, 1) := by decide +kernel
theorem dX6_init_30 : decode cX6_init 30 = .ok (.bipush 92, 2) := by decide +kernel
theorem dX6_init_32 : decode cX6_init 32 = .ok (.newarray .int, 2) := by decide +kernel
theorem dX6_init_34 : decode cX6_init 34 = .ok (.putfield 19, 3) := by decide +kernel
theorem dX6_init_37 : decode cX6_init 37 = .ok (.aload_n 0, 1) := by decide +kernel
theorem dX6_init_38 : decode cX6_init 38 = .ok (.iconst 2, 1) := by decide +kernel
theorem dX6_init_39 : decode cX6_init 39 = .ok (.newarray .boolean, 2) := by decide +kernel
theorem dX6_init_41 : decode cX6_init 41 = .ok (.putfield 22, 3) := by decide +kernel
theorem dX6_init_44 : decode cX6_init 44 = .ok (.aload_n 0, 1) := by decide +kernel
theorem dX6_init_45 : decode cX6_init 45 = .ok (.bipush 60, 2) := by decide +kernel
theorem dX6_init_47 : decode cX6_init 47 = .ok (.newarray .int, 2) := by decide +kernel
theorem dX6_init_49 : decode cX6_init 49 = .ok (.putfield 26, 3) := by decide +kernel
theorem dX6_init_52 : decode cX6_init 52 = .ok (.aload_n 0, 1) := by decide +kernel
theorem dX6_init_53 : decode cX6_init 53 = .ok (.bipush 36, 2) := by decide +kernel
theorem dX6_init_55 : decode cX6_init 55 = .ok (.newarray .int, 2) := by decide +kernel
theorem dX6_init_57 : decode cX6_init 57 = .ok (.putfield 29, 3) := by decide +kernel
theorem dX6_init_60 : decode cX6_init 60 = .ok (.iconst 0, 1) := by decide +kernel
theorem dX6_init_61 : decode cX6_init 61 = .ok (.istore_n 1, 1) := by decide +kernel
theorem dX6_init_62 : decode cX6_init 62 = .ok (.iload_n 1, 1) := by decide +kernel
theorem dX6_init_63 : decode cX6_init 63 = .ok (.bipush 12, 2) := by decide +kernel
theorem dX6_init_65 : decode cX6_init 65 = .ok (.if_icmp .ge 17, 3) := by decide +kernel
theorem dX6_init_68 : decode cX6_init 68 = .ok (.aload_n 0, 1) := by decide +kernel
theorem dX6_init_69 : decode cX6_init 69 = .ok (.getfield 7, 3) := by decide +kernel
theorem dX6_init_72 : decode cX6_init 72 = .ok (.iload_n 1, 1) := by decide +kernel
theorem dX6_init_73 : decode cX6_init 73 = .ok (.bipush (-6), 2) := by decide +kernel
theorem dX6_init_75 : decode cX6_init 75 = .ok (.iastore, 1) := by decide +kernel
theorem dX6_init_76 : decode cX6_init 76 = .ok (.iinc 1 1, 3) := by decide +kernel
theorem dX6_init_79 : decode cX6_init 79 = .ok (.goto (-17), 3) := by decide +kernel
theorem dX6_init_82 : decode cX6_init 82 = .ok (.aload_n 0, 1) := by decide +kernel
theorem dX6_init_83 : decode cX6_init 83 = .ok (.getfield 7, 3) := by decide +kernel
theorem dX6_init_86 : decode cX6_init 86 = .ok (.bipush 36, 2) := by decide +kernel
theorem dX6_init_88 : decode cX6_init 88 = .ok (.iconst 5, 1) := by decide +kernel
theorem dX6_init_89 : decode cX6_init 89 = .ok (.iastore, 1) := by decide +kernel
theorem dX6_init_90 : decode cX6_init 90 = .ok (.aload_n 0, 1) := by decide +kernel
theorem dX6_init_91 : decode cX6_init 91 = .ok (.getfield 7, 3) := by decide +kernel
theorem dX6_init_94 : decode cX6_init 94 = .ok (.bipush 38, 2) := by decide +kernel
theorem dX6_init_96 : decode cX6_init 96 = .ok (.iconst 1, 1) := by decide +kernel
theorem dX6_init_97 : decode cX6_init 97 = .ok (.iastore, 1) := by decide +kernel
theorem dX6_init_98 : decode cX6_init 98 = .ok (.aload_n 0, 1) := by decide +kernel
theorem dX6_init_99 : decode cX6_init 99 = .ok (.getfield 7, 3) := by decide +kernel
theorem dX6_init_102 : decode cX6_init 102 = .ok (.bipush 39, 2) := by decide +kernel
theorem dX6_init_104 : decode cX6_init 104 = .ok (.iconst 1, 1) := by decide +kernel
theorem dX6_init_105 : decode cX6_init 105 = .ok (.iastore, 1) := by decide +kernel
theorem dX6_init_106 : decode cX6_init 106 = .ok (.aload_n 0, 1) := by decide +kernel
theorem dX6_init_107 : decode cX6_init 107 = .ok (.getfield 7, 3) := by decide +kernel
theorem dX6_init_110 : decode cX6_init 110 = .ok (.bipush 41, 2) := by decide +kernel
theorem dX6_init_112 : decode cX6_init 112 = .ok (.bipush (-6), 2) := by decide +kernel
theorem dX6_init_114 : decode cX6_init 114 = .ok (.iastore, 1) := by decide +kernel
theorem dX6_init_115 : decode cX6_init 115 = .ok (.aload_n 0, 1) := by decide +kernel
theorem dX6_init_116 : decode cX6_init 116 = .ok (.getfield 7, 3) := by decide +kernel
theorem dX6_init_119 : decode cX6_init 119 = .ok (.bipush 42, 2) := by decide +kernel
theorem dX6_init_121 : decode cX6_init 121 = .ok (.iconst 1, 1) := by decide +kernel
theorem dX6_init_122 : decode cX6_init 122 = .ok (.iastore, 1) := by decide +kernel
theorem dX6_init_123 : decode cX6_init 123 = .ok (.return_, 1) := by decide +kernel
theorem dX6_in_0 : decode cX6_in 0 = .ok (.iload_n 0, 1) := by decide +kernel
theorem dX6_in_1 : decode cX6_in 1 = .ok (.iload_n 1, 1) := by decide +kernel
theorem dX6_in_2 : decode cX6_in 2 = .ok (.if_icmp .lt 12, 3) := by decide +kernel
theorem dX6_in_5 : decode cX6_in 5 = .ok (.iload_n 0, 1) := by decide +kernel
theorem dX6_in_6 : decode cX6_in 6 = .ok (.iload_n 2, 1) := by decide +kernel
theorem dX6_in_7 : decode cX6_in 7 = .ok (.if_icmp .gt 7, 3) := by decide +kernel
theorem dX6_in_10 : decode cX6_in 10 = .ok (.iconst 1, 1) := by decide +kernel
theorem dX6_in_11 : decode cX6_in 11 = .ok (.goto 4, 3) := by decide +kernel
theorem dX6_in_14 : decode cX6_in 14 = .ok (.iconst 0, 1) := by decide +kernel
theorem dX6_in_15 : decode cX6_in 15 = .ok (.ireturn, 1) := by decide +kernel
theorem dX6_isPiece_0 : decode cX6_isPiece 0 = .ok (.iload_n 0, 1) := by decide +kernel
theorem dX6_isPiece_1 : decode cX6_isPiece 1 = .ok (.iconst 0, 1) := by decide +kernel
theorem dX6_isPiece_2 : decode cX6_isPiece 2 = .ok (.bipush 11, 2) := by decide +kernel
theorem dX6_isPiece_4 : decode cX6_isPiece 4 = .ok (.invokestatic 32, 3) := by decide +kernel
theorem dX6_isPiece_7 : decode cX6_isPiece 7 = .ok (.ireturn, 1) := by decide +kernel
theorem dX6_fieldAt_0 : decode cX6_fieldAt 0 = .ok (.iload_n 1, 1) := by decide +kernel
theorem dX6_fieldAt_1 : decode cX6_fieldAt 1 = .ok (.iconst 0, 1) := by decide +kernel
theorem dX6_fieldAt_2 : decode cX6_fieldAt 2 = .ok (.bipush 31, 2) := by decide +kernel
theorem dX6_fieldAt_4 : decode cX6_fieldAt 4 = .ok (.invokestatic 32, 3) := by decide +kernel
theorem dX6_fieldAt_7 : decode cX6_fieldAt 7 = .ok (.ifCond .eq 15, 3) := by decide +kernel
theorem dX6_fieldAt_10 : decode cX6_fieldAt 10 = .ok (.bipush 8, 2) := by decide +kernel
theorem dX6_fieldAt_12 : decode cX6_fieldAt 12 = .ok (.iload_n 0, 1) := by decide +kernel
theorem dX6_fieldAt_13 : decode cX6_fieldAt 13 = .ok (.imul, 1) := by decide +kernel
theorem dX6_fieldAt_14 : decode cX6_fieldAt 14 = .ok (.iload_n 1, 1) := by decide +kernel
theorem dX6_fieldAt_15 : decode cX6_fieldAt 15 = .ok (.iadd, 1) := by decide +kernel
theorem dX6_fieldAt_16 : decode cX6_fieldAt 16 = .ok (.bipush 32, 2) := by decide +kernel
theorem dX6_fieldAt_18 : decode cX6_fieldAt 18 = .ok (.irem, 1) := by decide +kernel
theorem dX6_fieldAt_19 : decode cX6_fieldAt 19 = .ok (.goto 5, 3) := by decide +kernel
theorem dX6_fieldAt_22 : decode cX6_fieldAt 22 = .ok (.bipush (-6), 2) := by decide +kernel
theorem dX6_fieldAt_24 : decode cX6_fieldAt 24 = .ok (.ireturn, 1) := by decide +kernel
theorem dX6_fieldOf_0 : decode cX6_fieldOf 0 = .ok (.iload_n 1, 1) := by decide +kernel
theorem dX6_fieldOf_1 : decode cX6_fieldOf 1 = .ok (.iconst 3, 1) := by decide +kernel
theorem dX6_fieldOf_2 : decode cX6_fieldOf 2 = .ok (.idiv, 1) := by decide +kernel
theorem dX6_fieldOf_3 : decode cX6_fieldOf 3 = .ok (.aload_n 0, 1) := by decide +kernel
theorem dX6_fieldOf_4 : decode cX6_fieldOf 4 = .ok (.getfield 7, 3) := by decide +kernel
theorem dX6_fieldOf_7 : decode cX6_fieldOf 7 = .ok (.iload_n 1, 1) := by decide +kernel
theorem dX6_fieldOf_8 : decode cX6_fieldOf 8 = .ok (.iaload, 1) := by decide +kernel
theorem dX6_fieldOf_9 : decode cX6_fieldOf 9 = .ok (.invokestatic 36, 3) := by decide +kernel
theorem dX6_fieldOf_12 : decode cX6_fieldOf 12 = .ok (.ireturn, 1) := by decide +kernel
theorem dX6_isSafe_0 : decode cX6_isSafe 0 = .ok (.iload_n 0, 1) := by decide +kernel
theorem dX6_isSafe_1 : decode cX6_isSafe 1 = .ok (.bipush 8, 2) := by decide +kernel
theorem dX6_isSafe_3 : decode cX6_isSafe 3 = .ok (.irem, 1) := by decide +kernel
theorem dX6_isSafe_4 : decode cX6_isSafe 4 = .ok (.ifCond .ne 7, 3) := by decide +kernel
theorem dX6_isSafe_7 : decode cX6_isSafe 7 = .ok (.iconst 1, 1) := by decide +kernel
theorem dX6_isSafe_8 : decode cX6_isSafe 8 = .ok (.goto 4, 3) := by decide +kernel
theorem dX6_isSafe_11 : decode cX6_isSafe 11 = .ok (.iconst 0, 1) := by decide +kernel
theorem dX6_isSafe_12 : decode cX6_isSafe 12 = .ok (.ireturn, 1) := by decide +kernel
theorem dX6_isBridge_0 : decode cX6_isBridge 0 = .ok (.iload_n 0, 1) := by decide +kernel
theorem dX6_isBridge_1 : decode cX6_isBridge 1 = .ok (.bipush 8, 2) := by decide +kernel
theorem dX6_isBridge_3 : decode cX6_isBridge 3 = .ok (.irem, 1) := by decide +kernel
theorem dX6_isBridge_4 : decode cX6_isBridge 4 = .ok (.iconst 4, 1) := by decide +kernel
theorem dX6_isBridge_5 : decode cX6_isBridge 5 = .ok (.if_icmp .ne 7, 3) := by decide +kernel
theorem dX6_isBridge_8 : decode cX6_isBridge 8 = .ok (.iconst 1, 1) := by decide +kernel
theorem dX6_isBridge_9 : decode cX6_isBridge 9 = .ok (.goto 4, 3) := by decide +kernel
theorem dX6_isBridge_12 : decode cX6_isBridge 12 = .ok (.iconst 0, 1) := by decide +kernel
theorem dX6_isBridge_13 : decode cX6_isBridge 13 = .ok (.ireturn, 1) := by decide +kernel
theorem dX6_isFallen_0 : decode cX6_isFallen 0 = .ok (.iload_n 1, 1) := by decide +kernel
theorem dX6_isFallen_1 : decode cX6_isFallen 1 = .ok (.ifCond .lt 30, 3) := by decide +kernel
theorem dX6_isFallen_4 : decode cX6_isFallen 4 = .ok (.iload_n 1, 1) := by decide +kernel
theorem dX6_isFallen_5 : decode cX6_isFallen 5 = .ok (.invokestatic 40, 3) := by decide +kernel
theorem dX6_isFallen_8 : decode cX6_isFallen 8 = .ok (.ifCond .eq 23, 3) := by decide +kernel
theorem dX6_isFallen_11 : decode cX6_isFallen 11 = .ok (.aload_n 0, 1) := by decide +kernel
theorem dX6_isFallen_12 : decode cX6_isFallen 12 = .ok (.getfield 7, 3) := by decide +kernel
theorem dX6_isFallen_15 : decode cX6_isFallen 15 = .ok (.bipush 24, 2) := by decide +kernel
theorem dX6_isFallen_17 : decode cX6_isFallen 17 = .ok (.iload_n 1, 1) := by decide +kernel
theorem dX6_isFallen_18 : decode cX6_isFallen 18 = .ok (.bipush 8, 2) := by decide +kernel
theorem dX6_isFallen_20 : decode cX6_isFallen 20 = .ok (.idiv, 1) := by decide +kernel
theorem dX6_isFallen_21 : decode cX6_isFallen 21 = .ok (.iadd, 1) := by decide +kernel
theorem dX6_isFallen_22 : decode cX6_isFallen 22 = .ok (.iaload, 1) := by decide +kernel
theorem dX6_isFallen_23 : decode cX6_isFallen 23 = .ok (.iconst 1, 1) := by decide +kernel
theorem dX6_isFallen_24 : decode cX6_isFallen 24 = .ok (.if_icmp .ne 7, 3) := by decide +kernel
theorem dX6_isFallen_27 : decode cX6_isFallen 27 = .ok (.iconst 1, 1) := by decide +kernel
theorem dX6_isFallen_28 : decode cX6_isFallen 28 = .ok (.goto 4, 3) := by decide +kernel
theorem dX6_isFallen_31 : decode cX6_isFallen 31 = .ok (.iconst 0, 1) := by decide +kernel
theorem dX6_isFallen_32 : decode cX6_isFallen 32 = .ok (.ireturn, 1) := by decide +kernel
theorem dX6_piecesOn_0 : decode cX6_piecesOn 0 = .ok (.iconst 0, 1) := by decide +kernel
theorem dX6_piecesOn_1 : decode cX6_piecesOn 1 = .ok (.istore_n 3, 1) := by decide +kernel
theorem dX6_piecesOn_2 : decode cX6_piecesOn 2 = .ok (.iconst 0, 1) := by decide +kernel
theorem dX6_piecesOn_3 : decode cX6_piecesOn 3 = .ok (.istore 4, 2) := by decide +kernel
theorem dX6_piecesOn_5 : decode cX6_piecesOn 5 = .ok (.iload 4, 2) := by decide +kernel
theorem dX6_piecesOn_7 : decode cX6_piecesOn 7 = .ok (.iconst 3, 1) := by decide +kernel
theorem dX6_piecesOn_8 : decode cX6_piecesOn 8 = .ok (.if_icmp .ge 35, 3) := by decide +kernel
theorem dX6_piecesOn_11 : decode cX6_piecesOn 11 = .ok (.iload_n 3, 1) := by decide +kernel
theorem dX6_piecesOn_12 : decode cX6_piecesOn 12 = .ok (.iload_n 2, 1) := by decide +kernel
theorem dX6_piecesOn_13 : decode cX6_piecesOn 13 = .ok (.ifCond .lt 21, 3) := by decide +kernel
theorem dX6_piecesOn_16 : decode cX6_piecesOn 16 = .ok (.aload_n 0, 1) := by decide +kernel
theorem dX6_piecesOn_17 : decode cX6_piecesOn 17 = .ok (.iconst 3, 1) := by decide +kernel
theorem dX6_piecesOn_18 : decode cX6_piecesOn 18 = .ok (.iload_n 1, 1) := by decide +kernel
theorem dX6_piecesOn_19 : decode cX6_piecesOn 19 = .ok (.imul, 1) := by decide +kernel
theorem dX6_piecesOn_20 : decode cX6_piecesOn 20 = .ok (.iload 4, 2) := by decide +kernel
theorem dX6_piecesOn_22 : decode cX6_piecesOn 22 = .ok (.iadd, 1) := by decide +kernel
theorem dX6_piecesOn_23 : decode cX6_piecesOn 23 = .ok (.invokevirtual 44, 3) := by decide +kernel
theorem dX6_piecesOn_26 : decode cX6_piecesOn 26 = .ok (.iload_n 2, 1) := by decide +kernel
theorem dX6_piecesOn_27 : decode cX6_piecesOn 27 = .ok (.if_icmp .ne 7, 3) := by decide +kernel
theorem dX6_piecesOn_30 : decode cX6_piecesOn 30 = .ok (.iconst 1, 1) := by decide +kernel
theorem dX6_piecesOn_31 : decode cX6_piecesOn 31 = .ok (.goto 4, 3) := by decide +kernel
theorem dX6_piecesOn_34 : decode cX6_piecesOn 34 = .ok (.iconst 0, 1) := by decide +kernel
theorem dX6_piecesOn_35 : decode cX6_piecesOn 35 = .ok (.iadd, 1) := by decide +kernel
theorem dX6_piecesOn_36 : decode cX6_piecesOn 36 = .ok (.istore_n 3, 1) := by decide +kernel
theorem dX6_piecesOn_37 : decode cX6_piecesOn 37 = .ok (.iinc 4 1, 3) := by decide +kernel
theorem dX6_piecesOn_40 : decode cX6_piecesOn 40 = .ok (.goto (-35), 3) := by decide +kernel
theorem dX6_piecesOn_43 : decode cX6_piecesOn 43 = .ok (.iload_n 3, 1) := by decide +kernel
theorem dX6_piecesOn_44 : decode cX6_piecesOn 44 = .ok (.ireturn, 1) := by decide +kernel
theorem dX6_allOn_0 : decode cX6_allOn 0 = .ok (.iconst 0, 1) := by decide +kernel
theorem dX6_allOn_1 : decode cX6_allOn 1 = .ok (.istore_n 2, 1) := by decide +kernel
theorem dX6_allOn_2 : decode cX6_allOn 2 = .ok (.iconst 0, 1) := by decide +kernel
theorem dX6_allOn_3 : decode cX6_allOn 3 = .ok (.istore_n 3, 1) := by decide +kernel
theorem dX6_allOn_4 : decode cX6_allOn 4 = .ok (.iload_n 3, 1) := by decide +kernel
theorem dX6_allOn_5 : decode cX6_allOn 5 = .ok (.iconst 4, 1) := by decide +kernel
theorem dX6_allOn_6 : decode cX6_allOn 6 = .ok (.if_icmp .ge 18, 3) := by decide +kernel
theorem dX6_allOn_9 : decode cX6_allOn 9 = .ok (.iload_n 2, 1) := by decide +kernel
theorem dX6_allOn_10 : decode cX6_allOn 10 = .ok (.aload_n 0, 1) := by decide +kernel
theorem dX6_allOn_11 : decode cX6_allOn 11 = .ok (.iload_n 3, 1) := by decide +kernel
end
section
theorem dX6_allOn_12 : decode cX6_allOn 12 = .ok (.iload_n 1, 1) := by decide +kernel
theorem dX6_allOn_13 : decode cX6_allOn 13 = .ok (.invokevirtual 48, 3) := by decide +kernel
theorem dX6_allOn_16 : decode cX6_allOn 16 = .ok (.iadd, 1) := by decide +kernel
theorem dX6_allOn_17 : decode cX6_allOn 17 = .ok (.istore_n 2, 1) := by decide +kernel
theorem dX6_allOn_18 : decode cX6_allOn 18 = .ok (.iinc 3 1, 3) := by decide +kernel
theorem dX6_allOn_21 : decode cX6_allOn 21 = .ok (.goto (-17), 3) := by decide +kernel
theorem dX6_allOn_24 : decode cX6_allOn 24 = .ok (.iload_n 2, 1) := by decide +kernel
theorem dX6_allOn_25 : decode cX6_allOn 25 = .ok (.ireturn, 1) := by decide +kernel
theorem dX6_isPairOn_0 : decode cX6_isPairOn 0 = .ok (.iconst 0, 1) := by decide +kernel
theorem dX6_isPairOn_1 : decode cX6_isPairOn 1 = .ok (.istore_n 2, 1) := by decide +kernel
theorem dX6_isPairOn_2 : decode cX6_isPairOn 2 = .ok (.iconst 0, 1) := by decide +kernel
theorem dX6_isPairOn_3 : decode cX6_isPairOn 3 = .ok (.istore_n 3, 1) := by decide +kernel
theorem dX6_isPairOn_4 : decode cX6_isPairOn 4 = .ok (.iload_n 3, 1) := by decide +kernel
theorem dX6_isPairOn_5 : decode cX6_isPairOn 5 = .ok (.iconst 4, 1) := by decide +kernel
theorem dX6_isPairOn_6 : decode cX6_isPairOn 6 = .ok (.if_icmp .ge 29, 3) := by decide +kernel
theorem dX6_isPairOn_9 : decode cX6_isPairOn 9 = .ok (.iload_n 2, 1) := by decide +kernel
theorem dX6_isPairOn_10 : decode cX6_isPairOn 10 = .ok (.ifCond .ne 13, 3) := by decide +kernel
theorem dX6_isPairOn_13 : decode cX6_isPairOn 13 = .ok (.aload_n 0, 1) := by decide +kernel
theorem dX6_isPairOn_14 : decode cX6_isPairOn 14 = .ok (.iload_n 3, 1) := by decide +kernel
theorem dX6_isPairOn_15 : decode cX6_isPairOn 15 = .ok (.iload_n 1, 1) := by decide +kernel
theorem dX6_isPairOn_16 : decode cX6_isPairOn 16 = .ok (.invokevirtual 48, 3) := by decide +kernel
theorem dX6_isPairOn_19 : decode cX6_isPairOn 19 = .ok (.iconst 1, 1) := by decide +kernel
theorem dX6_isPairOn_20 : decode cX6_isPairOn 20 = .ok (.if_icmp .le 7, 3) := by decide +kernel
theorem dX6_isPairOn_23 : decode cX6_isPairOn 23 = .ok (.iconst 1, 1) := by decide +kernel
theorem dX6_isPairOn_24 : decode cX6_isPairOn 24 = .ok (.goto 4, 3) := by decide +kernel
theorem dX6_isPairOn_27 : decode cX6_isPairOn 27 = .ok (.iconst 0, 1) := by decide +kernel
theorem dX6_isPairOn_28 : decode cX6_isPairOn 28 = .ok (.istore_n 2, 1) := by decide +kernel
theorem dX6_isPairOn_29 : decode cX6_isPairOn 29 = .ok (.iinc 3 1, 3) := by decide +kernel
theorem dX6_isPairOn_32 : decode cX6_isPairOn 32 = .ok (.goto (-28), 3) := by decide +kernel
theorem dX6_isPairOn_35 : decode cX6_isPairOn 35 = .ok (.iload_n 2, 1) := by decide +kernel
theorem dX6_isPairOn_36 : decode cX6_isPairOn 36 = .ok (.ireturn, 1) := by decide +kernel
theorem dX6_atHome_0 : decode cX6_atHome 0 = .ok (.iconst 0, 1) := by decide +kernel
theorem dX6_atHome_1 : decode cX6_atHome 1 = .ok (.istore_n 2, 1) := by decide +kernel
theorem dX6_atHome_2 : decode cX6_atHome 2 = .ok (.iconst 0, 1) := by decide +kernel
theorem dX6_atHome_3 : decode cX6_atHome 3 = .ok (.istore_n 3, 1) := by decide +kernel
theorem dX6_atHome_4 : decode cX6_atHome 4 = .ok (.iload_n 3, 1) := by decide +kernel
theorem dX6_atHome_5 : decode cX6_atHome 5 = .ok (.iconst 3, 1) := by decide +kernel
theorem dX6_atHome_6 : decode cX6_atHome 6 = .ok (.if_icmp .ge 32, 3) := by decide +kernel
theorem dX6_atHome_9 : decode cX6_atHome 9 = .ok (.iload_n 2, 1) := by decide +kernel
theorem dX6_atHome_10 : decode cX6_atHome 10 = .ok (.aload_n 0, 1) := by decide +kernel
theorem dX6_atHome_11 : decode cX6_atHome 11 = .ok (.getfield 7, 3) := by decide +kernel
theorem dX6_atHome_14 : decode cX6_atHome 14 = .ok (.iconst 3, 1) := by decide +kernel
theorem dX6_atHome_15 : decode cX6_atHome 15 = .ok (.iload_n 1, 1) := by decide +kernel
theorem dX6_atHome_16 : decode cX6_atHome 16 = .ok (.imul, 1) := by decide +kernel
theorem dX6_atHome_17 : decode cX6_atHome 17 = .ok (.iload_n 3, 1) := by decide +kernel
theorem dX6_atHome_18 : decode cX6_atHome 18 = .ok (.iadd, 1) := by decide +kernel
theorem dX6_atHome_19 : decode cX6_atHome 19 = .ok (.iaload, 1) := by decide +kernel
theorem dX6_atHome_20 : decode cX6_atHome 20 = .ok (.bipush 35, 2) := by decide +kernel
theorem dX6_atHome_22 : decode cX6_atHome 22 = .ok (.if_icmp .ne 7, 3) := by decide +kernel
theorem dX6_atHome_25 : decode cX6_atHome 25 = .ok (.iconst 1, 1) := by decide +kernel
theorem dX6_atHome_26 : decode cX6_atHome 26 = .ok (.goto 4, 3) := by decide +kernel
theorem dX6_atHome_29 : decode cX6_atHome 29 = .ok (.iconst 0, 1) := by decide +kernel
theorem dX6_atHome_30 : decode cX6_atHome 30 = .ok (.iadd, 1) := by decide +kernel
theorem dX6_atHome_31 : decode cX6_atHome 31 = .ok (.istore_n 2, 1) := by decide +kernel
theorem dX6_atHome_32 : decode cX6_atHome 32 = .ok (.iinc 3 1, 3) := by decide +kernel
theorem dX6_atHome_35 : decode cX6_atHome 35 = .ok (.goto (-31), 3) := by decide +kernel
theorem dX6_atHome_38 : decode cX6_atHome 38 = .ok (.iload_n 2, 1) := by decide +kernel
theorem dX6_atHome_39 : decode cX6_atHome 39 = .ok (.ireturn, 1) := by decide +kernel
theorem dX6_winner_0 : decode cX6_winner 0 = .ok (.bipush (-6), 2) := by decide +kernel
theorem dX6_winner_2 : decode cX6_winner 2 = .ok (.istore_n 1, 1) := by decide +kernel
theorem dX6_winner_3 : decode cX6_winner 3 = .ok (.iconst 3, 1) := by decide +kernel
theorem dX6_winner_4 : decode cX6_winner 4 = .ok (.istore_n 2, 1) := by decide +kernel
theorem dX6_winner_5 : decode cX6_winner 5 = .ok (.iload_n 2, 1) := by decide +kernel
theorem dX6_winner_6 : decode cX6_winner 6 = .ok (.ifCond .lt 24, 3) := by decide +kernel
theorem dX6_winner_9 : decode cX6_winner 9 = .ok (.aload_n 0, 1) := by decide +kernel
theorem dX6_winner_10 : decode cX6_winner 10 = .ok (.iload_n 2, 1) := by decide +kernel
theorem dX6_winner_11 : decode cX6_winner 11 = .ok (.invokevirtual 51, 3) := by decide +kernel
theorem dX6_winner_14 : decode cX6_winner 14 = .ok (.iconst 3, 1) := by decide +kernel
theorem dX6_winner_15 : decode cX6_winner 15 = .ok (.if_icmp .ne 7, 3) := by decide +kernel
theorem dX6_winner_18 : decode cX6_winner 18 = .ok (.iload_n 2, 1) := by decide +kernel
theorem dX6_winner_19 : decode cX6_winner 19 = .ok (.goto 4, 3) := by decide +kernel
theorem dX6_winner_22 : decode cX6_winner 22 = .ok (.iload_n 1, 1) := by decide +kernel
theorem dX6_winner_23 : decode cX6_winner 23 = .ok (.istore_n 1, 1) := by decide +kernel
theorem dX6_winner_24 : decode cX6_winner 24 = .ok (.iinc 2 (-1), 3) := by decide +kernel
theorem dX6_winner_27 : decode cX6_winner 27 = .ok (.goto (-22), 3) := by decide +kernel
theorem dX6_winner_30 : decode cX6_winner 30 = .ok (.iload_n 1, 1) := by decide +kernel
theorem dX6_winner_31 : decode cX6_winner 31 = .ok (.ireturn, 1) := by decide +kernel
theorem dX6_isOver_0 : decode cX6_isOver 0 = .ok (.aload_n 0, 1) := by decide +kernel
theorem dX6_isOver_1 : decode cX6_isOver 1 = .ok (.invokevirtual 54, 3) := by decide +kernel
theorem dX6_isOver_4 : decode cX6_isOver 4 = .ok (.ifCond .lt 7, 3) := by decide +kernel
theorem dX6_isOver_7 : decode cX6_isOver 7 = .ok (.iconst 1, 1) := by decide +kernel
theorem dX6_isOver_8 : decode cX6_isOver 8 = .ok (.goto 4, 3) := by decide +kernel
theorem dX6_isOver_11 : decode cX6_isOver 11 = .ok (.iconst 0, 1) := by decide +kernel
theorem dX6_isOver_12 : decode cX6_isOver 12 = .ok (.ireturn, 1) := by decide +kernel
theorem dX6_lookAtBridges_0 : decode cX6_lookAtBridges 0 = .ok (.iconst 0, 1) := by decide +kernel
theorem dX6_lookAtBridges_1 : decode cX6_lookAtBridges 1 = .ok (.istore_n 1, 1) := by decide +kernel
theorem dX6_lookAtBridges_2 : decode cX6_lookAtBridges 2 = .ok (.iload_n 1, 1) := by decide +kernel
theorem dX6_lookAtBridges_3 : decode cX6_lookAtBridges 3 = .ok (.iconst 4, 1) := by decide +kernel
theorem dX6_lookAtBridges_4 : decode cX6_lookAtBridges 4 = .ok (.if_icmp .ge 114, 3) := by decide +kernel
theorem dX6_lookAtBridges_7 : decode cX6_lookAtBridges 7 = .ok (.bipush 8, 2) := by decide +kernel
theorem dX6_lookAtBridges_9 : decode cX6_lookAtBridges 9 = .ok (.iload_n 1, 1) := by decide +kernel
theorem dX6_lookAtBridges_10 : decode cX6_lookAtBridges 10 = .ok (.imul, 1) := by decide +kernel
theorem dX6_lookAtBridges_11 : decode cX6_lookAtBridges 11 = .ok (.iconst 4, 1) := by decide +kernel
theorem dX6_lookAtBridges_12 : decode cX6_lookAtBridges 12 = .ok (.iadd, 1) := by decide +kernel
theorem dX6_lookAtBridges_13 : decode cX6_lookAtBridges 13 = .ok (.istore_n 2, 1) := by decide +kernel
theorem dX6_lookAtBridges_14 : decode cX6_lookAtBridges 14 = .ok (.aload_n 0, 1) := by decide +kernel
theorem dX6_lookAtBridges_15 : decode cX6_lookAtBridges 15 = .ok (.getfield 7, 3) := by decide +kernel
theorem dX6_lookAtBridges_18 : decode cX6_lookAtBridges 18 = .ok (.bipush 24, 2) := by decide +kernel
theorem dX6_lookAtBridges_20 : decode cX6_lookAtBridges 20 = .ok (.iload_n 1, 1) := by decide +kernel
theorem dX6_lookAtBridges_21 : decode cX6_lookAtBridges 21 = .ok (.iadd, 1) := by decide +kernel
theorem dX6_lookAtBridges_22 : decode cX6_lookAtBridges 22 = .ok (.iaload, 1) := by decide +kernel
theorem dX6_lookAtBridges_23 : decode cX6_lookAtBridges 23 = .ok (.ifCond .ne 21, 3) := by decide +kernel
theorem dX6_lookAtBridges_26 : decode cX6_lookAtBridges 26 = .ok (.aload_n 0, 1) := by decide +kernel
theorem dX6_lookAtBridges_27 : decode cX6_lookAtBridges 27 = .ok (.iload_n 2, 1) := by decide +kernel
theorem dX6_lookAtBridges_28 : decode cX6_lookAtBridges 28 = .ok (.invokevirtual 58, 3) := by decide +kernel
theorem dX6_lookAtBridges_31 : decode cX6_lookAtBridges 31 = .ok (.ifCond .eq 13, 3) := by decide +kernel
theorem dX6_lookAtBridges_34 : decode cX6_lookAtBridges 34 = .ok (.aload_n 0, 1) := by decide +kernel
theorem dX6_lookAtBridges_35 : decode cX6_lookAtBridges 35 = .ok (.getfield 7, 3) := by decide +kernel
theorem dX6_lookAtBridges_38 : decode cX6_lookAtBridges 38 = .ok (.bipush 28, 2) := by decide +kernel
theorem dX6_lookAtBridges_40 : decode cX6_lookAtBridges 40 = .ok (.iload_n 1, 1) := by decide +kernel
theorem dX6_lookAtBridges_41 : decode cX6_lookAtBridges 41 = .ok (.iadd, 1) := by decide +kernel
theorem dX6_lookAtBridges_42 : decode cX6_lookAtBridges 42 = .ok (.iconst 1, 1) := by decide +kernel
theorem dX6_lookAtBridges_43 : decode cX6_lookAtBridges 43 = .ok (.iastore, 1) := by decide +kernel
theorem dX6_lookAtBridges_44 : decode cX6_lookAtBridges 44 = .ok (.aload_n 0, 1) := by decide +kernel
theorem dX6_lookAtBridges_45 : decode cX6_lookAtBridges 45 = .ok (.getfield 7, 3) := by decide +kernel
theorem dX6_lookAtBridges_48 : decode cX6_lookAtBridges 48 = .ok (.bipush 28, 2) := by decide +kernel
theorem dX6_lookAtBridges_50 : decode cX6_lookAtBridges 50 = .ok (.iload_n 1, 1) := by decide +kernel
theorem dX6_lookAtBridges_51 : decode cX6_lookAtBridges 51 = .ok (.iadd, 1) := by decide +kernel
theorem dX6_lookAtBridges_52 : decode cX6_lookAtBridges 52 = .ok (.iaload, 1) := by decide +kernel
theorem dX6_lookAtBridges_53 : decode cX6_lookAtBridges 53 = .ok (.iconst 1, 1) := by decide +kernel
theorem dX6_lookAtBridges_54 : decode cX6_lookAtBridges 54 = .ok (.if_icmp .ne 58, 3) := by decide +kernel
theorem dX6_lookAtBridges_57 : decode cX6_lookAtBridges 57 = .ok (.aload_n 0, 1) := by decide +kernel
theorem dX6_lookAtBridges_58 : decode cX6_lookAtBridges 58 = .ok (.iload_n 2, 1) := by decide +kernel
theorem dX6_lookAtBridges_59 : decode cX6_lookAtBridges 59 = .ok (.invokevirtual 61, 3) := by decide +kernel
theorem dX6_lookAtBridges_62 : decode cX6_lookAtBridges 62 = .ok (.ifCond .ne 50, 3) := by decide +kernel
theorem dX6_lookAtBridges_65 : decode cX6_lookAtBridges 65 = .ok (.aload_n 0, 1) := by decide +kernel
theorem dX6_lookAtBridges_66 : decode cX6_lookAtBridges 66 = .ok (.getfield 7, 3) := by decide +kernel
theorem dX6_lookAtBridges_69 : decode cX6_lookAtBridges 69 = .ok (.bipush 28, 2) := by decide +kernel
theorem dX6_lookAtBridges_71 : decode cX6_lookAtBridges 71 = .ok (.iload_n 1, 1) := by decide +kernel
theorem dX6_lookAtBridges_72 : decode cX6_lookAtBridges 72 = .ok (.iadd, 1) := by decide +kernel
theorem dX6_lookAtBridges_73 : decode cX6_lookAtBridges 73 = .ok (.iconst 0, 1) := by decide +kernel
theorem dX6_lookAtBridges_74 : decode cX6_lookAtBridges 74 = .ok (.iastore, 1) := by decide +kernel
theorem dX6_lookAtBridges_75 : decode cX6_lookAtBridges 75 = .ok (.aload_n 0, 1) := by decide +kernel
theorem dX6_lookAtBridges_76 : decode cX6_lookAtBridges 76 = .ok (.getfield 7, 3) := by decide +kernel
theorem dX6_lookAtBridges_79 : decode cX6_lookAtBridges 79 = .ok (.bipush 24, 2) := by decide +kernel
theorem dX6_lookAtBridges_81 : decode cX6_lookAtBridges 81 = .ok (.iload_n 1, 1) := by decide +kernel
theorem dX6_lookAtBridges_82 : decode cX6_lookAtBridges 82 = .ok (.iadd, 1) := by decide +kernel
theorem dX6_lookAtBridges_83 : decode cX6_lookAtBridges 83 = .ok (.iconst 1, 1) := by decide +kernel
theorem dX6_lookAtBridges_84 : decode cX6_lookAtBridges 84 = .ok (.iastore, 1) := by decide +kernel
theorem dX6_lookAtBridges_85 : decode cX6_lookAtBridges 85 = .ok (.aload_n 0, 1) := by decide +kernel
theorem dX6_lookAtBridges_86 : decode cX6_lookAtBridges 86 = .ok (.getfield 7, 3) := by decide +kernel
theorem dX6_lookAtBridges_89 : decode cX6_lookAtBridges 89 = .ok (.bipush 32, 2) := by decide +kernel
theorem dX6_lookAtBridges_91 : decode cX6_lookAtBridges 91 = .ok (.iload_n 1, 1) := by decide +kernel
theorem dX6_lookAtBridges_92 : decode cX6_lookAtBridges 92 = .ok (.iadd, 1) := by decide +kernel
theorem dX6_lookAtBridges_93 : decode cX6_lookAtBridges 93 = .ok (.aload_n 0, 1) := by decide +kernel
theorem dX6_lookAtBridges_94 : decode cX6_lookAtBridges 94 = .ok (.getfield 7, 3) := by decide +kernel
theorem dX6_lookAtBridges_97 : decode cX6_lookAtBridges 97 = .ok (.bipush 42, 2) := by decide +kernel
theorem dX6_lookAtBridges_99 : decode cX6_lookAtBridges 99 = .ok (.iaload, 1) := by decide +kernel
theorem dX6_lookAtBridges_100 : decode cX6_lookAtBridges 100 = .ok (.iastore, 1) := by decide +kernel
theorem dX6_lookAtBridges_101 : decode cX6_lookAtBridges 101 = .ok (.aload_n 0, 1) := by decide +kernel
theorem dX6_lookAtBridges_102 : decode cX6_lookAtBridges 102 = .ok (.getfield 7, 3) := by decide +kernel
theorem dX6_lookAtBridges_105 : decode cX6_lookAtBridges 105 = .ok (.bipush 45, 2) := by decide +kernel
theorem dX6_lookAtBridges_107 : decode cX6_lookAtBridges 107 = .ok (.dup2, 1) := by decide +kernel
theorem dX6_lookAtBridges_108 : decode cX6_lookAtBridges 108 = .ok (.iaload, 1) := by decide +kernel
theorem dX6_lookAtBridges_109 : decode cX6_lookAtBridges 109 = .ok (.iconst 1, 1) := by decide +kernel
theorem dX6_lookAtBridges_110 : decode cX6_lookAtBridges 110 = .ok (.iadd, 1) := by decide +kernel
theorem dX6_lookAtBridges_111 : decode cX6_lookAtBridges 111 = .ok (.iastore, 1) := by decide +kernel
theorem dX6_lookAtBridges_112 : decode cX6_lookAtBridges 112 = .ok (.iinc 1 1, 3) := by decide +kernel
theorem dX6_lookAtBridges_115 : decode cX6_lookAtBridges 115 = .ok (.goto (-113), 3) := by decide +kernel
theorem dX6_lookAtBridges_118 : decode cX6_lookAtBridges 118 = .ok (.return_, 1) := by decide +kernel
theorem dX6_record_0 : decode cX6_record 0 = .ok (.aload_n 0, 1) := by decide +kernel
theorem dX6_record_1 : decode cX6_record 1 = .ok (.getfield 64, 3) := by decide +kernel
theorem dX6_record_4 : decode cX6_record 4 = .ok (.bipush 6, 2) := by decide +kernel
theorem dX6_record_6 : decode cX6_record 6 = .ok (.if_icmp .ne 43, 3) := by decide +kernel
theorem dX6_record_9 : decode cX6_record 9 = .ok (.iconst 0, 1) := by decide +kernel
theorem dX6_record_10 : decode cX6_record 10 = .ok (.istore_n 1, 1) := by decide +kernel
theorem dX6_record_11 : decode cX6_record 11 = .ok (.iload_n 1, 1) := by decide +kernel
theorem dX6_record_12 : decode cX6_record 12 = .ok (.sipush 230, 3) := by decide +kernel
theorem dX6_record_15 : decode cX6_record 15 = .ok (.if_icmp .ge 24, 3) := by decide +kernel
theorem dX6_record_18 : decode cX6_record 18 = .ok (.aload_n 0, 1) := by decide +kernel
theorem dX6_record_19 : decode cX6_record 19 = .ok (.getfield 16, 3) := by decide +kernel
theorem dX6_record_22 : decode cX6_record 22 = .ok (.iload_n 1, 1) := by decide +kernel
theorem dX6_record_23 : decode cX6_record 23 = .ok (.aload_n 0, 1) := by decide +kernel
theorem dX6_record_24 : decode cX6_record 24 = .ok (.getfield 16, 3) := by decide +kernel
theorem dX6_record_27 : decode cX6_record 27 = .ok (.bipush 46, 2) := by decide +kernel
theorem dX6_record_29 : decode cX6_record 29 = .ok (.iload_n 1, 1) := by decide +kernel
theorem dX6_record_30 : decode cX6_record 30 = .ok (.iadd, 1) := by decide +kernel
theorem dX6_record_31 : decode cX6_record 31 = .ok (.iaload, 1) := by decide +kernel
theorem dX6_record_32 : decode cX6_record 32 = .ok (.iastore, 1) := by decide +kernel
theorem dX6_record_33 : decode cX6_record 33 = .ok (.iinc 1 1, 3) := by decide +kernel
theorem dX6_record_36 : decode cX6_record 36 = .ok (.goto (-25), 3) := by decide +kernel
theorem dX6_record_39 : decode cX6_record 39 = .ok (.aload_n 0, 1) := by decide +kernel
theorem dX6_record_40 : decode cX6_record 40 = .ok (.dup, 1) := by decide +kernel
theorem dX6_record_41 : decode cX6_record 41 = .ok (.getfield 64, 3) := by decide +kernel
theorem dX6_record_44 : decode cX6_record 44 = .ok (.iconst 1, 1) := by decide +kernel
theorem dX6_record_45 : decode cX6_record 45 = .ok (.isub, 1) := by decide +kernel
theorem dX6_record_46 : decode cX6_record 46 = .ok (.putfield 64, 3) := by decide +kernel
theorem dX6_record_49 : decode cX6_record 49 = .ok (.iconst 0, 1) := by decide +kernel
theorem dX6_record_50 : decode cX6_record 50 = .ok (.istore_n 1, 1) := by decide +kernel
theorem dX6_record_51 : decode cX6_record 51 = .ok (.iload_n 1, 1) := by decide +kernel
theorem dX6_record_52 : decode cX6_record 52 = .ok (.bipush 46, 2) := by decide +kernel
theorem dX6_record_54 : decode cX6_record 54 = .ok (.if_icmp .ge 29, 3) := by decide +kernel
theorem dX6_record_57 : decode cX6_record 57 = .ok (.aload_n 0, 1) := by decide +kernel
theorem dX6_record_58 : decode cX6_record 58 = .ok (.getfield 16, 3) := by decide +kernel
theorem dX6_record_61 : decode cX6_record 61 = .ok (.bipush 46, 2) := by decide +kernel
theorem dX6_record_63 : decode cX6_record 63 = .ok (.aload_n 0, 1) := by decide +kernel
theorem dX6_record_64 : decode cX6_record 64 = .ok (.getfield 64, 3) := by decide +kernel
theorem dX6_record_67 : decode cX6_record 67 = .ok (.imul, 1) := by decide +kernel
theorem dX6_record_68 : decode cX6_record 68 = .ok (.iload_n 1, 1) := by decide +kernel
theorem dX6_record_69 : decode cX6_record 69 = .ok (.iadd, 1) := by decide +kernel
theorem dX6_record_70 : decode cX6_record 70 = .ok (.aload_n 0, 1) := by decide +kernel
theorem dX6_record_71 : decode cX6_record 71 = .ok (.getfield 7, 3) := by decide +kernel
theorem dX6_record_74 : decode cX6_record 74 = .ok (.iload_n 1, 1) := by decide +kernel
theorem dX6_record_75 : decode cX6_record 75 = .ok (.iaload, 1) := by decide +kernel
theorem dX6_record_76 : decode cX6_record 76 = .ok (.iastore, 1) := by decide +kernel
theorem dX6_record_77 : decode cX6_record 77 = .ok (.iinc 1 1, 3) := by decide +kernel
theorem dX6_record_80 : decode cX6_record 80 = .ok (.goto (-29), 3) := by decide +kernel
theorem dX6_record_83 : decode cX6_record 83 = .ok (.aload_n 0, 1) := by decide +kernel
theorem dX6_record_84 : decode cX6_record 84 = .ok (.dup, 1) := by decide +kernel
theorem dX6_record_85 : decode cX6_record 85 = .ok (.getfield 64, 3) := by decide +kernel
theorem dX6_record_88 : decode cX6_record 88 = .ok (.iconst 1, 1) := by decide +kernel
theorem dX6_record_89 : decode cX6_record 89 = .ok (.iadd, 1) := by decide +kernel
theorem dX6_record_90 : decode cX6_record 90 = .ok (.putfield 64, 3) := by decide +kernel
theorem dX6_record_93 : decode cX6_record 93 = .ok (.return_, 1) := by decide +kernel
theorem dX6_undo_0 : decode cX6_undo 0 = .ok (.aload_n 0, 1) := by decide +kernel
theorem dX6_undo_1 : decode cX6_undo 1 = .ok (.getfield 64, 3) := by decide +kernel
theorem dX6_undo_4 : decode cX6_undo 4 = .ok (.ifCond .ne 6, 3) := by decide +kernel
theorem dX6_undo_7 : decode cX6_undo 7 = .ok (.bipush (-5), 2) := by decide +kernel
theorem dX6_undo_9 : decode cX6_undo 9 = .ok (.ireturn, 1) := by decide +kernel
theorem dX6_undo_10 : decode cX6_undo 10 = .ok (.aload_n 0, 1) := by decide +kernel
theorem dX6_undo_11 : decode cX6_undo 11 = .ok (.dup, 1) := by decide +kernel
theorem dX6_undo_12 : decode cX6_undo 12 = .ok (.getfield 64, 3) := by decide +kernel
theorem dX6_undo_15 : decode cX6_undo 15 = .ok (.iconst 1, 1) := by decide +kernel
theorem dX6_undo_16 : decode cX6_undo 16 = .ok (.isub, 1) := by decide +kernel
theorem dX6_undo_17 : decode cX6_undo 17 = .ok (.putfield 64, 3) := by decide +kernel
theorem dX6_undo_20 : decode cX6_undo 20 = .ok (.iconst 0, 1) := by decide +kernel
theorem dX6_undo_21 : decode cX6_undo 21 = .ok (.istore_n 1, 1) := by decide +kernel
theorem dX6_undo_22 : decode cX6_undo 22 = .ok (.iload_n 1, 1) := by decide +kernel
theorem dX6_undo_23 : decode cX6_undo 23 = .ok (.bipush 46, 2) := by decide +kernel
theorem dX6_undo_25 : decode cX6_undo 25 = .ok (.if_icmp .ge 29, 3) := by decide +kernel
theorem dX6_undo_28 : decode cX6_undo 28 = .ok (.aload_n 0, 1) := by decide +kernel
theorem dX6_undo_29 : decode cX6_undo 29 = .ok (.getfield 7, 3) := by decide +kernel
theorem dX6_undo_32 : decode cX6_undo 32 = .ok (.iload_n 1, 1) := by decide +kernel
theorem dX6_undo_33 : decode cX6_undo 33 = .ok (.aload_n 0, 1) := by decide +kernel
theorem dX6_undo_34 : decode cX6_undo 34 = .ok (.getfield 16, 3) := by decide +kernel
theorem dX6_undo_37 : decode cX6_undo 37 = .ok (.bipush 46, 2) := by decide +kernel
theorem dX6_undo_39 : decode cX6_undo 39 = .ok (.aload_n 0, 1) := by decide +kernel
theorem dX6_undo_40 : decode cX6_undo 40 = .ok (.getfield 64, 3) := by decide +kernel
theorem dX6_undo_43 : decode cX6_undo 43 = .ok (.imul, 1) := by decide +kernel
theorem dX6_undo_44 : decode cX6_undo 44 = .ok (.iload_n 1, 1) := by decide +kernel
theorem dX6_undo_45 : decode cX6_undo 45 = .ok (.iadd, 1) := by decide +kernel
theorem dX6_undo_46 : decode cX6_undo 46 = .ok (.iaload, 1) := by decide +kernel
theorem dX6_undo_47 : decode cX6_undo 47 = .ok (.iastore, 1) := by decide +kernel
theorem dX6_undo_48 : decode cX6_undo 48 = .ok (.iinc 1 1, 3) := by decide +kernel
theorem dX6_undo_51 : decode cX6_undo 51 = .ok (.goto (-29), 3) := by decide +kernel
theorem dX6_undo_54 : decode cX6_undo 54 = .ok (.aload_n 0, 1) := by decide +kernel
theorem dX6_undo_55 : decode cX6_undo 55 = .ok (.getfield 64, 3) := by decide +kernel
theorem dX6_undo_58 : decode cX6_undo 58 = .ok (.ireturn, 1) := by decide +kernel
theorem dX6_save_0 : decode cX6_save 0 = .ok (.iload_n 1, 1) := by decide +kernel
theorem dX6_save_1 : decode cX6_save 1 = .ok (.iconst 0, 1) := by decide +kernel
theorem dX6_save_2 : decode cX6_save 2 = .ok (.iconst 1, 1) := by decide +kernel
theorem dX6_save_3 : decode cX6_save 3 = .ok (.invokestatic 32, 3) := by decide +kernel
theorem dX6_save_6 : decode cX6_save 6 = .ok (.ifCond .ne 6, 3) := by decide +kernel
theorem dX6_save_9 : decode cX6_save 9 = .ok (.bipush (-2), 2) := by decide +kernel
theorem dX6_save_11 : decode cX6_save 11 = .ok (.ireturn, 1) := by decide +kernel
theorem dX6_save_12 : decode cX6_save 12 = .ok (.iconst 0, 1) := by decide +kernel
theorem dX6_save_13 : decode cX6_save 13 = .ok (.istore_n 2, 1) := by decide +kernel
theorem dX6_save_14 : decode cX6_save 14 = .ok (.iload_n 2, 1) := by decide +kernel
theorem dX6_save_15 : decode cX6_save 15 = .ok (.bipush 46, 2) := by decide +kernel
theorem dX6_save_17 : decode cX6_save 17 = .ok (.if_icmp .ge 26, 3) := by decide +kernel
theorem dX6_save_20 : decode cX6_save 20 = .ok (.aload_n 0, 1) := by decide +kernel
theorem dX6_save_21 : decode cX6_save 21 = .ok (.getfield 19, 3) := by decide +kernel
theorem dX6_save_24 : decode cX6_save 24 = .ok (.bipush 46, 2) := by decide +kernel
theorem dX6_save_26 : decode cX6_save 26 = .ok (.iload_n 1, 1) := by decide +kernel
theorem dX6_save_27 : decode cX6_save 27 = .ok (.imul, 1) := by decide +kernel
theorem dX6_save_28 : decode cX6_save 28 = .ok (.iload_n 2, 1) := by decide +kernel
theorem dX6_save_29 : decode cX6_save 29 = .ok (.iadd, 1) := by decide +kernel
theorem dX6_save_30 : decode cX6_save 30 = .ok (.aload_n 0, 1) := by decide +kernel
theorem dX6_save_31 : decode cX6_save 31 = .ok (.getfield 7, 3) := by decide +kernel
theorem dX6_save_34 : decode cX6_save 34 = .ok (.iload_n 2, 1) := by decide +kernel
theorem dX6_save_35 : decode cX6_save 35 = .ok (.iaload, 1) := by decide +kernel
theorem dX6_save_36 : decode cX6_save 36 = .ok (.iastore, 1) := by decide +kernel
theorem dX6_save_37 : decode cX6_save 37 = .ok (.iinc 2 1, 3) := by decide +kernel
theorem dX6_save_40 : decode cX6_save 40 = .ok (.goto (-26), 3) := by decide +kernel
theorem dX6_save_43 : decode cX6_save 43 = .ok (.aload_n 0, 1) := by decide +kernel
theorem dX6_save_44 : decode cX6_save 44 = .ok (.getfield 22, 3) := by decide +kernel
theorem dX6_save_47 : decode cX6_save 47 = .ok (.iload_n 1, 1) := by decide +kernel
theorem dX6_save_48 : decode cX6_save 48 = .ok (.iconst 1, 1) := by decide +kernel
theorem dX6_save_49 : decode cX6_save 49 = .ok (.bastore, 1) := by decide +kernel
theorem dX6_save_50 : decode cX6_save 50 = .ok (.aload_n 0, 1) := by decide +kernel
theorem dX6_save_51 : decode cX6_save 51 = .ok (.getfield 7, 3) := by decide +kernel
theorem dX6_save_54 : decode cX6_save 54 = .ok (.bipush 42, 2) := by decide +kernel
theorem dX6_save_56 : decode cX6_save 56 = .ok (.iaload, 1) := by decide +kernel
theorem dX6_save_57 : decode cX6_save 57 = .ok (.ireturn, 1) := by decide +kernel
theorem dX6_restore_0 : decode cX6_restore 0 = .ok (.iload_n 1, 1) := by decide +kernel
theorem dX6_restore_1 : decode cX6_restore 1 = .ok (.iconst 0, 1) := by decide +kernel
theorem dX6_restore_2 : decode cX6_restore 2 = .ok (.iconst 1, 1) := by decide +kernel
theorem dX6_restore_3 : decode cX6_restore 3 = .ok (.invokestatic 32, 3) := by decide +kernel
theorem dX6_restore_6 : decode cX6_restore 6 = .ok (.ifCond .ne 6, 3) := by decide +kernel
theorem dX6_restore_9 : decode cX6_restore 9 = .ok (.bipush (-2), 2) := by decide +kernel
theorem dX6_restore_11 : decode cX6_restore 11 = .ok (.ireturn, 1) := by decide +kernel
theorem dX6_restore_12 : decode cX6_restore 12 = .ok (.aload_n 0, 1) := by decide +kernel
theorem dX6_restore_13 : decode cX6_restore 13 = .ok (.getfield 22, 3) := by decide +kernel
theorem dX6_restore_16 : decode cX6_restore 16 = .ok (.iload_n 1, 1) := by decide +kernel
theorem dX6_restore_17 : decode cX6_restore 17 = .ok (.baload, 1) := by decide +kernel
theorem dX6_restore_18 : decode cX6_restore 18 = .ok (.ifCond .ne 6, 3) := by decide +kernel
theorem dX6_restore_21 : decode cX6_restore 21 = .ok (.bipush (-5), 2) := by decide +kernel
theorem dX6_restore_23 : decode cX6_restore 23 = .ok (.ireturn, 1) := by decide +kernel
theorem dX6_restore_24 : decode cX6_restore 24 = .ok (.aload_n 0, 1) := by decide +kernel
theorem dX6_restore_25 : decode cX6_restore 25 = .ok (.invokevirtual 68, 3) := by decide +kernel
theorem dX6_restore_28 : decode cX6_restore 28 = .ok (.iconst 0, 1) := by decide +kernel
theorem dX6_restore_29 : decode cX6_restore 29 = .ok (.istore_n 2, 1) := by decide +kernel
theorem dX6_restore_30 : decode cX6_restore 30 = .ok (.iload_n 2, 1) := by decide +kernel
theorem dX6_restore_31 : decode cX6_restore 31 = .ok (.bipush 46, 2) := by decide +kernel
theorem dX6_restore_33 : decode cX6_restore 33 = .ok (.if_icmp .ge 26, 3) := by decide +kernel
theorem dX6_restore_36 : decode cX6_restore 36 = .ok (.aload_n 0, 1) := by decide +kernel
theorem dX6_restore_37 : decode cX6_restore 37 = .ok (.getfield 7, 3) := by decide +kernel
theorem dX6_restore_40 : decode cX6_restore 40 = .ok (.iload_n 2, 1) := by decide +kernel
theorem dX6_restore_41 : decode cX6_restore 41 = .ok (.aload_n 0, 1) := by decide +kernel
theorem dX6_restore_42 : decode cX6_restore 42 = .ok (.getfield 19, 3) := by decide +kernel
theorem dX6_restore_45 : decode cX6_restore 45 = .ok (.bipush 46, 2) := by decide +kernel
theorem dX6_restore_47 : decode cX6_restore 47 = .ok (.iload_n 1, 1) := by decide +kernel
theorem dX6_restore_48 : decode cX6_restore 48 = .ok (.imul, 1) := by decide +kernel
theorem dX6_restore_49 : decode cX6_restore 49 = .ok (.iload_n 2, 1) := by decide +kernel
theorem dX6_restore_50 : decode cX6_restore 50 = .ok (.iadd, 1) := by decide +kernel
theorem dX6_restore_51 : decode cX6_restore 51 = .ok (.iaload, 1) := by decide +kernel
theorem dX6_restore_52 : decode cX6_restore 52 = .ok (.iastore, 1) := by decide +kernel
theorem dX6_restore_53 : decode cX6_restore 53 = .ok (.iinc 2 1, 3) := by decide +kernel
theorem dX6_restore_56 : decode cX6_restore 56 = .ok (.goto (-26), 3) := by decide +kernel
theorem dX6_restore_59 : decode cX6_restore 59 = .ok (.aload_n 0, 1) := by decide +kernel
theorem dX6_restore_60 : decode cX6_restore 60 = .ok (.getfield 7, 3) := by decide +kernel
theorem dX6_restore_63 : decode cX6_restore 63 = .ok (.bipush 42, 2) := by decide +kernel
theorem dX6_restore_65 : decode cX6_restore 65 = .ok (.iaload, 1) := by decide +kernel
theorem dX6_restore_66 : decode cX6_restore 66 = .ok (.ireturn, 1) := by decide +kernel
theorem dX6_putAside_0 : decode cX6_putAside 0 = .ok (.iconst 0, 1) := by decide +kernel
theorem dX6_putAside_1 : decode cX6_putAside 1 = .ok (.istore_n 1, 1) := by decide +kernel
theorem dX6_putAside_2 : decode cX6_putAside 2 = .ok (.iload_n 1, 1) := by decide +kernel
theorem dX6_putAside_3 : decode cX6_putAside 3 = .ok (.bipush 46, 2) := by decide +kernel
theorem dX6_putAside_5 : decode cX6_putAside 5 = .ok (.if_icmp .ge 21, 3) := by decide +kernel
theorem dX6_putAside_8 : decode cX6_putAside 8 = .ok (.aload_n 0, 1) := by decide +kernel
theorem dX6_putAside_9 : decode cX6_putAside 9 = .ok (.getfield 13, 3) := by decide +kernel
theorem dX6_putAside_12 : decode cX6_putAside 12 = .ok (.iload_n 1, 1) := by decide +kernel
theorem dX6_putAside_13 : decode cX6_putAside 13 = .ok (.aload_n 0, 1) := by decide +kernel
theorem dX6_putAside_14 : decode cX6_putAside 14 = .ok (.getfield 7, 3) := by decide +kernel
theorem dX6_putAside_17 : decode cX6_putAside 17 = .ok (.iload_n 1, 1) := by decide +kernel
theorem dX6_putAside_18 : decode cX6_putAside 18 = .ok (.iaload, 1) := by decide +kernel
theorem dX6_putAside_19 : decode cX6_putAside 19 = .ok (.iastore, 1) := by decide +kernel
theorem dX6_putAside_20 : decode cX6_putAside 20 = .ok (.iinc 1 1, 3) := by decide +kernel
theorem dX6_putAside_23 : decode cX6_putAside 23 = .ok (.goto (-21), 3) := by decide +kernel
theorem dX6_putAside_26 : decode cX6_putAside 26 = .ok (.return_, 1) := by decide +kernel
theorem dX6_putBack_0 : decode cX6_putBack 0 = .ok (.iconst 0, 1) := by decide +kernel
theorem dX6_putBack_1 : decode cX6_putBack 1 = .ok (.istore_n 1, 1) := by decide +kernel
theorem dX6_putBack_2 : decode cX6_putBack 2 = .ok (.iload_n 1, 1) := by decide +kernel
theorem dX6_putBack_3 : decode cX6_putBack 3 = .ok (.bipush 46, 2) := by decide +kernel
theorem dX6_putBack_5 : decode cX6_putBack 5 = .ok (.if_icmp .ge 21, 3) := by decide +kernel
theorem dX6_putBack_8 : decode cX6_putBack 8 = .ok (.aload_n 0, 1) := by decide +kernel
theorem dX6_putBack_9 : decode cX6_putBack 9 = .ok (.getfield 7, 3) := by decide +kernel
theorem dX6_putBack_12 : decode cX6_putBack 12 = .ok (.iload_n 1, 1) := by decide +kernel
theorem dX6_putBack_13 : decode cX6_putBack 13 = .ok (.aload_n 0, 1) := by decide +kernel
theorem dX6_putBack_14 : decode cX6_putBack 14 = .ok (.getfield 13, 3) := by decide +kernel
theorem dX6_putBack_17 : decode cX6_putBack 17 = .ok (.iload_n 1, 1) := by decide +kernel
theorem dX6_putBack_18 : decode cX6_putBack 18 = .ok (.iaload, 1) := by decide +kernel
theorem dX6_putBack_19 : decode cX6_putBack 19 = .ok (.iastore, 1) := by decide +kernel
theorem dX6_putBack_20 : decode cX6_putBack 20 = .ok (.iinc 1 1, 3) := by decide +kernel
theorem dX6_putBack_23 : decode cX6_putBack 23 = .ok (.goto (-21), 3) := by decide +kernel
theorem dX6_putBack_26 : decode cX6_putBack 26 = .ok (.return_, 1) := by decide +kernel
theorem dX6_isBlocked_0 : decode cX6_isBlocked 0 = .ok (.iconst 0, 1) := by decide +kernel
theorem dX6_isBlocked_1 : decode cX6_isBlocked 1 = .ok (.istore_n 3, 1) := by decide +kernel
theorem dX6_isBlocked_2 : decode cX6_isBlocked 2 = .ok (.iconst 0, 1) := by decide +kernel
theorem dX6_isBlocked_3 : decode cX6_isBlocked 3 = .ok (.istore 4, 2) := by decide +kernel
theorem dX6_isBlocked_5 : decode cX6_isBlocked 5 = .ok (.iload 4, 2) := by decide +kernel
theorem dX6_isBlocked_7 : decode cX6_isBlocked 7 = .ok (.iconst 4, 1) := by decide +kernel
theorem dX6_isBlocked_8 : decode cX6_isBlocked 8 = .ok (.if_icmp .ge 36, 3) := by decide +kernel
theorem dX6_isBlocked_11 : decode cX6_isBlocked 11 = .ok (.iload_n 3, 1) := by decide +kernel
theorem dX6_isBlocked_12 : decode cX6_isBlocked 12 = .ok (.ifCond .ne 20, 3) := by decide +kernel
theorem dX6_isBlocked_15 : decode cX6_isBlocked 15 = .ok (.iload 4, 2) := by decide +kernel
theorem dX6_isBlocked_17 : decode cX6_isBlocked 17 = .ok (.iload_n 1, 1) := by decide +kernel
theorem dX6_isBlocked_18 : decode cX6_isBlocked 18 = .ok (.if_icmp .eq 18, 3) := by decide +kernel
theorem dX6_isBlocked_21 : decode cX6_isBlocked 21 = .ok (.aload_n 0, 1) := by decide +kernel
theorem dX6_isBlocked_22 : decode cX6_isBlocked 22 = .ok (.iload 4, 2) := by decide +kernel
theorem dX6_isBlocked_24 : decode cX6_isBlocked 24 = .ok (.iload_n 2, 1) := by decide +kernel
theorem dX6_isBlocked_25 : decode cX6_isBlocked 25 = .ok (.invokevirtual 48, 3) := by decide +kernel
theorem dX6_isBlocked_28 : decode cX6_isBlocked 28 = .ok (.iconst 1, 1) := by decide +kernel
theorem dX6_isBlocked_29 : decode cX6_isBlocked 29 = .ok (.if_icmp .le 7, 3) := by decide +kernel
theorem dX6_isBlocked_32 : decode cX6_isBlocked 32 = .ok (.iconst 1, 1) := by decide +kernel
theorem dX6_isBlocked_33 : decode cX6_isBlocked 33 = .ok (.goto 4, 3) := by decide +kernel
theorem dX6_isBlocked_36 : decode cX6_isBlocked 36 = .ok (.iconst 0, 1) := by decide +kernel
theorem dX6_isBlocked_37 : decode cX6_isBlocked 37 = .ok (.istore_n 3, 1) := by decide +kernel
theorem dX6_isBlocked_38 : decode cX6_isBlocked 38 = .ok (.iinc 4 1, 3) := by decide +kernel
theorem dX6_isBlocked_41 : decode cX6_isBlocked 41 = .ok (.goto (-36), 3) := by decide +kernel
theorem dX6_isBlocked_44 : decode cX6_isBlocked 44 = .ok (.iload_n 3, 1) := by decide +kernel
theorem dX6_isBlocked_45 : decode cX6_isBlocked 45 = .ok (.ireturn, 1) := by decide +kernel
theorem dX6_stepOn_0 : decode cX6_stepOn 0 = .ok (.iload_n 2, 1) := by decide +kernel
theorem dX6_stepOn_1 : decode cX6_stepOn 1 = .ok (.istore 4, 2) := by decide +kernel
theorem dX6_stepOn_3 : decode cX6_stepOn 3 = .ok (.iload_n 3, 1) := by decide +kernel
theorem dX6_stepOn_4 : decode cX6_stepOn 4 = .ok (.istore 5, 2) := by decide +kernel
theorem dX6_stepOn_6 : decode cX6_stepOn 6 = .ok (.iconst 1, 1) := by decide +kernel
theorem dX6_stepOn_7 : decode cX6_stepOn 7 = .ok (.istore 6, 2) := by decide +kernel
theorem dX6_stepOn_9 : decode cX6_stepOn 9 = .ok (.iload 5, 2) := by decide +kernel
theorem dX6_stepOn_11 : decode cX6_stepOn 11 = .ok (.ifCond .le 48, 3) := by decide +kernel
theorem dX6_stepOn_14 : decode cX6_stepOn 14 = .ok (.iinc 4 1, 3) := by decide +kernel
theorem dX6_stepOn_17 : decode cX6_stepOn 17 = .ok (.aload_n 0, 1) := by decide +kernel
theorem dX6_stepOn_18 : decode cX6_stepOn 18 = .ok (.iload_n 1, 1) := by decide +kernel
theorem dX6_stepOn_19 : decode cX6_stepOn 19 = .ok (.iload 4, 2) := by decide +kernel
theorem dX6_stepOn_21 : decode cX6_stepOn 21 = .ok (.invokestatic 36, 3) := by decide +kernel
theorem dX6_stepOn_24 : decode cX6_stepOn 24 = .ok (.invokevirtual 71, 3) := by decide +kernel
theorem dX6_stepOn_27 : decode cX6_stepOn 27 = .ok (.istore 7, 2) := by decide +kernel
theorem dX6_stepOn_29 : decode cX6_stepOn 29 = .ok (.iload 5, 2) := by decide +kernel
theorem dX6_stepOn_31 : decode cX6_stepOn 31 = .ok (.iload 7, 2) := by decide +kernel
theorem dX6_stepOn_33 : decode cX6_stepOn 33 = .ok (.ifCond .eq 7, 3) := by decide +kernel
theorem dX6_stepOn_36 : decode cX6_stepOn 36 = .ok (.iconst 2, 1) := by decide +kernel
theorem dX6_stepOn_37 : decode cX6_stepOn 37 = .ok (.goto 4, 3) := by decide +kernel
theorem dX6_stepOn_40 : decode cX6_stepOn 40 = .ok (.iconst 1, 1) := by decide +kernel
theorem dX6_stepOn_41 : decode cX6_stepOn 41 = .ok (.isub, 1) := by decide +kernel
theorem dX6_stepOn_42 : decode cX6_stepOn 42 = .ok (.istore 5, 2) := by decide +kernel
theorem dX6_stepOn_44 : decode cX6_stepOn 44 = .ok (.iload 7, 2) := by decide +kernel
theorem dX6_stepOn_46 : decode cX6_stepOn 46 = .ok (.ifCond .ne 7, 3) := by decide +kernel
theorem dX6_stepOn_49 : decode cX6_stepOn 49 = .ok (.iconst 1, 1) := by decide +kernel
theorem dX6_stepOn_50 : decode cX6_stepOn 50 = .ok (.goto 4, 3) := by decide +kernel
theorem dX6_stepOn_53 : decode cX6_stepOn 53 = .ok (.iconst 0, 1) := by decide +kernel
theorem dX6_stepOn_54 : decode cX6_stepOn 54 = .ok (.istore 6, 2) := by decide +kernel
theorem dX6_stepOn_56 : decode cX6_stepOn 56 = .ok (.goto (-47), 3) := by decide +kernel
theorem dX6_stepOn_59 : decode cX6_stepOn 59 = .ok (.iload 4, 2) := by decide +kernel
theorem dX6_stepOn_61 : decode cX6_stepOn 61 = .ok (.bipush 35, 2) := by decide +kernel
theorem dX6_stepOn_63 : decode cX6_stepOn 63 = .ok (.if_icmp .gt 13, 3) := by decide +kernel
theorem dX6_stepOn_66 : decode cX6_stepOn 66 = .ok (.iload 5, 2) := by decide +kernel
theorem dX6_stepOn_68 : decode cX6_stepOn 68 = .ok (.ifCond .lt 8, 3) := by decide +kernel
theorem dX6_stepOn_71 : decode cX6_stepOn 71 = .ok (.iload 6, 2) := by decide +kernel
theorem dX6_stepOn_73 : decode cX6_stepOn 73 = .ok (.ifCond .ne 8, 3) := by decide +kernel
theorem dX6_stepOn_76 : decode cX6_stepOn 76 = .ok (.bipush (-6), 2) := by decide +kernel
theorem dX6_stepOn_78 : decode cX6_stepOn 78 = .ok (.goto 5, 3) := by decide +kernel
theorem dX6_stepOn_81 : decode cX6_stepOn 81 = .ok (.iload 4, 2) := by decide +kernel
theorem dX6_stepOn_83 : decode cX6_stepOn 83 = .ok (.ireturn, 1) := by decide +kernel
theorem dX6_whyNot_0 : decode cX6_whyNot 0 = .ok (.iload_n 1, 1) := by decide +kernel
theorem dX6_whyNot_1 : decode cX6_whyNot 1 = .ok (.iconst 3, 1) := by decide +kernel
theorem dX6_whyNot_2 : decode cX6_whyNot 2 = .ok (.idiv, 1) := by decide +kernel
theorem dX6_whyNot_3 : decode cX6_whyNot 3 = .ok (.istore_n 3, 1) := by decide +kernel
theorem dX6_whyNot_4 : decode cX6_whyNot 4 = .ok (.aload_n 0, 1) := by decide +kernel
theorem dX6_whyNot_5 : decode cX6_whyNot 5 = .ok (.getfield 7, 3) := by decide +kernel
theorem dX6_whyNot_8 : decode cX6_whyNot 8 = .ok (.iload_n 1, 1) := by decide +kernel
theorem dX6_whyNot_9 : decode cX6_whyNot 9 = .ok (.iaload, 1) := by decide +kernel
theorem dX6_whyNot_10 : decode cX6_whyNot 10 = .ok (.istore 4, 2) := by decide +kernel
theorem dX6_whyNot_12 : decode cX6_whyNot 12 = .ok (.iload 4, 2) := by decide +kernel
theorem dX6_whyNot_14 : decode cX6_whyNot 14 = .ok (.bipush 35, 2) := by decide +kernel
theorem dX6_whyNot_16 : decode cX6_whyNot 16 = .ok (.if_icmp .ne 5, 3) := by decide +kernel
theorem dX6_whyNot_19 : decode cX6_whyNot 19 = .ok (.iconst 1, 1) := by decide +kernel
theorem dX6_whyNot_20 : decode cX6_whyNot 20 = .ok (.ireturn, 1) := by decide +kernel
theorem dX6_whyNot_21 : decode cX6_whyNot 21 = .ok (.iload 4, 2) := by decide +kernel
theorem dX6_whyNot_23 : decode cX6_whyNot 23 = .ok (.bipush (-6), 2) := by decide +kernel
theorem dX6_whyNot_25 : decode cX6_whyNot 25 = .ok (.if_icmp .ne 16, 3) := by decide +kernel
theorem dX6_whyNot_28 : decode cX6_whyNot 28 = .ok (.iload_n 2, 1) := by decide +kernel
theorem dX6_whyNot_29 : decode cX6_whyNot 29 = .ok (.aload_n 0, 1) := by decide +kernel
theorem dX6_whyNot_30 : decode cX6_whyNot 30 = .ok (.getfield 7, 3) := by decide +kernel
theorem dX6_whyNot_33 : decode cX6_whyNot 33 = .ok (.bipush 36, 2) := by decide +kernel
theorem dX6_whyNot_35 : decode cX6_whyNot 35 = .ok (.iaload, 1) := by decide +kernel
theorem dX6_whyNot_36 : decode cX6_whyNot 36 = .ok (.if_icmp .ge 5, 3) := by decide +kernel
theorem dX6_whyNot_39 : decode cX6_whyNot 39 = .ok (.iconst 2, 1) := by decide +kernel
theorem dX6_whyNot_40 : decode cX6_whyNot 40 = .ok (.ireturn, 1) := by decide +kernel
theorem dX6_whyNot_41 : decode cX6_whyNot 41 = .ok (.aload_n 0, 1) := by decide +kernel
theorem dX6_whyNot_42 : decode cX6_whyNot 42 = .ok (.iload 4, 2) := by decide +kernel
theorem dX6_whyNot_44 : decode cX6_whyNot 44 = .ok (.bipush (-6), 2) := by decide +kernel
theorem dX6_whyNot_46 : decode cX6_whyNot 46 = .ok (.if_icmp .ne 7, 3) := by decide +kernel
theorem dX6_whyNot_49 : decode cX6_whyNot 49 = .ok (.iconst 0, 1) := by decide +kernel
theorem dX6_whyNot_50 : decode cX6_whyNot 50 = .ok (.goto 11, 3) := by decide +kernel
theorem dX6_whyNot_53 : decode cX6_whyNot 53 = .ok (.aload_n 0, 1) := by decide +kernel
theorem dX6_whyNot_54 : decode cX6_whyNot 54 = .ok (.iload_n 3, 1) := by decide +kernel
theorem dX6_whyNot_55 : decode cX6_whyNot 55 = .ok (.iload 4, 2) := by decide +kernel
theorem dX6_whyNot_57 : decode cX6_whyNot 57 = .ok (.iload_n 2, 1) := by decide +kernel
theorem dX6_whyNot_58 : decode cX6_whyNot 58 = .ok (.invokevirtual 74, 3) := by decide +kernel
theorem dX6_whyNot_61 : decode cX6_whyNot 61 = .ok (.putfield 78, 3) := by decide +kernel
theorem dX6_whyNot_64 : decode cX6_whyNot 64 = .ok (.aload_n 0, 1) := by decide +kernel
theorem dX6_whyNot_65 : decode cX6_whyNot 65 = .ok (.getfield 78, 3) := by decide +kernel
theorem dX6_whyNot_68 : decode cX6_whyNot 68 = .ok (.ifCond .ge 5, 3) := by decide +kernel
theorem dX6_whyNot_71 : decode cX6_whyNot 71 = .ok (.iconst 3, 1) := by decide +kernel
theorem dX6_whyNot_72 : decode cX6_whyNot 72 = .ok (.ireturn, 1) := by decide +kernel
theorem dX6_whyNot_73 : decode cX6_whyNot 73 = .ok (.iload 4, 2) := by decide +kernel
theorem dX6_whyNot_75 : decode cX6_whyNot 75 = .ok (.bipush (-6), 2) := by decide +kernel
theorem dX6_whyNot_77 : decode cX6_whyNot 77 = .ok (.if_icmp .ne 7, 3) := by decide +kernel
theorem dX6_whyNot_80 : decode cX6_whyNot 80 = .ok (.iconst 0, 1) := by decide +kernel
theorem dX6_whyNot_81 : decode cX6_whyNot 81 = .ok (.goto 7, 3) := by decide +kernel
theorem dX6_whyNot_84 : decode cX6_whyNot 84 = .ok (.iload 4, 2) := by decide +kernel
theorem dX6_whyNot_86 : decode cX6_whyNot 86 = .ok (.iconst 1, 1) := by decide +kernel
theorem dX6_whyNot_87 : decode cX6_whyNot 87 = .ok (.iadd, 1) := by decide +kernel
theorem dX6_whyNot_88 : decode cX6_whyNot 88 = .ok (.istore 5, 2) := by decide +kernel
theorem dX6_whyNot_90 : decode cX6_whyNot 90 = .ok (.iload 5, 2) := by decide +kernel
theorem dX6_whyNot_92 : decode cX6_whyNot 92 = .ok (.aload_n 0, 1) := by decide +kernel
theorem dX6_whyNot_93 : decode cX6_whyNot 93 = .ok (.getfield 78, 3) := by decide +kernel
theorem dX6_whyNot_96 : decode cX6_whyNot 96 = .ok (.if_icmp .gt 25, 3) := by decide +kernel
theorem dX6_whyNot_99 : decode cX6_whyNot 99 = .ok (.aload_n 0, 1) := by decide +kernel
theorem dX6_whyNot_100 : decode cX6_whyNot 100 = .ok (.iload_n 3, 1) := by decide +kernel
theorem dX6_whyNot_101 : decode cX6_whyNot 101 = .ok (.iload_n 3, 1) := by decide +kernel
theorem dX6_whyNot_102 : decode cX6_whyNot 102 = .ok (.iload 5, 2) := by decide +kernel
theorem dX6_whyNot_104 : decode cX6_whyNot 104 = .ok (.invokestatic 36, 3) := by decide +kernel
theorem dX6_whyNot_107 : decode cX6_whyNot 107 = .ok (.invokevirtual 81, 3) := by decide +kernel
theorem dX6_whyNot_110 : decode cX6_whyNot 110 = .ok (.ifCond .eq 5, 3) := by decide +kernel
theorem dX6_whyNot_113 : decode cX6_whyNot 113 = .ok (.iconst 4, 1) := by decide +kernel
theorem dX6_whyNot_114 : decode cX6_whyNot 114 = .ok (.ireturn, 1) := by decide +kernel
theorem dX6_whyNot_115 : decode cX6_whyNot 115 = .ok (.iinc 5 1, 3) := by decide +kernel
theorem dX6_whyNot_118 : decode cX6_whyNot 118 = .ok (.goto (-28), 3) := by decide +kernel
theorem dX6_whyNot_121 : decode cX6_whyNot 121 = .ok (.iconst 0, 1) := by decide +kernel
theorem dX6_whyNot_122 : decode cX6_whyNot 122 = .ok (.istore 5, 2) := by decide +kernel
theorem dX6_whyNot_124 : decode cX6_whyNot 124 = .ok (.iconst 0, 1) := by decide +kernel
theorem dX6_whyNot_125 : decode cX6_whyNot 125 = .ok (.istore 6, 2) := by decide +kernel
theorem dX6_whyNot_127 : decode cX6_whyNot 127 = .ok (.iload 6, 2) := by decide +kernel
theorem dX6_whyNot_129 : decode cX6_whyNot 129 = .ok (.iconst 3, 1) := by decide +kernel
theorem dX6_whyNot_130 : decode cX6_whyNot 130 = .ok (.if_icmp .ge 46, 3) := by decide +kernel
theorem dX6_whyNot_133 : decode cX6_whyNot 133 = .ok (.iload 5, 2) := by decide +kernel
theorem dX6_whyNot_135 : decode cX6_whyNot 135 = .ok (.aload_n 0, 1) := by decide +kernel
theorem dX6_whyNot_136 : decode cX6_whyNot 136 = .ok (.getfield 7, 3) := by decide +kernel
theorem dX6_whyNot_139 : decode cX6_whyNot 139 = .ok (.iconst 3, 1) := by decide +kernel
theorem dX6_whyNot_140 : decode cX6_whyNot 140 = .ok (.iload_n 3, 1) := by decide +kernel
theorem dX6_whyNot_141 : decode cX6_whyNot 141 = .ok (.imul, 1) := by decide +kernel
theorem dX6_whyNot_142 : decode cX6_whyNot 142 = .ok (.iload 6, 2) := by decide +kernel
theorem dX6_whyNot_144 : decode cX6_whyNot 144 = .ok (.iadd, 1) := by decide +kernel
theorem dX6_whyNot_145 : decode cX6_whyNot 145 = .ok (.iaload, 1) := by decide +kernel
theorem dX6_whyNot_146 : decode cX6_whyNot 146 = .ok (.aload_n 0, 1) := by decide +kernel
theorem dX6_whyNot_147 : decode cX6_whyNot 147 = .ok (.getfield 78, 3) := by decide +kernel
theorem dX6_whyNot_150 : decode cX6_whyNot 150 = .ok (.if_icmp .ne 16, 3) := by decide +kernel
theorem dX6_whyNot_153 : decode cX6_whyNot 153 = .ok (.aload_n 0, 1) := by decide +kernel
theorem dX6_whyNot_154 : decode cX6_whyNot 154 = .ok (.getfield 78, 3) := by decide +kernel
theorem dX6_whyNot_157 : decode cX6_whyNot 157 = .ok (.bipush 35, 2) := by decide +kernel
theorem dX6_whyNot_159 : decode cX6_whyNot 159 = .ok (.if_icmp .ge 7, 3) := by decide +kernel
theorem dX6_whyNot_162 : decode cX6_whyNot 162 = .ok (.iconst 1, 1) := by decide +kernel
theorem dX6_whyNot_163 : decode cX6_whyNot 163 = .ok (.goto 4, 3) := by decide +kernel
theorem dX6_whyNot_166 : decode cX6_whyNot 166 = .ok (.iconst 0, 1) := by decide +kernel
theorem dX6_whyNot_167 : decode cX6_whyNot 167 = .ok (.iadd, 1) := by decide +kernel
theorem dX6_whyNot_168 : decode cX6_whyNot 168 = .ok (.istore 5, 2) := by decide +kernel
theorem dX6_whyNot_170 : decode cX6_whyNot 170 = .ok (.iinc 6 1, 3) := by decide +kernel
theorem dX6_whyNot_173 : decode cX6_whyNot 173 = .ok (.goto (-46), 3) := by decide +kernel
theorem dX6_whyNot_176 : decode cX6_whyNot 176 = .ok (.iload 5, 2) := by decide +kernel
theorem dX6_whyNot_178 : decode cX6_whyNot 178 = .ok (.iconst 1, 1) := by decide +kernel
theorem dX6_whyNot_179 : decode cX6_whyNot 179 = .ok (.if_icmp .le 5, 3) := by decide +kernel
theorem dX6_whyNot_182 : decode cX6_whyNot 182 = .ok (.iconst 5, 1) := by decide +kernel
theorem dX6_whyNot_183 : decode cX6_whyNot 183 = .ok (.ireturn, 1) := by decide +kernel
theorem dX6_whyNot_184 : decode cX6_whyNot 184 = .ok (.iload_n 3, 1) := by decide +kernel
theorem dX6_whyNot_185 : decode cX6_whyNot 185 = .ok (.aload_n 0, 1) := by decide +kernel
theorem dX6_whyNot_186 : decode cX6_whyNot 186 = .ok (.getfield 78, 3) := by decide +kernel
theorem dX6_whyNot_189 : decode cX6_whyNot 189 = .ok (.invokestatic 36, 3) := by decide +kernel
theorem dX6_whyNot_192 : decode cX6_whyNot 192 = .ok (.istore 6, 2) := by decide +kernel
theorem dX6_whyNot_194 : decode cX6_whyNot 194 = .ok (.iload 6, 2) := by decide +kernel
theorem dX6_whyNot_196 : decode cX6_whyNot 196 = .ok (.ifCond .lt 27, 3) := by decide +kernel
theorem dX6_whyNot_199 : decode cX6_whyNot 199 = .ok (.iload 6, 2) := by decide +kernel
theorem dX6_whyNot_201 : decode cX6_whyNot 201 = .ok (.invokestatic 85, 3) := by decide +kernel
theorem dX6_whyNot_204 : decode cX6_whyNot 204 = .ok (.ifCond .eq 19, 3) := by decide +kernel
theorem dX6_whyNot_207 : decode cX6_whyNot 207 = .ok (.aload_n 0, 1) := by decide +kernel
theorem dX6_whyNot_208 : decode cX6_whyNot 208 = .ok (.iload 6, 2) := by decide +kernel
theorem dX6_whyNot_210 : decode cX6_whyNot 210 = .ok (.invokevirtual 61, 3) := by decide +kernel
theorem dX6_whyNot_213 : decode cX6_whyNot 213 = .ok (.iload 5, 2) := by decide +kernel
theorem dX6_whyNot_215 : decode cX6_whyNot 215 = .ok (.if_icmp .le 8, 3) := by decide +kernel
theorem dX6_whyNot_218 : decode cX6_whyNot 218 = .ok (.bipush 6, 2) := by decide +kernel
theorem dX6_whyNot_220 : decode cX6_whyNot 220 = .ok (.goto 4, 3) := by decide +kernel
theorem dX6_whyNot_223 : decode cX6_whyNot 223 = .ok (.iconst 0, 1) := by decide +kernel
theorem dX6_whyNot_224 : decode cX6_whyNot 224 = .ok (.ireturn, 1) := by decide +kernel
theorem dX6_otherOn_0 : decode cX6_otherOn 0 = .ok (.bipush (-6), 2) := by decide +kernel
theorem dX6_otherOn_2 : decode cX6_otherOn 2 = .ok (.istore_n 3, 1) := by decide +kernel
theorem dX6_otherOn_3 : decode cX6_otherOn 3 = .ok (.iconst 0, 1) := by decide +kernel
theorem dX6_otherOn_4 : decode cX6_otherOn 4 = .ok (.istore 4, 2) := by decide +kernel
theorem dX6_otherOn_6 : decode cX6_otherOn 6 = .ok (.iload 4, 2) := by decide +kernel
theorem dX6_otherOn_8 : decode cX6_otherOn 8 = .ok (.bipush 12, 2) := by decide +kernel
theorem dX6_otherOn_10 : decode cX6_otherOn 10 = .ok (.if_icmp .ge 38, 3) := by decide +kernel
theorem dX6_otherOn_13 : decode cX6_otherOn 13 = .ok (.iload 4, 2) := by decide +kernel
theorem dX6_otherOn_15 : decode cX6_otherOn 15 = .ok (.iconst 3, 1) := by decide +kernel
theorem dX6_otherOn_16 : decode cX6_otherOn 16 = .ok (.idiv, 1) := by decide +kernel
theorem dX6_otherOn_17 : decode cX6_otherOn 17 = .ok (.iload_n 1, 1) := by decide +kernel
theorem dX6_otherOn_18 : decode cX6_otherOn 18 = .ok (.if_icmp .eq 22, 3) := by decide +kernel
theorem dX6_otherOn_21 : decode cX6_otherOn 21 = .ok (.iload_n 2, 1) := by decide +kernel
theorem dX6_otherOn_22 : decode cX6_otherOn 22 = .ok (.ifCond .lt 18, 3) := by decide +kernel
theorem dX6_otherOn_25 : decode cX6_otherOn 25 = .ok (.aload_n 0, 1) := by decide +kernel
theorem dX6_otherOn_26 : decode cX6_otherOn 26 = .ok (.iload 4, 2) := by decide +kernel
theorem dX6_otherOn_28 : decode cX6_otherOn 28 = .ok (.invokevirtual 44, 3) := by decide +kernel
theorem dX6_otherOn_31 : decode cX6_otherOn 31 = .ok (.iload_n 2, 1) := by decide +kernel
theorem dX6_otherOn_32 : decode cX6_otherOn 32 = .ok (.if_icmp .ne 8, 3) := by decide +kernel
theorem dX6_otherOn_35 : decode cX6_otherOn 35 = .ok (.iload 4, 2) := by decide +kernel
theorem dX6_otherOn_37 : decode cX6_otherOn 37 = .ok (.goto 4, 3) := by decide +kernel
theorem dX6_otherOn_40 : decode cX6_otherOn 40 = .ok (.iload_n 3, 1) := by decide +kernel
theorem dX6_otherOn_41 : decode cX6_otherOn 41 = .ok (.istore_n 3, 1) := by decide +kernel
theorem dX6_otherOn_42 : decode cX6_otherOn 42 = .ok (.iinc 4 1, 3) := by decide +kernel
theorem dX6_otherOn_45 : decode cX6_otherOn 45 = .ok (.goto (-39), 3) := by decide +kernel
theorem dX6_otherOn_48 : decode cX6_otherOn 48 = .ok (.iload_n 3, 1) := by decide +kernel
theorem dX6_otherOn_49 : decode cX6_otherOn 49 = .ok (.ireturn, 1) := by decide +kernel
theorem dX6_doMove_0 : decode cX6_doMove 0 = .ok (.aload_n 0, 1) := by decide +kernel
theorem dX6_doMove_1 : decode cX6_doMove 1 = .ok (.iload_n 1, 1) := by decide +kernel
theorem dX6_doMove_2 : decode cX6_doMove 2 = .ok (.iload_n 2, 1) := by decide +kernel
theorem dX6_doMove_3 : decode cX6_doMove 3 = .ok (.invokevirtual 88, 3) := by decide +kernel
theorem dX6_doMove_6 : decode cX6_doMove 6 = .ok (.pop, 1) := by decide +kernel
theorem dX6_doMove_7 : decode cX6_doMove 7 = .ok (.aload_n 0, 1) := by decide +kernel
theorem dX6_doMove_8 : decode cX6_doMove 8 = .ok (.iload_n 1, 1) := by decide +kernel
theorem dX6_doMove_9 : decode cX6_doMove 9 = .ok (.iconst 3, 1) := by decide +kernel
theorem dX6_doMove_10 : decode cX6_doMove 10 = .ok (.idiv, 1) := by decide +kernel
theorem dX6_doMove_11 : decode cX6_doMove 11 = .ok (.iload_n 1, 1) := by decide +kernel
theorem dX6_doMove_12 : decode cX6_doMove 12 = .ok (.iconst 3, 1) := by decide +kernel
theorem dX6_doMove_13 : decode cX6_doMove 13 = .ok (.idiv, 1) := by decide +kernel
theorem dX6_doMove_14 : decode cX6_doMove 14 = .ok (.aload_n 0, 1) := by decide +kernel
theorem dX6_doMove_15 : decode cX6_doMove 15 = .ok (.getfield 78, 3) := by decide +kernel
theorem dX6_doMove_18 : decode cX6_doMove 18 = .ok (.invokestatic 36, 3) := by decide +kernel
theorem dX6_doMove_21 : decode cX6_doMove 21 = .ok (.invokevirtual 91, 3) := by decide +kernel
theorem dX6_doMove_24 : decode cX6_doMove 24 = .ok (.istore_n 3, 1) := by decide +kernel
theorem dX6_doMove_25 : decode cX6_doMove 25 = .ok (.iload_n 3, 1) := by decide +kernel
theorem dX6_doMove_26 : decode cX6_doMove 26 = .ok (.ifCond .lt 35, 3) := by decide +kernel
theorem dX6_doMove_29 : decode cX6_doMove 29 = .ok (.aload_n 0, 1) := by decide +kernel
theorem dX6_doMove_30 : decode cX6_doMove 30 = .ok (.getfield 7, 3) := by decide +kernel
theorem dX6_doMove_33 : decode cX6_doMove 33 = .ok (.iload_n 3, 1) := by decide +kernel
theorem dX6_doMove_34 : decode cX6_doMove 34 = .ok (.bipush (-6), 2) := by decide +kernel
theorem dX6_doMove_36 : decode cX6_doMove 36 = .ok (.iastore, 1) := by decide +kernel
theorem dX6_doMove_37 : decode cX6_doMove 37 = .ok (.aload_n 0, 1) := by decide +kernel
theorem dX6_doMove_38 : decode cX6_doMove 38 = .ok (.getfield 7, 3) := by decide +kernel
theorem dX6_doMove_41 : decode cX6_doMove 41 = .ok (.bipush 12, 2) := by decide +kernel
theorem dX6_doMove_43 : decode cX6_doMove 43 = .ok (.iload_n 3, 1) := by decide +kernel
theorem dX6_doMove_44 : decode cX6_doMove 44 = .ok (.iadd, 1) := by decide +kernel
theorem dX6_doMove_45 : decode cX6_doMove 45 = .ok (.dup2, 1) := by decide +kernel
theorem dX6_doMove_46 : decode cX6_doMove 46 = .ok (.iaload, 1) := by decide +kernel
theorem dX6_doMove_47 : decode cX6_doMove 47 = .ok (.iconst 1, 1) := by decide +kernel
theorem dX6_doMove_48 : decode cX6_doMove 48 = .ok (.iadd, 1) := by decide +kernel
theorem dX6_doMove_49 : decode cX6_doMove 49 = .ok (.iastore, 1) := by decide +kernel
theorem dX6_doMove_50 : decode cX6_doMove 50 = .ok (.aload_n 0, 1) := by decide +kernel
theorem dX6_doMove_51 : decode cX6_doMove 51 = .ok (.getfield 7, 3) := by decide +kernel
theorem dX6_doMove_54 : decode cX6_doMove 54 = .ok (.bipush 44, 2) := by decide +kernel
theorem dX6_doMove_56 : decode cX6_doMove 56 = .ok (.dup2, 1) := by decide +kernel
theorem dX6_doMove_57 : decode cX6_doMove 57 = .ok (.iaload, 1) := by decide +kernel
theorem dX6_doMove_58 : decode cX6_doMove 58 = .ok (.iconst 1, 1) := by decide +kernel
theorem dX6_doMove_59 : decode cX6_doMove 59 = .ok (.iadd, 1) := by decide +kernel
theorem dX6_doMove_60 : decode cX6_doMove 60 = .ok (.iastore, 1) := by decide +kernel
theorem dX6_doMove_61 : decode cX6_doMove 61 = .ok (.aload_n 0, 1) := by decide +kernel
theorem dX6_doMove_62 : decode cX6_doMove 62 = .ok (.getfield 7, 3) := by decide +kernel
theorem dX6_doMove_65 : decode cX6_doMove 65 = .ok (.iload_n 1, 1) := by decide +kernel
theorem dX6_doMove_66 : decode cX6_doMove 66 = .ok (.aload_n 0, 1) := by decide +kernel
theorem dX6_doMove_67 : decode cX6_doMove 67 = .ok (.getfield 78, 3) := by decide +kernel
theorem dX6_doMove_70 : decode cX6_doMove 70 = .ok (.iastore, 1) := by decide +kernel
theorem dX6_doMove_71 : decode cX6_doMove 71 = .ok (.aload_n 0, 1) := by decide +kernel
theorem dX6_doMove_72 : decode cX6_doMove 72 = .ok (.invokevirtual 94, 3) := by decide +kernel
theorem dX6_doMove_75 : decode cX6_doMove 75 = .ok (.return_, 1) := by decide +kernel
theorem dX6_canMove_0 : decode cX6_canMove 0 = .ok (.iconst 0, 1) := by decide +kernel
theorem dX6_canMove_1 : decode cX6_canMove 1 = .ok (.istore_n 2, 1) := by decide +kernel
theorem dX6_canMove_2 : decode cX6_canMove 2 = .ok (.iconst 0, 1) := by decide +kernel
theorem dX6_canMove_3 : decode cX6_canMove 3 = .ok (.istore_n 3, 1) := by decide +kernel
theorem dX6_canMove_4 : decode cX6_canMove 4 = .ok (.iload_n 3, 1) := by decide +kernel
theorem dX6_canMove_5 : decode cX6_canMove 5 = .ok (.iconst 3, 1) := by decide +kernel
theorem dX6_canMove_6 : decode cX6_canMove 6 = .ok (.if_icmp .ge 38, 3) := by decide +kernel
theorem dX6_canMove_9 : decode cX6_canMove 9 = .ok (.iload_n 2, 1) := by decide +kernel
theorem dX6_canMove_10 : decode cX6_canMove 10 = .ok (.ifCond .ne 22, 3) := by decide +kernel
theorem dX6_canMove_13 : decode cX6_canMove 13 = .ok (.aload_n 0, 1) := by decide +kernel
theorem dX6_canMove_14 : decode cX6_canMove 14 = .ok (.iconst 3, 1) := by decide +kernel
theorem dX6_canMove_15 : decode cX6_canMove 15 = .ok (.aload_n 0, 1) := by decide +kernel
theorem dX6_canMove_16 : decode cX6_canMove 16 = .ok (.getfield 7, 3) := by decide +kernel
theorem dX6_canMove_19 : decode cX6_canMove 19 = .ok (.bipush 40, 2) := by decide +kernel
theorem dX6_canMove_21 : decode cX6_canMove 21 = .ok (.iaload, 1) := by decide +kernel
theorem dX6_canMove_22 : decode cX6_canMove 22 = .ok (.imul, 1) := by decide +kernel
theorem dX6_canMove_23 : decode cX6_canMove 23 = .ok (.iload_n 3, 1) := by decide +kernel
theorem dX6_canMove_24 : decode cX6_canMove 24 = .ok (.iadd, 1) := by decide +kernel
theorem dX6_canMove_25 : decode cX6_canMove 25 = .ok (.iload_n 1, 1) := by decide +kernel
theorem dX6_canMove_26 : decode cX6_canMove 26 = .ok (.invokevirtual 88, 3) := by decide +kernel
theorem dX6_canMove_29 : decode cX6_canMove 29 = .ok (.ifCond .ne 7, 3) := by decide +kernel
theorem dX6_canMove_32 : decode cX6_canMove 32 = .ok (.iconst 1, 1) := by decide +kernel
theorem dX6_canMove_33 : decode cX6_canMove 33 = .ok (.goto 4, 3) := by decide +kernel
theorem dX6_canMove_36 : decode cX6_canMove 36 = .ok (.iconst 0, 1) := by decide +kernel
theorem dX6_canMove_37 : decode cX6_canMove 37 = .ok (.istore_n 2, 1) := by decide +kernel
theorem dX6_canMove_38 : decode cX6_canMove 38 = .ok (.iinc 3 1, 3) := by decide +kernel
theorem dX6_canMove_41 : decode cX6_canMove 41 = .ok (.goto (-37), 3) := by decide +kernel
theorem dX6_canMove_44 : decode cX6_canMove 44 = .ok (.iload_n 2, 1) := by decide +kernel
theorem dX6_canMove_45 : decode cX6_canMove 45 = .ok (.ireturn, 1) := by decide +kernel
theorem dX6_goOn_0 : decode cX6_goOn 0 = .ok (.aload_n 0, 1) := by decide +kernel
theorem dX6_goOn_1 : decode cX6_goOn 1 = .ok (.getfield 7, 3) := by decide +kernel
theorem dX6_goOn_4 : decode cX6_goOn 4 = .ok (.bipush 41, 2) := by decide +kernel
theorem dX6_goOn_6 : decode cX6_goOn 6 = .ok (.iaload, 1) := by decide +kernel
theorem dX6_goOn_7 : decode cX6_goOn 7 = .ok (.bipush 6, 2) := by decide +kernel
theorem dX6_goOn_9 : decode cX6_goOn 9 = .ok (.if_icmp .ne 24, 3) := by decide +kernel
theorem dX6_goOn_12 : decode cX6_goOn 12 = .ok (.aload_n 0, 1) := by decide +kernel
theorem dX6_goOn_13 : decode cX6_goOn 13 = .ok (.getfield 7, 3) := by decide +kernel
theorem dX6_goOn_16 : decode cX6_goOn 16 = .ok (.bipush 43, 2) := by decide +kernel
theorem dX6_goOn_18 : decode cX6_goOn 18 = .ok (.iaload, 1) := by decide +kernel
theorem dX6_goOn_19 : decode cX6_goOn 19 = .ok (.aload_n 0, 1) := by decide +kernel
theorem dX6_goOn_20 : decode cX6_goOn 20 = .ok (.getfield 7, 3) := by decide +kernel
theorem dX6_goOn_23 : decode cX6_goOn 23 = .ok (.bipush 38, 2) := by decide +kernel
theorem dX6_goOn_25 : decode cX6_goOn 25 = .ok (.iaload, 1) := by decide +kernel
theorem dX6_goOn_26 : decode cX6_goOn 26 = .ok (.if_icmp .gt 7, 3) := by decide +kernel
theorem dX6_goOn_29 : decode cX6_goOn 29 = .ok (.iconst 1, 1) := by decide +kernel
theorem dX6_goOn_30 : decode cX6_goOn 30 = .ok (.goto 4, 3) := by decide +kernel
theorem dX6_goOn_33 : decode cX6_goOn 33 = .ok (.iconst 0, 1) := by decide +kernel
theorem dX6_goOn_34 : decode cX6_goOn 34 = .ok (.istore_n 1, 1) := by decide +kernel
theorem dX6_goOn_35 : decode cX6_goOn 35 = .ok (.aload_n 0, 1) := by decide +kernel
theorem dX6_goOn_36 : decode cX6_goOn 36 = .ok (.getfield 7, 3) := by decide +kernel
theorem dX6_goOn_39 : decode cX6_goOn 39 = .ok (.bipush 41, 2) := by decide +kernel
theorem dX6_goOn_41 : decode cX6_goOn 41 = .ok (.bipush (-6), 2) := by decide +kernel
theorem dX6_goOn_43 : decode cX6_goOn 43 = .ok (.iastore, 1) := by decide +kernel
theorem dX6_goOn_44 : decode cX6_goOn 44 = .ok (.aload_n 0, 1) := by decide +kernel
theorem dX6_goOn_45 : decode cX6_goOn 45 = .ok (.invokevirtual 97, 3) := by decide +kernel
theorem dX6_goOn_48 : decode cX6_goOn 48 = .ok (.ifCond .ne 7, 3) := by decide +kernel
theorem dX6_goOn_51 : decode cX6_goOn 51 = .ok (.iload_n 1, 1) := by decide +kernel
theorem dX6_goOn_52 : decode cX6_goOn 52 = .ok (.ifCond .eq 4, 3) := by decide +kernel
theorem dX6_goOn_55 : decode cX6_goOn 55 = .ok (.return_, 1) := by decide +kernel
theorem dX6_goOn_56 : decode cX6_goOn 56 = .ok (.aload_n 0, 1) := by decide +kernel
theorem dX6_goOn_57 : decode cX6_goOn 57 = .ok (.getfield 7, 3) := by decide +kernel
theorem dX6_goOn_60 : decode cX6_goOn 60 = .ok (.bipush 40, 2) := by decide +kernel
theorem dX6_goOn_62 : decode cX6_goOn 62 = .ok (.aload_n 0, 1) := by decide +kernel
theorem dX6_goOn_63 : decode cX6_goOn 63 = .ok (.getfield 7, 3) := by decide +kernel
theorem dX6_goOn_66 : decode cX6_goOn 66 = .ok (.bipush 40, 2) := by decide +kernel
theorem dX6_goOn_68 : decode cX6_goOn 68 = .ok (.iaload, 1) := by decide +kernel
theorem dX6_goOn_69 : decode cX6_goOn 69 = .ok (.iconst 1, 1) := by decide +kernel
theorem dX6_goOn_70 : decode cX6_goOn 70 = .ok (.iadd, 1) := by decide +kernel
theorem dX6_goOn_71 : decode cX6_goOn 71 = .ok (.iconst 4, 1) := by decide +kernel
theorem dX6_goOn_72 : decode cX6_goOn 72 = .ok (.irem, 1) := by decide +kernel
theorem dX6_goOn_73 : decode cX6_goOn 73 = .ok (.iastore, 1) := by decide +kernel
theorem dX6_goOn_74 : decode cX6_goOn 74 = .ok (.aload_n 0, 1) := by decide +kernel
theorem dX6_goOn_75 : decode cX6_goOn 75 = .ok (.getfield 7, 3) := by decide +kernel
theorem dX6_goOn_78 : decode cX6_goOn 78 = .ok (.bipush 42, 2) := by decide +kernel
theorem dX6_goOn_80 : decode cX6_goOn 80 = .ok (.dup2, 1) := by decide +kernel
theorem dX6_goOn_81 : decode cX6_goOn 81 = .ok (.iaload, 1) := by decide +kernel
theorem dX6_goOn_82 : decode cX6_goOn 82 = .ok (.iconst 1, 1) := by decide +kernel
theorem dX6_goOn_83 : decode cX6_goOn 83 = .ok (.iadd, 1) := by decide +kernel
theorem dX6_goOn_84 : decode cX6_goOn 84 = .ok (.iastore, 1) := by decide +kernel
theorem dX6_goOn_85 : decode cX6_goOn 85 = .ok (.aload_n 0, 1) := by decide +kernel
theorem dX6_goOn_86 : decode cX6_goOn 86 = .ok (.getfield 7, 3) := by decide +kernel
theorem dX6_goOn_89 : decode cX6_goOn 89 = .ok (.bipush 43, 2) := by decide +kernel
theorem dX6_goOn_91 : decode cX6_goOn 91 = .ok (.iconst 0, 1) := by decide +kernel
theorem dX6_goOn_92 : decode cX6_goOn 92 = .ok (.iastore, 1) := by decide +kernel
theorem dX6_goOn_93 : decode cX6_goOn 93 = .ok (.iconst 0, 1) := by decide +kernel
theorem dX6_goOn_94 : decode cX6_goOn 94 = .ok (.istore_n 2, 1) := by decide +kernel
theorem dX6_goOn_95 : decode cX6_goOn 95 = .ok (.iload_n 2, 1) := by decide +kernel
theorem dX6_goOn_96 : decode cX6_goOn 96 = .ok (.iconst 4, 1) := by decide +kernel
theorem dX6_goOn_97 : decode cX6_goOn 97 = .ok (.if_icmp .ge 69, 3) := by decide +kernel
theorem dX6_goOn_100 : decode cX6_goOn 100 = .ok (.aload_n 0, 1) := by decide +kernel
theorem dX6_goOn_101 : decode cX6_goOn 101 = .ok (.getfield 7, 3) := by decide +kernel
theorem dX6_goOn_104 : decode cX6_goOn 104 = .ok (.bipush 24, 2) := by decide +kernel
theorem dX6_goOn_106 : decode cX6_goOn 106 = .ok (.iload_n 2, 1) := by decide +kernel
theorem dX6_goOn_107 : decode cX6_goOn 107 = .ok (.iadd, 1) := by decide +kernel
theorem dX6_goOn_108 : decode cX6_goOn 108 = .ok (.iaload, 1) := by decide +kernel
theorem dX6_goOn_109 : decode cX6_goOn 109 = .ok (.iconst 1, 1) := by decide +kernel
theorem dX6_goOn_110 : decode cX6_goOn 110 = .ok (.if_icmp .ne 50, 3) := by decide +kernel
theorem dX6_goOn_113 : decode cX6_goOn 113 = .ok (.aload_n 0, 1) := by decide +kernel
theorem dX6_goOn_114 : decode cX6_goOn 114 = .ok (.getfield 7, 3) := by decide +kernel
theorem dX6_goOn_117 : decode cX6_goOn 117 = .ok (.bipush 37, 2) := by decide +kernel
theorem dX6_goOn_119 : decode cX6_goOn 119 = .ok (.iaload, 1) := by decide +kernel
theorem dX6_goOn_120 : decode cX6_goOn 120 = .ok (.ifCond .le 40, 3) := by decide +kernel
theorem dX6_goOn_123 : decode cX6_goOn 123 = .ok (.aload_n 0, 1) := by decide +kernel
theorem dX6_goOn_124 : decode cX6_goOn 124 = .ok (.getfield 7, 3) := by decide +kernel
theorem dX6_goOn_127 : decode cX6_goOn 127 = .ok (.bipush 42, 2) := by decide +kernel
theorem dX6_goOn_129 : decode cX6_goOn 129 = .ok (.iaload, 1) := by decide +kernel
theorem dX6_goOn_130 : decode cX6_goOn 130 = .ok (.aload_n 0, 1) := by decide +kernel
theorem dX6_goOn_131 : decode cX6_goOn 131 = .ok (.getfield 7, 3) := by decide +kernel
theorem dX6_goOn_134 : decode cX6_goOn 134 = .ok (.bipush 32, 2) := by decide +kernel
theorem dX6_goOn_136 : decode cX6_goOn 136 = .ok (.iload_n 2, 1) := by decide +kernel
theorem dX6_goOn_137 : decode cX6_goOn 137 = .ok (.iadd, 1) := by decide +kernel
theorem dX6_goOn_138 : decode cX6_goOn 138 = .ok (.iaload, 1) := by decide +kernel
theorem dX6_goOn_139 : decode cX6_goOn 139 = .ok (.isub, 1) := by decide +kernel
theorem dX6_goOn_140 : decode cX6_goOn 140 = .ok (.aload_n 0, 1) := by decide +kernel
theorem dX6_goOn_141 : decode cX6_goOn 141 = .ok (.getfield 7, 3) := by decide +kernel
theorem dX6_goOn_144 : decode cX6_goOn 144 = .ok (.bipush 37, 2) := by decide +kernel
theorem dX6_goOn_146 : decode cX6_goOn 146 = .ok (.iaload, 1) := by decide +kernel
theorem dX6_goOn_147 : decode cX6_goOn 147 = .ok (.if_icmp .lt 13, 3) := by decide +kernel
theorem dX6_goOn_150 : decode cX6_goOn 150 = .ok (.aload_n 0, 1) := by decide +kernel
theorem dX6_goOn_151 : decode cX6_goOn 151 = .ok (.getfield 7, 3) := by decide +kernel
theorem dX6_goOn_154 : decode cX6_goOn 154 = .ok (.bipush 24, 2) := by decide +kernel
theorem dX6_goOn_156 : decode cX6_goOn 156 = .ok (.iload_n 2, 1) := by decide +kernel
theorem dX6_goOn_157 : decode cX6_goOn 157 = .ok (.iadd, 1) := by decide +kernel
theorem dX6_goOn_158 : decode cX6_goOn 158 = .ok (.iconst 0, 1) := by decide +kernel
theorem dX6_goOn_159 : decode cX6_goOn 159 = .ok (.iastore, 1) := by decide +kernel
theorem dX6_goOn_160 : decode cX6_goOn 160 = .ok (.iinc 2 1, 3) := by decide +kernel
theorem dX6_goOn_163 : decode cX6_goOn 163 = .ok (.goto (-68), 3) := by decide +kernel
theorem dX6_goOn_166 : decode cX6_goOn 166 = .ok (.return_, 1) := by decide +kernel
theorem dX6_draw_0 : decode cX6_draw 0 = .ok (.aload_n 0, 1) := by decide +kernel
theorem dX6_draw_1 : decode cX6_draw 1 = .ok (.getfield 7, 3) := by decide +kernel
theorem dX6_draw_4 : decode cX6_draw 4 = .ok (.bipush 39, 2) := by decide +kernel
theorem dX6_draw_6 : decode cX6_draw 6 = .ok (.aload_n 0, 1) := by decide +kernel
theorem dX6_draw_7 : decode cX6_draw 7 = .ok (.getfield 7, 3) := by decide +kernel
theorem dX6_draw_10 : decode cX6_draw 10 = .ok (.bipush 39, 2) := by decide +kernel
theorem dX6_draw_12 : decode cX6_draw 12 = .ok (.iaload, 1) := by decide +kernel
theorem dX6_draw_13 : decode cX6_draw 13 = .ok (.i2l, 1) := by decide +kernel
theorem dX6_draw_14 : decode cX6_draw 14 = .ok (.ldc2_w 101, 3) := by decide +kernel
theorem dX6_draw_17 : decode cX6_draw 17 = .ok (.lmul, 1) := by decide +kernel
theorem dX6_draw_18 : decode cX6_draw 18 = .ok (.ldc2_w 103, 3) := by decide +kernel
theorem dX6_draw_21 : decode cX6_draw 21 = .ok (.ladd, 1) := by decide +kernel
theorem dX6_draw_22 : decode cX6_draw 22 = .ok (.ldc2_w 105, 3) := by decide +kernel
theorem dX6_draw_25 : decode cX6_draw 25 = .ok (.lrem, 1) := by decide +kernel
theorem dX6_draw_26 : decode cX6_draw 26 = .ok (.l2i, 1) := by decide +kernel
theorem dX6_draw_27 : decode cX6_draw 27 = .ok (.iastore, 1) := by decide +kernel
theorem dX6_draw_28 : decode cX6_draw 28 = .ok (.iconst 1, 1) := by decide +kernel
theorem dX6_draw_29 : decode cX6_draw 29 = .ok (.aload_n 0, 1) := by decide +kernel
theorem dX6_draw_30 : decode cX6_draw 30 = .ok (.getfield 7, 3) := by decide +kernel
theorem dX6_draw_33 : decode cX6_draw 33 = .ok (.bipush 39, 2) := by decide +kernel
theorem dX6_draw_35 : decode cX6_draw 35 = .ok (.iaload, 1) := by decide +kernel
theorem dX6_draw_36 : decode cX6_draw 36 = .ok (.ldc 107, 2) := by decide +kernel
theorem dX6_draw_38 : decode cX6_draw 38 = .ok (.idiv, 1) := by decide +kernel
theorem dX6_draw_39 : decode cX6_draw 39 = .ok (.bipush 6, 2) := by decide +kernel
theorem dX6_draw_41 : decode cX6_draw 41 = .ok (.irem, 1) := by decide +kernel
theorem dX6_draw_42 : decode cX6_draw 42 = .ok (.iadd, 1) := by decide +kernel
theorem dX6_draw_43 : decode cX6_draw 43 = .ok (.ireturn, 1) := by decide +kernel
theorem dX6_least_0 : decode cX6_least 0 = .ok (.iload_n 0, 1) := by decide +kernel
theorem dX6_least_1 : decode cX6_least 1 = .ok (.ifCond .ne 7, 3) := by decide +kernel
theorem dX6_least_4 : decode cX6_least 4 = .ok (.iconst 1, 1) := by decide +kernel
theorem dX6_least_5 : decode cX6_least 5 = .ok (.goto 4, 3) := by decide +kernel
theorem dX6_least_8 : decode cX6_least 8 = .ok (.iconst 0, 1) := by decide +kernel
theorem dX6_least_9 : decode cX6_least 9 = .ok (.ireturn, 1) := by decide +kernel
theorem dX6_most_0 : decode cX6_most 0 = .ok (.iload_n 0, 1) := by decide +kernel
theorem dX6_most_1 : decode cX6_most 1 = .ok (.ifCond .ne 8, 3) := by decide +kernel
theorem dX6_most_4 : decode cX6_most 4 = .ok (.bipush 6, 2) := by decide +kernel
theorem dX6_most_6 : decode cX6_most 6 = .ok (.goto 14, 3) := by decide +kernel
theorem dX6_most_9 : decode cX6_most 9 = .ok (.iload_n 0, 1) := by decide +kernel
theorem dX6_most_10 : decode cX6_most 10 = .ok (.iconst 1, 1) := by decide +kernel
theorem dX6_most_11 : decode cX6_most 11 = .ok (.if_icmp .ne 8, 3) := by decide +kernel
theorem dX6_most_14 : decode cX6_most 14 = .ok (.bipush 40, 2) := by decide +kernel
theorem dX6_most_16 : decode cX6_most 16 = .ok (.goto 4, 3) := by decide +kernel
theorem dX6_most_19 : decode cX6_most 19 = .ok (.iconst 3, 1) := by decide +kernel
theorem dX6_most_20 : decode cX6_most 20 = .ok (.ireturn, 1) := by decide +kernel
theorem dX6_set_0 : decode cX6_set 0 = .ok (.iload_n 1, 1) := by decide +kernel
theorem dX6_set_1 : decode cX6_set 1 = .ok (.iconst 0, 1) := by decide +kernel
theorem dX6_set_2 : decode cX6_set 2 = .ok (.iconst 2, 1) := by decide +kernel
theorem dX6_set_3 : decode cX6_set 3 = .ok (.invokestatic 32, 3) := by decide +kernel
theorem dX6_set_6 : decode cX6_set 6 = .ok (.ifCond .eq 18, 3) := by decide +kernel
theorem dX6_set_9 : decode cX6_set 9 = .ok (.iload_n 2, 1) := by decide +kernel
theorem dX6_set_10 : decode cX6_set 10 = .ok (.iload_n 1, 1) := by decide +kernel
theorem dX6_set_11 : decode cX6_set 11 = .ok (.invokestatic 108, 3) := by decide +kernel
theorem dX6_set_14 : decode cX6_set 14 = .ok (.iload_n 1, 1) := by decide +kernel
theorem dX6_set_15 : decode cX6_set 15 = .ok (.invokestatic 111, 3) := by decide +kernel
theorem dX6_set_18 : decode cX6_set 18 = .ok (.invokestatic 32, 3) := by decide +kernel
theorem dX6_set_21 : decode cX6_set 21 = .ok (.ifCond .ne 6, 3) := by decide +kernel
theorem dX6_set_24 : decode cX6_set 24 = .ok (.bipush (-2), 2) := by decide +kernel
theorem dX6_set_26 : decode cX6_set 26 = .ok (.ireturn, 1) := by decide +kernel
theorem dX6_set_27 : decode cX6_set 27 = .ok (.aload_n 0, 1) := by decide +kernel
theorem dX6_set_28 : decode cX6_set 28 = .ok (.invokevirtual 68, 3) := by decide +kernel
theorem dX6_set_31 : decode cX6_set 31 = .ok (.aload_n 0, 1) := by decide +kernel
theorem dX6_set_32 : decode cX6_set 32 = .ok (.getfield 7, 3) := by decide +kernel
theorem dX6_set_35 : decode cX6_set 35 = .ok (.bipush 36, 2) := by decide +kernel
theorem dX6_set_37 : decode cX6_set 37 = .ok (.iload_n 1, 1) := by decide +kernel
theorem dX6_set_38 : decode cX6_set 38 = .ok (.iadd, 1) := by decide +kernel
theorem dX6_set_39 : decode cX6_set 39 = .ok (.iaload, 1) := by decide +kernel
theorem dX6_set_40 : decode cX6_set 40 = .ok (.istore_n 3, 1) := by decide +kernel
theorem dX6_set_41 : decode cX6_set 41 = .ok (.aload_n 0, 1) := by decide +kernel
theorem dX6_set_42 : decode cX6_set 42 = .ok (.getfield 7, 3) := by decide +kernel
theorem dX6_set_45 : decode cX6_set 45 = .ok (.bipush 36, 2) := by decide +kernel
theorem dX6_set_47 : decode cX6_set 47 = .ok (.iload_n 1, 1) := by decide +kernel
theorem dX6_set_48 : decode cX6_set 48 = .ok (.iadd, 1) := by decide +kernel
theorem dX6_set_49 : decode cX6_set 49 = .ok (.iload_n 2, 1) := by decide +kernel
theorem dX6_set_50 : decode cX6_set 50 = .ok (.iastore, 1) := by decide +kernel
theorem dX6_set_51 : decode cX6_set 51 = .ok (.iload_n 3, 1) := by decide +kernel
theorem dX6_set_52 : decode cX6_set 52 = .ok (.ireturn, 1) := by decide +kernel
theorem dX6_seed_0 : decode cX6_seed 0 = .ok (.iload_n 1, 1) := by decide +kernel
theorem dX6_seed_1 : decode cX6_seed 1 = .ok (.ifCond .ge 6, 3) := by decide +kernel
theorem dX6_seed_4 : decode cX6_seed 4 = .ok (.bipush (-2), 2) := by decide +kernel
theorem dX6_seed_6 : decode cX6_seed 6 = .ok (.ireturn, 1) := by decide +kernel
theorem dX6_seed_7 : decode cX6_seed 7 = .ok (.aload_n 0, 1) := by decide +kernel
theorem dX6_seed_8 : decode cX6_seed 8 = .ok (.invokevirtual 68, 3) := by decide +kernel
theorem dX6_seed_11 : decode cX6_seed 11 = .ok (.aload_n 0, 1) := by decide +kernel
theorem dX6_seed_12 : decode cX6_seed 12 = .ok (.getfield 7, 3) := by decide +kernel
theorem dX6_seed_15 : decode cX6_seed 15 = .ok (.bipush 39, 2) := by decide +kernel
theorem dX6_seed_17 : decode cX6_seed 17 = .ok (.iaload, 1) := by decide +kernel
theorem dX6_seed_18 : decode cX6_seed 18 = .ok (.istore_n 2, 1) := by decide +kernel
theorem dX6_seed_19 : decode cX6_seed 19 = .ok (.aload_n 0, 1) := by decide +kernel
theorem dX6_seed_20 : decode cX6_seed 20 = .ok (.getfield 7, 3) := by decide +kernel
theorem dX6_seed_23 : decode cX6_seed 23 = .ok (.bipush 39, 2) := by decide +kernel
theorem dX6_seed_25 : decode cX6_seed 25 = .ok (.iload_n 1, 1) := by decide +kernel
theorem dX6_seed_26 : decode cX6_seed 26 = .ok (.iastore, 1) := by decide +kernel
theorem dX6_seed_27 : decode cX6_seed 27 = .ok (.iload_n 2, 1) := by decide +kernel
theorem dX6_seed_28 : decode cX6_seed 28 = .ok (.ireturn, 1) := by decide +kernel
theorem dX6_hasCast_0 : decode cX6_hasCast 0 = .ok (.aload_n 0, 1) := by decide +kernel
theorem dX6_hasCast_1 : decode cX6_hasCast 1 = .ok (.getfield 7, 3) := by decide +kernel
theorem dX6_hasCast_4 : decode cX6_hasCast 4 = .ok (.bipush 41, 2) := by decide +kernel
theorem dX6_hasCast_6 : decode cX6_hasCast 6 = .ok (.iaload, 1) := by decide +kernel
theorem dX6_hasCast_7 : decode cX6_hasCast 7 = .ok (.bipush (-6), 2) := by decide +kernel
theorem dX6_hasCast_9 : decode cX6_hasCast 9 = .ok (.if_icmp .eq 7, 3) := by decide +kernel
theorem dX6_hasCast_12 : decode cX6_hasCast 12 = .ok (.iconst 1, 1) := by decide +kernel
theorem dX6_hasCast_13 : decode cX6_hasCast 13 = .ok (.goto 4, 3) := by decide +kernel
theorem dX6_hasCast_16 : decode cX6_hasCast 16 = .ok (.iconst 0, 1) := by decide +kernel
theorem dX6_hasCast_17 : decode cX6_hasCast 17 = .ok (.ireturn, 1) := by decide +kernel
theorem dX6_doCast_0 : decode cX6_doCast 0 = .ok (.aload_n 0, 1) := by decide +kernel
theorem dX6_doCast_1 : decode cX6_doCast 1 = .ok (.getfield 7, 3) := by decide +kernel
theorem dX6_doCast_4 : decode cX6_doCast 4 = .ok (.bipush 41, 2) := by decide +kernel
theorem dX6_doCast_6 : decode cX6_doCast 6 = .ok (.iload_n 1, 1) := by decide +kernel
theorem dX6_doCast_7 : decode cX6_doCast 7 = .ok (.iastore, 1) := by decide +kernel
theorem dX6_doCast_8 : decode cX6_doCast 8 = .ok (.aload_n 0, 1) := by decide +kernel
theorem dX6_doCast_9 : decode cX6_doCast 9 = .ok (.getfield 7, 3) := by decide +kernel
theorem dX6_doCast_12 : decode cX6_doCast 12 = .ok (.bipush 43, 2) := by decide +kernel
theorem dX6_doCast_14 : decode cX6_doCast 14 = .ok (.dup2, 1) := by decide +kernel
theorem dX6_doCast_15 : decode cX6_doCast 15 = .ok (.iaload, 1) := by decide +kernel
theorem dX6_doCast_16 : decode cX6_doCast 16 = .ok (.iconst 1, 1) := by decide +kernel
theorem dX6_doCast_17 : decode cX6_doCast 17 = .ok (.iadd, 1) := by decide +kernel
theorem dX6_doCast_18 : decode cX6_doCast 18 = .ok (.iastore, 1) := by decide +kernel
theorem dX6_doCast_19 : decode cX6_doCast 19 = .ok (.return_, 1) := by decide +kernel
theorem dX6_cast_0 : decode cX6_cast 0 = .ok (.aload_n 0, 1) := by decide +kernel
theorem dX6_cast_1 : decode cX6_cast 1 = .ok (.invokevirtual 97, 3) := by decide +kernel
theorem dX6_cast_4 : decode cX6_cast 4 = .ok (.ifCond .ne 10, 3) := by decide +kernel
theorem dX6_cast_7 : decode cX6_cast 7 = .ok (.aload_n 0, 1) := by decide +kernel
theorem dX6_cast_8 : decode cX6_cast 8 = .ok (.invokevirtual 114, 3) := by decide +kernel
theorem dX6_cast_11 : decode cX6_cast 11 = .ok (.ifCond .eq 6, 3) := by decide +kernel
theorem dX6_cast_14 : decode cX6_cast 14 = .ok (.bipush (-5), 2) := by decide +kernel
theorem dX6_cast_16 : decode cX6_cast 16 = .ok (.ireturn, 1) := by decide +kernel
theorem dX6_cast_17 : decode cX6_cast 17 = .ok (.aload_n 0, 1) := by decide +kernel
theorem dX6_cast_18 : decode cX6_cast 18 = .ok (.invokevirtual 68, 3) := by decide +kernel
theorem dX6_cast_21 : decode cX6_cast 21 = .ok (.aload_n 0, 1) := by decide +kernel
theorem dX6_cast_22 : decode cX6_cast 22 = .ok (.aload_n 0, 1) := by decide +kernel
theorem dX6_cast_23 : decode cX6_cast 23 = .ok (.invokevirtual 117, 3) := by decide +kernel
theorem dX6_cast_26 : decode cX6_cast 26 = .ok (.invokevirtual 120, 3) := by decide +kernel
theorem dX6_cast_29 : decode cX6_cast 29 = .ok (.aload_n 0, 1) := by decide +kernel
theorem dX6_cast_30 : decode cX6_cast 30 = .ok (.getfield 7, 3) := by decide +kernel
theorem dX6_cast_33 : decode cX6_cast 33 = .ok (.bipush 41, 2) := by decide +kernel
theorem dX6_cast_35 : decode cX6_cast 35 = .ok (.iaload, 1) := by decide +kernel
theorem dX6_cast_36 : decode cX6_cast 36 = .ok (.ireturn, 1) := by decide +kernel
theorem dX6_move_0 : decode cX6_move 0 = .ok (.iload_n 1, 1) := by decide +kernel
theorem dX6_move_1 : decode cX6_move 1 = .ok (.iconst 0, 1) := by decide +kernel
theorem dX6_move_2 : decode cX6_move 2 = .ok (.iconst 2, 1) := by decide +kernel
theorem dX6_move_3 : decode cX6_move 3 = .ok (.invokestatic 32, 3) := by decide +kernel
theorem dX6_move_6 : decode cX6_move 6 = .ok (.ifCond .ne 5, 3) := by decide +kernel
theorem dX6_move_9 : decode cX6_move 9 = .ok (.iconst (-1), 1) := by decide +kernel
theorem dX6_move_10 : decode cX6_move 10 = .ok (.ireturn, 1) := by decide +kernel
theorem dX6_move_11 : decode cX6_move 11 = .ok (.iconst 3, 1) := by decide +kernel
theorem dX6_move_12 : decode cX6_move 12 = .ok (.aload_n 0, 1) := by decide +kernel
theorem dX6_move_13 : decode cX6_move 13 = .ok (.getfield 7, 3) := by decide +kernel
theorem dX6_move_16 : decode cX6_move 16 = .ok (.bipush 40, 2) := by decide +kernel
theorem dX6_move_18 : decode cX6_move 18 = .ok (.iaload, 1) := by decide +kernel
theorem dX6_move_19 : decode cX6_move 19 = .ok (.imul, 1) := by decide +kernel
theorem dX6_move_20 : decode cX6_move 20 = .ok (.iload_n 1, 1) := by decide +kernel
theorem dX6_move_21 : decode cX6_move 21 = .ok (.iadd, 1) := by decide +kernel
theorem dX6_move_22 : decode cX6_move 22 = .ok (.istore_n 2, 1) := by decide +kernel
theorem dX6_move_23 : decode cX6_move 23 = .ok (.aload_n 0, 1) := by decide +kernel
theorem dX6_move_24 : decode cX6_move 24 = .ok (.invokevirtual 114, 3) := by decide +kernel
theorem dX6_move_27 : decode cX6_move 27 = .ok (.ifCond .eq 18, 3) := by decide +kernel
theorem dX6_move_30 : decode cX6_move 30 = .ok (.aload_n 0, 1) := by decide +kernel
theorem dX6_move_31 : decode cX6_move 31 = .ok (.iload_n 2, 1) := by decide +kernel
theorem dX6_move_32 : decode cX6_move 32 = .ok (.aload_n 0, 1) := by decide +kernel
theorem dX6_move_33 : decode cX6_move 33 = .ok (.getfield 7, 3) := by decide +kernel
theorem dX6_move_36 : decode cX6_move 36 = .ok (.bipush 41, 2) := by decide +kernel
theorem dX6_move_38 : decode cX6_move 38 = .ok (.iaload, 1) := by decide +kernel
theorem dX6_move_39 : decode cX6_move 39 = .ok (.invokevirtual 88, 3) := by decide +kernel
theorem dX6_move_42 : decode cX6_move 42 = .ok (.ifCond .le 6, 3) := by decide +kernel
theorem dX6_move_45 : decode cX6_move 45 = .ok (.bipush (-5), 2) := by decide +kernel
theorem dX6_move_47 : decode cX6_move 47 = .ok (.ireturn, 1) := by decide +kernel
theorem dX6_move_48 : decode cX6_move 48 = .ok (.aload_n 0, 1) := by decide +kernel
theorem dX6_move_49 : decode cX6_move 49 = .ok (.invokevirtual 68, 3) := by decide +kernel
theorem dX6_move_52 : decode cX6_move 52 = .ok (.aload_n 0, 1) := by decide +kernel
theorem dX6_move_53 : decode cX6_move 53 = .ok (.iload_n 2, 1) := by decide +kernel
theorem dX6_move_54 : decode cX6_move 54 = .ok (.aload_n 0, 1) := by decide +kernel
theorem dX6_move_55 : decode cX6_move 55 = .ok (.getfield 7, 3) := by decide +kernel
theorem dX6_move_58 : decode cX6_move 58 = .ok (.bipush 41, 2) := by decide +kernel
theorem dX6_move_60 : decode cX6_move 60 = .ok (.iaload, 1) := by decide +kernel
theorem dX6_move_61 : decode cX6_move 61 = .ok (.invokevirtual 124, 3) := by decide +kernel
theorem dX6_move_64 : decode cX6_move 64 = .ok (.aload_n 0, 1) := by decide +kernel
theorem dX6_move_65 : decode cX6_move 65 = .ok (.invokevirtual 128, 3) := by decide +kernel
theorem dX6_move_68 : decode cX6_move 68 = .ok (.aload_n 0, 1) := by decide +kernel
theorem dX6_move_69 : decode cX6_move 69 = .ok (.getfield 7, 3) := by decide +kernel
theorem dX6_move_72 : decode cX6_move 72 = .ok (.iload_n 2, 1) := by decide +kernel
theorem dX6_move_73 : decode cX6_move 73 = .ok (.iaload, 1) := by decide +kernel
theorem dX6_move_74 : decode cX6_move 74 = .ok (.ireturn, 1) := by decide +kernel
theorem dX6_skip_0 : decode cX6_skip 0 = .ok (.aload_n 0, 1) := by decide +kernel
theorem dX6_skip_1 : decode cX6_skip 1 = .ok (.invokevirtual 114, 3) := by decide +kernel
theorem dX6_skip_4 : decode cX6_skip 4 = .ok (.ifCond .eq 17, 3) := by decide +kernel
theorem dX6_skip_7 : decode cX6_skip 7 = .ok (.aload_n 0, 1) := by decide +kernel
theorem dX6_skip_8 : decode cX6_skip 8 = .ok (.aload_n 0, 1) := by decide +kernel
theorem dX6_skip_9 : decode cX6_skip 9 = .ok (.getfield 7, 3) := by decide +kernel
theorem dX6_skip_12 : decode cX6_skip 12 = .ok (.bipush 41, 2) := by decide +kernel
theorem dX6_skip_14 : decode cX6_skip 14 = .ok (.iaload, 1) := by decide +kernel
theorem dX6_skip_15 : decode cX6_skip 15 = .ok (.invokevirtual 131, 3) := by decide +kernel
theorem dX6_skip_18 : decode cX6_skip 18 = .ok (.ifCond .eq 6, 3) := by decide +kernel
theorem dX6_skip_21 : decode cX6_skip 21 = .ok (.bipush (-5), 2) := by decide +kernel
theorem dX6_skip_23 : decode cX6_skip 23 = .ok (.ireturn, 1) := by decide +kernel
theorem dX6_skip_24 : decode cX6_skip 24 = .ok (.aload_n 0, 1) := by decide +kernel
theorem dX6_skip_25 : decode cX6_skip 25 = .ok (.invokevirtual 68, 3) := by decide +kernel
theorem dX6_skip_28 : decode cX6_skip 28 = .ok (.aload_n 0, 1) := by decide +kernel
theorem dX6_skip_29 : decode cX6_skip 29 = .ok (.invokevirtual 128, 3) := by decide +kernel
theorem dX6_skip_32 : decode cX6_skip 32 = .ok (.aload_n 0, 1) := by decide +kernel
theorem dX6_skip_33 : decode cX6_skip 33 = .ok (.getfield 7, 3) := by decide +kernel
theorem dX6_skip_36 : decode cX6_skip 36 = .ok (.bipush 40, 2) := by decide +kernel
theorem dX6_skip_38 : decode cX6_skip 38 = .ok (.iaload, 1) := by decide +kernel
theorem dX6_skip_39 : decode cX6_skip 39 = .ok (.ireturn, 1) := by decide +kernel
theorem dX6_doPlay_0 : decode cX6_doPlay 0 = .ok (.iconst 0, 1) := by decide +kernel
theorem dX6_doPlay_1 : decode cX6_doPlay 1 = .ok (.istore_n 2, 1) := by decide +kernel
theorem dX6_doPlay_2 : decode cX6_doPlay 2 = .ok (.iload_n 2, 1) := by decide +kernel
theorem dX6_doPlay_3 : decode cX6_doPlay 3 = .ok (.iload_n 1, 1) := by decide +kernel
theorem dX6_doPlay_4 : decode cX6_doPlay 4 = .ok (.if_icmp .ge 59, 3) := by decide +kernel
theorem dX6_doPlay_7 : decode cX6_doPlay 7 = .ok (.aload_n 0, 1) := by decide +kernel
theorem dX6_doPlay_8 : decode cX6_doPlay 8 = .ok (.invokevirtual 97, 3) := by decide +kernel
theorem dX6_doPlay_11 : decode cX6_doPlay 11 = .ok (.ifCond .ne 52, 3) := by decide +kernel
theorem dX6_doPlay_14 : decode cX6_doPlay 14 = .ok (.aload_n 0, 1) := by decide +kernel
theorem dX6_doPlay_15 : decode cX6_doPlay 15 = .ok (.aload_n 0, 1) := by decide +kernel
theorem dX6_doPlay_16 : decode cX6_doPlay 16 = .ok (.invokevirtual 117, 3) := by decide +kernel
theorem dX6_doPlay_19 : decode cX6_doPlay 19 = .ok (.invokevirtual 120, 3) := by decide +kernel
theorem dX6_doPlay_22 : decode cX6_doPlay 22 = .ok (.aload_n 0, 1) := by decide +kernel
theorem dX6_doPlay_23 : decode cX6_doPlay 23 = .ok (.invokevirtual 134, 3) := by decide +kernel
theorem dX6_doPlay_26 : decode cX6_doPlay 26 = .ok (.istore_n 3, 1) := by decide +kernel
theorem dX6_doPlay_27 : decode cX6_doPlay 27 = .ok (.iload_n 3, 1) := by decide +kernel
theorem dX6_doPlay_28 : decode cX6_doPlay 28 = .ok (.ifCond .lt 25, 3) := by decide +kernel
theorem dX6_doPlay_31 : decode cX6_doPlay 31 = .ok (.aload_n 0, 1) := by decide +kernel
theorem dX6_doPlay_32 : decode cX6_doPlay 32 = .ok (.iconst 3, 1) := by decide +kernel
theorem dX6_doPlay_33 : decode cX6_doPlay 33 = .ok (.aload_n 0, 1) := by decide +kernel
theorem dX6_doPlay_34 : decode cX6_doPlay 34 = .ok (.getfield 7, 3) := by decide +kernel
theorem dX6_doPlay_37 : decode cX6_doPlay 37 = .ok (.bipush 40, 2) := by decide +kernel
theorem dX6_doPlay_39 : decode cX6_doPlay 39 = .ok (.iaload, 1) := by decide +kernel
theorem dX6_doPlay_40 : decode cX6_doPlay 40 = .ok (.imul, 1) := by decide +kernel
theorem dX6_doPlay_41 : decode cX6_doPlay 41 = .ok (.iload_n 3, 1) := by decide +kernel
theorem dX6_doPlay_42 : decode cX6_doPlay 42 = .ok (.iadd, 1) := by decide +kernel
theorem dX6_doPlay_43 : decode cX6_doPlay 43 = .ok (.aload_n 0, 1) := by decide +kernel
theorem dX6_doPlay_44 : decode cX6_doPlay 44 = .ok (.getfield 7, 3) := by decide +kernel
theorem dX6_doPlay_47 : decode cX6_doPlay 47 = .ok (.bipush 41, 2) := by decide +kernel
theorem dX6_doPlay_49 : decode cX6_doPlay 49 = .ok (.iaload, 1) := by decide +kernel
theorem dX6_doPlay_50 : decode cX6_doPlay 50 = .ok (.invokevirtual 124, 3) := by decide +kernel
theorem dX6_doPlay_53 : decode cX6_doPlay 53 = .ok (.aload_n 0, 1) := by decide +kernel
theorem dX6_doPlay_54 : decode cX6_doPlay 54 = .ok (.invokevirtual 128, 3) := by decide +kernel
theorem dX6_doPlay_57 : decode cX6_doPlay 57 = .ok (.iinc 2 1, 3) := by decide +kernel
theorem dX6_doPlay_60 : decode cX6_doPlay 60 = .ok (.goto (-58), 3) := by decide +kernel
theorem dX6_doPlay_63 : decode cX6_doPlay 63 = .ok (.iload_n 2, 1) := by decide +kernel
theorem dX6_doPlay_64 : decode cX6_doPlay 64 = .ok (.ireturn, 1) := by decide +kernel
theorem dX6_play_0 : decode cX6_play 0 = .ok (.iload_n 1, 1) := by decide +kernel
theorem dX6_play_1 : decode cX6_play 1 = .ok (.iconst 1, 1) := by decide +kernel
theorem dX6_play_2 : decode cX6_play 2 = .ok (.bipush 100, 2) := by decide +kernel
theorem dX6_play_4 : decode cX6_play 4 = .ok (.invokestatic 32, 3) := by decide +kernel
theorem dX6_play_7 : decode cX6_play 7 = .ok (.ifCond .ne 6, 3) := by decide +kernel
theorem dX6_play_10 : decode cX6_play 10 = .ok (.bipush (-2), 2) := by decide +kernel
theorem dX6_play_12 : decode cX6_play 12 = .ok (.ireturn, 1) := by decide +kernel
theorem dX6_play_13 : decode cX6_play 13 = .ok (.aload_n 0, 1) := by decide +kernel
theorem dX6_play_14 : decode cX6_play 14 = .ok (.invokevirtual 97, 3) := by decide +kernel
theorem dX6_play_17 : decode cX6_play 17 = .ok (.ifCond .ne 10, 3) := by decide +kernel
theorem dX6_play_20 : decode cX6_play 20 = .ok (.aload_n 0, 1) := by decide +kernel
theorem dX6_play_21 : decode cX6_play 21 = .ok (.invokevirtual 114, 3) := by decide +kernel
theorem dX6_play_24 : decode cX6_play 24 = .ok (.ifCond .eq 6, 3) := by decide +kernel
theorem dX6_play_27 : decode cX6_play 27 = .ok (.bipush (-5), 2) := by decide +kernel
theorem dX6_play_29 : decode cX6_play 29 = .ok (.ireturn, 1) := by decide +kernel
theorem dX6_play_30 : decode cX6_play 30 = .ok (.aload_n 0, 1) := by decide +kernel
theorem dX6_play_31 : decode cX6_play 31 = .ok (.invokevirtual 68, 3) := by decide +kernel
theorem dX6_play_34 : decode cX6_play 34 = .ok (.aload_n 0, 1) := by decide +kernel
theorem dX6_play_35 : decode cX6_play 35 = .ok (.iload_n 1, 1) := by decide +kernel
theorem dX6_play_36 : decode cX6_play 36 = .ok (.invokevirtual 137, 3) := by decide +kernel
theorem dX6_play_39 : decode cX6_play 39 = .ok (.ireturn, 1) := by decide +kernel
theorem dX6_read_0 : decode cX6_read 0 = .ok (.aload_n 0, 1) := by decide +kernel
theorem dX6_read_1 : decode cX6_read 1 = .ok (.invokevirtual 140, 3) := by decide +kernel
theorem dX6_read_4 : decode cX6_read 4 = .ok (.ifCond .lt 6, 3) := by decide +kernel
theorem dX6_read_7 : decode cX6_read 7 = .ok (.bipush (-3), 2) := by decide +kernel
theorem dX6_read_9 : decode cX6_read 9 = .ok (.ireturn, 1) := by decide +kernel
theorem dX6_read_10 : decode cX6_read 10 = .ok (.aload_n 0, 1) := by decide +kernel
theorem dX6_read_11 : decode cX6_read 11 = .ok (.invokevirtual 114, 3) := by decide +kernel
theorem dX6_read_14 : decode cX6_read 14 = .ok (.ifCond .eq 6, 3) := by decide +kernel
theorem dX6_read_17 : decode cX6_read 17 = .ok (.bipush (-5), 2) := by decide +kernel
theorem dX6_read_19 : decode cX6_read 19 = .ok (.ireturn, 1) := by decide +kernel
theorem dX6_read_20 : decode cX6_read 20 = .ok (.aload_n 0, 1) := by decide +kernel
theorem dX6_read_21 : decode cX6_read 21 = .ok (.invokevirtual 68, 3) := by decide +kernel
theorem dX6_read_24 : decode cX6_read 24 = .ok (.iconst 0, 1) := by decide +kernel
theorem dX6_read_25 : decode cX6_read 25 = .ok (.istore_n 1, 1) := by decide +kernel
theorem dX6_read_26 : decode cX6_read 26 = .ok (.iconst 1, 1) := by decide +kernel
theorem dX6_read_27 : decode cX6_read 27 = .ok (.istore_n 2, 1) := by decide +kernel
theorem dX6_read_28 : decode cX6_read 28 = .ok (.iconst 0, 1) := by decide +kernel
theorem dX6_read_29 : decode cX6_read 29 = .ok (.istore_n 3, 1) := by decide +kernel
theorem dX6_read_30 : decode cX6_read 30 = .ok (.iload_n 3, 1) := by decide +kernel
theorem dX6_read_31 : decode cX6_read 31 = .ok (.aload_n 0, 1) := by decide +kernel
theorem dX6_read_32 : decode cX6_read 32 = .ok (.getfield 143, 3) := by decide +kernel
theorem dX6_read_35 : decode cX6_read 35 = .ok (.if_icmp .ge 134, 3) := by decide +kernel
theorem dX6_read_38 : decode cX6_read 38 = .ok (.iload_n 2, 1) := by decide +kernel
theorem dX6_read_39 : decode cX6_read 39 = .ok (.ifCond .eq 130, 3) := by decide +kernel
theorem dX6_read_42 : decode cX6_read 42 = .ok (.aload_n 0, 1) := by decide +kernel
theorem dX6_read_43 : decode cX6_read 43 = .ok (.getfield 26, 3) := by decide +kernel
theorem dX6_read_46 : decode cX6_read 46 = .ok (.iload_n 3, 1) := by decide +kernel
theorem dX6_read_47 : decode cX6_read 47 = .ok (.iaload, 1) := by decide +kernel
theorem dX6_read_48 : decode cX6_read 48 = .ok (.bipush 48, 2) := by decide +kernel
theorem dX6_read_50 : decode cX6_read 50 = .ok (.isub, 1) := by decide +kernel
theorem dX6_read_51 : decode cX6_read 51 = .ok (.istore 4, 2) := by decide +kernel
theorem dX6_read_53 : decode cX6_read 53 = .ok (.iconst 3, 1) := by decide +kernel
theorem dX6_read_54 : decode cX6_read 54 = .ok (.aload_n 0, 1) := by decide +kernel
theorem dX6_read_55 : decode cX6_read 55 = .ok (.getfield 7, 3) := by decide +kernel
theorem dX6_read_58 : decode cX6_read 58 = .ok (.bipush 40, 2) := by decide +kernel
theorem dX6_read_60 : decode cX6_read 60 = .ok (.iaload, 1) := by decide +kernel
theorem dX6_read_61 : decode cX6_read 61 = .ok (.imul, 1) := by decide +kernel
theorem dX6_read_62 : decode cX6_read 62 = .ok (.aload_n 0, 1) := by decide +kernel
theorem dX6_read_63 : decode cX6_read 63 = .ok (.getfield 26, 3) := by decide +kernel
theorem dX6_read_66 : decode cX6_read 66 = .ok (.iload_n 3, 1) := by decide +kernel
theorem dX6_read_67 : decode cX6_read 67 = .ok (.iconst 1, 1) := by decide +kernel
theorem dX6_read_68 : decode cX6_read 68 = .ok (.iadd, 1) := by decide +kernel
theorem dX6_read_69 : decode cX6_read 69 = .ok (.iaload, 1) := by decide +kernel
theorem dX6_read_70 : decode cX6_read 70 = .ok (.iadd, 1) := by decide +kernel
theorem dX6_read_71 : decode cX6_read 71 = .ok (.bipush 97, 2) := by decide +kernel
theorem dX6_read_73 : decode cX6_read 73 = .ok (.isub, 1) := by decide +kernel
theorem dX6_read_74 : decode cX6_read 74 = .ok (.istore 5, 2) := by decide +kernel
theorem dX6_read_76 : decode cX6_read 76 = .ok (.aload_n 0, 1) := by decide +kernel
theorem dX6_read_77 : decode cX6_read 77 = .ok (.invokevirtual 97, 3) := by decide +kernel
theorem dX6_read_80 : decode cX6_read 80 = .ok (.ifCond .ne 43, 3) := by decide +kernel
theorem dX6_read_83 : decode cX6_read 83 = .ok (.aload_n 0, 1) := by decide +kernel
theorem dX6_read_84 : decode cX6_read 84 = .ok (.getfield 26, 3) := by decide +kernel
theorem dX6_read_87 : decode cX6_read 87 = .ok (.iload_n 3, 1) := by decide +kernel
theorem dX6_read_88 : decode cX6_read 88 = .ok (.iconst 1, 1) := by decide +kernel
theorem dX6_read_89 : decode cX6_read 89 = .ok (.iadd, 1) := by decide +kernel
theorem dX6_read_90 : decode cX6_read 90 = .ok (.iaload, 1) := by decide +kernel
theorem dX6_read_91 : decode cX6_read 91 = .ok (.bipush 45, 2) := by decide +kernel
theorem dX6_read_93 : decode cX6_read 93 = .ok (.if_icmp .ne 15, 3) := by decide +kernel
theorem dX6_read_96 : decode cX6_read 96 = .ok (.aload_n 0, 1) := by decide +kernel
theorem dX6_read_97 : decode cX6_read 97 = .ok (.iload 4, 2) := by decide +kernel
theorem dX6_read_99 : decode cX6_read 99 = .ok (.invokevirtual 131, 3) := by decide +kernel
theorem dX6_read_102 : decode cX6_read 102 = .ok (.ifCond .ne 21, 3) := by decide +kernel
theorem dX6_read_105 : decode cX6_read 105 = .ok (.goto 14, 3) := by decide +kernel
theorem dX6_read_108 : decode cX6_read 108 = .ok (.aload_n 0, 1) := by decide +kernel
theorem dX6_read_109 : decode cX6_read 109 = .ok (.iload 5, 2) := by decide +kernel
theorem dX6_read_111 : decode cX6_read 111 = .ok (.iload 4, 2) := by decide +kernel
theorem dX6_read_113 : decode cX6_read 113 = .ok (.invokevirtual 88, 3) := by decide +kernel
theorem dX6_read_116 : decode cX6_read 116 = .ok (.ifCond .ne 7, 3) := by decide +kernel
theorem dX6_read_119 : decode cX6_read 119 = .ok (.iconst 1, 1) := by decide +kernel
theorem dX6_read_120 : decode cX6_read 120 = .ok (.goto 4, 3) := by decide +kernel
theorem dX6_read_123 : decode cX6_read 123 = .ok (.iconst 0, 1) := by decide +kernel
theorem dX6_read_124 : decode cX6_read 124 = .ok (.istore_n 2, 1) := by decide +kernel
theorem dX6_read_125 : decode cX6_read 125 = .ok (.iload_n 2, 1) := by decide +kernel
theorem dX6_read_126 : decode cX6_read 126 = .ok (.ifCond .eq 37, 3) := by decide +kernel
theorem dX6_read_129 : decode cX6_read 129 = .ok (.aload_n 0, 1) := by decide +kernel
theorem dX6_read_130 : decode cX6_read 130 = .ok (.iload 4, 2) := by decide +kernel
theorem dX6_read_132 : decode cX6_read 132 = .ok (.invokevirtual 120, 3) := by decide +kernel
theorem dX6_read_135 : decode cX6_read 135 = .ok (.aload_n 0, 1) := by decide +kernel
theorem dX6_read_136 : decode cX6_read 136 = .ok (.getfield 26, 3) := by decide +kernel
theorem dX6_read_139 : decode cX6_read 139 = .ok (.iload_n 3, 1) := by decide +kernel
theorem dX6_read_140 : decode cX6_read 140 = .ok (.iconst 1, 1) := by decide +kernel
theorem dX6_read_141 : decode cX6_read 141 = .ok (.iadd, 1) := by decide +kernel
theorem dX6_read_142 : decode cX6_read 142 = .ok (.iaload, 1) := by decide +kernel
theorem dX6_read_143 : decode cX6_read 143 = .ok (.bipush 45, 2) := by decide +kernel
theorem dX6_read_145 : decode cX6_read 145 = .ok (.if_icmp .eq 11, 3) := by decide +kernel
theorem dX6_read_148 : decode cX6_read 148 = .ok (.aload_n 0, 1) := by decide +kernel
theorem dX6_read_149 : decode cX6_read 149 = .ok (.iload 5, 2) := by decide +kernel
theorem dX6_read_151 : decode cX6_read 151 = .ok (.iload 4, 2) := by decide +kernel
theorem dX6_read_153 : decode cX6_read 153 = .ok (.invokevirtual 124, 3) := by decide +kernel
theorem dX6_read_156 : decode cX6_read 156 = .ok (.aload_n 0, 1) := by decide +kernel
theorem dX6_read_157 : decode cX6_read 157 = .ok (.invokevirtual 128, 3) := by decide +kernel
theorem dX6_read_160 : decode cX6_read 160 = .ok (.iinc 1 1, 3) := by decide +kernel
theorem dX6_read_163 : decode cX6_read 163 = .ok (.iinc 3 2, 3) := by decide +kernel
theorem dX6_read_166 : decode cX6_read 166 = .ok (.goto (-136), 3) := by decide +kernel
theorem dX6_read_169 : decode cX6_read 169 = .ok (.aload_n 0, 1) := by decide +kernel
theorem dX6_read_170 : decode cX6_read 170 = .ok (.iconst 0, 1) := by decide +kernel
theorem dX6_read_171 : decode cX6_read 171 = .ok (.putfield 143, 3) := by decide +kernel
theorem dX6_read_174 : decode cX6_read 174 = .ok (.iload_n 1, 1) := by decide +kernel
theorem dX6_read_175 : decode cX6_read 175 = .ok (.ireturn, 1) := by decide +kernel
theorem dX6_lay_0 : decode cX6_lay 0 = .ok (.iload_n 1, 1) := by decide +kernel
theorem dX6_lay_1 : decode cX6_lay 1 = .ok (.invokestatic 146, 3) := by decide +kernel
theorem dX6_lay_4 : decode cX6_lay 4 = .ok (.ifCond .ne 5, 3) := by decide +kernel
theorem dX6_lay_7 : decode cX6_lay 7 = .ok (.iconst (-1), 1) := by decide +kernel
theorem dX6_lay_8 : decode cX6_lay 8 = .ok (.ireturn, 1) := by decide +kernel
theorem dX6_lay_9 : decode cX6_lay 9 = .ok (.iload_n 2, 1) := by decide +kernel
theorem dX6_lay_10 : decode cX6_lay 10 = .ok (.bipush (-6), 2) := by decide +kernel
theorem dX6_lay_12 : decode cX6_lay 12 = .ok (.if_icmp .eq 16, 3) := by decide +kernel
theorem dX6_lay_15 : decode cX6_lay 15 = .ok (.iload_n 2, 1) := by decide +kernel
theorem dX6_lay_16 : decode cX6_lay 16 = .ok (.iconst 0, 1) := by decide +kernel
theorem dX6_lay_17 : decode cX6_lay 17 = .ok (.bipush 35, 2) := by decide +kernel
theorem dX6_lay_19 : decode cX6_lay 19 = .ok (.invokestatic 32, 3) := by decide +kernel
theorem dX6_lay_22 : decode cX6_lay 22 = .ok (.ifCond .ne 6, 3) := by decide +kernel
theorem dX6_lay_25 : decode cX6_lay 25 = .ok (.bipush (-2), 2) := by decide +kernel
theorem dX6_lay_27 : decode cX6_lay 27 = .ok (.ireturn, 1) := by decide +kernel
theorem dX6_lay_28 : decode cX6_lay 28 = .ok (.iload_n 1, 1) := by decide +kernel
theorem dX6_lay_29 : decode cX6_lay 29 = .ok (.iconst 3, 1) := by decide +kernel
theorem dX6_lay_30 : decode cX6_lay 30 = .ok (.idiv, 1) := by decide +kernel
theorem dX6_lay_31 : decode cX6_lay 31 = .ok (.istore_n 3, 1) := by decide +kernel
theorem dX6_lay_32 : decode cX6_lay 32 = .ok (.iload_n 3, 1) := by decide +kernel
theorem dX6_lay_33 : decode cX6_lay 33 = .ok (.iload_n 2, 1) := by decide +kernel
theorem dX6_lay_34 : decode cX6_lay 34 = .ok (.invokestatic 36, 3) := by decide +kernel
theorem dX6_lay_37 : decode cX6_lay 37 = .ok (.istore 4, 2) := by decide +kernel
theorem dX6_lay_39 : decode cX6_lay 39 = .ok (.iconst 0, 1) := by decide +kernel
theorem dX6_lay_40 : decode cX6_lay 40 = .ok (.istore 5, 2) := by decide +kernel
theorem dX6_lay_42 : decode cX6_lay 42 = .ok (.iconst 3, 1) := by decide +kernel
theorem dX6_lay_43 : decode cX6_lay 43 = .ok (.iload_n 3, 1) := by decide +kernel
theorem dX6_lay_44 : decode cX6_lay 44 = .ok (.imul, 1) := by decide +kernel
theorem dX6_lay_45 : decode cX6_lay 45 = .ok (.istore 6, 2) := by decide +kernel
theorem dX6_lay_47 : decode cX6_lay 47 = .ok (.iload 6, 2) := by decide +kernel
theorem dX6_lay_49 : decode cX6_lay 49 = .ok (.iconst 3, 1) := by decide +kernel
theorem dX6_lay_50 : decode cX6_lay 50 = .ok (.iload_n 3, 1) := by decide +kernel
theorem dX6_lay_51 : decode cX6_lay 51 = .ok (.imul, 1) := by decide +kernel
theorem dX6_lay_52 : decode cX6_lay 52 = .ok (.iconst 3, 1) := by decide +kernel
theorem dX6_lay_53 : decode cX6_lay 53 = .ok (.iadd, 1) := by decide +kernel
theorem dX6_lay_54 : decode cX6_lay 54 = .ok (.if_icmp .ge 46, 3) := by decide +kernel
theorem dX6_lay_57 : decode cX6_lay 57 = .ok (.iload 5, 2) := by decide +kernel
theorem dX6_lay_59 : decode cX6_lay 59 = .ok (.iload 6, 2) := by decide +kernel
theorem dX6_lay_61 : decode cX6_lay 61 = .ok (.iload_n 1, 1) := by decide +kernel
theorem dX6_lay_62 : decode cX6_lay 62 = .ok (.if_icmp .eq 28, 3) := by decide +kernel
theorem dX6_lay_65 : decode cX6_lay 65 = .ok (.aload_n 0, 1) := by decide +kernel
theorem dX6_lay_66 : decode cX6_lay 66 = .ok (.getfield 7, 3) := by decide +kernel
theorem dX6_lay_69 : decode cX6_lay 69 = .ok (.iload 6, 2) := by decide +kernel
theorem dX6_lay_71 : decode cX6_lay 71 = .ok (.iaload, 1) := by decide +kernel
theorem dX6_lay_72 : decode cX6_lay 72 = .ok (.iload_n 2, 1) := by decide +kernel
theorem dX6_lay_73 : decode cX6_lay 73 = .ok (.if_icmp .ne 17, 3) := by decide +kernel
theorem dX6_lay_76 : decode cX6_lay 76 = .ok (.iload_n 2, 1) := by decide +kernel
theorem dX6_lay_77 : decode cX6_lay 77 = .ok (.iconst 0, 1) := by decide +kernel
theorem dX6_lay_78 : decode cX6_lay 78 = .ok (.bipush 34, 2) := by decide +kernel
theorem dX6_lay_80 : decode cX6_lay 80 = .ok (.invokestatic 32, 3) := by decide +kernel
theorem dX6_lay_83 : decode cX6_lay 83 = .ok (.ifCond .eq 7, 3) := by decide +kernel
theorem dX6_lay_86 : decode cX6_lay 86 = .ok (.iconst 1, 1) := by decide +kernel
theorem dX6_lay_87 : decode cX6_lay 87 = .ok (.goto 4, 3) := by decide +kernel
theorem dX6_lay_90 : decode cX6_lay 90 = .ok (.iconst 0, 1) := by decide +kernel
theorem dX6_lay_91 : decode cX6_lay 91 = .ok (.iadd, 1) := by decide +kernel
theorem dX6_lay_92 : decode cX6_lay 92 = .ok (.istore 5, 2) := by decide +kernel
theorem dX6_lay_94 : decode cX6_lay 94 = .ok (.iinc 6 1, 3) := by decide +kernel
theorem dX6_lay_97 : decode cX6_lay 97 = .ok (.goto (-50), 3) := by decide +kernel
theorem dX6_lay_100 : decode cX6_lay 100 = .ok (.aload_n 0, 1) := by decide +kernel
theorem dX6_lay_101 : decode cX6_lay 101 = .ok (.iload_n 3, 1) := by decide +kernel
theorem dX6_lay_102 : decode cX6_lay 102 = .ok (.iload 4, 2) := by decide +kernel
theorem dX6_lay_104 : decode cX6_lay 104 = .ok (.invokevirtual 91, 3) := by decide +kernel
theorem dX6_lay_107 : decode cX6_lay 107 = .ok (.ifCond .ge 18, 3) := by decide +kernel
theorem dX6_lay_110 : decode cX6_lay 110 = .ok (.iload 5, 2) := by decide +kernel
theorem dX6_lay_112 : decode cX6_lay 112 = .ok (.iconst 1, 1) := by decide +kernel
theorem dX6_lay_113 : decode cX6_lay 113 = .ok (.if_icmp .gt 12, 3) := by decide +kernel
theorem dX6_lay_116 : decode cX6_lay 116 = .ok (.aload_n 0, 1) := by decide +kernel
theorem dX6_lay_117 : decode cX6_lay 117 = .ok (.iload 4, 2) := by decide +kernel
theorem dX6_lay_119 : decode cX6_lay 119 = .ok (.invokevirtual 71, 3) := by decide +kernel
theorem dX6_lay_122 : decode cX6_lay 122 = .ok (.ifCond .eq 6, 3) := by decide +kernel
theorem dX6_lay_125 : decode cX6_lay 125 = .ok (.bipush (-5), 2) := by decide +kernel
theorem dX6_lay_127 : decode cX6_lay 127 = .ok (.ireturn, 1) := by decide +kernel
theorem dX6_lay_128 : decode cX6_lay 128 = .ok (.aload_n 0, 1) := by decide +kernel
theorem dX6_lay_129 : decode cX6_lay 129 = .ok (.invokevirtual 68, 3) := by decide +kernel
theorem dX6_lay_132 : decode cX6_lay 132 = .ok (.aload_n 0, 1) := by decide +kernel
theorem dX6_lay_133 : decode cX6_lay 133 = .ok (.getfield 7, 3) := by decide +kernel
theorem dX6_lay_136 : decode cX6_lay 136 = .ok (.iload_n 1, 1) := by decide +kernel
theorem dX6_lay_137 : decode cX6_lay 137 = .ok (.iaload, 1) := by decide +kernel
theorem dX6_lay_138 : decode cX6_lay 138 = .ok (.istore 6, 2) := by decide +kernel
theorem dX6_lay_140 : decode cX6_lay 140 = .ok (.aload_n 0, 1) := by decide +kernel
theorem dX6_lay_141 : decode cX6_lay 141 = .ok (.getfield 7, 3) := by decide +kernel
theorem dX6_lay_144 : decode cX6_lay 144 = .ok (.iload_n 1, 1) := by decide +kernel
theorem dX6_lay_145 : decode cX6_lay 145 = .ok (.iload_n 2, 1) := by decide +kernel
theorem dX6_lay_146 : decode cX6_lay 146 = .ok (.iastore, 1) := by decide +kernel
theorem dX6_lay_147 : decode cX6_lay 147 = .ok (.aload_n 0, 1) := by decide +kernel
theorem dX6_lay_148 : decode cX6_lay 148 = .ok (.invokevirtual 94, 3) := by decide +kernel
theorem dX6_lay_151 : decode cX6_lay 151 = .ok (.iload 6, 2) := by decide +kernel
theorem dX6_lay_153 : decode cX6_lay 153 = .ok (.ireturn, 1) := by decide +kernel
theorem dX6_piece_0 : decode cX6_piece 0 = .ok (.iload_n 1, 1) := by decide +kernel
theorem dX6_piece_1 : decode cX6_piece 1 = .ok (.invokestatic 146, 3) := by decide +kernel
theorem dX6_piece_4 : decode cX6_piece 4 = .ok (.ifCond .ne 5, 3) := by decide +kernel
end
section
theorem dX6_piece_7 : decode cX6_piece 7 = .ok (.iconst (-1), 1) := by decide +kernel
theorem dX6_piece_8 : decode cX6_piece 8 = .ok (.ireturn, 1) := by decide +kernel
theorem dX6_piece_9 : decode cX6_piece 9 = .ok (.iload_n 2, 1) := by decide +kernel
theorem dX6_piece_10 : decode cX6_piece 10 = .ok (.tableswitch 75 0 3 #[30, 37, 43, 65], 30) := by decide +kernel
theorem dX6_piece_40 : decode cX6_piece 40 = .ok (.aload_n 0, 1) := by decide +kernel
theorem dX6_piece_41 : decode cX6_piece 41 = .ok (.getfield 7, 3) := by decide +kernel
theorem dX6_piece_44 : decode cX6_piece 44 = .ok (.iload_n 1, 1) := by decide +kernel
theorem dX6_piece_45 : decode cX6_piece 45 = .ok (.iaload, 1) := by decide +kernel
theorem dX6_piece_46 : decode cX6_piece 46 = .ok (.ireturn, 1) := by decide +kernel
theorem dX6_piece_47 : decode cX6_piece 47 = .ok (.aload_n 0, 1) := by decide +kernel
theorem dX6_piece_48 : decode cX6_piece 48 = .ok (.iload_n 1, 1) := by decide +kernel
theorem dX6_piece_49 : decode cX6_piece 49 = .ok (.invokevirtual 44, 3) := by decide +kernel
theorem dX6_piece_52 : decode cX6_piece 52 = .ok (.ireturn, 1) := by decide +kernel
theorem dX6_piece_53 : decode cX6_piece 53 = .ok (.aload_n 0, 1) := by decide +kernel
theorem dX6_piece_54 : decode cX6_piece 54 = .ok (.iload_n 1, 1) := by decide +kernel
theorem dX6_piece_55 : decode cX6_piece 55 = .ok (.iconst 3, 1) := by decide +kernel
theorem dX6_piece_56 : decode cX6_piece 56 = .ok (.idiv, 1) := by decide +kernel
theorem dX6_piece_57 : decode cX6_piece 57 = .ok (.aload_n 0, 1) := by decide +kernel
theorem dX6_piece_58 : decode cX6_piece 58 = .ok (.iload_n 1, 1) := by decide +kernel
theorem dX6_piece_59 : decode cX6_piece 59 = .ok (.invokevirtual 44, 3) := by decide +kernel
theorem dX6_piece_62 : decode cX6_piece 62 = .ok (.invokevirtual 48, 3) := by decide +kernel
theorem dX6_piece_65 : decode cX6_piece 65 = .ok (.iconst 1, 1) := by decide +kernel
theorem dX6_piece_66 : decode cX6_piece 66 = .ok (.if_icmp .le 7, 3) := by decide +kernel
theorem dX6_piece_69 : decode cX6_piece 69 = .ok (.iconst 1, 1) := by decide +kernel
theorem dX6_piece_70 : decode cX6_piece 70 = .ok (.goto 4, 3) := by decide +kernel
theorem dX6_piece_73 : decode cX6_piece 73 = .ok (.iconst 0, 1) := by decide +kernel
theorem dX6_piece_74 : decode cX6_piece 74 = .ok (.ireturn, 1) := by decide +kernel
theorem dX6_piece_75 : decode cX6_piece 75 = .ok (.aload_n 0, 1) := by decide +kernel
theorem dX6_piece_76 : decode cX6_piece 76 = .ok (.getfield 7, 3) := by decide +kernel
theorem dX6_piece_79 : decode cX6_piece 79 = .ok (.bipush 12, 2) := by decide +kernel
theorem dX6_piece_81 : decode cX6_piece 81 = .ok (.iload_n 1, 1) := by decide +kernel
theorem dX6_piece_82 : decode cX6_piece 82 = .ok (.iadd, 1) := by decide +kernel
theorem dX6_piece_83 : decode cX6_piece 83 = .ok (.iaload, 1) := by decide +kernel
theorem dX6_piece_84 : decode cX6_piece 84 = .ok (.ireturn, 1) := by decide +kernel
theorem dX6_piece_85 : decode cX6_piece 85 = .ok (.bipush (-2), 2) := by decide +kernel
theorem dX6_piece_87 : decode cX6_piece 87 = .ok (.ireturn, 1) := by decide +kernel
theorem dX6_lowestOn_0 : decode cX6_lowestOn 0 = .ok (.bipush (-6), 2) := by decide +kernel
theorem dX6_lowestOn_2 : decode cX6_lowestOn 2 = .ok (.istore_n 2, 1) := by decide +kernel
theorem dX6_lowestOn_3 : decode cX6_lowestOn 3 = .ok (.bipush 11, 2) := by decide +kernel
theorem dX6_lowestOn_5 : decode cX6_lowestOn 5 = .ok (.istore_n 3, 1) := by decide +kernel
theorem dX6_lowestOn_6 : decode cX6_lowestOn 6 = .ok (.iload_n 3, 1) := by decide +kernel
theorem dX6_lowestOn_7 : decode cX6_lowestOn 7 = .ok (.ifCond .lt 24, 3) := by decide +kernel
theorem dX6_lowestOn_10 : decode cX6_lowestOn 10 = .ok (.aload_n 0, 1) := by decide +kernel
theorem dX6_lowestOn_11 : decode cX6_lowestOn 11 = .ok (.iload_n 3, 1) := by decide +kernel
theorem dX6_lowestOn_12 : decode cX6_lowestOn 12 = .ok (.invokevirtual 44, 3) := by decide +kernel
theorem dX6_lowestOn_15 : decode cX6_lowestOn 15 = .ok (.iload_n 1, 1) := by decide +kernel
theorem dX6_lowestOn_16 : decode cX6_lowestOn 16 = .ok (.if_icmp .ne 7, 3) := by decide +kernel
theorem dX6_lowestOn_19 : decode cX6_lowestOn 19 = .ok (.iload_n 3, 1) := by decide +kernel
theorem dX6_lowestOn_20 : decode cX6_lowestOn 20 = .ok (.goto 4, 3) := by decide +kernel
theorem dX6_lowestOn_23 : decode cX6_lowestOn 23 = .ok (.iload_n 2, 1) := by decide +kernel
theorem dX6_lowestOn_24 : decode cX6_lowestOn 24 = .ok (.istore_n 2, 1) := by decide +kernel
theorem dX6_lowestOn_25 : decode cX6_lowestOn 25 = .ok (.iinc 3 (-1), 3) := by decide +kernel
theorem dX6_lowestOn_28 : decode cX6_lowestOn 28 = .ok (.goto (-22), 3) := by decide +kernel
theorem dX6_lowestOn_31 : decode cX6_lowestOn 31 = .ok (.iload_n 2, 1) := by decide +kernel
theorem dX6_lowestOn_32 : decode cX6_lowestOn 32 = .ok (.ireturn, 1) := by decide +kernel
theorem dX6_bridgeOn_0 : decode cX6_bridgeOn 0 = .ok (.iload_n 1, 1) := by decide +kernel
theorem dX6_bridgeOn_1 : decode cX6_bridgeOn 1 = .ok (.bipush 8, 2) := by decide +kernel
theorem dX6_bridgeOn_3 : decode cX6_bridgeOn 3 = .ok (.idiv, 1) := by decide +kernel
theorem dX6_bridgeOn_4 : decode cX6_bridgeOn 4 = .ok (.istore_n 2, 1) := by decide +kernel
theorem dX6_bridgeOn_5 : decode cX6_bridgeOn 5 = .ok (.iload_n 1, 1) := by decide +kernel
theorem dX6_bridgeOn_6 : decode cX6_bridgeOn 6 = .ok (.invokestatic 40, 3) := by decide +kernel
theorem dX6_bridgeOn_9 : decode cX6_bridgeOn 9 = .ok (.ifCond .ne 7, 3) := by decide +kernel
theorem dX6_bridgeOn_12 : decode cX6_bridgeOn 12 = .ok (.iconst 0, 1) := by decide +kernel
theorem dX6_bridgeOn_13 : decode cX6_bridgeOn 13 = .ok (.goto 38, 3) := by decide +kernel
theorem dX6_bridgeOn_16 : decode cX6_bridgeOn 16 = .ok (.aload_n 0, 1) := by decide +kernel
theorem dX6_bridgeOn_17 : decode cX6_bridgeOn 17 = .ok (.getfield 7, 3) := by decide +kernel
theorem dX6_bridgeOn_20 : decode cX6_bridgeOn 20 = .ok (.bipush 24, 2) := by decide +kernel
theorem dX6_bridgeOn_22 : decode cX6_bridgeOn 22 = .ok (.iload_n 2, 1) := by decide +kernel
theorem dX6_bridgeOn_23 : decode cX6_bridgeOn 23 = .ok (.iadd, 1) := by decide +kernel
theorem dX6_bridgeOn_24 : decode cX6_bridgeOn 24 = .ok (.iaload, 1) := by decide +kernel
theorem dX6_bridgeOn_25 : decode cX6_bridgeOn 25 = .ok (.iconst 1, 1) := by decide +kernel
theorem dX6_bridgeOn_26 : decode cX6_bridgeOn 26 = .ok (.if_icmp .ne 7, 3) := by decide +kernel
theorem dX6_bridgeOn_29 : decode cX6_bridgeOn 29 = .ok (.iconst 3, 1) := by decide +kernel
theorem dX6_bridgeOn_30 : decode cX6_bridgeOn 30 = .ok (.goto 21, 3) := by decide +kernel
theorem dX6_bridgeOn_33 : decode cX6_bridgeOn 33 = .ok (.aload_n 0, 1) := by decide +kernel
theorem dX6_bridgeOn_34 : decode cX6_bridgeOn 34 = .ok (.getfield 7, 3) := by decide +kernel
theorem dX6_bridgeOn_37 : decode cX6_bridgeOn 37 = .ok (.bipush 28, 2) := by decide +kernel
theorem dX6_bridgeOn_39 : decode cX6_bridgeOn 39 = .ok (.iload_n 2, 1) := by decide +kernel
theorem dX6_bridgeOn_40 : decode cX6_bridgeOn 40 = .ok (.iadd, 1) := by decide +kernel
theorem dX6_bridgeOn_41 : decode cX6_bridgeOn 41 = .ok (.iaload, 1) := by decide +kernel
theorem dX6_bridgeOn_42 : decode cX6_bridgeOn 42 = .ok (.iconst 1, 1) := by decide +kernel
theorem dX6_bridgeOn_43 : decode cX6_bridgeOn 43 = .ok (.if_icmp .ne 7, 3) := by decide +kernel
theorem dX6_bridgeOn_46 : decode cX6_bridgeOn 46 = .ok (.iconst 2, 1) := by decide +kernel
theorem dX6_bridgeOn_47 : decode cX6_bridgeOn 47 = .ok (.goto 4, 3) := by decide +kernel
theorem dX6_bridgeOn_50 : decode cX6_bridgeOn 50 = .ok (.iconst 1, 1) := by decide +kernel
theorem dX6_bridgeOn_51 : decode cX6_bridgeOn 51 = .ok (.ireturn, 1) := by decide +kernel
theorem dX6_mendedIn_0 : decode cX6_mendedIn 0 = .ok (.aload_n 0, 1) := by decide +kernel
theorem dX6_mendedIn_1 : decode cX6_mendedIn 1 = .ok (.iload_n 1, 1) := by decide +kernel
theorem dX6_mendedIn_2 : decode cX6_mendedIn 2 = .ok (.invokevirtual 71, 3) := by decide +kernel
theorem dX6_mendedIn_5 : decode cX6_mendedIn 5 = .ok (.ifCond .eq 13, 3) := by decide +kernel
theorem dX6_mendedIn_8 : decode cX6_mendedIn 8 = .ok (.aload_n 0, 1) := by decide +kernel
theorem dX6_mendedIn_9 : decode cX6_mendedIn 9 = .ok (.getfield 7, 3) := by decide +kernel
theorem dX6_mendedIn_12 : decode cX6_mendedIn 12 = .ok (.bipush 37, 2) := by decide +kernel
theorem dX6_mendedIn_14 : decode cX6_mendedIn 14 = .ok (.iaload, 1) := by decide +kernel
theorem dX6_mendedIn_15 : decode cX6_mendedIn 15 = .ok (.ifCond .ne 6, 3) := by decide +kernel
theorem dX6_mendedIn_18 : decode cX6_mendedIn 18 = .ok (.bipush (-6), 2) := by decide +kernel
theorem dX6_mendedIn_20 : decode cX6_mendedIn 20 = .ok (.ireturn, 1) := by decide +kernel
theorem dX6_mendedIn_21 : decode cX6_mendedIn 21 = .ok (.aload_n 0, 1) := by decide +kernel
theorem dX6_mendedIn_22 : decode cX6_mendedIn 22 = .ok (.getfield 7, 3) := by decide +kernel
theorem dX6_mendedIn_25 : decode cX6_mendedIn 25 = .ok (.bipush 37, 2) := by decide +kernel
theorem dX6_mendedIn_27 : decode cX6_mendedIn 27 = .ok (.iaload, 1) := by decide +kernel
theorem dX6_mendedIn_28 : decode cX6_mendedIn 28 = .ok (.aload_n 0, 1) := by decide +kernel
theorem dX6_mendedIn_29 : decode cX6_mendedIn 29 = .ok (.getfield 7, 3) := by decide +kernel
theorem dX6_mendedIn_32 : decode cX6_mendedIn 32 = .ok (.bipush 42, 2) := by decide +kernel
theorem dX6_mendedIn_34 : decode cX6_mendedIn 34 = .ok (.iaload, 1) := by decide +kernel
theorem dX6_mendedIn_35 : decode cX6_mendedIn 35 = .ok (.aload_n 0, 1) := by decide +kernel
theorem dX6_mendedIn_36 : decode cX6_mendedIn 36 = .ok (.getfield 7, 3) := by decide +kernel
theorem dX6_mendedIn_39 : decode cX6_mendedIn 39 = .ok (.bipush 32, 2) := by decide +kernel
theorem dX6_mendedIn_41 : decode cX6_mendedIn 41 = .ok (.iload_n 1, 1) := by decide +kernel
theorem dX6_mendedIn_42 : decode cX6_mendedIn 42 = .ok (.bipush 8, 2) := by decide +kernel
theorem dX6_mendedIn_44 : decode cX6_mendedIn 44 = .ok (.idiv, 1) := by decide +kernel
theorem dX6_mendedIn_45 : decode cX6_mendedIn 45 = .ok (.iadd, 1) := by decide +kernel
theorem dX6_mendedIn_46 : decode cX6_mendedIn 46 = .ok (.iaload, 1) := by decide +kernel
theorem dX6_mendedIn_47 : decode cX6_mendedIn 47 = .ok (.isub, 1) := by decide +kernel
theorem dX6_mendedIn_48 : decode cX6_mendedIn 48 = .ok (.isub, 1) := by decide +kernel
theorem dX6_mendedIn_49 : decode cX6_mendedIn 49 = .ok (.istore_n 2, 1) := by decide +kernel
theorem dX6_mendedIn_50 : decode cX6_mendedIn 50 = .ok (.iload_n 2, 1) := by decide +kernel
theorem dX6_mendedIn_51 : decode cX6_mendedIn 51 = .ok (.iconst 1, 1) := by decide +kernel
theorem dX6_mendedIn_52 : decode cX6_mendedIn 52 = .ok (.if_icmp .ge 7, 3) := by decide +kernel
theorem dX6_mendedIn_55 : decode cX6_mendedIn 55 = .ok (.iconst 1, 1) := by decide +kernel
theorem dX6_mendedIn_56 : decode cX6_mendedIn 56 = .ok (.goto 4, 3) := by decide +kernel
theorem dX6_mendedIn_59 : decode cX6_mendedIn 59 = .ok (.iload_n 2, 1) := by decide +kernel
theorem dX6_mendedIn_60 : decode cX6_mendedIn 60 = .ok (.ireturn, 1) := by decide +kernel
theorem dX6_field_0 : decode cX6_field 0 = .ok (.iload_n 1, 1) := by decide +kernel
theorem dX6_field_1 : decode cX6_field 1 = .ok (.iconst 0, 1) := by decide +kernel
theorem dX6_field_2 : decode cX6_field 2 = .ok (.bipush 31, 2) := by decide +kernel
theorem dX6_field_4 : decode cX6_field 4 = .ok (.invokestatic 32, 3) := by decide +kernel
theorem dX6_field_7 : decode cX6_field 7 = .ok (.ifCond .ne 5, 3) := by decide +kernel
theorem dX6_field_10 : decode cX6_field 10 = .ok (.iconst (-1), 1) := by decide +kernel
theorem dX6_field_11 : decode cX6_field 11 = .ok (.ireturn, 1) := by decide +kernel
theorem dX6_field_12 : decode cX6_field 12 = .ok (.iload_n 2, 1) := by decide +kernel
theorem dX6_field_13 : decode cX6_field 13 = .ok (.tableswitch 72 0 4 #[35, 41, 47, 60, 66], 35) := by decide +kernel
theorem dX6_field_48 : decode cX6_field 48 = .ok (.aload_n 0, 1) := by decide +kernel
theorem dX6_field_49 : decode cX6_field 49 = .ok (.iload_n 1, 1) := by decide +kernel
theorem dX6_field_50 : decode cX6_field 50 = .ok (.invokevirtual 61, 3) := by decide +kernel
theorem dX6_field_53 : decode cX6_field 53 = .ok (.ireturn, 1) := by decide +kernel
theorem dX6_field_54 : decode cX6_field 54 = .ok (.aload_n 0, 1) := by decide +kernel
theorem dX6_field_55 : decode cX6_field 55 = .ok (.iload_n 1, 1) := by decide +kernel
theorem dX6_field_56 : decode cX6_field 56 = .ok (.invokevirtual 149, 3) := by decide +kernel
theorem dX6_field_59 : decode cX6_field 59 = .ok (.ireturn, 1) := by decide +kernel
theorem dX6_field_60 : decode cX6_field 60 = .ok (.iload_n 1, 1) := by decide +kernel
theorem dX6_field_61 : decode cX6_field 61 = .ok (.invokestatic 85, 3) := by decide +kernel
theorem dX6_field_64 : decode cX6_field 64 = .ok (.ifCond .eq 7, 3) := by decide +kernel
theorem dX6_field_67 : decode cX6_field 67 = .ok (.iconst 1, 1) := by decide +kernel
theorem dX6_field_68 : decode cX6_field 68 = .ok (.goto 4, 3) := by decide +kernel
theorem dX6_field_71 : decode cX6_field 71 = .ok (.iconst 0, 1) := by decide +kernel
theorem dX6_field_72 : decode cX6_field 72 = .ok (.ireturn, 1) := by decide +kernel
theorem dX6_field_73 : decode cX6_field 73 = .ok (.aload_n 0, 1) := by decide +kernel
theorem dX6_field_74 : decode cX6_field 74 = .ok (.iload_n 1, 1) := by decide +kernel
theorem dX6_field_75 : decode cX6_field 75 = .ok (.invokevirtual 152, 3) := by decide +kernel
theorem dX6_field_78 : decode cX6_field 78 = .ok (.ireturn, 1) := by decide +kernel
theorem dX6_field_79 : decode cX6_field 79 = .ok (.aload_n 0, 1) := by decide +kernel
theorem dX6_field_80 : decode cX6_field 80 = .ok (.iload_n 1, 1) := by decide +kernel
theorem dX6_field_81 : decode cX6_field 81 = .ok (.invokevirtual 155, 3) := by decide +kernel
theorem dX6_field_84 : decode cX6_field 84 = .ok (.ireturn, 1) := by decide +kernel
theorem dX6_field_85 : decode cX6_field 85 = .ok (.bipush (-2), 2) := by decide +kernel
theorem dX6_field_87 : decode cX6_field 87 = .ok (.ireturn, 1) := by decide +kernel
theorem dX6_why_0 : decode cX6_why 0 = .ok (.iload_n 1, 1) := by decide +kernel
theorem dX6_why_1 : decode cX6_why 1 = .ok (.invokestatic 146, 3) := by decide +kernel
theorem dX6_why_4 : decode cX6_why 4 = .ok (.ifCond .ne 7, 3) := by decide +kernel
theorem dX6_why_7 : decode cX6_why 7 = .ok (.iconst (-1), 1) := by decide +kernel
theorem dX6_why_8 : decode cX6_why 8 = .ok (.goto 24, 3) := by decide +kernel
theorem dX6_why_11 : decode cX6_why 11 = .ok (.iload_n 2, 1) := by decide +kernel
theorem dX6_why_12 : decode cX6_why 12 = .ok (.iconst 1, 1) := by decide +kernel
theorem dX6_why_13 : decode cX6_why 13 = .ok (.bipush 6, 2) := by decide +kernel
theorem dX6_why_15 : decode cX6_why 15 = .ok (.invokestatic 32, 3) := by decide +kernel
theorem dX6_why_18 : decode cX6_why 18 = .ok (.ifCond .eq 12, 3) := by decide +kernel
theorem dX6_why_21 : decode cX6_why 21 = .ok (.aload_n 0, 1) := by decide +kernel
theorem dX6_why_22 : decode cX6_why 22 = .ok (.iload_n 1, 1) := by decide +kernel
theorem dX6_why_23 : decode cX6_why 23 = .ok (.iload_n 2, 1) := by decide +kernel
theorem dX6_why_24 : decode cX6_why 24 = .ok (.invokevirtual 88, 3) := by decide +kernel
theorem dX6_why_27 : decode cX6_why 27 = .ok (.goto 5, 3) := by decide +kernel
theorem dX6_why_30 : decode cX6_why 30 = .ok (.bipush (-2), 2) := by decide +kernel
theorem dX6_why_32 : decode cX6_why 32 = .ok (.ireturn, 1) := by decide +kernel
theorem dX6_fallenBridges_0 : decode cX6_fallenBridges 0 = .ok (.iconst 0, 1) := by decide +kernel
theorem dX6_fallenBridges_1 : decode cX6_fallenBridges 1 = .ok (.istore_n 1, 1) := by decide +kernel
theorem dX6_fallenBridges_2 : decode cX6_fallenBridges 2 = .ok (.iconst 0, 1) := by decide +kernel
theorem dX6_fallenBridges_3 : decode cX6_fallenBridges 3 = .ok (.istore_n 2, 1) := by decide +kernel
theorem dX6_fallenBridges_4 : decode cX6_fallenBridges 4 = .ok (.iload_n 2, 1) := by decide +kernel
theorem dX6_fallenBridges_5 : decode cX6_fallenBridges 5 = .ok (.iconst 4, 1) := by decide +kernel
theorem dX6_fallenBridges_6 : decode cX6_fallenBridges 6 = .ok (.if_icmp .ge 23, 3) := by decide +kernel
theorem dX6_fallenBridges_9 : decode cX6_fallenBridges 9 = .ok (.iload_n 1, 1) := by decide +kernel
theorem dX6_fallenBridges_10 : decode cX6_fallenBridges 10 = .ok (.aload_n 0, 1) := by decide +kernel
theorem dX6_fallenBridges_11 : decode cX6_fallenBridges 11 = .ok (.getfield 7, 3) := by decide +kernel
theorem dX6_fallenBridges_14 : decode cX6_fallenBridges 14 = .ok (.bipush 24, 2) := by decide +kernel
theorem dX6_fallenBridges_16 : decode cX6_fallenBridges 16 = .ok (.iload_n 2, 1) := by decide +kernel
theorem dX6_fallenBridges_17 : decode cX6_fallenBridges 17 = .ok (.iadd, 1) := by decide +kernel
theorem dX6_fallenBridges_18 : decode cX6_fallenBridges 18 = .ok (.iaload, 1) := by decide +kernel
theorem dX6_fallenBridges_19 : decode cX6_fallenBridges 19 = .ok (.iload_n 2, 1) := by decide +kernel
theorem dX6_fallenBridges_20 : decode cX6_fallenBridges 20 = .ok (.ishl, 1) := by decide +kernel
theorem dX6_fallenBridges_21 : decode cX6_fallenBridges 21 = .ok (.ior, 1) := by decide +kernel
theorem dX6_fallenBridges_22 : decode cX6_fallenBridges 22 = .ok (.istore_n 1, 1) := by decide +kernel
theorem dX6_fallenBridges_23 : decode cX6_fallenBridges 23 = .ok (.iinc 2 1, 3) := by decide +kernel
theorem dX6_fallenBridges_26 : decode cX6_fallenBridges 26 = .ok (.goto (-22), 3) := by decide +kernel
theorem dX6_fallenBridges_29 : decode cX6_fallenBridges 29 = .ok (.iload_n 1, 1) := by decide +kernel
theorem dX6_fallenBridges_30 : decode cX6_fallenBridges 30 = .ok (.ireturn, 1) := by decide +kernel
theorem dX6_count_0 : decode cX6_count 0 = .ok (.iload_n 1, 1) := by decide +kernel
theorem dX6_count_1 : decode cX6_count 1 = .ok (.iconst 0, 1) := by decide +kernel
theorem dX6_count_2 : decode cX6_count 2 = .ok (.bipush 7, 2) := by decide +kernel
theorem dX6_count_4 : decode cX6_count 4 = .ok (.invokestatic 32, 3) := by decide +kernel
theorem dX6_count_7 : decode cX6_count 7 = .ok (.ifCond .eq 13, 3) := by decide +kernel
theorem dX6_count_10 : decode cX6_count 10 = .ok (.aload_n 0, 1) := by decide +kernel
theorem dX6_count_11 : decode cX6_count 11 = .ok (.getfield 7, 3) := by decide +kernel
theorem dX6_count_14 : decode cX6_count 14 = .ok (.bipush 36, 2) := by decide +kernel
theorem dX6_count_16 : decode cX6_count 16 = .ok (.iload_n 1, 1) := by decide +kernel
theorem dX6_count_17 : decode cX6_count 17 = .ok (.iadd, 1) := by decide +kernel
theorem dX6_count_18 : decode cX6_count 18 = .ok (.iaload, 1) := by decide +kernel
theorem dX6_count_19 : decode cX6_count 19 = .ok (.ireturn, 1) := by decide +kernel
theorem dX6_count_20 : decode cX6_count 20 = .ok (.iload_n 1, 1) := by decide +kernel
theorem dX6_count_21 : decode cX6_count 21 = .ok (.bipush 9, 2) := by decide +kernel
theorem dX6_count_23 : decode cX6_count 23 = .ok (.bipush 12, 2) := by decide +kernel
theorem dX6_count_25 : decode cX6_count 25 = .ok (.invokestatic 32, 3) := by decide +kernel
theorem dX6_count_28 : decode cX6_count 28 = .ok (.ifCond .eq 12, 3) := by decide +kernel
theorem dX6_count_31 : decode cX6_count 31 = .ok (.aload_n 0, 1) := by decide +kernel
theorem dX6_count_32 : decode cX6_count 32 = .ok (.iload_n 1, 1) := by decide +kernel
theorem dX6_count_33 : decode cX6_count 33 = .ok (.bipush 9, 2) := by decide +kernel
theorem dX6_count_35 : decode cX6_count 35 = .ok (.isub, 1) := by decide +kernel
theorem dX6_count_36 : decode cX6_count 36 = .ok (.invokevirtual 51, 3) := by decide +kernel
theorem dX6_count_39 : decode cX6_count 39 = .ok (.ireturn, 1) := by decide +kernel
theorem dX6_count_40 : decode cX6_count 40 = .ok (.iload_n 1, 1) := by decide +kernel
theorem dX6_count_41 : decode cX6_count 41 = .ok (.tableswitch 91 8 17 #[55, 91, 91, 91, 91, 60, 68, 73, 81, 86], 55) := by decide +kernel
theorem dX6_count_96 : decode cX6_count 96 = .ok (.aload_n 0, 1) := by decide +kernel
theorem dX6_count_97 : decode cX6_count 97 = .ok (.invokevirtual 54, 3) := by decide +kernel
theorem dX6_count_100 : decode cX6_count 100 = .ok (.ireturn, 1) := by decide +kernel
theorem dX6_count_101 : decode cX6_count 101 = .ok (.aload_n 0, 1) := by decide +kernel
theorem dX6_count_102 : decode cX6_count 102 = .ok (.getfield 7, 3) := by decide +kernel
theorem dX6_count_105 : decode cX6_count 105 = .ok (.bipush 44, 2) := by decide +kernel
theorem dX6_count_107 : decode cX6_count 107 = .ok (.iaload, 1) := by decide +kernel
theorem dX6_count_108 : decode cX6_count 108 = .ok (.ireturn, 1) := by decide +kernel
theorem dX6_count_109 : decode cX6_count 109 = .ok (.aload_n 0, 1) := by decide +kernel
theorem dX6_count_110 : decode cX6_count 110 = .ok (.invokevirtual 158, 3) := by decide +kernel
theorem dX6_count_113 : decode cX6_count 113 = .ok (.ireturn, 1) := by decide +kernel
theorem dX6_count_114 : decode cX6_count 114 = .ok (.aload_n 0, 1) := by decide +kernel
theorem dX6_count_115 : decode cX6_count 115 = .ok (.getfield 7, 3) := by decide +kernel
theorem dX6_count_118 : decode cX6_count 118 = .ok (.bipush 45, 2) := by decide +kernel
theorem dX6_count_120 : decode cX6_count 120 = .ok (.iaload, 1) := by decide +kernel
theorem dX6_count_121 : decode cX6_count 121 = .ok (.ireturn, 1) := by decide +kernel
theorem dX6_count_122 : decode cX6_count 122 = .ok (.aload_n 0, 1) := by decide +kernel
theorem dX6_count_123 : decode cX6_count 123 = .ok (.getfield 143, 3) := by decide +kernel
theorem dX6_count_126 : decode cX6_count 126 = .ok (.ireturn, 1) := by decide +kernel
theorem dX6_count_127 : decode cX6_count 127 = .ok (.aload_n 0, 1) := by decide +kernel
theorem dX6_count_128 : decode cX6_count 128 = .ok (.getfield 64, 3) := by decide +kernel
theorem dX6_count_131 : decode cX6_count 131 = .ok (.ireturn, 1) := by decide +kernel
theorem dX6_count_132 : decode cX6_count 132 = .ok (.bipush (-2), 2) := by decide +kernel
theorem dX6_count_134 : decode cX6_count 134 = .ok (.ireturn, 1) := by decide +kernel
theorem dX6_kindOf_0 : decode cX6_kindOf 0 = .ok (.aload_n 0, 1) := by decide +kernel
theorem dX6_kindOf_1 : decode cX6_kindOf 1 = .ok (.iload_n 1, 1) := by decide +kernel
theorem dX6_kindOf_2 : decode cX6_kindOf 2 = .ok (.iload_n 2, 1) := by decide +kernel
theorem dX6_kindOf_3 : decode cX6_kindOf 3 = .ok (.invokevirtual 88, 3) := by decide +kernel
theorem dX6_kindOf_6 : decode cX6_kindOf 6 = .ok (.pop, 1) := by decide +kernel
theorem dX6_kindOf_7 : decode cX6_kindOf 7 = .ok (.iload_n 1, 1) := by decide +kernel
theorem dX6_kindOf_8 : decode cX6_kindOf 8 = .ok (.iconst 3, 1) := by decide +kernel
theorem dX6_kindOf_9 : decode cX6_kindOf 9 = .ok (.idiv, 1) := by decide +kernel
theorem dX6_kindOf_10 : decode cX6_kindOf 10 = .ok (.istore_n 3, 1) := by decide +kernel
theorem dX6_kindOf_11 : decode cX6_kindOf 11 = .ok (.iload_n 3, 1) := by decide +kernel
theorem dX6_kindOf_12 : decode cX6_kindOf 12 = .ok (.aload_n 0, 1) := by decide +kernel
theorem dX6_kindOf_13 : decode cX6_kindOf 13 = .ok (.getfield 78, 3) := by decide +kernel
theorem dX6_kindOf_16 : decode cX6_kindOf 16 = .ok (.invokestatic 36, 3) := by decide +kernel
theorem dX6_kindOf_19 : decode cX6_kindOf 19 = .ok (.istore 4, 2) := by decide +kernel
theorem dX6_kindOf_21 : decode cX6_kindOf 21 = .ok (.aload_n 0, 1) := by decide +kernel
theorem dX6_kindOf_22 : decode cX6_kindOf 22 = .ok (.iload_n 3, 1) := by decide +kernel
theorem dX6_kindOf_23 : decode cX6_kindOf 23 = .ok (.iload 4, 2) := by decide +kernel
theorem dX6_kindOf_25 : decode cX6_kindOf 25 = .ok (.invokevirtual 48, 3) := by decide +kernel
theorem dX6_kindOf_28 : decode cX6_kindOf 28 = .ok (.istore 5, 2) := by decide +kernel
theorem dX6_kindOf_30 : decode cX6_kindOf 30 = .ok (.aload_n 0, 1) := by decide +kernel
theorem dX6_kindOf_31 : decode cX6_kindOf 31 = .ok (.getfield 78, 3) := by decide +kernel
theorem dX6_kindOf_34 : decode cX6_kindOf 34 = .ok (.bipush 35, 2) := by decide +kernel
theorem dX6_kindOf_36 : decode cX6_kindOf 36 = .ok (.if_icmp .ne 7, 3) := by decide +kernel
theorem dX6_kindOf_39 : decode cX6_kindOf 39 = .ok (.iconst 3, 1) := by decide +kernel
theorem dX6_kindOf_40 : decode cX6_kindOf 40 = .ok (.goto 27, 3) := by decide +kernel
theorem dX6_kindOf_43 : decode cX6_kindOf 43 = .ok (.aload_n 0, 1) := by decide +kernel
theorem dX6_kindOf_44 : decode cX6_kindOf 44 = .ok (.iload_n 3, 1) := by decide +kernel
theorem dX6_kindOf_45 : decode cX6_kindOf 45 = .ok (.iload 4, 2) := by decide +kernel
theorem dX6_kindOf_47 : decode cX6_kindOf 47 = .ok (.invokevirtual 91, 3) := by decide +kernel
theorem dX6_kindOf_50 : decode cX6_kindOf 50 = .ok (.ifCond .lt 7, 3) := by decide +kernel
theorem dX6_kindOf_53 : decode cX6_kindOf 53 = .ok (.iconst 2, 1) := by decide +kernel
theorem dX6_kindOf_54 : decode cX6_kindOf 54 = .ok (.goto 13, 3) := by decide +kernel
theorem dX6_kindOf_57 : decode cX6_kindOf 57 = .ok (.iload 5, 2) := by decide +kernel
theorem dX6_kindOf_59 : decode cX6_kindOf 59 = .ok (.ifCond .le 7, 3) := by decide +kernel
theorem dX6_kindOf_62 : decode cX6_kindOf 62 = .ok (.iconst 1, 1) := by decide +kernel
theorem dX6_kindOf_63 : decode cX6_kindOf 63 = .ok (.goto 4, 3) := by decide +kernel
theorem dX6_kindOf_66 : decode cX6_kindOf 66 = .ok (.iconst 0, 1) := by decide +kernel
theorem dX6_kindOf_67 : decode cX6_kindOf 67 = .ok (.ireturn, 1) := by decide +kernel
theorem dX6_bestPiece_0 : decode cX6_bestPiece 0 = .ok (.bipush (-6), 2) := by decide +kernel
theorem dX6_bestPiece_2 : decode cX6_bestPiece 2 = .ok (.istore_n 1, 1) := by decide +kernel
theorem dX6_bestPiece_3 : decode cX6_bestPiece 3 = .ok (.iconst 0, 1) := by decide +kernel
theorem dX6_bestPiece_4 : decode cX6_bestPiece 4 = .ok (.istore_n 2, 1) := by decide +kernel
theorem dX6_bestPiece_5 : decode cX6_bestPiece 5 = .ok (.iconst 0, 1) := by decide +kernel
theorem dX6_bestPiece_6 : decode cX6_bestPiece 6 = .ok (.istore_n 3, 1) := by decide +kernel
theorem dX6_bestPiece_7 : decode cX6_bestPiece 7 = .ok (.iload_n 3, 1) := by decide +kernel
theorem dX6_bestPiece_8 : decode cX6_bestPiece 8 = .ok (.iconst 3, 1) := by decide +kernel
theorem dX6_bestPiece_9 : decode cX6_bestPiece 9 = .ok (.if_icmp .ge 97, 3) := by decide +kernel
theorem dX6_bestPiece_12 : decode cX6_bestPiece 12 = .ok (.iconst 3, 1) := by decide +kernel
theorem dX6_bestPiece_13 : decode cX6_bestPiece 13 = .ok (.aload_n 0, 1) := by decide +kernel
theorem dX6_bestPiece_14 : decode cX6_bestPiece 14 = .ok (.getfield 7, 3) := by decide +kernel
theorem dX6_bestPiece_17 : decode cX6_bestPiece 17 = .ok (.bipush 40, 2) := by decide +kernel
theorem dX6_bestPiece_19 : decode cX6_bestPiece 19 = .ok (.iaload, 1) := by decide +kernel
theorem dX6_bestPiece_20 : decode cX6_bestPiece 20 = .ok (.imul, 1) := by decide +kernel
theorem dX6_bestPiece_21 : decode cX6_bestPiece 21 = .ok (.iload_n 3, 1) := by decide +kernel
theorem dX6_bestPiece_22 : decode cX6_bestPiece 22 = .ok (.iadd, 1) := by decide +kernel
theorem dX6_bestPiece_23 : decode cX6_bestPiece 23 = .ok (.istore 4, 2) := by decide +kernel
theorem dX6_bestPiece_25 : decode cX6_bestPiece 25 = .ok (.aload_n 0, 1) := by decide +kernel
theorem dX6_bestPiece_26 : decode cX6_bestPiece 26 = .ok (.iload 4, 2) := by decide +kernel
theorem dX6_bestPiece_28 : decode cX6_bestPiece 28 = .ok (.aload_n 0, 1) := by decide +kernel
theorem dX6_bestPiece_29 : decode cX6_bestPiece 29 = .ok (.getfield 7, 3) := by decide +kernel
theorem dX6_bestPiece_32 : decode cX6_bestPiece 32 = .ok (.bipush 41, 2) := by decide +kernel
theorem dX6_bestPiece_34 : decode cX6_bestPiece 34 = .ok (.iaload, 1) := by decide +kernel
theorem dX6_bestPiece_35 : decode cX6_bestPiece 35 = .ok (.invokevirtual 88, 3) := by decide +kernel
theorem dX6_bestPiece_38 : decode cX6_bestPiece 38 = .ok (.ifCond .ne 62, 3) := by decide +kernel
theorem dX6_bestPiece_41 : decode cX6_bestPiece 41 = .ok (.bipush 100, 2) := by decide +kernel
theorem dX6_bestPiece_43 : decode cX6_bestPiece 43 = .ok (.aload_n 0, 1) := by decide +kernel
theorem dX6_bestPiece_44 : decode cX6_bestPiece 44 = .ok (.iload 4, 2) := by decide +kernel
theorem dX6_bestPiece_46 : decode cX6_bestPiece 46 = .ok (.aload_n 0, 1) := by decide +kernel
theorem dX6_bestPiece_47 : decode cX6_bestPiece 47 = .ok (.getfield 7, 3) := by decide +kernel
theorem dX6_bestPiece_50 : decode cX6_bestPiece 50 = .ok (.bipush 41, 2) := by decide +kernel
theorem dX6_bestPiece_52 : decode cX6_bestPiece 52 = .ok (.iaload, 1) := by decide +kernel
theorem dX6_bestPiece_53 : decode cX6_bestPiece 53 = .ok (.invokevirtual 161, 3) := by decide +kernel
theorem dX6_bestPiece_56 : decode cX6_bestPiece 56 = .ok (.imul, 1) := by decide +kernel
theorem dX6_bestPiece_57 : decode cX6_bestPiece 57 = .ok (.aload_n 0, 1) := by decide +kernel
theorem dX6_bestPiece_58 : decode cX6_bestPiece 58 = .ok (.getfield 7, 3) := by decide +kernel
theorem dX6_bestPiece_61 : decode cX6_bestPiece 61 = .ok (.iload 4, 2) := by decide +kernel
theorem dX6_bestPiece_63 : decode cX6_bestPiece 63 = .ok (.iaload, 1) := by decide +kernel
theorem dX6_bestPiece_64 : decode cX6_bestPiece 64 = .ok (.bipush (-6), 2) := by decide +kernel
theorem dX6_bestPiece_66 : decode cX6_bestPiece 66 = .ok (.if_icmp .ne 7, 3) := by decide +kernel
theorem dX6_bestPiece_69 : decode cX6_bestPiece 69 = .ok (.iconst 0, 1) := by decide +kernel
theorem dX6_bestPiece_70 : decode cX6_bestPiece 70 = .ok (.goto 12, 3) := by decide +kernel
theorem dX6_bestPiece_73 : decode cX6_bestPiece 73 = .ok (.aload_n 0, 1) := by decide +kernel
theorem dX6_bestPiece_74 : decode cX6_bestPiece 74 = .ok (.getfield 7, 3) := by decide +kernel
theorem dX6_bestPiece_77 : decode cX6_bestPiece 77 = .ok (.iload 4, 2) := by decide +kernel
theorem dX6_bestPiece_79 : decode cX6_bestPiece 79 = .ok (.iaload, 1) := by decide +kernel
theorem dX6_bestPiece_80 : decode cX6_bestPiece 80 = .ok (.iconst 1, 1) := by decide +kernel
theorem dX6_bestPiece_81 : decode cX6_bestPiece 81 = .ok (.iadd, 1) := by decide +kernel
theorem dX6_bestPiece_82 : decode cX6_bestPiece 82 = .ok (.iadd, 1) := by decide +kernel
theorem dX6_bestPiece_83 : decode cX6_bestPiece 83 = .ok (.istore 5, 2) := by decide +kernel
theorem dX6_bestPiece_85 : decode cX6_bestPiece 85 = .ok (.iload_n 1, 1) := by decide +kernel
theorem dX6_bestPiece_86 : decode cX6_bestPiece 86 = .ok (.ifCond .lt 9, 3) := by decide +kernel
theorem dX6_bestPiece_89 : decode cX6_bestPiece 89 = .ok (.iload 5, 2) := by decide +kernel
theorem dX6_bestPiece_91 : decode cX6_bestPiece 91 = .ok (.iload_n 2, 1) := by decide +kernel
theorem dX6_bestPiece_92 : decode cX6_bestPiece 92 = .ok (.if_icmp .le 8, 3) := by decide +kernel
theorem dX6_bestPiece_95 : decode cX6_bestPiece 95 = .ok (.iload_n 3, 1) := by decide +kernel
theorem dX6_bestPiece_96 : decode cX6_bestPiece 96 = .ok (.istore_n 1, 1) := by decide +kernel
theorem dX6_bestPiece_97 : decode cX6_bestPiece 97 = .ok (.iload 5, 2) := by decide +kernel
theorem dX6_bestPiece_99 : decode cX6_bestPiece 99 = .ok (.istore_n 2, 1) := by decide +kernel
theorem dX6_bestPiece_100 : decode cX6_bestPiece 100 = .ok (.iinc 3 1, 3) := by decide +kernel
theorem dX6_bestPiece_103 : decode cX6_bestPiece 103 = .ok (.goto (-96), 3) := by decide +kernel
theorem dX6_bestPiece_106 : decode cX6_bestPiece 106 = .ok (.iload_n 1, 1) := by decide +kernel
theorem dX6_bestPiece_107 : decode cX6_bestPiece 107 = .ok (.ireturn, 1) := by decide +kernel
theorem dX6_best_0 : decode cX6_best 0 = .ok (.aload_n 0, 1) := by decide +kernel
theorem dX6_best_1 : decode cX6_best 1 = .ok (.invokevirtual 114, 3) := by decide +kernel
theorem dX6_best_4 : decode cX6_best 4 = .ok (.ifCond .eq 10, 3) := by decide +kernel
theorem dX6_best_7 : decode cX6_best 7 = .ok (.aload_n 0, 1) := by decide +kernel
theorem dX6_best_8 : decode cX6_best 8 = .ok (.invokevirtual 134, 3) := by decide +kernel
theorem dX6_best_11 : decode cX6_best 11 = .ok (.goto 5, 3) := by decide +kernel
theorem dX6_best_14 : decode cX6_best 14 = .ok (.bipush (-5), 2) := by decide +kernel
theorem dX6_best_16 : decode cX6_best 16 = .ok (.ireturn, 1) := by decide +kernel
theorem dX6_throwsNeeded_0 : decode cX6_throwsNeeded 0 = .ok (.iload_n 1, 1) := by decide +kernel
theorem dX6_throwsNeeded_1 : decode cX6_throwsNeeded 1 = .ok (.iconst 3, 1) := by decide +kernel
theorem dX6_throwsNeeded_2 : decode cX6_throwsNeeded 2 = .ok (.idiv, 1) := by decide +kernel
theorem dX6_throwsNeeded_3 : decode cX6_throwsNeeded 3 = .ok (.istore_n 2, 1) := by decide +kernel
theorem dX6_throwsNeeded_4 : decode cX6_throwsNeeded 4 = .ok (.aload_n 0, 1) := by decide +kernel
theorem dX6_throwsNeeded_5 : decode cX6_throwsNeeded 5 = .ok (.getfield 29, 3) := by decide +kernel
theorem dX6_throwsNeeded_8 : decode cX6_throwsNeeded 8 = .ok (.bipush 35, 2) := by decide +kernel
theorem dX6_throwsNeeded_10 : decode cX6_throwsNeeded 10 = .ok (.iconst 0, 1) := by decide +kernel
theorem dX6_throwsNeeded_11 : decode cX6_throwsNeeded 11 = .ok (.iastore, 1) := by decide +kernel
theorem dX6_throwsNeeded_12 : decode cX6_throwsNeeded 12 = .ok (.bipush 34, 2) := by decide +kernel
theorem dX6_throwsNeeded_14 : decode cX6_throwsNeeded 14 = .ok (.istore_n 3, 1) := by decide +kernel
theorem dX6_throwsNeeded_15 : decode cX6_throwsNeeded 15 = .ok (.iload_n 3, 1) := by decide +kernel
theorem dX6_throwsNeeded_16 : decode cX6_throwsNeeded 16 = .ok (.ifCond .lt 91, 3) := by decide +kernel
theorem dX6_throwsNeeded_19 : decode cX6_throwsNeeded 19 = .ok (.aload_n 0, 1) := by decide +kernel
theorem dX6_throwsNeeded_20 : decode cX6_throwsNeeded 20 = .ok (.getfield 29, 3) := by decide +kernel
theorem dX6_throwsNeeded_23 : decode cX6_throwsNeeded 23 = .ok (.iload_n 3, 1) := by decide +kernel
theorem dX6_throwsNeeded_24 : decode cX6_throwsNeeded 24 = .ok (.sipush 400, 3) := by decide +kernel
theorem dX6_throwsNeeded_27 : decode cX6_throwsNeeded 27 = .ok (.iastore, 1) := by decide +kernel
theorem dX6_throwsNeeded_28 : decode cX6_throwsNeeded 28 = .ok (.iconst 1, 1) := by decide +kernel
theorem dX6_throwsNeeded_29 : decode cX6_throwsNeeded 29 = .ok (.istore 4, 2) := by decide +kernel
theorem dX6_throwsNeeded_31 : decode cX6_throwsNeeded 31 = .ok (.iload 4, 2) := by decide +kernel
theorem dX6_throwsNeeded_33 : decode cX6_throwsNeeded 33 = .ok (.bipush 6, 2) := by decide +kernel
theorem dX6_throwsNeeded_35 : decode cX6_throwsNeeded 35 = .ok (.if_icmp .gt 66, 3) := by decide +kernel
theorem dX6_throwsNeeded_38 : decode cX6_throwsNeeded 38 = .ok (.aload_n 0, 1) := by decide +kernel
theorem dX6_throwsNeeded_39 : decode cX6_throwsNeeded 39 = .ok (.iload_n 2, 1) := by decide +kernel
theorem dX6_throwsNeeded_40 : decode cX6_throwsNeeded 40 = .ok (.iload_n 3, 1) := by decide +kernel
theorem dX6_throwsNeeded_41 : decode cX6_throwsNeeded 41 = .ok (.iload 4, 2) := by decide +kernel
theorem dX6_throwsNeeded_43 : decode cX6_throwsNeeded 43 = .ok (.invokevirtual 74, 3) := by decide +kernel
theorem dX6_throwsNeeded_46 : decode cX6_throwsNeeded 46 = .ok (.istore 5, 2) := by decide +kernel
theorem dX6_throwsNeeded_48 : decode cX6_throwsNeeded 48 = .ok (.aload_n 0, 1) := by decide +kernel
theorem dX6_throwsNeeded_49 : decode cX6_throwsNeeded 49 = .ok (.getfield 29, 3) := by decide +kernel
theorem dX6_throwsNeeded_52 : decode cX6_throwsNeeded 52 = .ok (.iload_n 3, 1) := by decide +kernel
theorem dX6_throwsNeeded_53 : decode cX6_throwsNeeded 53 = .ok (.iload 5, 2) := by decide +kernel
theorem dX6_throwsNeeded_55 : decode cX6_throwsNeeded 55 = .ok (.ifCond .lt 33, 3) := by decide +kernel
theorem dX6_throwsNeeded_58 : decode cX6_throwsNeeded 58 = .ok (.aload_n 0, 1) := by decide +kernel
theorem dX6_throwsNeeded_59 : decode cX6_throwsNeeded 59 = .ok (.getfield 29, 3) := by decide +kernel
theorem dX6_throwsNeeded_62 : decode cX6_throwsNeeded 62 = .ok (.iload 5, 2) := by decide +kernel
theorem dX6_throwsNeeded_64 : decode cX6_throwsNeeded 64 = .ok (.iaload, 1) := by decide +kernel
theorem dX6_throwsNeeded_65 : decode cX6_throwsNeeded 65 = .ok (.iconst 1, 1) := by decide +kernel
theorem dX6_throwsNeeded_66 : decode cX6_throwsNeeded 66 = .ok (.iadd, 1) := by decide +kernel
theorem dX6_throwsNeeded_67 : decode cX6_throwsNeeded 67 = .ok (.aload_n 0, 1) := by decide +kernel
theorem dX6_throwsNeeded_68 : decode cX6_throwsNeeded 68 = .ok (.getfield 29, 3) := by decide +kernel
theorem dX6_throwsNeeded_71 : decode cX6_throwsNeeded 71 = .ok (.iload_n 3, 1) := by decide +kernel
theorem dX6_throwsNeeded_72 : decode cX6_throwsNeeded 72 = .ok (.iaload, 1) := by decide +kernel
theorem dX6_throwsNeeded_73 : decode cX6_throwsNeeded 73 = .ok (.if_icmp .ge 15, 3) := by decide +kernel
theorem dX6_throwsNeeded_76 : decode cX6_throwsNeeded 76 = .ok (.aload_n 0, 1) := by decide +kernel
theorem dX6_throwsNeeded_77 : decode cX6_throwsNeeded 77 = .ok (.getfield 29, 3) := by decide +kernel
theorem dX6_throwsNeeded_80 : decode cX6_throwsNeeded 80 = .ok (.iload 5, 2) := by decide +kernel
theorem dX6_throwsNeeded_82 : decode cX6_throwsNeeded 82 = .ok (.iaload, 1) := by decide +kernel
theorem dX6_throwsNeeded_83 : decode cX6_throwsNeeded 83 = .ok (.iconst 1, 1) := by decide +kernel
theorem dX6_throwsNeeded_84 : decode cX6_throwsNeeded 84 = .ok (.iadd, 1) := by decide +kernel
theorem dX6_throwsNeeded_85 : decode cX6_throwsNeeded 85 = .ok (.goto 9, 3) := by decide +kernel
theorem dX6_throwsNeeded_88 : decode cX6_throwsNeeded 88 = .ok (.aload_n 0, 1) := by decide +kernel
theorem dX6_throwsNeeded_89 : decode cX6_throwsNeeded 89 = .ok (.getfield 29, 3) := by decide +kernel
theorem dX6_throwsNeeded_92 : decode cX6_throwsNeeded 92 = .ok (.iload_n 3, 1) := by decide +kernel
theorem dX6_throwsNeeded_93 : decode cX6_throwsNeeded 93 = .ok (.iaload, 1) := by decide +kernel
theorem dX6_throwsNeeded_94 : decode cX6_throwsNeeded 94 = .ok (.iastore, 1) := by decide +kernel
theorem dX6_throwsNeeded_95 : decode cX6_throwsNeeded 95 = .ok (.iinc 4 1, 3) := by decide +kernel
theorem dX6_throwsNeeded_98 : decode cX6_throwsNeeded 98 = .ok (.goto (-67), 3) := by decide +kernel
theorem dX6_throwsNeeded_101 : decode cX6_throwsNeeded 101 = .ok (.iinc 3 (-1), 3) := by decide +kernel
theorem dX6_throwsNeeded_104 : decode cX6_throwsNeeded 104 = .ok (.goto (-89), 3) := by decide +kernel
theorem dX6_throwsNeeded_107 : decode cX6_throwsNeeded 107 = .ok (.aload_n 0, 1) := by decide +kernel
theorem dX6_throwsNeeded_108 : decode cX6_throwsNeeded 108 = .ok (.getfield 7, 3) := by decide +kernel
theorem dX6_throwsNeeded_111 : decode cX6_throwsNeeded 111 = .ok (.iload_n 1, 1) := by decide +kernel
theorem dX6_throwsNeeded_112 : decode cX6_throwsNeeded 112 = .ok (.iaload, 1) := by decide +kernel
theorem dX6_throwsNeeded_113 : decode cX6_throwsNeeded 113 = .ok (.bipush (-6), 2) := by decide +kernel
theorem dX6_throwsNeeded_115 : decode cX6_throwsNeeded 115 = .ok (.if_icmp .ne 14, 3) := by decide +kernel
theorem dX6_throwsNeeded_118 : decode cX6_throwsNeeded 118 = .ok (.aload_n 0, 1) := by decide +kernel
theorem dX6_throwsNeeded_119 : decode cX6_throwsNeeded 119 = .ok (.getfield 29, 3) := by decide +kernel
theorem dX6_throwsNeeded_122 : decode cX6_throwsNeeded 122 = .ok (.iconst 0, 1) := by decide +kernel
theorem dX6_throwsNeeded_123 : decode cX6_throwsNeeded 123 = .ok (.iaload, 1) := by decide +kernel
theorem dX6_throwsNeeded_124 : decode cX6_throwsNeeded 124 = .ok (.iconst 1, 1) := by decide +kernel
theorem dX6_throwsNeeded_125 : decode cX6_throwsNeeded 125 = .ok (.iadd, 1) := by decide +kernel
theorem dX6_throwsNeeded_126 : decode cX6_throwsNeeded 126 = .ok (.goto 14, 3) := by decide +kernel
theorem dX6_throwsNeeded_129 : decode cX6_throwsNeeded 129 = .ok (.aload_n 0, 1) := by decide +kernel
theorem dX6_throwsNeeded_130 : decode cX6_throwsNeeded 130 = .ok (.getfield 29, 3) := by decide +kernel
theorem dX6_throwsNeeded_133 : decode cX6_throwsNeeded 133 = .ok (.aload_n 0, 1) := by decide +kernel
theorem dX6_throwsNeeded_134 : decode cX6_throwsNeeded 134 = .ok (.getfield 7, 3) := by decide +kernel
theorem dX6_throwsNeeded_137 : decode cX6_throwsNeeded 137 = .ok (.iload_n 1, 1) := by decide +kernel
theorem dX6_throwsNeeded_138 : decode cX6_throwsNeeded 138 = .ok (.iaload, 1) := by decide +kernel
theorem dX6_throwsNeeded_139 : decode cX6_throwsNeeded 139 = .ok (.iaload, 1) := by decide +kernel
theorem dX6_throwsNeeded_140 : decode cX6_throwsNeeded 140 = .ok (.ireturn, 1) := by decide +kernel
theorem dX6_needs_0 : decode cX6_needs 0 = .ok (.iload_n 1, 1) := by decide +kernel
theorem dX6_needs_1 : decode cX6_needs 1 = .ok (.invokestatic 146, 3) := by decide +kernel
theorem dX6_needs_4 : decode cX6_needs 4 = .ok (.ifCond .ne 7, 3) := by decide +kernel
theorem dX6_needs_7 : decode cX6_needs 7 = .ok (.iconst (-1), 1) := by decide +kernel
theorem dX6_needs_8 : decode cX6_needs 8 = .ok (.goto 22, 3) := by decide +kernel
theorem dX6_needs_11 : decode cX6_needs 11 = .ok (.iload_n 2, 1) := by decide +kernel
theorem dX6_needs_12 : decode cX6_needs 12 = .ok (.iconst 0, 1) := by decide +kernel
theorem dX6_needs_13 : decode cX6_needs 13 = .ok (.iconst 1, 1) := by decide +kernel
theorem dX6_needs_14 : decode cX6_needs 14 = .ok (.invokestatic 32, 3) := by decide +kernel
theorem dX6_needs_17 : decode cX6_needs 17 = .ok (.ifCond .eq 11, 3) := by decide +kernel
theorem dX6_needs_20 : decode cX6_needs 20 = .ok (.aload_n 0, 1) := by decide +kernel
theorem dX6_needs_21 : decode cX6_needs 21 = .ok (.iload_n 1, 1) := by decide +kernel
theorem dX6_needs_22 : decode cX6_needs 22 = .ok (.invokevirtual 164, 3) := by decide +kernel
theorem dX6_needs_25 : decode cX6_needs 25 = .ok (.goto 5, 3) := by decide +kernel
theorem dX6_needs_28 : decode cX6_needs 28 = .ok (.bipush (-2), 2) := by decide +kernel
theorem dX6_needs_30 : decode cX6_needs 30 = .ok (.ireturn, 1) := by decide +kernel
theorem dX6_nextCast_0 : decode cX6_nextCast 0 = .ok (.iload_n 1, 1) := by decide +kernel
theorem dX6_nextCast_1 : decode cX6_nextCast 1 = .ok (.iconst 0, 1) := by decide +kernel
theorem dX6_nextCast_2 : decode cX6_nextCast 2 = .ok (.bipush 99, 2) := by decide +kernel
theorem dX6_nextCast_4 : decode cX6_nextCast 4 = .ok (.invokestatic 32, 3) := by decide +kernel
theorem dX6_nextCast_7 : decode cX6_nextCast 7 = .ok (.ifCond .ne 6, 3) := by decide +kernel
theorem dX6_nextCast_10 : decode cX6_nextCast 10 = .ok (.bipush (-2), 2) := by decide +kernel
theorem dX6_nextCast_12 : decode cX6_nextCast 12 = .ok (.ireturn, 1) := by decide +kernel
theorem dX6_nextCast_13 : decode cX6_nextCast 13 = .ok (.aload_n 0, 1) := by decide +kernel
theorem dX6_nextCast_14 : decode cX6_nextCast 14 = .ok (.getfield 7, 3) := by decide +kernel
theorem dX6_nextCast_17 : decode cX6_nextCast 17 = .ok (.bipush 39, 2) := by decide +kernel
theorem dX6_nextCast_19 : decode cX6_nextCast 19 = .ok (.iaload, 1) := by decide +kernel
theorem dX6_nextCast_20 : decode cX6_nextCast 20 = .ok (.istore_n 2, 1) := by decide +kernel
theorem dX6_nextCast_21 : decode cX6_nextCast 21 = .ok (.iconst 0, 1) := by decide +kernel
theorem dX6_nextCast_22 : decode cX6_nextCast 22 = .ok (.istore_n 3, 1) := by decide +kernel
theorem dX6_nextCast_23 : decode cX6_nextCast 23 = .ok (.iconst 0, 1) := by decide +kernel
theorem dX6_nextCast_24 : decode cX6_nextCast 24 = .ok (.istore 4, 2) := by decide +kernel
theorem dX6_nextCast_26 : decode cX6_nextCast 26 = .ok (.iload 4, 2) := by decide +kernel
theorem dX6_nextCast_28 : decode cX6_nextCast 28 = .ok (.iload_n 1, 1) := by decide +kernel
theorem dX6_nextCast_29 : decode cX6_nextCast 29 = .ok (.if_icmp .gt 14, 3) := by decide +kernel
theorem dX6_nextCast_32 : decode cX6_nextCast 32 = .ok (.aload_n 0, 1) := by decide +kernel
theorem dX6_nextCast_33 : decode cX6_nextCast 33 = .ok (.invokevirtual 117, 3) := by decide +kernel
theorem dX6_nextCast_36 : decode cX6_nextCast 36 = .ok (.istore_n 3, 1) := by decide +kernel
theorem dX6_nextCast_37 : decode cX6_nextCast 37 = .ok (.iinc 4 1, 3) := by decide +kernel
theorem dX6_nextCast_40 : decode cX6_nextCast 40 = .ok (.goto (-14), 3) := by decide +kernel
theorem dX6_nextCast_43 : decode cX6_nextCast 43 = .ok (.aload_n 0, 1) := by decide +kernel
theorem dX6_nextCast_44 : decode cX6_nextCast 44 = .ok (.getfield 7, 3) := by decide +kernel
theorem dX6_nextCast_47 : decode cX6_nextCast 47 = .ok (.bipush 39, 2) := by decide +kernel
theorem dX6_nextCast_49 : decode cX6_nextCast 49 = .ok (.iload_n 2, 1) := by decide +kernel
theorem dX6_nextCast_50 : decode cX6_nextCast 50 = .ok (.iastore, 1) := by decide +kernel
theorem dX6_nextCast_51 : decode cX6_nextCast 51 = .ok (.iload_n 3, 1) := by decide +kernel
theorem dX6_nextCast_52 : decode cX6_nextCast 52 = .ok (.ireturn, 1) := by decide +kernel
theorem dX6_untilOver_0 : decode cX6_untilOver 0 = .ok (.aload_n 0, 1) := by decide +kernel
theorem dX6_untilOver_1 : decode cX6_untilOver 1 = .ok (.invokevirtual 114, 3) := by decide +kernel
theorem dX6_untilOver_4 : decode cX6_untilOver 4 = .ok (.ifCond .eq 6, 3) := by decide +kernel
theorem dX6_untilOver_7 : decode cX6_untilOver 7 = .ok (.bipush (-5), 2) := by decide +kernel
theorem dX6_untilOver_9 : decode cX6_untilOver 9 = .ok (.ireturn, 1) := by decide +kernel
theorem dX6_untilOver_10 : decode cX6_untilOver 10 = .ok (.aload_n 0, 1) := by decide +kernel
theorem dX6_untilOver_11 : decode cX6_untilOver 11 = .ok (.invokevirtual 167, 3) := by decide +kernel
theorem dX6_untilOver_14 : decode cX6_untilOver 14 = .ok (.aload_n 0, 1) := by decide +kernel
theorem dX6_untilOver_15 : decode cX6_untilOver 15 = .ok (.sipush 400, 3) := by decide +kernel
theorem dX6_untilOver_18 : decode cX6_untilOver 18 = .ok (.invokevirtual 137, 3) := by decide +kernel
theorem dX6_untilOver_21 : decode cX6_untilOver 21 = .ok (.istore_n 1, 1) := by decide +kernel
theorem dX6_untilOver_22 : decode cX6_untilOver 22 = .ok (.aload_n 0, 1) := by decide +kernel
theorem dX6_untilOver_23 : decode cX6_untilOver 23 = .ok (.invokevirtual 97, 3) := by decide +kernel
theorem dX6_untilOver_26 : decode cX6_untilOver 26 = .ok (.istore_n 2, 1) := by decide +kernel
theorem dX6_untilOver_27 : decode cX6_untilOver 27 = .ok (.aload_n 0, 1) := by decide +kernel
theorem dX6_untilOver_28 : decode cX6_untilOver 28 = .ok (.invokevirtual 170, 3) := by decide +kernel
theorem dX6_untilOver_31 : decode cX6_untilOver 31 = .ok (.iload_n 2, 1) := by decide +kernel
theorem dX6_untilOver_32 : decode cX6_untilOver 32 = .ok (.ifCond .eq 7, 3) := by decide +kernel
theorem dX6_untilOver_35 : decode cX6_untilOver 35 = .ok (.iload_n 1, 1) := by decide +kernel
theorem dX6_untilOver_36 : decode cX6_untilOver 36 = .ok (.goto 5, 3) := by decide +kernel
theorem dX6_untilOver_39 : decode cX6_untilOver 39 = .ok (.bipush (-6), 2) := by decide +kernel
theorem dX6_untilOver_41 : decode cX6_untilOver 41 = .ok (.ireturn, 1) := by decide +kernel
theorem dX6_put_0 : decode cX6_put 0 = .ok (.iconst 0, 1) := by decide +kernel
theorem dX6_put_1 : decode cX6_put 1 = .ok (.istore_n 3, 1) := by decide +kernel
theorem dX6_put_2 : decode cX6_put 2 = .ok (.lload_n 1, 1) := by decide +kernel
theorem dX6_put_3 : decode cX6_put 3 = .ok (.lstore 4, 2) := by decide +kernel
theorem dX6_put_5 : decode cX6_put 5 = .ok (.lload_n 1, 1) := by decide +kernel
theorem dX6_put_6 : decode cX6_put 6 = .ok (.lconst 0, 1) := by decide +kernel
theorem dX6_put_7 : decode cX6_put 7 = .ok (.lcmp, 1) := by decide +kernel
theorem dX6_put_8 : decode cX6_put 8 = .ok (.ifCond .eq 7, 3) := by decide +kernel
theorem dX6_put_11 : decode cX6_put 11 = .ok (.iconst 1, 1) := by decide +kernel
theorem dX6_put_12 : decode cX6_put 12 = .ok (.goto 4, 3) := by decide +kernel
theorem dX6_put_15 : decode cX6_put 15 = .ok (.iconst 0, 1) := by decide +kernel
theorem dX6_put_16 : decode cX6_put 16 = .ok (.istore 6, 2) := by decide +kernel
theorem dX6_put_18 : decode cX6_put 18 = .ok (.lload 4, 2) := by decide +kernel
theorem dX6_put_20 : decode cX6_put 20 = .ok (.lconst 0, 1) := by decide +kernel
theorem dX6_put_21 : decode cX6_put 21 = .ok (.lcmp, 1) := by decide +kernel
theorem dX6_put_22 : decode cX6_put 22 = .ok (.ifCond .eq 45, 3) := by decide +kernel
theorem dX6_put_25 : decode cX6_put 25 = .ok (.iload 6, 2) := by decide +kernel
theorem dX6_put_27 : decode cX6_put 27 = .ok (.ifCond .eq 24, 3) := by decide +kernel
theorem dX6_put_30 : decode cX6_put 30 = .ok (.lload 4, 2) := by decide +kernel
theorem dX6_put_32 : decode cX6_put 32 = .ok (.ldc2_w 173, 3) := by decide +kernel
theorem dX6_put_35 : decode cX6_put 35 = .ok (.land, 1) := by decide +kernel
theorem dX6_put_36 : decode cX6_put 36 = .ok (.l2i, 1) := by decide +kernel
theorem dX6_put_37 : decode cX6_put 37 = .ok (.bipush 33, 2) := by decide +kernel
theorem dX6_put_39 : decode cX6_put 39 = .ok (.bipush 126, 2) := by decide +kernel
theorem dX6_put_41 : decode cX6_put 41 = .ok (.invokestatic 32, 3) := by decide +kernel
theorem dX6_put_44 : decode cX6_put 44 = .ok (.ifCond .eq 7, 3) := by decide +kernel
theorem dX6_put_47 : decode cX6_put 47 = .ok (.iconst 1, 1) := by decide +kernel
theorem dX6_put_48 : decode cX6_put 48 = .ok (.goto 4, 3) := by decide +kernel
theorem dX6_put_51 : decode cX6_put 51 = .ok (.iconst 0, 1) := by decide +kernel
theorem dX6_put_52 : decode cX6_put 52 = .ok (.istore 6, 2) := by decide +kernel
theorem dX6_put_54 : decode cX6_put 54 = .ok (.iinc 3 1, 3) := by decide +kernel
theorem dX6_put_57 : decode cX6_put 57 = .ok (.lload 4, 2) := by decide +kernel
theorem dX6_put_59 : decode cX6_put 59 = .ok (.bipush 8, 2) := by decide +kernel
theorem dX6_put_61 : decode cX6_put 61 = .ok (.lushr, 1) := by decide +kernel
theorem dX6_put_62 : decode cX6_put 62 = .ok (.lstore 4, 2) := by decide +kernel
theorem dX6_put_64 : decode cX6_put 64 = .ok (.goto (-46), 3) := by decide +kernel
theorem dX6_put_67 : decode cX6_put 67 = .ok (.iload 6, 2) := by decide +kernel
theorem dX6_put_69 : decode cX6_put 69 = .ok (.ifCond .ne 6, 3) := by decide +kernel
theorem dX6_put_72 : decode cX6_put 72 = .ok (.bipush (-2), 2) := by decide +kernel
theorem dX6_put_74 : decode cX6_put 74 = .ok (.ireturn, 1) := by decide +kernel
theorem dX6_put_75 : decode cX6_put 75 = .ok (.aload_n 0, 1) := by decide +kernel
theorem dX6_put_76 : decode cX6_put 76 = .ok (.getfield 143, 3) := by decide +kernel
theorem dX6_put_79 : decode cX6_put 79 = .ok (.iload_n 3, 1) := by decide +kernel
theorem dX6_put_80 : decode cX6_put 80 = .ok (.iadd, 1) := by decide +kernel
theorem dX6_put_81 : decode cX6_put 81 = .ok (.bipush 60, 2) := by decide +kernel
theorem dX6_put_83 : decode cX6_put 83 = .ok (.if_icmp .le 6, 3) := by decide +kernel
theorem dX6_put_86 : decode cX6_put 86 = .ok (.bipush (-4), 2) := by decide +kernel
theorem dX6_put_88 : decode cX6_put 88 = .ok (.ireturn, 1) := by decide +kernel
theorem dX6_put_89 : decode cX6_put 89 = .ok (.iload_n 3, 1) := by decide +kernel
theorem dX6_put_90 : decode cX6_put 90 = .ok (.iconst 1, 1) := by decide +kernel
theorem dX6_put_91 : decode cX6_put 91 = .ok (.isub, 1) := by decide +kernel
theorem dX6_put_92 : decode cX6_put 92 = .ok (.istore 7, 2) := by decide +kernel
theorem dX6_put_94 : decode cX6_put 94 = .ok (.iload 7, 2) := by decide +kernel
theorem dX6_put_96 : decode cX6_put 96 = .ok (.ifCond .lt 40, 3) := by decide +kernel
theorem dX6_put_99 : decode cX6_put 99 = .ok (.aload_n 0, 1) := by decide +kernel
theorem dX6_put_100 : decode cX6_put 100 = .ok (.getfield 26, 3) := by decide +kernel
theorem dX6_put_103 : decode cX6_put 103 = .ok (.aload_n 0, 1) := by decide +kernel
theorem dX6_put_104 : decode cX6_put 104 = .ok (.getfield 143, 3) := by decide +kernel
theorem dX6_put_107 : decode cX6_put 107 = .ok (.lload_n 1, 1) := by decide +kernel
theorem dX6_put_108 : decode cX6_put 108 = .ok (.bipush 8, 2) := by decide +kernel
theorem dX6_put_110 : decode cX6_put 110 = .ok (.iload 7, 2) := by decide +kernel
theorem dX6_put_112 : decode cX6_put 112 = .ok (.imul, 1) := by decide +kernel
theorem dX6_put_113 : decode cX6_put 113 = .ok (.lshr, 1) := by decide +kernel
theorem dX6_put_114 : decode cX6_put 114 = .ok (.ldc2_w 173, 3) := by decide +kernel
theorem dX6_put_117 : decode cX6_put 117 = .ok (.land, 1) := by decide +kernel
theorem dX6_put_118 : decode cX6_put 118 = .ok (.l2i, 1) := by decide +kernel
theorem dX6_put_119 : decode cX6_put 119 = .ok (.iastore, 1) := by decide +kernel
theorem dX6_put_120 : decode cX6_put 120 = .ok (.aload_n 0, 1) := by decide +kernel
theorem dX6_put_121 : decode cX6_put 121 = .ok (.dup, 1) := by decide +kernel
theorem dX6_put_122 : decode cX6_put 122 = .ok (.getfield 143, 3) := by decide +kernel
theorem dX6_put_125 : decode cX6_put 125 = .ok (.iconst 1, 1) := by decide +kernel
theorem dX6_put_126 : decode cX6_put 126 = .ok (.iadd, 1) := by decide +kernel
theorem dX6_put_127 : decode cX6_put 127 = .ok (.putfield 143, 3) := by decide +kernel
theorem dX6_put_130 : decode cX6_put 130 = .ok (.iinc 7 (-1), 3) := by decide +kernel
theorem dX6_put_133 : decode cX6_put 133 = .ok (.goto (-39), 3) := by decide +kernel
theorem dX6_put_136 : decode cX6_put 136 = .ok (.aload_n 0, 1) := by decide +kernel
theorem dX6_put_137 : decode cX6_put 137 = .ok (.getfield 143, 3) := by decide +kernel
theorem dX6_put_140 : decode cX6_put 140 = .ok (.ireturn, 1) := by decide +kernel
theorem dX6_wipe_0 : decode cX6_wipe 0 = .ok (.aload_n 0, 1) := by decide +kernel
theorem dX6_wipe_1 : decode cX6_wipe 1 = .ok (.getfield 143, 3) := by decide +kernel
theorem dX6_wipe_4 : decode cX6_wipe 4 = .ok (.istore_n 1, 1) := by decide +kernel
theorem dX6_wipe_5 : decode cX6_wipe 5 = .ok (.aload_n 0, 1) := by decide +kernel
theorem dX6_wipe_6 : decode cX6_wipe 6 = .ok (.iconst 0, 1) := by decide +kernel
theorem dX6_wipe_7 : decode cX6_wipe 7 = .ok (.putfield 143, 3) := by decide +kernel
theorem dX6_wipe_10 : decode cX6_wipe 10 = .ok (.iload_n 1, 1) := by decide +kernel
theorem dX6_wipe_11 : decode cX6_wipe 11 = .ok (.ireturn, 1) := by decide +kernel
theorem dX6_findFault_0 : decode cX6_findFault 0 = .ok (.iconst 0, 1) := by decide +kernel
theorem dX6_findFault_1 : decode cX6_findFault 1 = .ok (.istore_n 1, 1) := by decide +kernel
theorem dX6_findFault_2 : decode cX6_findFault 2 = .ok (.iload_n 1, 1) := by decide +kernel
theorem dX6_findFault_3 : decode cX6_findFault 3 = .ok (.aload_n 0, 1) := by decide +kernel
theorem dX6_findFault_4 : decode cX6_findFault 4 = .ok (.getfield 143, 3) := by decide +kernel
theorem dX6_findFault_7 : decode cX6_findFault 7 = .ok (.if_icmp .ge 70, 3) := by decide +kernel
theorem dX6_findFault_10 : decode cX6_findFault 10 = .ok (.iload_n 1, 1) := by decide +kernel
theorem dX6_findFault_11 : decode cX6_findFault 11 = .ok (.iconst 2, 1) := by decide +kernel
theorem dX6_findFault_12 : decode cX6_findFault 12 = .ok (.irem, 1) := by decide +kernel
theorem dX6_findFault_13 : decode cX6_findFault 13 = .ok (.ifCond .ne 19, 3) := by decide +kernel
theorem dX6_findFault_16 : decode cX6_findFault 16 = .ok (.aload_n 0, 1) := by decide +kernel
theorem dX6_findFault_17 : decode cX6_findFault 17 = .ok (.getfield 26, 3) := by decide +kernel
theorem dX6_findFault_20 : decode cX6_findFault 20 = .ok (.iload_n 1, 1) := by decide +kernel
theorem dX6_findFault_21 : decode cX6_findFault 21 = .ok (.iaload, 1) := by decide +kernel
theorem dX6_findFault_22 : decode cX6_findFault 22 = .ok (.bipush 49, 2) := by decide +kernel
theorem dX6_findFault_24 : decode cX6_findFault 24 = .ok (.bipush 54, 2) := by decide +kernel
theorem dX6_findFault_26 : decode cX6_findFault 26 = .ok (.invokestatic 32, 3) := by decide +kernel
theorem dX6_findFault_29 : decode cX6_findFault 29 = .ok (.goto 35, 3) := by decide +kernel
theorem dX6_findFault_32 : decode cX6_findFault 32 = .ok (.aload_n 0, 1) := by decide +kernel
theorem dX6_findFault_33 : decode cX6_findFault 33 = .ok (.getfield 26, 3) := by decide +kernel
theorem dX6_findFault_36 : decode cX6_findFault 36 = .ok (.iload_n 1, 1) := by decide +kernel
theorem dX6_findFault_37 : decode cX6_findFault 37 = .ok (.iaload, 1) := by decide +kernel
theorem dX6_findFault_38 : decode cX6_findFault 38 = .ok (.bipush 97, 2) := by decide +kernel
theorem dX6_findFault_40 : decode cX6_findFault 40 = .ok (.bipush 99, 2) := by decide +kernel
theorem dX6_findFault_42 : decode cX6_findFault 42 = .ok (.invokestatic 32, 3) := by decide +kernel
theorem dX6_findFault_45 : decode cX6_findFault 45 = .ok (.ifCond .ne 14, 3) := by decide +kernel
theorem dX6_findFault_48 : decode cX6_findFault 48 = .ok (.aload_n 0, 1) := by decide +kernel
theorem dX6_findFault_49 : decode cX6_findFault 49 = .ok (.getfield 26, 3) := by decide +kernel
theorem dX6_findFault_52 : decode cX6_findFault 52 = .ok (.iload_n 1, 1) := by decide +kernel
theorem dX6_findFault_53 : decode cX6_findFault 53 = .ok (.iaload, 1) := by decide +kernel
theorem dX6_findFault_54 : decode cX6_findFault 54 = .ok (.bipush 45, 2) := by decide +kernel
theorem dX6_findFault_56 : decode cX6_findFault 56 = .ok (.if_icmp .ne 7, 3) := by decide +kernel
theorem dX6_findFault_59 : decode cX6_findFault 59 = .ok (.iconst 1, 1) := by decide +kernel
theorem dX6_findFault_60 : decode cX6_findFault 60 = .ok (.goto 4, 3) := by decide +kernel
theorem dX6_findFault_63 : decode cX6_findFault 63 = .ok (.iconst 0, 1) := by decide +kernel
theorem dX6_findFault_64 : decode cX6_findFault 64 = .ok (.istore_n 2, 1) := by decide +kernel
theorem dX6_findFault_65 : decode cX6_findFault 65 = .ok (.iload_n 2, 1) := by decide +kernel
theorem dX6_findFault_66 : decode cX6_findFault 66 = .ok (.ifCond .ne 5, 3) := by decide +kernel
theorem dX6_findFault_69 : decode cX6_findFault 69 = .ok (.iload_n 1, 1) := by decide +kernel
theorem dX6_findFault_70 : decode cX6_findFault 70 = .ok (.ireturn, 1) := by decide +kernel
theorem dX6_findFault_71 : decode cX6_findFault 71 = .ok (.iinc 1 1, 3) := by decide +kernel
theorem dX6_findFault_74 : decode cX6_findFault 74 = .ok (.goto (-72), 3) := by decide +kernel
theorem dX6_findFault_77 : decode cX6_findFault 77 = .ok (.aload_n 0, 1) := by decide +kernel
theorem dX6_findFault_78 : decode cX6_findFault 78 = .ok (.getfield 143, 3) := by decide +kernel
theorem dX6_findFault_81 : decode cX6_findFault 81 = .ok (.iconst 2, 1) := by decide +kernel
theorem dX6_findFault_82 : decode cX6_findFault 82 = .ok (.irem, 1) := by decide +kernel
theorem dX6_findFault_83 : decode cX6_findFault 83 = .ok (.ifCond .ne 15, 3) := by decide +kernel
theorem dX6_findFault_86 : decode cX6_findFault 86 = .ok (.aload_n 0, 1) := by decide +kernel
theorem dX6_findFault_87 : decode cX6_findFault 87 = .ok (.getfield 143, 3) := by decide +kernel
theorem dX6_findFault_90 : decode cX6_findFault 90 = .ok (.ifCond .le 8, 3) := by decide +kernel
theorem dX6_findFault_93 : decode cX6_findFault 93 = .ok (.bipush (-6), 2) := by decide +kernel
theorem dX6_findFault_95 : decode cX6_findFault 95 = .ok (.goto 7, 3) := by decide +kernel
theorem dX6_findFault_98 : decode cX6_findFault 98 = .ok (.aload_n 0, 1) := by decide +kernel
theorem dX6_findFault_99 : decode cX6_findFault 99 = .ok (.getfield 143, 3) := by decide +kernel
theorem dX6_findFault_102 : decode cX6_findFault 102 = .ok (.ireturn, 1) := by decide +kernel
theorem dX6_fault_0 : decode cX6_fault 0 = .ok (.aload_n 0, 1) := by decide +kernel
theorem dX6_fault_1 : decode cX6_fault 1 = .ok (.invokevirtual 140, 3) := by decide +kernel
theorem dX6_fault_4 : decode cX6_fault 4 = .ok (.ireturn, 1) := by decide +kernel
theorem dJ9_max_7cf53_0 : decode cJ9_max_7cf53 0 = .ok (.iload_n 0, 1) := by decide +kernel
theorem dJ9_max_7cf53_1 : decode cJ9_max_7cf53 1 = .ok (.iload_n 1, 1) := by decide +kernel
theorem dJ9_max_7cf53_2 : decode cJ9_max_7cf53 2 = .ok (.if_icmp .lt 7, 3) := by decide +kernel
theorem dJ9_max_7cf53_5 : decode cJ9_max_7cf53 5 = .ok (.iload_n 0, 1) := by decide +kernel
theorem dJ9_max_7cf53_6 : decode cJ9_max_7cf53 6 = .ok (.goto 4, 3) := by decide +kernel
theorem dJ9_max_7cf53_9 : decode cJ9_max_7cf53 9 = .ok (.iload_n 1, 1) := by decide +kernel
theorem dJ9_max_7cf53_10 : decode cJ9_max_7cf53 10 = .ok (.ireturn, 1) := by decide +kernel
theorem dJ9_min_7cf53_0 : decode cJ9_min_7cf53 0 = .ok (.iload_n 0, 1) := by decide +kernel
theorem dJ9_min_7cf53_1 : decode cJ9_min_7cf53 1 = .ok (.iload_n 1, 1) := by decide +kernel
theorem dJ9_min_7cf53_2 : decode cJ9_min_7cf53 2 = .ok (.if_icmp .gt 7, 3) := by decide +kernel
theorem dJ9_min_7cf53_5 : decode cJ9_min_7cf53 5 = .ok (.iload_n 0, 1) := by decide +kernel
theorem dJ9_min_7cf53_6 : decode cJ9_min_7cf53 6 = .ok (.goto 4, 3) := by decide +kernel
theorem dJ9_min_7cf53_9 : decode cJ9_min_7cf53 9 = .ok (.iload_n 1, 1) := by decide +kernel
theorem dJ9_min_7cf53_10 : decode cJ9_min_7cf53 10 = .ok (.ireturn, 1) := by decide +kernel
theorem dL_law_0 : decode cL_law 0 = .ok (.new 7, 3) := by decide +kernel
theorem dL_law_3 : decode cL_law 3 = .ok (.dup, 1) := by decide +kernel
theorem dL_law_4 : decode cL_law 4 = .ok (.invokespecial 9, 3) := by decide +kernel
theorem dL_law_7 : decode cL_law 7 = .ok (.astore_n 1, 1) := by decide +kernel
theorem dL_law_8 : decode cL_law 8 = .ok (.new 10, 3) := by decide +kernel
theorem dL_law_11 : decode cL_law 11 = .ok (.dup, 1) := by decide +kernel
theorem dL_law_12 : decode cL_law 12 = .ok (.invokespecial 12, 3) := by decide +kernel
theorem dL_law_15 : decode cL_law 15 = .ok (.astore_n 2, 1) := by decide +kernel
theorem dL_law_16 : decode cL_law 16 = .ok (.iconst 0, 1) := by decide +kernel
theorem dL_law_17 : decode cL_law 17 = .ok (.istore_n 3, 1) := by decide +kernel
theorem dL_law_18 : decode cL_law 18 = .ok (.iload_n 3, 1) := by decide +kernel
theorem dL_law_19 : decode cL_law 19 = .ok (.aload_n 0, 1) := by decide +kernel
theorem dL_law_20 : decode cL_law 20 = .ok (.arraylength, 1) := by decide +kernel
theorem dL_law_21 : decode cL_law 21 = .ok (.iconst 3, 1) := by decide +kernel
theorem dL_law_22 : decode cL_law 22 = .ok (.isub, 1) := by decide +kernel
theorem dL_law_23 : decode cL_law 23 = .ok (.if_icmp .gt 635, 3) := by decide +kernel
theorem dL_law_26 : decode cL_law 26 = .ok (.aload_n 0, 1) := by decide +kernel
theorem dL_law_27 : decode cL_law 27 = .ok (.iload_n 3, 1) := by decide +kernel
theorem dL_law_28 : decode cL_law 28 = .ok (.iaload, 1) := by decide +kernel
theorem dL_law_29 : decode cL_law 29 = .ok (.bipush 31, 2) := by decide +kernel
theorem dL_law_31 : decode cL_law 31 = .ok (.iand, 1) := by decide +kernel
theorem dL_law_32 : decode cL_law 32 = .ok (.tableswitch 620 0 21 #[104, 137, 160, 173, 196, 209, 232, 245, 278, 311, 344, 377, 400, 413, 446, 469, 482, 535, 548, 561, 574, 597], 104) := by decide +kernel
theorem dL_law_136 : decode cL_law 136 = .ok (.aload_n 1, 1) := by decide +kernel
theorem dL_law_137 : decode cL_law 137 = .ok (.aload_n 0, 1) := by decide +kernel
theorem dL_law_138 : decode cL_law 138 = .ok (.iload_n 3, 1) := by decide +kernel
theorem dL_law_139 : decode cL_law 139 = .ok (.iconst 1, 1) := by decide +kernel
theorem dL_law_140 : decode cL_law 140 = .ok (.iadd, 1) := by decide +kernel
theorem dL_law_141 : decode cL_law 141 = .ok (.iaload, 1) := by decide +kernel
theorem dL_law_142 : decode cL_law 142 = .ok (.aload_n 0, 1) := by decide +kernel
theorem dL_law_143 : decode cL_law 143 = .ok (.iload_n 3, 1) := by decide +kernel
theorem dL_law_144 : decode cL_law 144 = .ok (.iconst 2, 1) := by decide +kernel
theorem dL_law_145 : decode cL_law 145 = .ok (.iadd, 1) := by decide +kernel
theorem dL_law_146 : decode cL_law 146 = .ok (.iaload, 1) := by decide +kernel
theorem dL_law_147 : decode cL_law 147 = .ok (.invokevirtual 13, 3) := by decide +kernel
theorem dL_law_150 : decode cL_law 150 = .ok (.aload_n 2, 1) := by decide +kernel
theorem dL_law_151 : decode cL_law 151 = .ok (.aload_n 0, 1) := by decide +kernel
theorem dL_law_152 : decode cL_law 152 = .ok (.iload_n 3, 1) := by decide +kernel
theorem dL_law_153 : decode cL_law 153 = .ok (.iconst 1, 1) := by decide +kernel
theorem dL_law_154 : decode cL_law 154 = .ok (.iadd, 1) := by decide +kernel
theorem dL_law_155 : decode cL_law 155 = .ok (.iaload, 1) := by decide +kernel
theorem dL_law_156 : decode cL_law 156 = .ok (.aload_n 0, 1) := by decide +kernel
theorem dL_law_157 : decode cL_law 157 = .ok (.iload_n 3, 1) := by decide +kernel
theorem dL_law_158 : decode cL_law 158 = .ok (.iconst 2, 1) := by decide +kernel
theorem dL_law_159 : decode cL_law 159 = .ok (.iadd, 1) := by decide +kernel
theorem dL_law_160 : decode cL_law 160 = .ok (.iaload, 1) := by decide +kernel
theorem dL_law_161 : decode cL_law 161 = .ok (.invokevirtual 17, 3) := by decide +kernel
theorem dL_law_164 : decode cL_law 164 = .ok (.if_icmp .eq 488, 3) := by decide +kernel
theorem dL_law_167 : decode cL_law 167 = .ok (.iconst 0, 1) := by decide +kernel
theorem dL_law_168 : decode cL_law 168 = .ok (.ireturn, 1) := by decide +kernel
theorem dL_law_169 : decode cL_law 169 = .ok (.aload_n 1, 1) := by decide +kernel
theorem dL_law_170 : decode cL_law 170 = .ok (.aload_n 0, 1) := by decide +kernel
theorem dL_law_171 : decode cL_law 171 = .ok (.iload_n 3, 1) := by decide +kernel
theorem dL_law_172 : decode cL_law 172 = .ok (.iconst 1, 1) := by decide +kernel
theorem dL_law_173 : decode cL_law 173 = .ok (.iadd, 1) := by decide +kernel
theorem dL_law_174 : decode cL_law 174 = .ok (.iaload, 1) := by decide +kernel
theorem dL_law_175 : decode cL_law 175 = .ok (.invokevirtual 18, 3) := by decide +kernel
theorem dL_law_178 : decode cL_law 178 = .ok (.aload_n 2, 1) := by decide +kernel
theorem dL_law_179 : decode cL_law 179 = .ok (.aload_n 0, 1) := by decide +kernel
theorem dL_law_180 : decode cL_law 180 = .ok (.iload_n 3, 1) := by decide +kernel
theorem dL_law_181 : decode cL_law 181 = .ok (.iconst 1, 1) := by decide +kernel
theorem dL_law_182 : decode cL_law 182 = .ok (.iadd, 1) := by decide +kernel
theorem dL_law_183 : decode cL_law 183 = .ok (.iaload, 1) := by decide +kernel
theorem dL_law_184 : decode cL_law 184 = .ok (.invokevirtual 22, 3) := by decide +kernel
theorem dL_law_187 : decode cL_law 187 = .ok (.if_icmp .eq 465, 3) := by decide +kernel
theorem dL_law_190 : decode cL_law 190 = .ok (.iconst 0, 1) := by decide +kernel
theorem dL_law_191 : decode cL_law 191 = .ok (.ireturn, 1) := by decide +kernel
theorem dL_law_192 : decode cL_law 192 = .ok (.aload_n 1, 1) := by decide +kernel
theorem dL_law_193 : decode cL_law 193 = .ok (.invokevirtual 23, 3) := by decide +kernel
theorem dL_law_196 : decode cL_law 196 = .ok (.aload_n 2, 1) := by decide +kernel
theorem dL_law_197 : decode cL_law 197 = .ok (.invokevirtual 27, 3) := by decide +kernel
theorem dL_law_200 : decode cL_law 200 = .ok (.if_icmp .eq 452, 3) := by decide +kernel
theorem dL_law_203 : decode cL_law 203 = .ok (.iconst 0, 1) := by decide +kernel
theorem dL_law_204 : decode cL_law 204 = .ok (.ireturn, 1) := by decide +kernel
theorem dL_law_205 : decode cL_law 205 = .ok (.aload_n 1, 1) := by decide +kernel
theorem dL_law_206 : decode cL_law 206 = .ok (.aload_n 0, 1) := by decide +kernel
theorem dL_law_207 : decode cL_law 207 = .ok (.iload_n 3, 1) := by decide +kernel
theorem dL_law_208 : decode cL_law 208 = .ok (.iconst 1, 1) := by decide +kernel
theorem dL_law_209 : decode cL_law 209 = .ok (.iadd, 1) := by decide +kernel
theorem dL_law_210 : decode cL_law 210 = .ok (.iaload, 1) := by decide +kernel
theorem dL_law_211 : decode cL_law 211 = .ok (.invokevirtual 28, 3) := by decide +kernel
theorem dL_law_214 : decode cL_law 214 = .ok (.aload_n 2, 1) := by decide +kernel
theorem dL_law_215 : decode cL_law 215 = .ok (.aload_n 0, 1) := by decide +kernel
theorem dL_law_216 : decode cL_law 216 = .ok (.iload_n 3, 1) := by decide +kernel
theorem dL_law_217 : decode cL_law 217 = .ok (.iconst 1, 1) := by decide +kernel
theorem dL_law_218 : decode cL_law 218 = .ok (.iadd, 1) := by decide +kernel
theorem dL_law_219 : decode cL_law 219 = .ok (.iaload, 1) := by decide +kernel
theorem dL_law_220 : decode cL_law 220 = .ok (.invokevirtual 31, 3) := by decide +kernel
theorem dL_law_223 : decode cL_law 223 = .ok (.if_icmp .eq 429, 3) := by decide +kernel
theorem dL_law_226 : decode cL_law 226 = .ok (.iconst 0, 1) := by decide +kernel
theorem dL_law_227 : decode cL_law 227 = .ok (.ireturn, 1) := by decide +kernel
theorem dL_law_228 : decode cL_law 228 = .ok (.aload_n 1, 1) := by decide +kernel
theorem dL_law_229 : decode cL_law 229 = .ok (.invokevirtual 32, 3) := by decide +kernel
theorem dL_law_232 : decode cL_law 232 = .ok (.aload_n 2, 1) := by decide +kernel
theorem dL_law_233 : decode cL_law 233 = .ok (.invokevirtual 35, 3) := by decide +kernel
theorem dL_law_236 : decode cL_law 236 = .ok (.if_icmp .eq 416, 3) := by decide +kernel
theorem dL_law_239 : decode cL_law 239 = .ok (.iconst 0, 1) := by decide +kernel
theorem dL_law_240 : decode cL_law 240 = .ok (.ireturn, 1) := by decide +kernel
theorem dL_law_241 : decode cL_law 241 = .ok (.aload_n 1, 1) := by decide +kernel
theorem dL_law_242 : decode cL_law 242 = .ok (.aload_n 0, 1) := by decide +kernel
theorem dL_law_243 : decode cL_law 243 = .ok (.iload_n 3, 1) := by decide +kernel
theorem dL_law_244 : decode cL_law 244 = .ok (.iconst 1, 1) := by decide +kernel
theorem dL_law_245 : decode cL_law 245 = .ok (.iadd, 1) := by decide +kernel
theorem dL_law_246 : decode cL_law 246 = .ok (.iaload, 1) := by decide +kernel
theorem dL_law_247 : decode cL_law 247 = .ok (.invokevirtual 36, 3) := by decide +kernel
theorem dL_law_250 : decode cL_law 250 = .ok (.aload_n 2, 1) := by decide +kernel
theorem dL_law_251 : decode cL_law 251 = .ok (.aload_n 0, 1) := by decide +kernel
theorem dL_law_252 : decode cL_law 252 = .ok (.iload_n 3, 1) := by decide +kernel
theorem dL_law_253 : decode cL_law 253 = .ok (.iconst 1, 1) := by decide +kernel
theorem dL_law_254 : decode cL_law 254 = .ok (.iadd, 1) := by decide +kernel
theorem dL_law_255 : decode cL_law 255 = .ok (.iaload, 1) := by decide +kernel
theorem dL_law_256 : decode cL_law 256 = .ok (.invokevirtual 39, 3) := by decide +kernel
theorem dL_law_259 : decode cL_law 259 = .ok (.if_icmp .eq 393, 3) := by decide +kernel
theorem dL_law_262 : decode cL_law 262 = .ok (.iconst 0, 1) := by decide +kernel
theorem dL_law_263 : decode cL_law 263 = .ok (.ireturn, 1) := by decide +kernel
theorem dL_law_264 : decode cL_law 264 = .ok (.aload_n 1, 1) := by decide +kernel
theorem dL_law_265 : decode cL_law 265 = .ok (.invokevirtual 40, 3) := by decide +kernel
theorem dL_law_268 : decode cL_law 268 = .ok (.aload_n 2, 1) := by decide +kernel
theorem dL_law_269 : decode cL_law 269 = .ok (.invokevirtual 43, 3) := by decide +kernel
theorem dL_law_272 : decode cL_law 272 = .ok (.if_icmp .eq 380, 3) := by decide +kernel
theorem dL_law_275 : decode cL_law 275 = .ok (.iconst 0, 1) := by decide +kernel
theorem dL_law_276 : decode cL_law 276 = .ok (.ireturn, 1) := by decide +kernel
theorem dL_law_277 : decode cL_law 277 = .ok (.aload_n 1, 1) := by decide +kernel
theorem dL_law_278 : decode cL_law 278 = .ok (.aload_n 0, 1) := by decide +kernel
theorem dL_law_279 : decode cL_law 279 = .ok (.iload_n 3, 1) := by decide +kernel
theorem dL_law_280 : decode cL_law 280 = .ok (.iconst 1, 1) := by decide +kernel
theorem dL_law_281 : decode cL_law 281 = .ok (.iadd, 1) := by decide +kernel
theorem dL_law_282 : decode cL_law 282 = .ok (.iaload, 1) := by decide +kernel
theorem dL_law_283 : decode cL_law 283 = .ok (.aload_n 0, 1) := by decide +kernel
theorem dL_law_284 : decode cL_law 284 = .ok (.iload_n 3, 1) := by decide +kernel
theorem dL_law_285 : decode cL_law 285 = .ok (.iconst 2, 1) := by decide +kernel
theorem dL_law_286 : decode cL_law 286 = .ok (.iadd, 1) := by decide +kernel
theorem dL_law_287 : decode cL_law 287 = .ok (.iaload, 1) := by decide +kernel
theorem dL_law_288 : decode cL_law 288 = .ok (.invokevirtual 44, 3) := by decide +kernel
theorem dL_law_291 : decode cL_law 291 = .ok (.aload_n 2, 1) := by decide +kernel
theorem dL_law_292 : decode cL_law 292 = .ok (.aload_n 0, 1) := by decide +kernel
theorem dL_law_293 : decode cL_law 293 = .ok (.iload_n 3, 1) := by decide +kernel
theorem dL_law_294 : decode cL_law 294 = .ok (.iconst 1, 1) := by decide +kernel
theorem dL_law_295 : decode cL_law 295 = .ok (.iadd, 1) := by decide +kernel
theorem dL_law_296 : decode cL_law 296 = .ok (.iaload, 1) := by decide +kernel
theorem dL_law_297 : decode cL_law 297 = .ok (.aload_n 0, 1) := by decide +kernel
theorem dL_law_298 : decode cL_law 298 = .ok (.iload_n 3, 1) := by decide +kernel
theorem dL_law_299 : decode cL_law 299 = .ok (.iconst 2, 1) := by decide +kernel
theorem dL_law_300 : decode cL_law 300 = .ok (.iadd, 1) := by decide +kernel
theorem dL_law_301 : decode cL_law 301 = .ok (.iaload, 1) := by decide +kernel
theorem dL_law_302 : decode cL_law 302 = .ok (.invokevirtual 47, 3) := by decide +kernel
theorem dL_law_305 : decode cL_law 305 = .ok (.if_icmp .eq 347, 3) := by decide +kernel
theorem dL_law_308 : decode cL_law 308 = .ok (.iconst 0, 1) := by decide +kernel
theorem dL_law_309 : decode cL_law 309 = .ok (.ireturn, 1) := by decide +kernel
theorem dL_law_310 : decode cL_law 310 = .ok (.aload_n 1, 1) := by decide +kernel
theorem dL_law_311 : decode cL_law 311 = .ok (.aload_n 0, 1) := by decide +kernel
theorem dL_law_312 : decode cL_law 312 = .ok (.iload_n 3, 1) := by decide +kernel
theorem dL_law_313 : decode cL_law 313 = .ok (.iconst 1, 1) := by decide +kernel
theorem dL_law_314 : decode cL_law 314 = .ok (.iadd, 1) := by decide +kernel
theorem dL_law_315 : decode cL_law 315 = .ok (.iaload, 1) := by decide +kernel
theorem dL_law_316 : decode cL_law 316 = .ok (.aload_n 0, 1) := by decide +kernel
theorem dL_law_317 : decode cL_law 317 = .ok (.iload_n 3, 1) := by decide +kernel
theorem dL_law_318 : decode cL_law 318 = .ok (.iconst 2, 1) := by decide +kernel
theorem dL_law_319 : decode cL_law 319 = .ok (.iadd, 1) := by decide +kernel
theorem dL_law_320 : decode cL_law 320 = .ok (.iaload, 1) := by decide +kernel
theorem dL_law_321 : decode cL_law 321 = .ok (.invokevirtual 48, 3) := by decide +kernel
theorem dL_law_324 : decode cL_law 324 = .ok (.aload_n 2, 1) := by decide +kernel
theorem dL_law_325 : decode cL_law 325 = .ok (.aload_n 0, 1) := by decide +kernel
theorem dL_law_326 : decode cL_law 326 = .ok (.iload_n 3, 1) := by decide +kernel
theorem dL_law_327 : decode cL_law 327 = .ok (.iconst 1, 1) := by decide +kernel
theorem dL_law_328 : decode cL_law 328 = .ok (.iadd, 1) := by decide +kernel
theorem dL_law_329 : decode cL_law 329 = .ok (.iaload, 1) := by decide +kernel
theorem dL_law_330 : decode cL_law 330 = .ok (.aload_n 0, 1) := by decide +kernel
theorem dL_law_331 : decode cL_law 331 = .ok (.iload_n 3, 1) := by decide +kernel
theorem dL_law_332 : decode cL_law 332 = .ok (.iconst 2, 1) := by decide +kernel
theorem dL_law_333 : decode cL_law 333 = .ok (.iadd, 1) := by decide +kernel
theorem dL_law_334 : decode cL_law 334 = .ok (.iaload, 1) := by decide +kernel
theorem dL_law_335 : decode cL_law 335 = .ok (.invokevirtual 51, 3) := by decide +kernel
theorem dL_law_338 : decode cL_law 338 = .ok (.if_icmp .eq 314, 3) := by decide +kernel
theorem dL_law_341 : decode cL_law 341 = .ok (.iconst 0, 1) := by decide +kernel
theorem dL_law_342 : decode cL_law 342 = .ok (.ireturn, 1) := by decide +kernel
theorem dL_law_343 : decode cL_law 343 = .ok (.aload_n 1, 1) := by decide +kernel
theorem dL_law_344 : decode cL_law 344 = .ok (.aload_n 0, 1) := by decide +kernel
theorem dL_law_345 : decode cL_law 345 = .ok (.iload_n 3, 1) := by decide +kernel
theorem dL_law_346 : decode cL_law 346 = .ok (.iconst 1, 1) := by decide +kernel
theorem dL_law_347 : decode cL_law 347 = .ok (.iadd, 1) := by decide +kernel
theorem dL_law_348 : decode cL_law 348 = .ok (.iaload, 1) := by decide +kernel
theorem dL_law_349 : decode cL_law 349 = .ok (.aload_n 0, 1) := by decide +kernel
theorem dL_law_350 : decode cL_law 350 = .ok (.iload_n 3, 1) := by decide +kernel
theorem dL_law_351 : decode cL_law 351 = .ok (.iconst 2, 1) := by decide +kernel
theorem dL_law_352 : decode cL_law 352 = .ok (.iadd, 1) := by decide +kernel
theorem dL_law_353 : decode cL_law 353 = .ok (.iaload, 1) := by decide +kernel
theorem dL_law_354 : decode cL_law 354 = .ok (.invokevirtual 52, 3) := by decide +kernel
theorem dL_law_357 : decode cL_law 357 = .ok (.aload_n 2, 1) := by decide +kernel
theorem dL_law_358 : decode cL_law 358 = .ok (.aload_n 0, 1) := by decide +kernel
theorem dL_law_359 : decode cL_law 359 = .ok (.iload_n 3, 1) := by decide +kernel
theorem dL_law_360 : decode cL_law 360 = .ok (.iconst 1, 1) := by decide +kernel
theorem dL_law_361 : decode cL_law 361 = .ok (.iadd, 1) := by decide +kernel
theorem dL_law_362 : decode cL_law 362 = .ok (.iaload, 1) := by decide +kernel
theorem dL_law_363 : decode cL_law 363 = .ok (.aload_n 0, 1) := by decide +kernel
theorem dL_law_364 : decode cL_law 364 = .ok (.iload_n 3, 1) := by decide +kernel
theorem dL_law_365 : decode cL_law 365 = .ok (.iconst 2, 1) := by decide +kernel
theorem dL_law_366 : decode cL_law 366 = .ok (.iadd, 1) := by decide +kernel
theorem dL_law_367 : decode cL_law 367 = .ok (.iaload, 1) := by decide +kernel
theorem dL_law_368 : decode cL_law 368 = .ok (.invokevirtual 55, 3) := by decide +kernel
theorem dL_law_371 : decode cL_law 371 = .ok (.if_icmp .eq 281, 3) := by decide +kernel
theorem dL_law_374 : decode cL_law 374 = .ok (.iconst 0, 1) := by decide +kernel
theorem dL_law_375 : decode cL_law 375 = .ok (.ireturn, 1) := by decide +kernel
theorem dL_law_376 : decode cL_law 376 = .ok (.aload_n 1, 1) := by decide +kernel
theorem dL_law_377 : decode cL_law 377 = .ok (.aload_n 0, 1) := by decide +kernel
theorem dL_law_378 : decode cL_law 378 = .ok (.iload_n 3, 1) := by decide +kernel
theorem dL_law_379 : decode cL_law 379 = .ok (.iconst 1, 1) := by decide +kernel
theorem dL_law_380 : decode cL_law 380 = .ok (.iadd, 1) := by decide +kernel
theorem dL_law_381 : decode cL_law 381 = .ok (.iaload, 1) := by decide +kernel
theorem dL_law_382 : decode cL_law 382 = .ok (.aload_n 0, 1) := by decide +kernel
theorem dL_law_383 : decode cL_law 383 = .ok (.iload_n 3, 1) := by decide +kernel
theorem dL_law_384 : decode cL_law 384 = .ok (.iconst 2, 1) := by decide +kernel
theorem dL_law_385 : decode cL_law 385 = .ok (.iadd, 1) := by decide +kernel
theorem dL_law_386 : decode cL_law 386 = .ok (.iaload, 1) := by decide +kernel
theorem dL_law_387 : decode cL_law 387 = .ok (.invokevirtual 56, 3) := by decide +kernel
theorem dL_law_390 : decode cL_law 390 = .ok (.aload_n 2, 1) := by decide +kernel
theorem dL_law_391 : decode cL_law 391 = .ok (.aload_n 0, 1) := by decide +kernel
theorem dL_law_392 : decode cL_law 392 = .ok (.iload_n 3, 1) := by decide +kernel
theorem dL_law_393 : decode cL_law 393 = .ok (.iconst 1, 1) := by decide +kernel
theorem dL_law_394 : decode cL_law 394 = .ok (.iadd, 1) := by decide +kernel
theorem dL_law_395 : decode cL_law 395 = .ok (.iaload, 1) := by decide +kernel
theorem dL_law_396 : decode cL_law 396 = .ok (.aload_n 0, 1) := by decide +kernel
theorem dL_law_397 : decode cL_law 397 = .ok (.iload_n 3, 1) := by decide +kernel
theorem dL_law_398 : decode cL_law 398 = .ok (.iconst 2, 1) := by decide +kernel
theorem dL_law_399 : decode cL_law 399 = .ok (.iadd, 1) := by decide +kernel
theorem dL_law_400 : decode cL_law 400 = .ok (.iaload, 1) := by decide +kernel
theorem dL_law_401 : decode cL_law 401 = .ok (.invokevirtual 59, 3) := by decide +kernel
theorem dL_law_404 : decode cL_law 404 = .ok (.if_icmp .eq 248, 3) := by decide +kernel
theorem dL_law_407 : decode cL_law 407 = .ok (.iconst 0, 1) := by decide +kernel
theorem dL_law_408 : decode cL_law 408 = .ok (.ireturn, 1) := by decide +kernel
theorem dL_law_409 : decode cL_law 409 = .ok (.aload_n 1, 1) := by decide +kernel
theorem dL_law_410 : decode cL_law 410 = .ok (.aload_n 0, 1) := by decide +kernel
theorem dL_law_411 : decode cL_law 411 = .ok (.iload_n 3, 1) := by decide +kernel
theorem dL_law_412 : decode cL_law 412 = .ok (.iconst 1, 1) := by decide +kernel
theorem dL_law_413 : decode cL_law 413 = .ok (.iadd, 1) := by decide +kernel
theorem dL_law_414 : decode cL_law 414 = .ok (.iaload, 1) := by decide +kernel
theorem dL_law_415 : decode cL_law 415 = .ok (.invokevirtual 60, 3) := by decide +kernel
theorem dL_law_418 : decode cL_law 418 = .ok (.aload_n 2, 1) := by decide +kernel
theorem dL_law_419 : decode cL_law 419 = .ok (.aload_n 0, 1) := by decide +kernel
theorem dL_law_420 : decode cL_law 420 = .ok (.iload_n 3, 1) := by decide +kernel
theorem dL_law_421 : decode cL_law 421 = .ok (.iconst 1, 1) := by decide +kernel
theorem dL_law_422 : decode cL_law 422 = .ok (.iadd, 1) := by decide +kernel
theorem dL_law_423 : decode cL_law 423 = .ok (.iaload, 1) := by decide +kernel
theorem dL_law_424 : decode cL_law 424 = .ok (.invokevirtual 63, 3) := by decide +kernel
theorem dL_law_427 : decode cL_law 427 = .ok (.if_icmp .eq 225, 3) := by decide +kernel
theorem dL_law_430 : decode cL_law 430 = .ok (.iconst 0, 1) := by decide +kernel
theorem dL_law_431 : decode cL_law 431 = .ok (.ireturn, 1) := by decide +kernel
theorem dL_law_432 : decode cL_law 432 = .ok (.aload_n 1, 1) := by decide +kernel
theorem dL_law_433 : decode cL_law 433 = .ok (.invokevirtual 64, 3) := by decide +kernel
theorem dL_law_436 : decode cL_law 436 = .ok (.aload_n 2, 1) := by decide +kernel
theorem dL_law_437 : decode cL_law 437 = .ok (.invokevirtual 67, 3) := by decide +kernel
theorem dL_law_440 : decode cL_law 440 = .ok (.if_icmp .eq 212, 3) := by decide +kernel
theorem dL_law_443 : decode cL_law 443 = .ok (.iconst 0, 1) := by decide +kernel
theorem dL_law_444 : decode cL_law 444 = .ok (.ireturn, 1) := by decide +kernel
theorem dL_law_445 : decode cL_law 445 = .ok (.aload_n 1, 1) := by decide +kernel
theorem dL_law_446 : decode cL_law 446 = .ok (.aload_n 0, 1) := by decide +kernel
theorem dL_law_447 : decode cL_law 447 = .ok (.iload_n 3, 1) := by decide +kernel
theorem dL_law_448 : decode cL_law 448 = .ok (.iconst 1, 1) := by decide +kernel
theorem dL_law_449 : decode cL_law 449 = .ok (.iadd, 1) := by decide +kernel
theorem dL_law_450 : decode cL_law 450 = .ok (.iaload, 1) := by decide +kernel
theorem dL_law_451 : decode cL_law 451 = .ok (.aload_n 0, 1) := by decide +kernel
theorem dL_law_452 : decode cL_law 452 = .ok (.iload_n 3, 1) := by decide +kernel
theorem dL_law_453 : decode cL_law 453 = .ok (.iconst 2, 1) := by decide +kernel
theorem dL_law_454 : decode cL_law 454 = .ok (.iadd, 1) := by decide +kernel
theorem dL_law_455 : decode cL_law 455 = .ok (.iaload, 1) := by decide +kernel
theorem dL_law_456 : decode cL_law 456 = .ok (.invokevirtual 68, 3) := by decide +kernel
theorem dL_law_459 : decode cL_law 459 = .ok (.aload_n 2, 1) := by decide +kernel
theorem dL_law_460 : decode cL_law 460 = .ok (.aload_n 0, 1) := by decide +kernel
theorem dL_law_461 : decode cL_law 461 = .ok (.iload_n 3, 1) := by decide +kernel
theorem dL_law_462 : decode cL_law 462 = .ok (.iconst 1, 1) := by decide +kernel
theorem dL_law_463 : decode cL_law 463 = .ok (.iadd, 1) := by decide +kernel
theorem dL_law_464 : decode cL_law 464 = .ok (.iaload, 1) := by decide +kernel
theorem dL_law_465 : decode cL_law 465 = .ok (.aload_n 0, 1) := by decide +kernel
theorem dL_law_466 : decode cL_law 466 = .ok (.iload_n 3, 1) := by decide +kernel
theorem dL_law_467 : decode cL_law 467 = .ok (.iconst 2, 1) := by decide +kernel
theorem dL_law_468 : decode cL_law 468 = .ok (.iadd, 1) := by decide +kernel
theorem dL_law_469 : decode cL_law 469 = .ok (.iaload, 1) := by decide +kernel
theorem dL_law_470 : decode cL_law 470 = .ok (.invokevirtual 71, 3) := by decide +kernel
theorem dL_law_473 : decode cL_law 473 = .ok (.if_icmp .eq 179, 3) := by decide +kernel
theorem dL_law_476 : decode cL_law 476 = .ok (.iconst 0, 1) := by decide +kernel
theorem dL_law_477 : decode cL_law 477 = .ok (.ireturn, 1) := by decide +kernel
theorem dL_law_478 : decode cL_law 478 = .ok (.aload_n 1, 1) := by decide +kernel
theorem dL_law_479 : decode cL_law 479 = .ok (.aload_n 0, 1) := by decide +kernel
theorem dL_law_480 : decode cL_law 480 = .ok (.iload_n 3, 1) := by decide +kernel
theorem dL_law_481 : decode cL_law 481 = .ok (.iconst 1, 1) := by decide +kernel
theorem dL_law_482 : decode cL_law 482 = .ok (.iadd, 1) := by decide +kernel
theorem dL_law_483 : decode cL_law 483 = .ok (.iaload, 1) := by decide +kernel
theorem dL_law_484 : decode cL_law 484 = .ok (.invokevirtual 72, 3) := by decide +kernel
theorem dL_law_487 : decode cL_law 487 = .ok (.aload_n 2, 1) := by decide +kernel
theorem dL_law_488 : decode cL_law 488 = .ok (.aload_n 0, 1) := by decide +kernel
theorem dL_law_489 : decode cL_law 489 = .ok (.iload_n 3, 1) := by decide +kernel
theorem dL_law_490 : decode cL_law 490 = .ok (.iconst 1, 1) := by decide +kernel
theorem dL_law_491 : decode cL_law 491 = .ok (.iadd, 1) := by decide +kernel
theorem dL_law_492 : decode cL_law 492 = .ok (.iaload, 1) := by decide +kernel
theorem dL_law_493 : decode cL_law 493 = .ok (.invokevirtual 75, 3) := by decide +kernel
theorem dL_law_496 : decode cL_law 496 = .ok (.if_icmp .eq 156, 3) := by decide +kernel
theorem dL_law_499 : decode cL_law 499 = .ok (.iconst 0, 1) := by decide +kernel
theorem dL_law_500 : decode cL_law 500 = .ok (.ireturn, 1) := by decide +kernel
theorem dL_law_501 : decode cL_law 501 = .ok (.aload_n 1, 1) := by decide +kernel
theorem dL_law_502 : decode cL_law 502 = .ok (.invokevirtual 76, 3) := by decide +kernel
theorem dL_law_505 : decode cL_law 505 = .ok (.aload_n 2, 1) := by decide +kernel
theorem dL_law_506 : decode cL_law 506 = .ok (.invokevirtual 79, 3) := by decide +kernel
theorem dL_law_509 : decode cL_law 509 = .ok (.if_icmp .eq 143, 3) := by decide +kernel
theorem dL_law_512 : decode cL_law 512 = .ok (.iconst 0, 1) := by decide +kernel
theorem dL_law_513 : decode cL_law 513 = .ok (.ireturn, 1) := by decide +kernel
theorem dL_law_514 : decode cL_law 514 = .ok (.aload_n 1, 1) := by decide +kernel
theorem dL_law_515 : decode cL_law 515 = .ok (.aload_n 0, 1) := by decide +kernel
theorem dL_law_516 : decode cL_law 516 = .ok (.iload_n 3, 1) := by decide +kernel
theorem dL_law_517 : decode cL_law 517 = .ok (.iconst 1, 1) := by decide +kernel
theorem dL_law_518 : decode cL_law 518 = .ok (.iadd, 1) := by decide +kernel
theorem dL_law_519 : decode cL_law 519 = .ok (.iaload, 1) := by decide +kernel
theorem dL_law_520 : decode cL_law 520 = .ok (.i2l, 1) := by decide +kernel
theorem dL_law_521 : decode cL_law 521 = .ok (.bipush 32, 2) := by decide +kernel
theorem dL_law_523 : decode cL_law 523 = .ok (.lshl, 1) := by decide +kernel
theorem dL_law_524 : decode cL_law 524 = .ok (.aload_n 0, 1) := by decide +kernel
theorem dL_law_525 : decode cL_law 525 = .ok (.iload_n 3, 1) := by decide +kernel
theorem dL_law_526 : decode cL_law 526 = .ok (.iconst 2, 1) := by decide +kernel
theorem dL_law_527 : decode cL_law 527 = .ok (.iadd, 1) := by decide +kernel
theorem dL_law_528 : decode cL_law 528 = .ok (.iaload, 1) := by decide +kernel
theorem dL_law_529 : decode cL_law 529 = .ok (.i2l, 1) := by decide +kernel
theorem dL_law_530 : decode cL_law 530 = .ok (.ldc2_w 80, 3) := by decide +kernel
theorem dL_law_533 : decode cL_law 533 = .ok (.land, 1) := by decide +kernel
theorem dL_law_534 : decode cL_law 534 = .ok (.lor, 1) := by decide +kernel
theorem dL_law_535 : decode cL_law 535 = .ok (.invokevirtual 82, 3) := by decide +kernel
theorem dL_law_538 : decode cL_law 538 = .ok (.aload_n 2, 1) := by decide +kernel
theorem dL_law_539 : decode cL_law 539 = .ok (.aload_n 0, 1) := by decide +kernel
theorem dL_law_540 : decode cL_law 540 = .ok (.iload_n 3, 1) := by decide +kernel
theorem dL_law_541 : decode cL_law 541 = .ok (.iconst 1, 1) := by decide +kernel
theorem dL_law_542 : decode cL_law 542 = .ok (.iadd, 1) := by decide +kernel
theorem dL_law_543 : decode cL_law 543 = .ok (.iaload, 1) := by decide +kernel
theorem dL_law_544 : decode cL_law 544 = .ok (.i2l, 1) := by decide +kernel
theorem dL_law_545 : decode cL_law 545 = .ok (.bipush 32, 2) := by decide +kernel
theorem dL_law_547 : decode cL_law 547 = .ok (.lshl, 1) := by decide +kernel
theorem dL_law_548 : decode cL_law 548 = .ok (.aload_n 0, 1) := by decide +kernel
theorem dL_law_549 : decode cL_law 549 = .ok (.iload_n 3, 1) := by decide +kernel
theorem dL_law_550 : decode cL_law 550 = .ok (.iconst 2, 1) := by decide +kernel
theorem dL_law_551 : decode cL_law 551 = .ok (.iadd, 1) := by decide +kernel
theorem dL_law_552 : decode cL_law 552 = .ok (.iaload, 1) := by decide +kernel
theorem dL_law_553 : decode cL_law 553 = .ok (.i2l, 1) := by decide +kernel
theorem dL_law_554 : decode cL_law 554 = .ok (.ldc2_w 80, 3) := by decide +kernel
theorem dL_law_557 : decode cL_law 557 = .ok (.land, 1) := by decide +kernel
theorem dL_law_558 : decode cL_law 558 = .ok (.lor, 1) := by decide +kernel
theorem dL_law_559 : decode cL_law 559 = .ok (.invokevirtual 86, 3) := by decide +kernel
theorem dL_law_562 : decode cL_law 562 = .ok (.if_icmp .eq 90, 3) := by decide +kernel
theorem dL_law_565 : decode cL_law 565 = .ok (.iconst 0, 1) := by decide +kernel
theorem dL_law_566 : decode cL_law 566 = .ok (.ireturn, 1) := by decide +kernel
theorem dL_law_567 : decode cL_law 567 = .ok (.aload_n 1, 1) := by decide +kernel
theorem dL_law_568 : decode cL_law 568 = .ok (.invokevirtual 87, 3) := by decide +kernel
theorem dL_law_571 : decode cL_law 571 = .ok (.aload_n 2, 1) := by decide +kernel
theorem dL_law_572 : decode cL_law 572 = .ok (.invokevirtual 90, 3) := by decide +kernel
theorem dL_law_575 : decode cL_law 575 = .ok (.if_icmp .eq 77, 3) := by decide +kernel
theorem dL_law_578 : decode cL_law 578 = .ok (.iconst 0, 1) := by decide +kernel
theorem dL_law_579 : decode cL_law 579 = .ok (.ireturn, 1) := by decide +kernel
theorem dL_law_580 : decode cL_law 580 = .ok (.aload_n 1, 1) := by decide +kernel
theorem dL_law_581 : decode cL_law 581 = .ok (.invokevirtual 91, 3) := by decide +kernel
theorem dL_law_584 : decode cL_law 584 = .ok (.aload_n 2, 1) := by decide +kernel
theorem dL_law_585 : decode cL_law 585 = .ok (.invokevirtual 94, 3) := by decide +kernel
theorem dL_law_588 : decode cL_law 588 = .ok (.if_icmp .eq 64, 3) := by decide +kernel
theorem dL_law_591 : decode cL_law 591 = .ok (.iconst 0, 1) := by decide +kernel
theorem dL_law_592 : decode cL_law 592 = .ok (.ireturn, 1) := by decide +kernel
theorem dL_law_593 : decode cL_law 593 = .ok (.aload_n 1, 1) := by decide +kernel
theorem dL_law_594 : decode cL_law 594 = .ok (.invokevirtual 95, 3) := by decide +kernel
theorem dL_law_597 : decode cL_law 597 = .ok (.aload_n 2, 1) := by decide +kernel
theorem dL_law_598 : decode cL_law 598 = .ok (.invokevirtual 98, 3) := by decide +kernel
theorem dL_law_601 : decode cL_law 601 = .ok (.if_icmp .eq 51, 3) := by decide +kernel
theorem dL_law_604 : decode cL_law 604 = .ok (.iconst 0, 1) := by decide +kernel
theorem dL_law_605 : decode cL_law 605 = .ok (.ireturn, 1) := by decide +kernel
theorem dL_law_606 : decode cL_law 606 = .ok (.aload_n 1, 1) := by decide +kernel
theorem dL_law_607 : decode cL_law 607 = .ok (.aload_n 0, 1) := by decide +kernel
theorem dL_law_608 : decode cL_law 608 = .ok (.iload_n 3, 1) := by decide +kernel
theorem dL_law_609 : decode cL_law 609 = .ok (.iconst 1, 1) := by decide +kernel
theorem dL_law_610 : decode cL_law 610 = .ok (.iadd, 1) := by decide +kernel
theorem dL_law_611 : decode cL_law 611 = .ok (.iaload, 1) := by decide +kernel
theorem dL_law_612 : decode cL_law 612 = .ok (.invokevirtual 99, 3) := by decide +kernel
theorem dL_law_615 : decode cL_law 615 = .ok (.aload_n 2, 1) := by decide +kernel
theorem dL_law_616 : decode cL_law 616 = .ok (.aload_n 0, 1) := by decide +kernel
theorem dL_law_617 : decode cL_law 617 = .ok (.iload_n 3, 1) := by decide +kernel
theorem dL_law_618 : decode cL_law 618 = .ok (.iconst 1, 1) := by decide +kernel
theorem dL_law_619 : decode cL_law 619 = .ok (.iadd, 1) := by decide +kernel
theorem dL_law_620 : decode cL_law 620 = .ok (.iaload, 1) := by decide +kernel
theorem dL_law_621 : decode cL_law 621 = .ok (.invokevirtual 102, 3) := by decide +kernel
theorem dL_law_624 : decode cL_law 624 = .ok (.if_icmp .eq 28, 3) := by decide +kernel
theorem dL_law_627 : decode cL_law 627 = .ok (.iconst 0, 1) := by decide +kernel
theorem dL_law_628 : decode cL_law 628 = .ok (.ireturn, 1) := by decide +kernel
theorem dL_law_629 : decode cL_law 629 = .ok (.aload_n 1, 1) := by decide +kernel
theorem dL_law_630 : decode cL_law 630 = .ok (.aload_n 0, 1) := by decide +kernel
theorem dL_law_631 : decode cL_law 631 = .ok (.iload_n 3, 1) := by decide +kernel
theorem dL_law_632 : decode cL_law 632 = .ok (.iconst 1, 1) := by decide +kernel
theorem dL_law_633 : decode cL_law 633 = .ok (.iadd, 1) := by decide +kernel
theorem dL_law_634 : decode cL_law 634 = .ok (.iaload, 1) := by decide +kernel
theorem dL_law_635 : decode cL_law 635 = .ok (.invokevirtual 103, 3) := by decide +kernel
theorem dL_law_638 : decode cL_law 638 = .ok (.aload_n 2, 1) := by decide +kernel
theorem dL_law_639 : decode cL_law 639 = .ok (.aload_n 0, 1) := by decide +kernel
theorem dL_law_640 : decode cL_law 640 = .ok (.iload_n 3, 1) := by decide +kernel
theorem dL_law_641 : decode cL_law 641 = .ok (.iconst 1, 1) := by decide +kernel
theorem dL_law_642 : decode cL_law 642 = .ok (.iadd, 1) := by decide +kernel
theorem dL_law_643 : decode cL_law 643 = .ok (.iaload, 1) := by decide +kernel
theorem dL_law_644 : decode cL_law 644 = .ok (.invokevirtual 106, 3) := by decide +kernel
theorem dL_law_647 : decode cL_law 647 = .ok (.if_icmp .eq 5, 3) := by decide +kernel
theorem dL_law_650 : decode cL_law 650 = .ok (.iconst 0, 1) := by decide +kernel
theorem dL_law_651 : decode cL_law 651 = .ok (.ireturn, 1) := by decide +kernel
theorem dL_law_652 : decode cL_law 652 = .ok (.iinc 3 3, 3) := by decide +kernel
theorem dL_law_655 : decode cL_law 655 = .ok (.goto (-637), 3) := by decide +kernel
theorem dL_law_658 : decode cL_law 658 = .ok (.iconst 1, 1) := by decide +kernel
theorem dL_law_659 : decode cL_law 659 = .ok (.ireturn, 1) := by decide +kernel
end
section
def nestW : List Cond := [Cond.methodLinkNest RX5 11 yX1_init "BridgedPachisi", Cond.methodLinkNest RX1 11 yX0_init "BridgedPachisi", Cond.fieldLinkNest RX1 55 "BridgedPachisi$Board" "progress" "[I" "BridgedPachisi", Cond.fieldLinkNest RX5 128 "BridgedPachisi$Board" "progress" "[I" "BridgedPachisi", Cond.fieldLinkNest RX5 144 "BridgedPachisi$Board" "sentBack" "[I" "BridgedPachisi", Cond.fieldLinkNest RX1 140 "BridgedPachisi$Board" "bridges" "[I" "BridgedPachisi", Cond.fieldLinkNest RX1 143 "BridgedPachisi$Board" "fellIn" "[I" "BridgedPachisi", Cond.fieldLinkNest RX5 177 "BridgedPachisi$Board" "falls" "I" "BridgedPachisi", Cond.fieldLinkNest RX1 38 "BridgedPachisi" "FIRST_VALUE" "[I" "BridgedPachisi", Cond.fieldLinkNest RX5 119 "BridgedPachisi$Game" "board" "LBridgedPachisi$Board;" "BridgedPachisi", Cond.fieldLinkNest RX5 55 "BridgedPachisi$Game" "settings" "[I" "BridgedPachisi", Cond.fieldLinkNest RX5 58 "BridgedPachisi$Game" "x" "I" "BridgedPachisi", Cond.fieldLinkNest RX5 75 "BridgedPachisi$Game" "player" "I" "BridgedPachisi", Cond.fieldLinkNest RX5 72 "BridgedPachisi$Game" "thrown" "I" "BridgedPachisi", Cond.fieldLinkNest RX5 131 "BridgedPachisi$Game" "turns" "I" "BridgedPachisi", Cond.fieldLinkNest RX5 162 "BridgedPachisi$Game" "casts" "I" "BridgedPachisi", Cond.methodLinkNest RX5 21 yX4_init "BridgedPachisi", Cond.methodLinkNest RX5 28 yX3_init "BridgedPachisi", Cond.fieldLinkNest RX5 113 "BridgedPachisi$Pad" "length" "I" "BridgedPachisi", Cond.methodLinkNest RX5 35 yX2_init "BridgedPachisi", Cond.fieldLinkNest RX5 180 "BridgedPachisi$History" "size" "I" "BridgedPachisi", Cond.methodLinkNest RX5 51 yX2_remember "BridgedPachisi", Cond.methodLinkNest RX2 24 yX1_init "BridgedPachisi", Cond.methodLinkNest RX2 25 yX1_copyFrom "BridgedPachisi", Cond.methodLinkNest RX1 47 yX0_copyFrom "BridgedPachisi", Cond.methodLinkNest RX5 62 yX1_isOver "BridgedPachisi", Cond.methodLinkNest RX1 51 yX0_winner "BridgedPachisi", Cond.methodLinkNest RX5 66 yX1_hasThrow "BridgedPachisi", Cond.methodLinkNest RX5 69 yX1_throwByX "BridgedPachisi", Cond.methodLinkNest RX1 94 yX5_nextX "BridgedPachisi", Cond.methodLinkNest RX1 97 yX5_castOf "BridgedPachisi", Cond.methodLinkNest RX5 78 yX1_reason "BridgedPachisi", Cond.methodLinkNest RX1 58 yX0_target "BridgedPachisi", Cond.methodLinkNest RX0 34 yX5_ringField "BridgedPachisi", Cond.methodLinkNest RX0 59 yX5_bridgeOn "BridgedPachisi", Cond.methodLinkNest RX1 62 yX0_isBlockedOnWay "BridgedPachisi", Cond.methodLinkNest RX1 66 yX0_isFullFor "BridgedPachisi", Cond.methodLinkNest RX1 70 yX5_ringField "BridgedPachisi", Cond.methodLinkNest RX1 74 yX5_isSafe "BridgedPachisi", Cond.methodLinkNest RX1 78 yX0_rivalsAt "BridgedPachisi", Cond.methodLinkNest RX5 82 yX1_moveByThrow "BridgedPachisi", Cond.methodLinkNest RX1 104 yX0_sendRivalsBack "BridgedPachisi", Cond.methodLinkNest RX1 108 yX0_place "BridgedPachisi", Cond.methodLinkNest RX1 122 yX0_mend "BridgedPachisi", Cond.methodLinkNest RX5 86 yX1_canMoveBy "BridgedPachisi", Cond.methodLinkNest RX5 90 yX1_endThrow "BridgedPachisi", Cond.methodLinkNest RX5 93 yX1_playOn "BridgedPachisi", Cond.methodLinkNest RX1 88 yX5_isOnRing "BridgedPachisi", Cond.methodLinkNest RX1 91 yX0_matesAt "BridgedPachisi", Cond.methodLinkNest RX5 96 yX3_faultIndex "BridgedPachisi", Cond.methodLinkNest RX5 100 yX3_moves "BridgedPachisi", Cond.methodLinkNest RX5 103 yX3_castOfMove "BridgedPachisi", Cond.methodLinkNest RX5 106 yX3_pieceOfMove "BridgedPachisi", Cond.methodLinkNest RX5 109 yX1_makeMove "BridgedPachisi", Cond.methodLinkNest RX5 123 yX0_hasRoomFor "BridgedPachisi", Cond.methodLinkNest RX5 134 yX0_place "BridgedPachisi", Cond.methodLinkNest RX5 138 yX0_fieldOf "BridgedPachisi", Cond.methodLinkNest RX5 141 yX0_isInPair "BridgedPachisi", Cond.methodLinkNest RX0 38 yX5_isOnRing "BridgedPachisi", Cond.methodLinkNest RX5 147 yX0_piecesOn "BridgedPachisi", Cond.methodLinkNest RX5 150 yX0_lowestOn "BridgedPachisi", Cond.methodLinkNest RX5 156 yX0_bridgeState "BridgedPachisi", Cond.methodLinkNest RX5 159 yX1_turnsUntilMended "BridgedPachisi", Cond.methodLinkNest RX1 137 yX5_bridgeOn "BridgedPachisi", Cond.methodLinkNest RX5 165 yX0_winner "BridgedPachisi", Cond.methodLinkNest RX5 168 yX0_homeOf "BridgedPachisi", Cond.methodLinkNest RX5 171 yX0_sentBackInAll "BridgedPachisi", Cond.methodLinkNest RX5 174 yX0_fallenSet "BridgedPachisi", Cond.methodLinkNest RX5 183 yX1_bestPiece "BridgedPachisi", Cond.methodLinkNest RX5 186 yX4_fromHomeOn "BridgedPachisi", Cond.methodLinkNest RX4 15 yX0_target "BridgedPachisi", Cond.methodLinkNest RX5 190 yX4_goingWide "BridgedPachisi", Cond.methodLinkNest RX5 199 yX1_copyFrom "BridgedPachisi", Cond.methodLinkNest RX5 206 yX3_append "BridgedPachisi", Cond.methodLinkNest RX5 210 yX2_takeBack "BridgedPachisi"]
theorem nw0 : Cond.methodLinkNest RX5 11 yX1_init "BridgedPachisi" ∈ nestW := List.mem_of_getElem? (i := 0) rfl
theorem nw1 : Cond.methodLinkNest RX1 11 yX0_init "BridgedPachisi" ∈ nestW := List.mem_of_getElem? (i := 1) rfl
theorem nw2 : Cond.fieldLinkNest RX1 55 "BridgedPachisi$Board" "progress" "[I" "BridgedPachisi" ∈ nestW := List.mem_of_getElem? (i := 2) rfl
theorem nw3 : Cond.fieldLinkNest RX5 128 "BridgedPachisi$Board" "progress" "[I" "BridgedPachisi" ∈ nestW := List.mem_of_getElem? (i := 3) rfl
theorem nw4 : Cond.fieldLinkNest RX5 144 "BridgedPachisi$Board" "sentBack" "[I" "BridgedPachisi" ∈ nestW := List.mem_of_getElem? (i := 4) rfl
theorem nw5 : Cond.fieldLinkNest RX1 140 "BridgedPachisi$Board" "bridges" "[I" "BridgedPachisi" ∈ nestW := List.mem_of_getElem? (i := 5) rfl
theorem nw6 : Cond.fieldLinkNest RX1 143 "BridgedPachisi$Board" "fellIn" "[I" "BridgedPachisi" ∈ nestW := List.mem_of_getElem? (i := 6) rfl
theorem nw7 : Cond.fieldLinkNest RX5 177 "BridgedPachisi$Board" "falls" "I" "BridgedPachisi" ∈ nestW := List.mem_of_getElem? (i := 7) rfl
theorem nw8 : Cond.fieldLinkNest RX1 38 "BridgedPachisi" "FIRST_VALUE" "[I" "BridgedPachisi" ∈ nestW := List.mem_of_getElem? (i := 8) rfl
theorem nw9 : Cond.fieldLinkNest RX5 119 "BridgedPachisi$Game" "board" "LBridgedPachisi$Board;" "BridgedPachisi" ∈ nestW := List.mem_of_getElem? (i := 9) rfl
theorem nw10 : Cond.fieldLinkNest RX5 55 "BridgedPachisi$Game" "settings" "[I" "BridgedPachisi" ∈ nestW := List.mem_of_getElem? (i := 10) rfl
theorem nw11 : Cond.fieldLinkNest RX5 58 "BridgedPachisi$Game" "x" "I" "BridgedPachisi" ∈ nestW := List.mem_of_getElem? (i := 11) rfl
theorem nw12 : Cond.fieldLinkNest RX5 75 "BridgedPachisi$Game" "player" "I" "BridgedPachisi" ∈ nestW := List.mem_of_getElem? (i := 12) rfl
theorem nw13 : Cond.fieldLinkNest RX5 72 "BridgedPachisi$Game" "thrown" "I" "BridgedPachisi" ∈ nestW := List.mem_of_getElem? (i := 13) rfl
theorem nw14 : Cond.fieldLinkNest RX5 131 "BridgedPachisi$Game" "turns" "I" "BridgedPachisi" ∈ nestW := List.mem_of_getElem? (i := 14) rfl
theorem nw15 : Cond.fieldLinkNest RX5 162 "BridgedPachisi$Game" "casts" "I" "BridgedPachisi" ∈ nestW := List.mem_of_getElem? (i := 15) rfl
theorem nw16 : Cond.methodLinkNest RX5 21 yX4_init "BridgedPachisi" ∈ nestW := List.mem_of_getElem? (i := 16) rfl
theorem nw17 : Cond.methodLinkNest RX5 28 yX3_init "BridgedPachisi" ∈ nestW := List.mem_of_getElem? (i := 17) rfl
theorem nw18 : Cond.fieldLinkNest RX5 113 "BridgedPachisi$Pad" "length" "I" "BridgedPachisi" ∈ nestW := List.mem_of_getElem? (i := 18) rfl
theorem nw19 : Cond.methodLinkNest RX5 35 yX2_init "BridgedPachisi" ∈ nestW := List.mem_of_getElem? (i := 19) rfl
theorem nw20 : Cond.fieldLinkNest RX5 180 "BridgedPachisi$History" "size" "I" "BridgedPachisi" ∈ nestW := List.mem_of_getElem? (i := 20) rfl
theorem nw21 : Cond.methodLinkNest RX5 51 yX2_remember "BridgedPachisi" ∈ nestW := List.mem_of_getElem? (i := 21) rfl
theorem nw22 : Cond.methodLinkNest RX2 24 yX1_init "BridgedPachisi" ∈ nestW := List.mem_of_getElem? (i := 22) rfl
theorem nw23 : Cond.methodLinkNest RX2 25 yX1_copyFrom "BridgedPachisi" ∈ nestW := List.mem_of_getElem? (i := 23) rfl
theorem nw24 : Cond.methodLinkNest RX1 47 yX0_copyFrom "BridgedPachisi" ∈ nestW := List.mem_of_getElem? (i := 24) rfl
theorem nw25 : Cond.methodLinkNest RX5 62 yX1_isOver "BridgedPachisi" ∈ nestW := List.mem_of_getElem? (i := 25) rfl
theorem nw26 : Cond.methodLinkNest RX1 51 yX0_winner "BridgedPachisi" ∈ nestW := List.mem_of_getElem? (i := 26) rfl
theorem nw27 : Cond.methodLinkNest RX5 66 yX1_hasThrow "BridgedPachisi" ∈ nestW := List.mem_of_getElem? (i := 27) rfl
theorem nw28 : Cond.methodLinkNest RX5 69 yX1_throwByX "BridgedPachisi" ∈ nestW := List.mem_of_getElem? (i := 28) rfl
theorem nw29 : Cond.methodLinkNest RX1 94 yX5_nextX "BridgedPachisi" ∈ nestW := List.mem_of_getElem? (i := 29) rfl
theorem nw30 : Cond.methodLinkNest RX1 97 yX5_castOf "BridgedPachisi" ∈ nestW := List.mem_of_getElem? (i := 30) rfl
theorem nw31 : Cond.methodLinkNest RX5 78 yX1_reason "BridgedPachisi" ∈ nestW := List.mem_of_getElem? (i := 31) rfl
theorem nw32 : Cond.methodLinkNest RX1 58 yX0_target "BridgedPachisi" ∈ nestW := List.mem_of_getElem? (i := 32) rfl
theorem nw33 : Cond.methodLinkNest RX0 34 yX5_ringField "BridgedPachisi" ∈ nestW := List.mem_of_getElem? (i := 33) rfl
theorem nw34 : Cond.methodLinkNest RX0 59 yX5_bridgeOn "BridgedPachisi" ∈ nestW := List.mem_of_getElem? (i := 34) rfl
theorem nw35 : Cond.methodLinkNest RX1 62 yX0_isBlockedOnWay "BridgedPachisi" ∈ nestW := List.mem_of_getElem? (i := 35) rfl
theorem nw36 : Cond.methodLinkNest RX1 66 yX0_isFullFor "BridgedPachisi" ∈ nestW := List.mem_of_getElem? (i := 36) rfl
theorem nw37 : Cond.methodLinkNest RX1 70 yX5_ringField "BridgedPachisi" ∈ nestW := List.mem_of_getElem? (i := 37) rfl
theorem nw38 : Cond.methodLinkNest RX1 74 yX5_isSafe "BridgedPachisi" ∈ nestW := List.mem_of_getElem? (i := 38) rfl
theorem nw39 : Cond.methodLinkNest RX1 78 yX0_rivalsAt "BridgedPachisi" ∈ nestW := List.mem_of_getElem? (i := 39) rfl
theorem nw40 : Cond.methodLinkNest RX5 82 yX1_moveByThrow "BridgedPachisi" ∈ nestW := List.mem_of_getElem? (i := 40) rfl
theorem nw41 : Cond.methodLinkNest RX1 104 yX0_sendRivalsBack "BridgedPachisi" ∈ nestW := List.mem_of_getElem? (i := 41) rfl
theorem nw42 : Cond.methodLinkNest RX1 108 yX0_place "BridgedPachisi" ∈ nestW := List.mem_of_getElem? (i := 42) rfl
theorem nw43 : Cond.methodLinkNest RX1 122 yX0_mend "BridgedPachisi" ∈ nestW := List.mem_of_getElem? (i := 43) rfl
theorem nw44 : Cond.methodLinkNest RX5 86 yX1_canMoveBy "BridgedPachisi" ∈ nestW := List.mem_of_getElem? (i := 44) rfl
theorem nw45 : Cond.methodLinkNest RX5 90 yX1_endThrow "BridgedPachisi" ∈ nestW := List.mem_of_getElem? (i := 45) rfl
theorem nw46 : Cond.methodLinkNest RX5 93 yX1_playOn "BridgedPachisi" ∈ nestW := List.mem_of_getElem? (i := 46) rfl
theorem nw47 : Cond.methodLinkNest RX1 88 yX5_isOnRing "BridgedPachisi" ∈ nestW := List.mem_of_getElem? (i := 47) rfl
theorem nw48 : Cond.methodLinkNest RX1 91 yX0_matesAt "BridgedPachisi" ∈ nestW := List.mem_of_getElem? (i := 48) rfl
theorem nw49 : Cond.methodLinkNest RX5 96 yX3_faultIndex "BridgedPachisi" ∈ nestW := List.mem_of_getElem? (i := 49) rfl
theorem nw50 : Cond.methodLinkNest RX5 100 yX3_moves "BridgedPachisi" ∈ nestW := List.mem_of_getElem? (i := 50) rfl
theorem nw51 : Cond.methodLinkNest RX5 103 yX3_castOfMove "BridgedPachisi" ∈ nestW := List.mem_of_getElem? (i := 51) rfl
theorem nw52 : Cond.methodLinkNest RX5 106 yX3_pieceOfMove "BridgedPachisi" ∈ nestW := List.mem_of_getElem? (i := 52) rfl
theorem nw53 : Cond.methodLinkNest RX5 109 yX1_makeMove "BridgedPachisi" ∈ nestW := List.mem_of_getElem? (i := 53) rfl
theorem nw54 : Cond.methodLinkNest RX5 123 yX0_hasRoomFor "BridgedPachisi" ∈ nestW := List.mem_of_getElem? (i := 54) rfl
theorem nw55 : Cond.methodLinkNest RX5 134 yX0_place "BridgedPachisi" ∈ nestW := List.mem_of_getElem? (i := 55) rfl
theorem nw56 : Cond.methodLinkNest RX5 138 yX0_fieldOf "BridgedPachisi" ∈ nestW := List.mem_of_getElem? (i := 56) rfl
theorem nw57 : Cond.methodLinkNest RX5 141 yX0_isInPair "BridgedPachisi" ∈ nestW := List.mem_of_getElem? (i := 57) rfl
theorem nw58 : Cond.methodLinkNest RX0 38 yX5_isOnRing "BridgedPachisi" ∈ nestW := List.mem_of_getElem? (i := 58) rfl
theorem nw59 : Cond.methodLinkNest RX5 147 yX0_piecesOn "BridgedPachisi" ∈ nestW := List.mem_of_getElem? (i := 59) rfl
theorem nw60 : Cond.methodLinkNest RX5 150 yX0_lowestOn "BridgedPachisi" ∈ nestW := List.mem_of_getElem? (i := 60) rfl
theorem nw61 : Cond.methodLinkNest RX5 156 yX0_bridgeState "BridgedPachisi" ∈ nestW := List.mem_of_getElem? (i := 61) rfl
theorem nw62 : Cond.methodLinkNest RX5 159 yX1_turnsUntilMended "BridgedPachisi" ∈ nestW := List.mem_of_getElem? (i := 62) rfl
theorem nw63 : Cond.methodLinkNest RX1 137 yX5_bridgeOn "BridgedPachisi" ∈ nestW := List.mem_of_getElem? (i := 63) rfl
theorem nw64 : Cond.methodLinkNest RX5 165 yX0_winner "BridgedPachisi" ∈ nestW := List.mem_of_getElem? (i := 64) rfl
theorem nw65 : Cond.methodLinkNest RX5 168 yX0_homeOf "BridgedPachisi" ∈ nestW := List.mem_of_getElem? (i := 65) rfl
theorem nw66 : Cond.methodLinkNest RX5 171 yX0_sentBackInAll "BridgedPachisi" ∈ nestW := List.mem_of_getElem? (i := 66) rfl
theorem nw67 : Cond.methodLinkNest RX5 174 yX0_fallenSet "BridgedPachisi" ∈ nestW := List.mem_of_getElem? (i := 67) rfl
theorem nw68 : Cond.methodLinkNest RX5 183 yX1_bestPiece "BridgedPachisi" ∈ nestW := List.mem_of_getElem? (i := 68) rfl
theorem nw69 : Cond.methodLinkNest RX5 186 yX4_fromHomeOn "BridgedPachisi" ∈ nestW := List.mem_of_getElem? (i := 69) rfl
theorem nw70 : Cond.methodLinkNest RX4 15 yX0_target "BridgedPachisi" ∈ nestW := List.mem_of_getElem? (i := 70) rfl
theorem nw71 : Cond.methodLinkNest RX5 190 yX4_goingWide "BridgedPachisi" ∈ nestW := List.mem_of_getElem? (i := 71) rfl
theorem nw72 : Cond.methodLinkNest RX5 199 yX1_copyFrom "BridgedPachisi" ∈ nestW := List.mem_of_getElem? (i := 72) rfl
theorem nw73 : Cond.methodLinkNest RX5 206 yX3_append "BridgedPachisi" ∈ nestW := List.mem_of_getElem? (i := 73) rfl
theorem nw74 : Cond.methodLinkNest RX5 210 yX2_takeBack "BridgedPachisi" ∈ nestW := List.mem_of_getElem? (i := 74) rfl
theorem wd0 : Cond.classLink RL 7 RX5 ∈ wsL_law := List.mem_of_getElem? (i := 0) (by decide +kernel)
theorem wd1 : Cond.instantiable RX5 6 ∈ wsL_law := List.mem_of_getElem? (i := 1) (by decide +kernel)
theorem wd2 : Cond.initialized RX5 ∈ wsL_law := List.mem_of_getElem? (i := 2) (by decide +kernel)
theorem wd3 : Cond.classLink RL 10 RX6 ∈ wsL_law := List.mem_of_getElem? (i := 3) (by decide +kernel)
theorem wd4 : Cond.instantiable RX6 10 ∈ wsL_law := List.mem_of_getElem? (i := 4) (by decide +kernel)
theorem wd5 : Cond.initialized RX6 ∈ wsL_law := List.mem_of_getElem? (i := 5) (by decide +kernel)
theorem wd6 : Cond.constantLong RL 80 (4294967295) ∈ wsL_law := List.mem_of_getElem? (i := 6) (by decide +kernel)
theorem wd7 : Cond.methodLink RL 9 yX5_init ∈ wsL_law := List.mem_of_getElem? (i := 7) (by decide +kernel)
theorem wd8 : Cond.instanceMethod yX5_init ∈ wsL_law := List.mem_of_getElem? (i := 8) (by decide +kernel)
theorem wd9 : Cond.code yX5_init cX5_init 1 none ∈ wsL_law := List.mem_of_getElem? (i := 9) (by decide +kernel)
theorem wd10 : Cond.methodLink RX5 3 objectInit ∈ wsL_law := List.mem_of_getElem? (i := 10) (by decide +kernel)
theorem wd11 : Cond.instanceMethod objectInit ∈ wsL_law := List.mem_of_getElem? (i := 11) (by decide +kernel)
theorem wd12 : Cond.code objectInit ⟨#[0xb1]⟩ 1 none ∈ wsL_law := List.mem_of_getElem? (i := 12) (by decide +kernel)
theorem wd13 : Cond.classLink RX5 9 RX1 ∈ wsL_law := List.mem_of_getElem? (i := 13) (by decide +kernel)
theorem wd14 : Cond.instantiable RX1 7 ∈ wsL_law := List.mem_of_getElem? (i := 14) (by decide +kernel)
theorem wd15 : Cond.initialized RX1 ∈ wsL_law := List.mem_of_getElem? (i := 15) (by decide +kernel)
theorem wd16 : Cond.fieldLink RX5 12 "BridgedPachisi" "game" "LBridgedPachisi$Game;" ∈ wsL_law := List.mem_of_getElem? (i := 16) (by decide +kernel)
theorem wd17 : Cond.fieldLink RX5 16 "BridgedPachisi" "trial" "LBridgedPachisi$Game;" ∈ wsL_law := List.mem_of_getElem? (i := 17) (by decide +kernel)
theorem wd18 : Cond.classLink RX5 19 RX4 ∈ wsL_law := List.mem_of_getElem? (i := 18) (by decide +kernel)
theorem wd19 : Cond.instantiable RX4 1 ∈ wsL_law := List.mem_of_getElem? (i := 19) (by decide +kernel)
theorem wd20 : Cond.initialized RX4 ∈ wsL_law := List.mem_of_getElem? (i := 20) (by decide +kernel)
theorem wd21 : Cond.fieldLink RX5 22 "BridgedPachisi" "route" "LBridgedPachisi$Route;" ∈ wsL_law := List.mem_of_getElem? (i := 21) (by decide +kernel)
theorem wd22 : Cond.classLink RX5 26 RX3 ∈ wsL_law := List.mem_of_getElem? (i := 22) (by decide +kernel)
theorem wd23 : Cond.instantiable RX3 2 ∈ wsL_law := List.mem_of_getElem? (i := 23) (by decide +kernel)
theorem wd24 : Cond.initialized RX3 ∈ wsL_law := List.mem_of_getElem? (i := 24) (by decide +kernel)
theorem wd25 : Cond.fieldLink RX5 29 "BridgedPachisi" "pad" "LBridgedPachisi$Pad;" ∈ wsL_law := List.mem_of_getElem? (i := 25) (by decide +kernel)
theorem wd26 : Cond.classLink RX5 33 RX2 ∈ wsL_law := List.mem_of_getElem? (i := 26) (by decide +kernel)
theorem wd27 : Cond.instantiable RX2 3 ∈ wsL_law := List.mem_of_getElem? (i := 27) (by decide +kernel)
theorem wd28 : Cond.initialized RX2 ∈ wsL_law := List.mem_of_getElem? (i := 28) (by decide +kernel)
theorem wd29 : Cond.fieldLink RX5 36 "BridgedPachisi" "history" "LBridgedPachisi$History;" ∈ wsL_law := List.mem_of_getElem? (i := 29) (by decide +kernel)
theorem wd30 : Cond.fieldLink RX5 40 "BridgedPachisi" "slots" "[LBridgedPachisi$Game;" ∈ wsL_law := List.mem_of_getElem? (i := 30) (by decide +kernel)
theorem wd31 : Cond.instanceMethod yX1_init ∈ wsL_law := List.mem_of_getElem? (i := 31) (by decide +kernel)
theorem wd32 : Cond.code yX1_init cX1_init 1 none ∈ wsL_law := List.mem_of_getElem? (i := 32) (by decide +kernel)
theorem wd33 : Cond.methodLink RX1 3 objectInit ∈ wsL_law := List.mem_of_getElem? (i := 33) (by decide +kernel)
theorem wd34 : Cond.classLink RX1 9 RX0 ∈ wsL_law := List.mem_of_getElem? (i := 34) (by decide +kernel)
theorem wd35 : Cond.instantiable RX0 5 ∈ wsL_law := List.mem_of_getElem? (i := 35) (by decide +kernel)
theorem wd36 : Cond.initialized RX0 ∈ wsL_law := List.mem_of_getElem? (i := 36) (by decide +kernel)
theorem wd37 : Cond.fieldLink RX1 12 "BridgedPachisi$Game" "board" "LBridgedPachisi$Board;" ∈ wsL_law := List.mem_of_getElem? (i := 37) (by decide +kernel)
theorem wd38 : Cond.arrayClass .int ∈ wsL_law := List.mem_of_getElem? (i := 38) (by decide +kernel)
theorem wd39 : Cond.fieldLink RX1 18 "BridgedPachisi$Game" "settings" "[I" ∈ wsL_law := List.mem_of_getElem? (i := 39) (by decide +kernel)
theorem wd40 : Cond.fieldLink RX1 22 "BridgedPachisi$Game" "x" "I" ∈ wsL_law := List.mem_of_getElem? (i := 40) (by decide +kernel)
theorem wd41 : Cond.fieldLink RX1 26 "BridgedPachisi$Game" "player" "I" ∈ wsL_law := List.mem_of_getElem? (i := 41) (by decide +kernel)
theorem wd42 : Cond.fieldLink RX1 29 "BridgedPachisi$Game" "thrown" "I" ∈ wsL_law := List.mem_of_getElem? (i := 42) (by decide +kernel)
theorem wd43 : Cond.fieldLink RX1 32 "BridgedPachisi$Game" "turns" "I" ∈ wsL_law := List.mem_of_getElem? (i := 43) (by decide +kernel)
theorem wd44 : Cond.fieldLink RX1 35 "BridgedPachisi$Game" "casts" "I" ∈ wsL_law := List.mem_of_getElem? (i := 44) (by decide +kernel)
theorem wd45 : Cond.methodLink RX1 41 arraycopyName ∈ wsL_law := List.mem_of_getElem? (i := 45) (by decide +kernel)
theorem wd46 : Cond.native arraycopyName ∈ wsL_law := List.mem_of_getElem? (i := 46) (by decide +kernel)
theorem wd47 : Cond.static arraycopyName ∈ wsL_law := List.mem_of_getElem? (i := 47) (by decide +kernel)
theorem wd48 : Cond.initialized "java/lang/System" ∈ wsL_law := List.mem_of_getElem? (i := 48) (by decide +kernel)
theorem wd49 : Cond.instanceMethod yX0_init ∈ wsL_law := List.mem_of_getElem? (i := 49) (by decide +kernel)
theorem wd50 : Cond.code yX0_init cX0_init 2 none ∈ wsL_law := List.mem_of_getElem? (i := 50) (by decide +kernel)
theorem wd51 : Cond.methodLink RX0 3 objectInit ∈ wsL_law := List.mem_of_getElem? (i := 51) (by decide +kernel)
theorem wd52 : Cond.fieldLink RX0 9 "BridgedPachisi$Board" "progress" "[I" ∈ wsL_law := List.mem_of_getElem? (i := 52) (by decide +kernel)
theorem wd53 : Cond.fieldLink RX0 15 "BridgedPachisi$Board" "sentBack" "[I" ∈ wsL_law := List.mem_of_getElem? (i := 53) (by decide +kernel)
theorem wd54 : Cond.fieldLink RX0 18 "BridgedPachisi$Board" "bridges" "[I" ∈ wsL_law := List.mem_of_getElem? (i := 54) (by decide +kernel)
theorem wd55 : Cond.fieldLink RX0 21 "BridgedPachisi$Board" "fellIn" "[I" ∈ wsL_law := List.mem_of_getElem? (i := 55) (by decide +kernel)
theorem wd56 : Cond.fieldLink RX0 24 "BridgedPachisi$Board" "falls" "I" ∈ wsL_law := List.mem_of_getElem? (i := 56) (by decide +kernel)
theorem wd57 : Cond.instanceMethod yX4_init ∈ wsL_law := List.mem_of_getElem? (i := 57) (by decide +kernel)
theorem wd58 : Cond.code yX4_init cX4_init 1 none ∈ wsL_law := List.mem_of_getElem? (i := 58) (by decide +kernel)
theorem wd59 : Cond.methodLink RX4 3 objectInit ∈ wsL_law := List.mem_of_getElem? (i := 59) (by decide +kernel)
theorem wd60 : Cond.fieldLink RX4 9 "BridgedPachisi$Route" "needed" "[I" ∈ wsL_law := List.mem_of_getElem? (i := 60) (by decide +kernel)
theorem wd61 : Cond.instanceMethod yX3_init ∈ wsL_law := List.mem_of_getElem? (i := 61) (by decide +kernel)
theorem wd62 : Cond.code yX3_init cX3_init 1 none ∈ wsL_law := List.mem_of_getElem? (i := 62) (by decide +kernel)
theorem wd63 : Cond.methodLink RX3 3 objectInit ∈ wsL_law := List.mem_of_getElem? (i := 63) (by decide +kernel)
theorem wd64 : Cond.arrayClass .char ∈ wsL_law := List.mem_of_getElem? (i := 64) (by decide +kernel)
theorem wd65 : Cond.fieldLink RX3 9 "BridgedPachisi$Pad" "text" "[C" ∈ wsL_law := List.mem_of_getElem? (i := 65) (by decide +kernel)
theorem wd66 : Cond.fieldLink RX3 15 "BridgedPachisi$Pad" "length" "I" ∈ wsL_law := List.mem_of_getElem? (i := 66) (by decide +kernel)
theorem wd67 : Cond.instanceMethod yX2_init ∈ wsL_law := List.mem_of_getElem? (i := 67) (by decide +kernel)
theorem wd68 : Cond.code yX2_init cX2_init 1 none ∈ wsL_law := List.mem_of_getElem? (i := 68) (by decide +kernel)
theorem wd69 : Cond.methodLink RX2 3 objectInit ∈ wsL_law := List.mem_of_getElem? (i := 69) (by decide +kernel)
theorem wd70 : Cond.classLink RX2 9 RX1 ∈ wsL_law := List.mem_of_getElem? (i := 70) (by decide +kernel)
theorem wd71 : Cond.fieldLink RX2 11 "BridgedPachisi$History" "states" "[LBridgedPachisi$Game;" ∈ wsL_law := List.mem_of_getElem? (i := 71) (by decide +kernel)
theorem wd72 : Cond.fieldLink RX2 17 "BridgedPachisi$History" "next" "I" ∈ wsL_law := List.mem_of_getElem? (i := 72) (by decide +kernel)
theorem wd73 : Cond.fieldLink RX2 21 "BridgedPachisi$History" "size" "I" ∈ wsL_law := List.mem_of_getElem? (i := 73) (by decide +kernel)
theorem wd74 : Cond.methodLink RL 12 yX6_init ∈ wsL_law := List.mem_of_getElem? (i := 74) (by decide +kernel)
theorem wd75 : Cond.instanceMethod yX6_init ∈ wsL_law := List.mem_of_getElem? (i := 75) (by decide +kernel)
theorem wd76 : Cond.code yX6_init cX6_init 2 none ∈ wsL_law := List.mem_of_getElem? (i := 76) (by decide +kernel)
theorem wd77 : Cond.methodLink RX6 1 objectInit ∈ wsL_law := List.mem_of_getElem? (i := 77) (by decide +kernel)
theorem wd78 : Cond.fieldLink RX6 7 "BridgedPachisiModel" "z" "[I" ∈ wsL_law := List.mem_of_getElem? (i := 78) (by decide +kernel)
theorem wd79 : Cond.fieldLink RX6 13 "BridgedPachisiModel" "aside" "[I" ∈ wsL_law := List.mem_of_getElem? (i := 79) (by decide +kernel)
theorem wd80 : Cond.fieldLink RX6 16 "BridgedPachisiModel" "before" "[I" ∈ wsL_law := List.mem_of_getElem? (i := 80) (by decide +kernel)
theorem wd81 : Cond.fieldLink RX6 19 "BridgedPachisiModel" "slots" "[I" ∈ wsL_law := List.mem_of_getElem? (i := 81) (by decide +kernel)
theorem wd82 : Cond.arrayClass .boolean ∈ wsL_law := List.mem_of_getElem? (i := 82) (by decide +kernel)
theorem wd83 : Cond.fieldLink RX6 22 "BridgedPachisiModel" "isSaved" "[Z" ∈ wsL_law := List.mem_of_getElem? (i := 83) (by decide +kernel)
theorem wd84 : Cond.fieldLink RX6 26 "BridgedPachisiModel" "pad" "[I" ∈ wsL_law := List.mem_of_getElem? (i := 84) (by decide +kernel)
theorem wd85 : Cond.fieldLink RX6 29 "BridgedPachisiModel" "needed" "[I" ∈ wsL_law := List.mem_of_getElem? (i := 85) (by decide +kernel)
theorem wd86 : Cond.methodLink RL 13 yX5_set ∈ wsL_law := List.mem_of_getElem? (i := 86) (by decide +kernel)
theorem wd87 : Cond.instanceMethod yX5_set ∈ wsL_law := List.mem_of_getElem? (i := 87) (by decide +kernel)
theorem wd88 : Cond.selects RX5 yX5_set yX5_set ∈ wsL_law := List.mem_of_getElem? (i := 88) (by decide +kernel)
theorem wd89 : Cond.code yX5_set cX5_set 4 (some .int) ∈ wsL_law := List.mem_of_getElem? (i := 89) (by decide +kernel)
theorem wd90 : Cond.fieldLink RX5 44 "BridgedPachisi" "LEAST_VALUE" "[I" ∈ wsL_law := List.mem_of_getElem? (i := 90) (by decide +kernel)
theorem wd91 : Cond.fieldLink RX5 48 "BridgedPachisi" "GREATEST_VALUE" "[I" ∈ wsL_law := List.mem_of_getElem? (i := 91) (by decide +kernel)
theorem wd92 : Cond.instanceMethod yX2_remember ∈ wsL_law := List.mem_of_getElem? (i := 92) (by decide +kernel)
theorem wd93 : Cond.selects RX2 yX2_remember yX2_remember ∈ wsL_law := List.mem_of_getElem? (i := 93) (by decide +kernel)
theorem wd94 : Cond.code yX2_remember cX2_remember 3 none ∈ wsL_law := List.mem_of_getElem? (i := 94) (by decide +kernel)
theorem wd95 : Cond.methodLink RX2 29 Lib.Math.min.name ∈ wsL_law := List.mem_of_getElem? (i := 95) (by decide +kernel)
theorem wd96 : Cond.static Lib.Math.min.name ∈ wsL_law := List.mem_of_getElem? (i := 96) (by decide +kernel)
theorem wd97 : Cond.initialized "java/lang/Math" ∈ wsL_law := List.mem_of_getElem? (i := 97) (by decide +kernel)
theorem wd98 : Cond.code Lib.Math.min.name Lib.Math.min.code 2 (some .int) ∈ wsL_law := List.mem_of_getElem? (i := 98) (by decide +kernel)
theorem wd99 : Cond.instanceMethod yX1_copyFrom ∈ wsL_law := List.mem_of_getElem? (i := 99) (by decide +kernel)
theorem wd100 : Cond.selects RX1 yX1_copyFrom yX1_copyFrom ∈ wsL_law := List.mem_of_getElem? (i := 100) (by decide +kernel)
theorem wd101 : Cond.code yX1_copyFrom cX1_copyFrom 2 none ∈ wsL_law := List.mem_of_getElem? (i := 101) (by decide +kernel)
theorem wd102 : Cond.instanceMethod yX0_copyFrom ∈ wsL_law := List.mem_of_getElem? (i := 102) (by decide +kernel)
theorem wd103 : Cond.selects RX0 yX0_copyFrom yX0_copyFrom ∈ wsL_law := List.mem_of_getElem? (i := 103) (by decide +kernel)
theorem wd104 : Cond.code yX0_copyFrom cX0_copyFrom 2 none ∈ wsL_law := List.mem_of_getElem? (i := 104) (by decide +kernel)
theorem wd105 : Cond.methodLink RX0 28 arraycopyName ∈ wsL_law := List.mem_of_getElem? (i := 105) (by decide +kernel)
theorem wd106 : Cond.methodLink RL 17 yX6_set ∈ wsL_law := List.mem_of_getElem? (i := 106) (by decide +kernel)
theorem wd107 : Cond.instanceMethod yX6_set ∈ wsL_law := List.mem_of_getElem? (i := 107) (by decide +kernel)
theorem wd108 : Cond.selects RX6 yX6_set yX6_set ∈ wsL_law := List.mem_of_getElem? (i := 108) (by decide +kernel)
theorem wd109 : Cond.code yX6_set cX6_set 4 (some .int) ∈ wsL_law := List.mem_of_getElem? (i := 109) (by decide +kernel)
theorem wd110 : Cond.methodLink RX6 32 yX6_in ∈ wsL_law := List.mem_of_getElem? (i := 110) (by decide +kernel)
theorem wd111 : Cond.static yX6_in ∈ wsL_law := List.mem_of_getElem? (i := 111) (by decide +kernel)
theorem wd112 : Cond.code yX6_in cX6_in 3 (some .boolean) ∈ wsL_law := List.mem_of_getElem? (i := 112) (by decide +kernel)
theorem wd113 : Cond.methodLink RX6 108 yX6_least ∈ wsL_law := List.mem_of_getElem? (i := 113) (by decide +kernel)
theorem wd114 : Cond.static yX6_least ∈ wsL_law := List.mem_of_getElem? (i := 114) (by decide +kernel)
theorem wd115 : Cond.code yX6_least cX6_least 1 (some .int) ∈ wsL_law := List.mem_of_getElem? (i := 115) (by decide +kernel)
theorem wd116 : Cond.methodLink RX6 111 yX6_most ∈ wsL_law := List.mem_of_getElem? (i := 116) (by decide +kernel)
theorem wd117 : Cond.static yX6_most ∈ wsL_law := List.mem_of_getElem? (i := 117) (by decide +kernel)
theorem wd118 : Cond.code yX6_most cX6_most 1 (some .int) ∈ wsL_law := List.mem_of_getElem? (i := 118) (by decide +kernel)
theorem wd119 : Cond.methodLink RX6 68 yX6_record ∈ wsL_law := List.mem_of_getElem? (i := 119) (by decide +kernel)
theorem wd120 : Cond.instanceMethod yX6_record ∈ wsL_law := List.mem_of_getElem? (i := 120) (by decide +kernel)
theorem wd121 : Cond.selects RX6 yX6_record yX6_record ∈ wsL_law := List.mem_of_getElem? (i := 121) (by decide +kernel)
theorem wd122 : Cond.code yX6_record cX6_record 2 none ∈ wsL_law := List.mem_of_getElem? (i := 122) (by decide +kernel)
theorem wd123 : Cond.fieldLink RX6 64 "BridgedPachisiModel" "states" "I" ∈ wsL_law := List.mem_of_getElem? (i := 123) (by decide +kernel)
theorem wd124 : Cond.methodLink RL 18 yX5_seed ∈ wsL_law := List.mem_of_getElem? (i := 124) (by decide +kernel)
theorem wd125 : Cond.instanceMethod yX5_seed ∈ wsL_law := List.mem_of_getElem? (i := 125) (by decide +kernel)
theorem wd126 : Cond.selects RX5 yX5_seed yX5_seed ∈ wsL_law := List.mem_of_getElem? (i := 126) (by decide +kernel)
theorem wd127 : Cond.code yX5_seed cX5_seed 3 (some .int) ∈ wsL_law := List.mem_of_getElem? (i := 127) (by decide +kernel)
theorem wd128 : Cond.methodLink RL 22 yX6_seed ∈ wsL_law := List.mem_of_getElem? (i := 128) (by decide +kernel)
theorem wd129 : Cond.instanceMethod yX6_seed ∈ wsL_law := List.mem_of_getElem? (i := 129) (by decide +kernel)
theorem wd130 : Cond.selects RX6 yX6_seed yX6_seed ∈ wsL_law := List.mem_of_getElem? (i := 130) (by decide +kernel)
theorem wd131 : Cond.code yX6_seed cX6_seed 3 (some .int) ∈ wsL_law := List.mem_of_getElem? (i := 131) (by decide +kernel)
theorem wd132 : Cond.methodLink RL 23 yX5_cast ∈ wsL_law := List.mem_of_getElem? (i := 132) (by decide +kernel)
theorem wd133 : Cond.instanceMethod yX5_cast ∈ wsL_law := List.mem_of_getElem? (i := 133) (by decide +kernel)
theorem wd134 : Cond.selects RX5 yX5_cast yX5_cast ∈ wsL_law := List.mem_of_getElem? (i := 134) (by decide +kernel)
theorem wd135 : Cond.code yX5_cast cX5_cast 1 (some .int) ∈ wsL_law := List.mem_of_getElem? (i := 135) (by decide +kernel)
theorem wd136 : Cond.instanceMethod yX1_isOver ∈ wsL_law := List.mem_of_getElem? (i := 136) (by decide +kernel)
theorem wd137 : Cond.selects RX1 yX1_isOver yX1_isOver ∈ wsL_law := List.mem_of_getElem? (i := 137) (by decide +kernel)
theorem wd138 : Cond.code yX1_isOver cX1_isOver 1 (some .boolean) ∈ wsL_law := List.mem_of_getElem? (i := 138) (by decide +kernel)
theorem wd139 : Cond.instanceMethod yX0_winner ∈ wsL_law := List.mem_of_getElem? (i := 139) (by decide +kernel)
theorem wd140 : Cond.selects RX0 yX0_winner yX0_winner ∈ wsL_law := List.mem_of_getElem? (i := 140) (by decide +kernel)
theorem wd141 : Cond.code yX0_winner cX0_winner 2 (some .int) ∈ wsL_law := List.mem_of_getElem? (i := 141) (by decide +kernel)
theorem wd142 : Cond.methodLink RX0 55 yX0_homeOf ∈ wsL_law := List.mem_of_getElem? (i := 142) (by decide +kernel)
theorem wd143 : Cond.instanceMethod yX0_homeOf ∈ wsL_law := List.mem_of_getElem? (i := 143) (by decide +kernel)
theorem wd144 : Cond.selects RX0 yX0_homeOf yX0_homeOf ∈ wsL_law := List.mem_of_getElem? (i := 144) (by decide +kernel)
theorem wd145 : Cond.code yX0_homeOf cX0_homeOf 4 (some .int) ∈ wsL_law := List.mem_of_getElem? (i := 145) (by decide +kernel)
theorem wd146 : Cond.instanceMethod yX1_hasThrow ∈ wsL_law := List.mem_of_getElem? (i := 146) (by decide +kernel)
theorem wd147 : Cond.selects RX1 yX1_hasThrow yX1_hasThrow ∈ wsL_law := List.mem_of_getElem? (i := 147) (by decide +kernel)
theorem wd148 : Cond.code yX1_hasThrow cX1_hasThrow 1 (some .boolean) ∈ wsL_law := List.mem_of_getElem? (i := 148) (by decide +kernel)
theorem wd149 : Cond.instanceMethod yX1_throwByX ∈ wsL_law := List.mem_of_getElem? (i := 149) (by decide +kernel)
theorem wd150 : Cond.selects RX1 yX1_throwByX yX1_throwByX ∈ wsL_law := List.mem_of_getElem? (i := 150) (by decide +kernel)
theorem wd151 : Cond.code yX1_throwByX cX1_throwByX 1 none ∈ wsL_law := List.mem_of_getElem? (i := 151) (by decide +kernel)
theorem wd152 : Cond.static yX5_nextX ∈ wsL_law := List.mem_of_getElem? (i := 152) (by decide +kernel)
theorem wd153 : Cond.code yX5_nextX cX5_nextX 1 (some .int) ∈ wsL_law := List.mem_of_getElem? (i := 153) (by decide +kernel)
theorem wd154 : Cond.constantLong RX5 214 (1103515245) ∈ wsL_law := List.mem_of_getElem? (i := 154) (by decide +kernel)
theorem wd155 : Cond.constantLong RX5 216 (12345) ∈ wsL_law := List.mem_of_getElem? (i := 155) (by decide +kernel)
theorem wd156 : Cond.constantLong RX5 218 (2147483648) ∈ wsL_law := List.mem_of_getElem? (i := 156) (by decide +kernel)
theorem wd157 : Cond.static yX5_castOf ∈ wsL_law := List.mem_of_getElem? (i := 157) (by decide +kernel)
theorem wd158 : Cond.code yX5_castOf cX5_castOf 1 (some .int) ∈ wsL_law := List.mem_of_getElem? (i := 158) (by decide +kernel)
theorem wd159 : Cond.constant RX5 220 (65536) ∈ wsL_law := List.mem_of_getElem? (i := 159) (by decide +kernel)
theorem wd160 : Cond.methodLink RX1 100 yX1_takeThrow ∈ wsL_law := List.mem_of_getElem? (i := 160) (by decide +kernel)
theorem wd161 : Cond.instanceMethod yX1_takeThrow ∈ wsL_law := List.mem_of_getElem? (i := 161) (by decide +kernel)
theorem wd162 : Cond.selects RX1 yX1_takeThrow yX1_takeThrow ∈ wsL_law := List.mem_of_getElem? (i := 162) (by decide +kernel)
theorem wd163 : Cond.code yX1_takeThrow cX1_takeThrow 2 none ∈ wsL_law := List.mem_of_getElem? (i := 163) (by decide +kernel)
theorem wd164 : Cond.methodLink RL 27 yX6_cast ∈ wsL_law := List.mem_of_getElem? (i := 164) (by decide +kernel)
theorem wd165 : Cond.instanceMethod yX6_cast ∈ wsL_law := List.mem_of_getElem? (i := 165) (by decide +kernel)
theorem wd166 : Cond.selects RX6 yX6_cast yX6_cast ∈ wsL_law := List.mem_of_getElem? (i := 166) (by decide +kernel)
theorem wd167 : Cond.code yX6_cast cX6_cast 1 (some .int) ∈ wsL_law := List.mem_of_getElem? (i := 167) (by decide +kernel)
theorem wd168 : Cond.methodLink RX6 97 yX6_isOver ∈ wsL_law := List.mem_of_getElem? (i := 168) (by decide +kernel)
theorem wd169 : Cond.instanceMethod yX6_isOver ∈ wsL_law := List.mem_of_getElem? (i := 169) (by decide +kernel)
theorem wd170 : Cond.selects RX6 yX6_isOver yX6_isOver ∈ wsL_law := List.mem_of_getElem? (i := 170) (by decide +kernel)
theorem wd171 : Cond.code yX6_isOver cX6_isOver 1 (some .boolean) ∈ wsL_law := List.mem_of_getElem? (i := 171) (by decide +kernel)
theorem wd172 : Cond.methodLink RX6 54 yX6_winner ∈ wsL_law := List.mem_of_getElem? (i := 172) (by decide +kernel)
theorem wd173 : Cond.instanceMethod yX6_winner ∈ wsL_law := List.mem_of_getElem? (i := 173) (by decide +kernel)
theorem wd174 : Cond.selects RX6 yX6_winner yX6_winner ∈ wsL_law := List.mem_of_getElem? (i := 174) (by decide +kernel)
theorem wd175 : Cond.code yX6_winner cX6_winner 3 (some .int) ∈ wsL_law := List.mem_of_getElem? (i := 175) (by decide +kernel)
theorem wd176 : Cond.methodLink RX6 51 yX6_atHome ∈ wsL_law := List.mem_of_getElem? (i := 176) (by decide +kernel)
theorem wd177 : Cond.instanceMethod yX6_atHome ∈ wsL_law := List.mem_of_getElem? (i := 177) (by decide +kernel)
theorem wd178 : Cond.selects RX6 yX6_atHome yX6_atHome ∈ wsL_law := List.mem_of_getElem? (i := 178) (by decide +kernel)
theorem wd179 : Cond.code yX6_atHome cX6_atHome 4 (some .int) ∈ wsL_law := List.mem_of_getElem? (i := 179) (by decide +kernel)
theorem wd180 : Cond.methodLink RX6 114 yX6_hasCast ∈ wsL_law := List.mem_of_getElem? (i := 180) (by decide +kernel)
theorem wd181 : Cond.instanceMethod yX6_hasCast ∈ wsL_law := List.mem_of_getElem? (i := 181) (by decide +kernel)
theorem wd182 : Cond.selects RX6 yX6_hasCast yX6_hasCast ∈ wsL_law := List.mem_of_getElem? (i := 182) (by decide +kernel)
theorem wd183 : Cond.code yX6_hasCast cX6_hasCast 1 (some .boolean) ∈ wsL_law := List.mem_of_getElem? (i := 183) (by decide +kernel)
theorem wd184 : Cond.methodLink RX6 117 yX6_draw ∈ wsL_law := List.mem_of_getElem? (i := 184) (by decide +kernel)
theorem wd185 : Cond.instanceMethod yX6_draw ∈ wsL_law := List.mem_of_getElem? (i := 185) (by decide +kernel)
theorem wd186 : Cond.selects RX6 yX6_draw yX6_draw ∈ wsL_law := List.mem_of_getElem? (i := 186) (by decide +kernel)
theorem wd187 : Cond.code yX6_draw cX6_draw 1 (some .int) ∈ wsL_law := List.mem_of_getElem? (i := 187) (by decide +kernel)
theorem wd188 : Cond.constantLong RX6 101 (1103515245) ∈ wsL_law := List.mem_of_getElem? (i := 188) (by decide +kernel)
theorem wd189 : Cond.constantLong RX6 103 (12345) ∈ wsL_law := List.mem_of_getElem? (i := 189) (by decide +kernel)
theorem wd190 : Cond.constantLong RX6 105 (2147483648) ∈ wsL_law := List.mem_of_getElem? (i := 190) (by decide +kernel)
theorem wd191 : Cond.constant RX6 107 (65536) ∈ wsL_law := List.mem_of_getElem? (i := 191) (by decide +kernel)
theorem wd192 : Cond.methodLink RX6 120 yX6_doCast ∈ wsL_law := List.mem_of_getElem? (i := 192) (by decide +kernel)
theorem wd193 : Cond.instanceMethod yX6_doCast ∈ wsL_law := List.mem_of_getElem? (i := 193) (by decide +kernel)
theorem wd194 : Cond.selects RX6 yX6_doCast yX6_doCast ∈ wsL_law := List.mem_of_getElem? (i := 194) (by decide +kernel)
theorem wd195 : Cond.code yX6_doCast cX6_doCast 2 none ∈ wsL_law := List.mem_of_getElem? (i := 195) (by decide +kernel)
theorem wd196 : Cond.methodLink RL 28 yX5_move ∈ wsL_law := List.mem_of_getElem? (i := 196) (by decide +kernel)
theorem wd197 : Cond.instanceMethod yX5_move ∈ wsL_law := List.mem_of_getElem? (i := 197) (by decide +kernel)
theorem wd198 : Cond.selects RX5 yX5_move yX5_move ∈ wsL_law := List.mem_of_getElem? (i := 198) (by decide +kernel)
theorem wd199 : Cond.code yX5_move cX5_move 3 (some .int) ∈ wsL_law := List.mem_of_getElem? (i := 199) (by decide +kernel)
theorem wd200 : Cond.instanceMethod yX1_reason ∈ wsL_law := List.mem_of_getElem? (i := 200) (by decide +kernel)
theorem wd201 : Cond.selects RX1 yX1_reason yX1_reason ∈ wsL_law := List.mem_of_getElem? (i := 201) (by decide +kernel)
theorem wd202 : Cond.code yX1_reason cX1_reason 6 (some .int) ∈ wsL_law := List.mem_of_getElem? (i := 202) (by decide +kernel)
theorem wd203 : Cond.instanceMethod yX0_target ∈ wsL_law := List.mem_of_getElem? (i := 203) (by decide +kernel)
theorem wd204 : Cond.selects RX0 yX0_target yX0_target ∈ wsL_law := List.mem_of_getElem? (i := 204) (by decide +kernel)
theorem wd205 : Cond.code yX0_target cX0_target 6 (some .int) ∈ wsL_law := List.mem_of_getElem? (i := 205) (by decide +kernel)
theorem wd206 : Cond.methodLink RX0 52 yX0_isFallenAt ∈ wsL_law := List.mem_of_getElem? (i := 206) (by decide +kernel)
theorem wd207 : Cond.instanceMethod yX0_isFallenAt ∈ wsL_law := List.mem_of_getElem? (i := 207) (by decide +kernel)
theorem wd208 : Cond.selects RX0 yX0_isFallenAt yX0_isFallenAt ∈ wsL_law := List.mem_of_getElem? (i := 208) (by decide +kernel)
theorem wd209 : Cond.code yX0_isFallenAt cX0_isFallenAt 3 (some .boolean) ∈ wsL_law := List.mem_of_getElem? (i := 209) (by decide +kernel)
theorem wd210 : Cond.static yX5_ringField ∈ wsL_law := List.mem_of_getElem? (i := 210) (by decide +kernel)
theorem wd211 : Cond.code yX5_ringField cX5_ringField 2 (some .int) ∈ wsL_law := List.mem_of_getElem? (i := 211) (by decide +kernel)
theorem wd212 : Cond.methodLink RX0 62 yX0_bridgeState ∈ wsL_law := List.mem_of_getElem? (i := 212) (by decide +kernel)
theorem wd213 : Cond.instanceMethod yX0_bridgeState ∈ wsL_law := List.mem_of_getElem? (i := 213) (by decide +kernel)
theorem wd214 : Cond.selects RX0 yX0_bridgeState yX0_bridgeState ∈ wsL_law := List.mem_of_getElem? (i := 214) (by decide +kernel)
theorem wd215 : Cond.code yX0_bridgeState cX0_bridgeState 3 (some .int) ∈ wsL_law := List.mem_of_getElem? (i := 215) (by decide +kernel)
theorem wd216 : Cond.static yX5_bridgeOn ∈ wsL_law := List.mem_of_getElem? (i := 216) (by decide +kernel)
theorem wd217 : Cond.code yX5_bridgeOn cX5_bridgeOn 1 (some .int) ∈ wsL_law := List.mem_of_getElem? (i := 217) (by decide +kernel)
theorem wd218 : Cond.instanceMethod yX0_isBlockedOnWay ∈ wsL_law := List.mem_of_getElem? (i := 218) (by decide +kernel)
theorem wd219 : Cond.selects RX0 yX0_isBlockedOnWay yX0_isBlockedOnWay ∈ wsL_law := List.mem_of_getElem? (i := 219) (by decide +kernel)
theorem wd220 : Cond.code yX0_isBlockedOnWay cX0_isBlockedOnWay 6 (some .boolean) ∈ wsL_law := List.mem_of_getElem? (i := 220) (by decide +kernel)
theorem wd221 : Cond.methodLink RX0 45 yX0_rivalsAt ∈ wsL_law := List.mem_of_getElem? (i := 221) (by decide +kernel)
theorem wd222 : Cond.instanceMethod yX0_rivalsAt ∈ wsL_law := List.mem_of_getElem? (i := 222) (by decide +kernel)
theorem wd223 : Cond.selects RX0 yX0_rivalsAt yX0_rivalsAt ∈ wsL_law := List.mem_of_getElem? (i := 223) (by decide +kernel)
theorem wd224 : Cond.code yX0_rivalsAt cX0_rivalsAt 6 (some .int) ∈ wsL_law := List.mem_of_getElem? (i := 224) (by decide +kernel)
theorem wd225 : Cond.instanceMethod yX0_isFullFor ∈ wsL_law := List.mem_of_getElem? (i := 225) (by decide +kernel)
theorem wd226 : Cond.selects RX0 yX0_isFullFor yX0_isFullFor ∈ wsL_law := List.mem_of_getElem? (i := 226) (by decide +kernel)
theorem wd227 : Cond.code yX0_isFullFor cX0_isFullFor 3 (some .boolean) ∈ wsL_law := List.mem_of_getElem? (i := 227) (by decide +kernel)
theorem wd228 : Cond.methodLink RX0 42 yX0_matesAt ∈ wsL_law := List.mem_of_getElem? (i := 228) (by decide +kernel)
theorem wd229 : Cond.instanceMethod yX0_matesAt ∈ wsL_law := List.mem_of_getElem? (i := 229) (by decide +kernel)
theorem wd230 : Cond.selects RX0 yX0_matesAt yX0_matesAt ∈ wsL_law := List.mem_of_getElem? (i := 230) (by decide +kernel)
theorem wd231 : Cond.code yX0_matesAt cX0_matesAt 6 (some .int) ∈ wsL_law := List.mem_of_getElem? (i := 231) (by decide +kernel)
theorem wd232 : Cond.static yX5_isSafe ∈ wsL_law := List.mem_of_getElem? (i := 232) (by decide +kernel)
theorem wd233 : Cond.code yX5_isSafe cX5_isSafe 1 (some .boolean) ∈ wsL_law := List.mem_of_getElem? (i := 233) (by decide +kernel)
theorem wd234 : Cond.instanceMethod yX1_moveByThrow ∈ wsL_law := List.mem_of_getElem? (i := 234) (by decide +kernel)
theorem wd235 : Cond.selects RX1 yX1_moveByThrow yX1_moveByThrow ∈ wsL_law := List.mem_of_getElem? (i := 235) (by decide +kernel)
theorem wd236 : Cond.code yX1_moveByThrow cX1_moveByThrow 3 (some .int) ∈ wsL_law := List.mem_of_getElem? (i := 236) (by decide +kernel)
theorem wd237 : Cond.instanceMethod yX0_sendRivalsBack ∈ wsL_law := List.mem_of_getElem? (i := 237) (by decide +kernel)
theorem wd238 : Cond.selects RX0 yX0_sendRivalsBack yX0_sendRivalsBack ∈ wsL_law := List.mem_of_getElem? (i := 238) (by decide +kernel)
theorem wd239 : Cond.code yX0_sendRivalsBack cX0_sendRivalsBack 5 none ∈ wsL_law := List.mem_of_getElem? (i := 239) (by decide +kernel)
theorem wd240 : Cond.instanceMethod yX0_place ∈ wsL_law := List.mem_of_getElem? (i := 240) (by decide +kernel)
theorem wd241 : Cond.selects RX0 yX0_place yX0_place ∈ wsL_law := List.mem_of_getElem? (i := 241) (by decide +kernel)
theorem wd242 : Cond.code yX0_place cX0_place 4 none ∈ wsL_law := List.mem_of_getElem? (i := 242) (by decide +kernel)
theorem wd243 : Cond.methodLink RX0 65 yX0_strainAndFall ∈ wsL_law := List.mem_of_getElem? (i := 243) (by decide +kernel)
theorem wd244 : Cond.instanceMethod yX0_strainAndFall ∈ wsL_law := List.mem_of_getElem? (i := 244) (by decide +kernel)
theorem wd245 : Cond.selects RX0 yX0_strainAndFall yX0_strainAndFall ∈ wsL_law := List.mem_of_getElem? (i := 245) (by decide +kernel)
theorem wd246 : Cond.code yX0_strainAndFall cX0_strainAndFall 4 none ∈ wsL_law := List.mem_of_getElem? (i := 246) (by decide +kernel)
theorem wd247 : Cond.methodLink RX0 69 yX0_piecesOn ∈ wsL_law := List.mem_of_getElem? (i := 247) (by decide +kernel)
theorem wd248 : Cond.instanceMethod yX0_piecesOn ∈ wsL_law := List.mem_of_getElem? (i := 248) (by decide +kernel)
theorem wd249 : Cond.selects RX0 yX0_piecesOn yX0_piecesOn ∈ wsL_law := List.mem_of_getElem? (i := 249) (by decide +kernel)
theorem wd250 : Cond.code yX0_piecesOn cX0_piecesOn 4 (some .int) ∈ wsL_law := List.mem_of_getElem? (i := 250) (by decide +kernel)
theorem wd251 : Cond.methodLink RX1 112 yX1_endThrow ∈ wsL_law := List.mem_of_getElem? (i := 251) (by decide +kernel)
theorem wd252 : Cond.instanceMethod yX1_endThrow ∈ wsL_law := List.mem_of_getElem? (i := 252) (by decide +kernel)
theorem wd253 : Cond.selects RX1 yX1_endThrow yX1_endThrow ∈ wsL_law := List.mem_of_getElem? (i := 253) (by decide +kernel)
theorem wd254 : Cond.code yX1_endThrow cX1_endThrow 2 none ∈ wsL_law := List.mem_of_getElem? (i := 254) (by decide +kernel)
theorem wd255 : Cond.methodLink RX1 115 yX1_isOver ∈ wsL_law := List.mem_of_getElem? (i := 255) (by decide +kernel)
theorem wd256 : Cond.methodLink RX1 119 yX1_beginTurn ∈ wsL_law := List.mem_of_getElem? (i := 256) (by decide +kernel)
theorem wd257 : Cond.instanceMethod yX1_beginTurn ∈ wsL_law := List.mem_of_getElem? (i := 257) (by decide +kernel)
theorem wd258 : Cond.selects RX1 yX1_beginTurn yX1_beginTurn ∈ wsL_law := List.mem_of_getElem? (i := 258) (by decide +kernel)
theorem wd259 : Cond.code yX1_beginTurn cX1_beginTurn 1 none ∈ wsL_law := List.mem_of_getElem? (i := 259) (by decide +kernel)
theorem wd260 : Cond.instanceMethod yX0_mend ∈ wsL_law := List.mem_of_getElem? (i := 260) (by decide +kernel)
theorem wd261 : Cond.selects RX0 yX0_mend yX0_mend ∈ wsL_law := List.mem_of_getElem? (i := 261) (by decide +kernel)
theorem wd262 : Cond.code yX0_mend cX0_mend 4 none ∈ wsL_law := List.mem_of_getElem? (i := 262) (by decide +kernel)
theorem wd263 : Cond.methodLink RL 31 yX6_move ∈ wsL_law := List.mem_of_getElem? (i := 263) (by decide +kernel)
theorem wd264 : Cond.instanceMethod yX6_move ∈ wsL_law := List.mem_of_getElem? (i := 264) (by decide +kernel)
theorem wd265 : Cond.selects RX6 yX6_move yX6_move ∈ wsL_law := List.mem_of_getElem? (i := 265) (by decide +kernel)
theorem wd266 : Cond.code yX6_move cX6_move 3 (some .int) ∈ wsL_law := List.mem_of_getElem? (i := 266) (by decide +kernel)
theorem wd267 : Cond.methodLink RX6 88 yX6_whyNot ∈ wsL_law := List.mem_of_getElem? (i := 267) (by decide +kernel)
theorem wd268 : Cond.instanceMethod yX6_whyNot ∈ wsL_law := List.mem_of_getElem? (i := 268) (by decide +kernel)
theorem wd269 : Cond.selects RX6 yX6_whyNot yX6_whyNot ∈ wsL_law := List.mem_of_getElem? (i := 269) (by decide +kernel)
theorem wd270 : Cond.code yX6_whyNot cX6_whyNot 7 (some .int) ∈ wsL_law := List.mem_of_getElem? (i := 270) (by decide +kernel)
theorem wd271 : Cond.fieldLink RX6 78 "BridgedPachisiModel" "goal" "I" ∈ wsL_law := List.mem_of_getElem? (i := 271) (by decide +kernel)
theorem wd272 : Cond.methodLink RX6 74 yX6_stepOn ∈ wsL_law := List.mem_of_getElem? (i := 272) (by decide +kernel)
theorem wd273 : Cond.instanceMethod yX6_stepOn ∈ wsL_law := List.mem_of_getElem? (i := 273) (by decide +kernel)
theorem wd274 : Cond.selects RX6 yX6_stepOn yX6_stepOn ∈ wsL_law := List.mem_of_getElem? (i := 274) (by decide +kernel)
theorem wd275 : Cond.code yX6_stepOn cX6_stepOn 8 (some .int) ∈ wsL_law := List.mem_of_getElem? (i := 275) (by decide +kernel)
theorem wd276 : Cond.methodLink RX6 36 yX6_fieldAt ∈ wsL_law := List.mem_of_getElem? (i := 276) (by decide +kernel)
theorem wd277 : Cond.static yX6_fieldAt ∈ wsL_law := List.mem_of_getElem? (i := 277) (by decide +kernel)
theorem wd278 : Cond.code yX6_fieldAt cX6_fieldAt 2 (some .int) ∈ wsL_law := List.mem_of_getElem? (i := 278) (by decide +kernel)
theorem wd279 : Cond.methodLink RX6 71 yX6_isFallen ∈ wsL_law := List.mem_of_getElem? (i := 279) (by decide +kernel)
theorem wd280 : Cond.instanceMethod yX6_isFallen ∈ wsL_law := List.mem_of_getElem? (i := 280) (by decide +kernel)
theorem wd281 : Cond.selects RX6 yX6_isFallen yX6_isFallen ∈ wsL_law := List.mem_of_getElem? (i := 281) (by decide +kernel)
theorem wd282 : Cond.code yX6_isFallen cX6_isFallen 2 (some .boolean) ∈ wsL_law := List.mem_of_getElem? (i := 282) (by decide +kernel)
theorem wd283 : Cond.methodLink RX6 40 yX6_isBridge ∈ wsL_law := List.mem_of_getElem? (i := 283) (by decide +kernel)
theorem wd284 : Cond.static yX6_isBridge ∈ wsL_law := List.mem_of_getElem? (i := 284) (by decide +kernel)
theorem wd285 : Cond.code yX6_isBridge cX6_isBridge 1 (some .boolean) ∈ wsL_law := List.mem_of_getElem? (i := 285) (by decide +kernel)
theorem wd286 : Cond.methodLink RX6 81 yX6_isBlocked ∈ wsL_law := List.mem_of_getElem? (i := 286) (by decide +kernel)
theorem wd287 : Cond.instanceMethod yX6_isBlocked ∈ wsL_law := List.mem_of_getElem? (i := 287) (by decide +kernel)
theorem wd288 : Cond.selects RX6 yX6_isBlocked yX6_isBlocked ∈ wsL_law := List.mem_of_getElem? (i := 288) (by decide +kernel)
theorem wd289 : Cond.code yX6_isBlocked cX6_isBlocked 5 (some .boolean) ∈ wsL_law := List.mem_of_getElem? (i := 289) (by decide +kernel)
theorem wd290 : Cond.methodLink RX6 48 yX6_piecesOn ∈ wsL_law := List.mem_of_getElem? (i := 290) (by decide +kernel)
theorem wd291 : Cond.instanceMethod yX6_piecesOn ∈ wsL_law := List.mem_of_getElem? (i := 291) (by decide +kernel)
theorem wd292 : Cond.selects RX6 yX6_piecesOn yX6_piecesOn ∈ wsL_law := List.mem_of_getElem? (i := 292) (by decide +kernel)
theorem wd293 : Cond.code yX6_piecesOn cX6_piecesOn 5 (some .int) ∈ wsL_law := List.mem_of_getElem? (i := 293) (by decide +kernel)
theorem wd294 : Cond.methodLink RX6 44 yX6_fieldOf ∈ wsL_law := List.mem_of_getElem? (i := 294) (by decide +kernel)
theorem wd295 : Cond.instanceMethod yX6_fieldOf ∈ wsL_law := List.mem_of_getElem? (i := 295) (by decide +kernel)
theorem wd296 : Cond.selects RX6 yX6_fieldOf yX6_fieldOf ∈ wsL_law := List.mem_of_getElem? (i := 296) (by decide +kernel)
theorem wd297 : Cond.code yX6_fieldOf cX6_fieldOf 2 (some .int) ∈ wsL_law := List.mem_of_getElem? (i := 297) (by decide +kernel)
theorem wd298 : Cond.methodLink RX6 85 yX6_isSafe ∈ wsL_law := List.mem_of_getElem? (i := 298) (by decide +kernel)
theorem wd299 : Cond.static yX6_isSafe ∈ wsL_law := List.mem_of_getElem? (i := 299) (by decide +kernel)
theorem wd300 : Cond.code yX6_isSafe cX6_isSafe 1 (some .boolean) ∈ wsL_law := List.mem_of_getElem? (i := 300) (by decide +kernel)
theorem wd301 : Cond.methodLink RX6 61 yX6_allOn ∈ wsL_law := List.mem_of_getElem? (i := 301) (by decide +kernel)
theorem wd302 : Cond.instanceMethod yX6_allOn ∈ wsL_law := List.mem_of_getElem? (i := 302) (by decide +kernel)
theorem wd303 : Cond.selects RX6 yX6_allOn yX6_allOn ∈ wsL_law := List.mem_of_getElem? (i := 303) (by decide +kernel)
theorem wd304 : Cond.code yX6_allOn cX6_allOn 4 (some .int) ∈ wsL_law := List.mem_of_getElem? (i := 304) (by decide +kernel)
theorem wd305 : Cond.methodLink RX6 124 yX6_doMove ∈ wsL_law := List.mem_of_getElem? (i := 305) (by decide +kernel)
theorem wd306 : Cond.instanceMethod yX6_doMove ∈ wsL_law := List.mem_of_getElem? (i := 306) (by decide +kernel)
theorem wd307 : Cond.selects RX6 yX6_doMove yX6_doMove ∈ wsL_law := List.mem_of_getElem? (i := 307) (by decide +kernel)
theorem wd308 : Cond.code yX6_doMove cX6_doMove 4 none ∈ wsL_law := List.mem_of_getElem? (i := 308) (by decide +kernel)
theorem wd309 : Cond.methodLink RX6 91 yX6_otherOn ∈ wsL_law := List.mem_of_getElem? (i := 309) (by decide +kernel)
theorem wd310 : Cond.instanceMethod yX6_otherOn ∈ wsL_law := List.mem_of_getElem? (i := 310) (by decide +kernel)
theorem wd311 : Cond.selects RX6 yX6_otherOn yX6_otherOn ∈ wsL_law := List.mem_of_getElem? (i := 311) (by decide +kernel)
theorem wd312 : Cond.code yX6_otherOn cX6_otherOn 5 (some .int) ∈ wsL_law := List.mem_of_getElem? (i := 312) (by decide +kernel)
theorem wd313 : Cond.methodLink RX6 94 yX6_lookAtBridges ∈ wsL_law := List.mem_of_getElem? (i := 313) (by decide +kernel)
theorem wd314 : Cond.instanceMethod yX6_lookAtBridges ∈ wsL_law := List.mem_of_getElem? (i := 314) (by decide +kernel)
theorem wd315 : Cond.selects RX6 yX6_lookAtBridges yX6_lookAtBridges ∈ wsL_law := List.mem_of_getElem? (i := 315) (by decide +kernel)
theorem wd316 : Cond.code yX6_lookAtBridges cX6_lookAtBridges 3 none ∈ wsL_law := List.mem_of_getElem? (i := 316) (by decide +kernel)
theorem wd317 : Cond.methodLink RX6 58 yX6_isPairOn ∈ wsL_law := List.mem_of_getElem? (i := 317) (by decide +kernel)
theorem wd318 : Cond.instanceMethod yX6_isPairOn ∈ wsL_law := List.mem_of_getElem? (i := 318) (by decide +kernel)
theorem wd319 : Cond.selects RX6 yX6_isPairOn yX6_isPairOn ∈ wsL_law := List.mem_of_getElem? (i := 319) (by decide +kernel)
theorem wd320 : Cond.code yX6_isPairOn cX6_isPairOn 4 (some .boolean) ∈ wsL_law := List.mem_of_getElem? (i := 320) (by decide +kernel)
theorem wd321 : Cond.methodLink RX6 128 yX6_goOn ∈ wsL_law := List.mem_of_getElem? (i := 321) (by decide +kernel)
theorem wd322 : Cond.instanceMethod yX6_goOn ∈ wsL_law := List.mem_of_getElem? (i := 322) (by decide +kernel)
theorem wd323 : Cond.selects RX6 yX6_goOn yX6_goOn ∈ wsL_law := List.mem_of_getElem? (i := 323) (by decide +kernel)
theorem wd324 : Cond.code yX6_goOn cX6_goOn 3 none ∈ wsL_law := List.mem_of_getElem? (i := 324) (by decide +kernel)
theorem wd325 : Cond.methodLink RL 32 yX5_skip ∈ wsL_law := List.mem_of_getElem? (i := 325) (by decide +kernel)
theorem wd326 : Cond.instanceMethod yX5_skip ∈ wsL_law := List.mem_of_getElem? (i := 326) (by decide +kernel)
theorem wd327 : Cond.selects RX5 yX5_skip yX5_skip ∈ wsL_law := List.mem_of_getElem? (i := 327) (by decide +kernel)
theorem wd328 : Cond.code yX5_skip cX5_skip 1 (some .int) ∈ wsL_law := List.mem_of_getElem? (i := 328) (by decide +kernel)
theorem wd329 : Cond.instanceMethod yX1_canMoveBy ∈ wsL_law := List.mem_of_getElem? (i := 329) (by decide +kernel)
theorem wd330 : Cond.selects RX1 yX1_canMoveBy yX1_canMoveBy ∈ wsL_law := List.mem_of_getElem? (i := 330) (by decide +kernel)
theorem wd331 : Cond.code yX1_canMoveBy cX1_canMoveBy 3 (some .boolean) ∈ wsL_law := List.mem_of_getElem? (i := 331) (by decide +kernel)
theorem wd332 : Cond.methodLink RX1 81 yX1_reason ∈ wsL_law := List.mem_of_getElem? (i := 332) (by decide +kernel)
theorem wd333 : Cond.methodLink RL 35 yX6_skip ∈ wsL_law := List.mem_of_getElem? (i := 333) (by decide +kernel)
theorem wd334 : Cond.instanceMethod yX6_skip ∈ wsL_law := List.mem_of_getElem? (i := 334) (by decide +kernel)
theorem wd335 : Cond.selects RX6 yX6_skip yX6_skip ∈ wsL_law := List.mem_of_getElem? (i := 335) (by decide +kernel)
theorem wd336 : Cond.code yX6_skip cX6_skip 1 (some .int) ∈ wsL_law := List.mem_of_getElem? (i := 336) (by decide +kernel)
theorem wd337 : Cond.methodLink RX6 131 yX6_canMove ∈ wsL_law := List.mem_of_getElem? (i := 337) (by decide +kernel)
theorem wd338 : Cond.instanceMethod yX6_canMove ∈ wsL_law := List.mem_of_getElem? (i := 338) (by decide +kernel)
theorem wd339 : Cond.selects RX6 yX6_canMove yX6_canMove ∈ wsL_law := List.mem_of_getElem? (i := 339) (by decide +kernel)
theorem wd340 : Cond.code yX6_canMove cX6_canMove 4 (some .boolean) ∈ wsL_law := List.mem_of_getElem? (i := 340) (by decide +kernel)
theorem wd341 : Cond.methodLink RL 36 yX5_play ∈ wsL_law := List.mem_of_getElem? (i := 341) (by decide +kernel)
theorem wd342 : Cond.instanceMethod yX5_play ∈ wsL_law := List.mem_of_getElem? (i := 342) (by decide +kernel)
theorem wd343 : Cond.selects RX5 yX5_play yX5_play ∈ wsL_law := List.mem_of_getElem? (i := 343) (by decide +kernel)
theorem wd344 : Cond.code yX5_play cX5_play 2 (some .int) ∈ wsL_law := List.mem_of_getElem? (i := 344) (by decide +kernel)
theorem wd345 : Cond.instanceMethod yX1_playOn ∈ wsL_law := List.mem_of_getElem? (i := 345) (by decide +kernel)
theorem wd346 : Cond.selects RX1 yX1_playOn yX1_playOn ∈ wsL_law := List.mem_of_getElem? (i := 346) (by decide +kernel)
theorem wd347 : Cond.code yX1_playOn cX1_playOn 4 (some .int) ∈ wsL_law := List.mem_of_getElem? (i := 347) (by decide +kernel)
theorem wd348 : Cond.methodLink RX1 125 yX1_throwByX ∈ wsL_law := List.mem_of_getElem? (i := 348) (by decide +kernel)
theorem wd349 : Cond.methodLink RX1 128 yX1_bestPiece ∈ wsL_law := List.mem_of_getElem? (i := 349) (by decide +kernel)
theorem wd350 : Cond.instanceMethod yX1_bestPiece ∈ wsL_law := List.mem_of_getElem? (i := 350) (by decide +kernel)
theorem wd351 : Cond.selects RX1 yX1_bestPiece yX1_bestPiece ∈ wsL_law := List.mem_of_getElem? (i := 351) (by decide +kernel)
theorem wd352 : Cond.code yX1_bestPiece cX1_bestPiece 5 (some .int) ∈ wsL_law := List.mem_of_getElem? (i := 352) (by decide +kernel)
theorem wd353 : Cond.methodLink RX1 84 yX1_worthOfMove ∈ wsL_law := List.mem_of_getElem? (i := 353) (by decide +kernel)
theorem wd354 : Cond.instanceMethod yX1_worthOfMove ∈ wsL_law := List.mem_of_getElem? (i := 354) (by decide +kernel)
theorem wd355 : Cond.selects RX1 yX1_worthOfMove yX1_worthOfMove ∈ wsL_law := List.mem_of_getElem? (i := 355) (by decide +kernel)
theorem wd356 : Cond.code yX1_worthOfMove cX1_worthOfMove 5 (some .int) ∈ wsL_law := List.mem_of_getElem? (i := 356) (by decide +kernel)
theorem wd357 : Cond.static yX5_isOnRing ∈ wsL_law := List.mem_of_getElem? (i := 357) (by decide +kernel)
theorem wd358 : Cond.code yX5_isOnRing cX5_isOnRing 1 (some .boolean) ∈ wsL_law := List.mem_of_getElem? (i := 358) (by decide +kernel)
theorem wd359 : Cond.methodLink RX1 131 yX1_moveByThrow ∈ wsL_law := List.mem_of_getElem? (i := 359) (by decide +kernel)
theorem wd360 : Cond.methodLink RL 39 yX6_play ∈ wsL_law := List.mem_of_getElem? (i := 360) (by decide +kernel)
theorem wd361 : Cond.instanceMethod yX6_play ∈ wsL_law := List.mem_of_getElem? (i := 361) (by decide +kernel)
theorem wd362 : Cond.selects RX6 yX6_play yX6_play ∈ wsL_law := List.mem_of_getElem? (i := 362) (by decide +kernel)
theorem wd363 : Cond.code yX6_play cX6_play 2 (some .int) ∈ wsL_law := List.mem_of_getElem? (i := 363) (by decide +kernel)
theorem wd364 : Cond.methodLink RX6 137 yX6_doPlay ∈ wsL_law := List.mem_of_getElem? (i := 364) (by decide +kernel)
theorem wd365 : Cond.instanceMethod yX6_doPlay ∈ wsL_law := List.mem_of_getElem? (i := 365) (by decide +kernel)
theorem wd366 : Cond.selects RX6 yX6_doPlay yX6_doPlay ∈ wsL_law := List.mem_of_getElem? (i := 366) (by decide +kernel)
theorem wd367 : Cond.code yX6_doPlay cX6_doPlay 4 (some .int) ∈ wsL_law := List.mem_of_getElem? (i := 367) (by decide +kernel)
theorem wd368 : Cond.methodLink RX6 134 yX6_bestPiece ∈ wsL_law := List.mem_of_getElem? (i := 368) (by decide +kernel)
theorem wd369 : Cond.instanceMethod yX6_bestPiece ∈ wsL_law := List.mem_of_getElem? (i := 369) (by decide +kernel)
theorem wd370 : Cond.selects RX6 yX6_bestPiece yX6_bestPiece ∈ wsL_law := List.mem_of_getElem? (i := 370) (by decide +kernel)
theorem wd371 : Cond.code yX6_bestPiece cX6_bestPiece 6 (some .int) ∈ wsL_law := List.mem_of_getElem? (i := 371) (by decide +kernel)
theorem wd372 : Cond.methodLink RX6 161 yX6_kindOf ∈ wsL_law := List.mem_of_getElem? (i := 372) (by decide +kernel)
theorem wd373 : Cond.instanceMethod yX6_kindOf ∈ wsL_law := List.mem_of_getElem? (i := 373) (by decide +kernel)
theorem wd374 : Cond.selects RX6 yX6_kindOf yX6_kindOf ∈ wsL_law := List.mem_of_getElem? (i := 374) (by decide +kernel)
theorem wd375 : Cond.code yX6_kindOf cX6_kindOf 6 (some .int) ∈ wsL_law := List.mem_of_getElem? (i := 375) (by decide +kernel)
theorem wd376 : Cond.methodLink RL 40 yX5_read ∈ wsL_law := List.mem_of_getElem? (i := 376) (by decide +kernel)
theorem wd377 : Cond.instanceMethod yX5_read ∈ wsL_law := List.mem_of_getElem? (i := 377) (by decide +kernel)
theorem wd378 : Cond.selects RX5 yX5_read yX5_read ∈ wsL_law := List.mem_of_getElem? (i := 378) (by decide +kernel)
theorem wd379 : Cond.code yX5_read cX5_read 2 (some .int) ∈ wsL_law := List.mem_of_getElem? (i := 379) (by decide +kernel)
theorem wd380 : Cond.instanceMethod yX3_faultIndex ∈ wsL_law := List.mem_of_getElem? (i := 380) (by decide +kernel)
theorem wd381 : Cond.selects RX3 yX3_faultIndex yX3_faultIndex ∈ wsL_law := List.mem_of_getElem? (i := 381) (by decide +kernel)
theorem wd382 : Cond.code yX3_faultIndex cX3_faultIndex 2 (some .int) ∈ wsL_law := List.mem_of_getElem? (i := 382) (by decide +kernel)
theorem wd383 : Cond.methodLink RX3 21 yX3_isCast ∈ wsL_law := List.mem_of_getElem? (i := 383) (by decide +kernel)
theorem wd384 : Cond.static yX3_isCast ∈ wsL_law := List.mem_of_getElem? (i := 384) (by decide +kernel)
theorem wd385 : Cond.code yX3_isCast cX3_isCast 1 (some .boolean) ∈ wsL_law := List.mem_of_getElem? (i := 385) (by decide +kernel)
theorem wd386 : Cond.methodLink RX3 25 yX3_isPieceOrPass ∈ wsL_law := List.mem_of_getElem? (i := 386) (by decide +kernel)
theorem wd387 : Cond.static yX3_isPieceOrPass ∈ wsL_law := List.mem_of_getElem? (i := 387) (by decide +kernel)
theorem wd388 : Cond.code yX3_isPieceOrPass cX3_isPieceOrPass 1 (some .boolean) ∈ wsL_law := List.mem_of_getElem? (i := 388) (by decide +kernel)
theorem wd389 : Cond.instanceMethod yX3_moves ∈ wsL_law := List.mem_of_getElem? (i := 389) (by decide +kernel)
theorem wd390 : Cond.selects RX3 yX3_moves yX3_moves ∈ wsL_law := List.mem_of_getElem? (i := 390) (by decide +kernel)
theorem wd391 : Cond.code yX3_moves cX3_moves 1 (some .int) ∈ wsL_law := List.mem_of_getElem? (i := 391) (by decide +kernel)
theorem wd392 : Cond.instanceMethod yX3_castOfMove ∈ wsL_law := List.mem_of_getElem? (i := 392) (by decide +kernel)
theorem wd393 : Cond.selects RX3 yX3_castOfMove yX3_castOfMove ∈ wsL_law := List.mem_of_getElem? (i := 393) (by decide +kernel)
theorem wd394 : Cond.code yX3_castOfMove cX3_castOfMove 2 (some .int) ∈ wsL_law := List.mem_of_getElem? (i := 394) (by decide +kernel)
theorem wd395 : Cond.instanceMethod yX3_pieceOfMove ∈ wsL_law := List.mem_of_getElem? (i := 395) (by decide +kernel)
theorem wd396 : Cond.selects RX3 yX3_pieceOfMove yX3_pieceOfMove ∈ wsL_law := List.mem_of_getElem? (i := 396) (by decide +kernel)
theorem wd397 : Cond.code yX3_pieceOfMove cX3_pieceOfMove 3 (some .int) ∈ wsL_law := List.mem_of_getElem? (i := 397) (by decide +kernel)
theorem wd398 : Cond.instanceMethod yX1_makeMove ∈ wsL_law := List.mem_of_getElem? (i := 398) (by decide +kernel)
theorem wd399 : Cond.selects RX1 yX1_makeMove yX1_makeMove ∈ wsL_law := List.mem_of_getElem? (i := 399) (by decide +kernel)
theorem wd400 : Cond.code yX1_makeMove cX1_makeMove 4 (some .boolean) ∈ wsL_law := List.mem_of_getElem? (i := 400) (by decide +kernel)
theorem wd401 : Cond.methodLink RX1 134 yX1_canMoveBy ∈ wsL_law := List.mem_of_getElem? (i := 401) (by decide +kernel)
theorem wd402 : Cond.methodLink RL 43 yX6_read ∈ wsL_law := List.mem_of_getElem? (i := 402) (by decide +kernel)
theorem wd403 : Cond.instanceMethod yX6_read ∈ wsL_law := List.mem_of_getElem? (i := 403) (by decide +kernel)
theorem wd404 : Cond.selects RX6 yX6_read yX6_read ∈ wsL_law := List.mem_of_getElem? (i := 404) (by decide +kernel)
theorem wd405 : Cond.code yX6_read cX6_read 6 (some .int) ∈ wsL_law := List.mem_of_getElem? (i := 405) (by decide +kernel)
theorem wd406 : Cond.fieldLink RX6 143 "BridgedPachisiModel" "length" "I" ∈ wsL_law := List.mem_of_getElem? (i := 406) (by decide +kernel)
theorem wd407 : Cond.methodLink RX6 140 yX6_findFault ∈ wsL_law := List.mem_of_getElem? (i := 407) (by decide +kernel)
theorem wd408 : Cond.instanceMethod yX6_findFault ∈ wsL_law := List.mem_of_getElem? (i := 408) (by decide +kernel)
theorem wd409 : Cond.selects RX6 yX6_findFault yX6_findFault ∈ wsL_law := List.mem_of_getElem? (i := 409) (by decide +kernel)
theorem wd410 : Cond.code yX6_findFault cX6_findFault 3 (some .int) ∈ wsL_law := List.mem_of_getElem? (i := 410) (by decide +kernel)
theorem wd411 : Cond.methodLink RL 44 yX5_lay ∈ wsL_law := List.mem_of_getElem? (i := 411) (by decide +kernel)
theorem wd412 : Cond.instanceMethod yX5_lay ∈ wsL_law := List.mem_of_getElem? (i := 412) (by decide +kernel)
theorem wd413 : Cond.selects RX5 yX5_lay yX5_lay ∈ wsL_law := List.mem_of_getElem? (i := 413) (by decide +kernel)
theorem wd414 : Cond.code yX5_lay cX5_lay 4 (some .int) ∈ wsL_law := List.mem_of_getElem? (i := 414) (by decide +kernel)
theorem wd415 : Cond.methodLink RX5 116 yX5_isNoPiece ∈ wsL_law := List.mem_of_getElem? (i := 415) (by decide +kernel)
theorem wd416 : Cond.static yX5_isNoPiece ∈ wsL_law := List.mem_of_getElem? (i := 416) (by decide +kernel)
theorem wd417 : Cond.code yX5_isNoPiece cX5_isNoPiece 1 (some .boolean) ∈ wsL_law := List.mem_of_getElem? (i := 417) (by decide +kernel)
theorem wd418 : Cond.instanceMethod yX0_hasRoomFor ∈ wsL_law := List.mem_of_getElem? (i := 418) (by decide +kernel)
theorem wd419 : Cond.selects RX0 yX0_hasRoomFor yX0_hasRoomFor ∈ wsL_law := List.mem_of_getElem? (i := 419) (by decide +kernel)
theorem wd420 : Cond.code yX0_hasRoomFor cX0_hasRoomFor 4 (some .boolean) ∈ wsL_law := List.mem_of_getElem? (i := 420) (by decide +kernel)
theorem wd421 : Cond.methodLink RX0 48 yX0_isFullFor ∈ wsL_law := List.mem_of_getElem? (i := 421) (by decide +kernel)
theorem wd422 : Cond.methodLink RL 47 yX6_lay ∈ wsL_law := List.mem_of_getElem? (i := 422) (by decide +kernel)
theorem wd423 : Cond.instanceMethod yX6_lay ∈ wsL_law := List.mem_of_getElem? (i := 423) (by decide +kernel)
theorem wd424 : Cond.selects RX6 yX6_lay yX6_lay ∈ wsL_law := List.mem_of_getElem? (i := 424) (by decide +kernel)
theorem wd425 : Cond.code yX6_lay cX6_lay 7 (some .int) ∈ wsL_law := List.mem_of_getElem? (i := 425) (by decide +kernel)
theorem wd426 : Cond.methodLink RX6 146 yX6_isPiece ∈ wsL_law := List.mem_of_getElem? (i := 426) (by decide +kernel)
theorem wd427 : Cond.static yX6_isPiece ∈ wsL_law := List.mem_of_getElem? (i := 427) (by decide +kernel)
theorem wd428 : Cond.code yX6_isPiece cX6_isPiece 1 (some .boolean) ∈ wsL_law := List.mem_of_getElem? (i := 428) (by decide +kernel)
theorem wd429 : Cond.methodLink RL 48 yX5_piece ∈ wsL_law := List.mem_of_getElem? (i := 429) (by decide +kernel)
theorem wd430 : Cond.instanceMethod yX5_piece ∈ wsL_law := List.mem_of_getElem? (i := 430) (by decide +kernel)
theorem wd431 : Cond.selects RX5 yX5_piece yX5_piece ∈ wsL_law := List.mem_of_getElem? (i := 431) (by decide +kernel)
theorem wd432 : Cond.code yX5_piece cX5_piece 3 (some .int) ∈ wsL_law := List.mem_of_getElem? (i := 432) (by decide +kernel)
theorem wd433 : Cond.instanceMethod yX0_fieldOf ∈ wsL_law := List.mem_of_getElem? (i := 433) (by decide +kernel)
theorem wd434 : Cond.selects RX0 yX0_fieldOf yX0_fieldOf ∈ wsL_law := List.mem_of_getElem? (i := 434) (by decide +kernel)
theorem wd435 : Cond.code yX0_fieldOf cX0_fieldOf 2 (some .int) ∈ wsL_law := List.mem_of_getElem? (i := 435) (by decide +kernel)
theorem wd436 : Cond.instanceMethod yX0_isInPair ∈ wsL_law := List.mem_of_getElem? (i := 436) (by decide +kernel)
theorem wd437 : Cond.selects RX0 yX0_isInPair yX0_isInPair ∈ wsL_law := List.mem_of_getElem? (i := 437) (by decide +kernel)
theorem wd438 : Cond.code yX0_isInPair cX0_isInPair 2 (some .boolean) ∈ wsL_law := List.mem_of_getElem? (i := 438) (by decide +kernel)
theorem wd439 : Cond.methodLink RL 51 yX6_piece ∈ wsL_law := List.mem_of_getElem? (i := 439) (by decide +kernel)
theorem wd440 : Cond.instanceMethod yX6_piece ∈ wsL_law := List.mem_of_getElem? (i := 440) (by decide +kernel)
theorem wd441 : Cond.selects RX6 yX6_piece yX6_piece ∈ wsL_law := List.mem_of_getElem? (i := 441) (by decide +kernel)
theorem wd442 : Cond.code yX6_piece cX6_piece 3 (some .int) ∈ wsL_law := List.mem_of_getElem? (i := 442) (by decide +kernel)
theorem wd443 : Cond.methodLink RL 52 yX5_field ∈ wsL_law := List.mem_of_getElem? (i := 443) (by decide +kernel)
theorem wd444 : Cond.instanceMethod yX5_field ∈ wsL_law := List.mem_of_getElem? (i := 444) (by decide +kernel)
theorem wd445 : Cond.selects RX5 yX5_field yX5_field ∈ wsL_law := List.mem_of_getElem? (i := 445) (by decide +kernel)
theorem wd446 : Cond.code yX5_field cX5_field 3 (some .int) ∈ wsL_law := List.mem_of_getElem? (i := 446) (by decide +kernel)
theorem wd447 : Cond.instanceMethod yX0_lowestOn ∈ wsL_law := List.mem_of_getElem? (i := 447) (by decide +kernel)
theorem wd448 : Cond.selects RX0 yX0_lowestOn yX0_lowestOn ∈ wsL_law := List.mem_of_getElem? (i := 448) (by decide +kernel)
theorem wd449 : Cond.code yX0_lowestOn cX0_lowestOn 3 (some .int) ∈ wsL_law := List.mem_of_getElem? (i := 449) (by decide +kernel)
theorem wd450 : Cond.methodLink RX5 153 yX5_isSafe ∈ wsL_law := List.mem_of_getElem? (i := 450) (by decide +kernel)
theorem wd451 : Cond.instanceMethod yX1_turnsUntilMended ∈ wsL_law := List.mem_of_getElem? (i := 451) (by decide +kernel)
theorem wd452 : Cond.selects RX1 yX1_turnsUntilMended yX1_turnsUntilMended ∈ wsL_law := List.mem_of_getElem? (i := 452) (by decide +kernel)
theorem wd453 : Cond.code yX1_turnsUntilMended cX1_turnsUntilMended 3 (some .int) ∈ wsL_law := List.mem_of_getElem? (i := 453) (by decide +kernel)
theorem wd454 : Cond.methodLink RX1 146 Lib.Math.max.name ∈ wsL_law := List.mem_of_getElem? (i := 454) (by decide +kernel)
theorem wd455 : Cond.static Lib.Math.max.name ∈ wsL_law := List.mem_of_getElem? (i := 455) (by decide +kernel)
theorem wd456 : Cond.code Lib.Math.max.name Lib.Math.max.code 2 (some .int) ∈ wsL_law := List.mem_of_getElem? (i := 456) (by decide +kernel)
theorem wd457 : Cond.methodLink RL 55 yX6_field ∈ wsL_law := List.mem_of_getElem? (i := 457) (by decide +kernel)
theorem wd458 : Cond.instanceMethod yX6_field ∈ wsL_law := List.mem_of_getElem? (i := 458) (by decide +kernel)
theorem wd459 : Cond.selects RX6 yX6_field yX6_field ∈ wsL_law := List.mem_of_getElem? (i := 459) (by decide +kernel)
theorem wd460 : Cond.code yX6_field cX6_field 3 (some .int) ∈ wsL_law := List.mem_of_getElem? (i := 460) (by decide +kernel)
theorem wd461 : Cond.methodLink RX6 149 yX6_lowestOn ∈ wsL_law := List.mem_of_getElem? (i := 461) (by decide +kernel)
theorem wd462 : Cond.instanceMethod yX6_lowestOn ∈ wsL_law := List.mem_of_getElem? (i := 462) (by decide +kernel)
theorem wd463 : Cond.selects RX6 yX6_lowestOn yX6_lowestOn ∈ wsL_law := List.mem_of_getElem? (i := 463) (by decide +kernel)
theorem wd464 : Cond.code yX6_lowestOn cX6_lowestOn 4 (some .int) ∈ wsL_law := List.mem_of_getElem? (i := 464) (by decide +kernel)
theorem wd465 : Cond.methodLink RX6 152 yX6_bridgeOn ∈ wsL_law := List.mem_of_getElem? (i := 465) (by decide +kernel)
theorem wd466 : Cond.instanceMethod yX6_bridgeOn ∈ wsL_law := List.mem_of_getElem? (i := 466) (by decide +kernel)
theorem wd467 : Cond.selects RX6 yX6_bridgeOn yX6_bridgeOn ∈ wsL_law := List.mem_of_getElem? (i := 467) (by decide +kernel)
theorem wd468 : Cond.code yX6_bridgeOn cX6_bridgeOn 3 (some .int) ∈ wsL_law := List.mem_of_getElem? (i := 468) (by decide +kernel)
theorem wd469 : Cond.methodLink RX6 155 yX6_mendedIn ∈ wsL_law := List.mem_of_getElem? (i := 469) (by decide +kernel)
theorem wd470 : Cond.instanceMethod yX6_mendedIn ∈ wsL_law := List.mem_of_getElem? (i := 470) (by decide +kernel)
theorem wd471 : Cond.selects RX6 yX6_mendedIn yX6_mendedIn ∈ wsL_law := List.mem_of_getElem? (i := 471) (by decide +kernel)
theorem wd472 : Cond.code yX6_mendedIn cX6_mendedIn 3 (some .int) ∈ wsL_law := List.mem_of_getElem? (i := 472) (by decide +kernel)
theorem wd473 : Cond.methodLink RL 56 yX5_why ∈ wsL_law := List.mem_of_getElem? (i := 473) (by decide +kernel)
theorem wd474 : Cond.instanceMethod yX5_why ∈ wsL_law := List.mem_of_getElem? (i := 474) (by decide +kernel)
theorem wd475 : Cond.selects RX5 yX5_why yX5_why ∈ wsL_law := List.mem_of_getElem? (i := 475) (by decide +kernel)
theorem wd476 : Cond.code yX5_why cX5_why 3 (some .int) ∈ wsL_law := List.mem_of_getElem? (i := 476) (by decide +kernel)
theorem wd477 : Cond.methodLink RL 59 yX6_why ∈ wsL_law := List.mem_of_getElem? (i := 477) (by decide +kernel)
theorem wd478 : Cond.instanceMethod yX6_why ∈ wsL_law := List.mem_of_getElem? (i := 478) (by decide +kernel)
theorem wd479 : Cond.selects RX6 yX6_why yX6_why ∈ wsL_law := List.mem_of_getElem? (i := 479) (by decide +kernel)
theorem wd480 : Cond.code yX6_why cX6_why 3 (some .int) ∈ wsL_law := List.mem_of_getElem? (i := 480) (by decide +kernel)
theorem wd481 : Cond.methodLink RL 60 yX5_count ∈ wsL_law := List.mem_of_getElem? (i := 481) (by decide +kernel)
theorem wd482 : Cond.instanceMethod yX5_count ∈ wsL_law := List.mem_of_getElem? (i := 482) (by decide +kernel)
theorem wd483 : Cond.selects RX5 yX5_count yX5_count ∈ wsL_law := List.mem_of_getElem? (i := 483) (by decide +kernel)
theorem wd484 : Cond.code yX5_count cX5_count 2 (some .int) ∈ wsL_law := List.mem_of_getElem? (i := 484) (by decide +kernel)
theorem wd485 : Cond.instanceMethod yX0_sentBackInAll ∈ wsL_law := List.mem_of_getElem? (i := 485) (by decide +kernel)
theorem wd486 : Cond.selects RX0 yX0_sentBackInAll yX0_sentBackInAll ∈ wsL_law := List.mem_of_getElem? (i := 486) (by decide +kernel)
theorem wd487 : Cond.code yX0_sentBackInAll cX0_sentBackInAll 3 (some .int) ∈ wsL_law := List.mem_of_getElem? (i := 487) (by decide +kernel)
theorem wd488 : Cond.instanceMethod yX0_fallenSet ∈ wsL_law := List.mem_of_getElem? (i := 488) (by decide +kernel)
theorem wd489 : Cond.selects RX0 yX0_fallenSet yX0_fallenSet ∈ wsL_law := List.mem_of_getElem? (i := 489) (by decide +kernel)
theorem wd490 : Cond.code yX0_fallenSet cX0_fallenSet 3 (some .int) ∈ wsL_law := List.mem_of_getElem? (i := 490) (by decide +kernel)
theorem wd491 : Cond.methodLink RL 63 yX6_count ∈ wsL_law := List.mem_of_getElem? (i := 491) (by decide +kernel)
theorem wd492 : Cond.instanceMethod yX6_count ∈ wsL_law := List.mem_of_getElem? (i := 492) (by decide +kernel)
theorem wd493 : Cond.selects RX6 yX6_count yX6_count ∈ wsL_law := List.mem_of_getElem? (i := 493) (by decide +kernel)
theorem wd494 : Cond.code yX6_count cX6_count 2 (some .int) ∈ wsL_law := List.mem_of_getElem? (i := 494) (by decide +kernel)
theorem wd495 : Cond.methodLink RX6 158 yX6_fallenBridges ∈ wsL_law := List.mem_of_getElem? (i := 495) (by decide +kernel)
theorem wd496 : Cond.instanceMethod yX6_fallenBridges ∈ wsL_law := List.mem_of_getElem? (i := 496) (by decide +kernel)
theorem wd497 : Cond.selects RX6 yX6_fallenBridges yX6_fallenBridges ∈ wsL_law := List.mem_of_getElem? (i := 497) (by decide +kernel)
theorem wd498 : Cond.code yX6_fallenBridges cX6_fallenBridges 3 (some .int) ∈ wsL_law := List.mem_of_getElem? (i := 498) (by decide +kernel)
theorem wd499 : Cond.methodLink RL 64 yX5_best ∈ wsL_law := List.mem_of_getElem? (i := 499) (by decide +kernel)
theorem wd500 : Cond.instanceMethod yX5_best ∈ wsL_law := List.mem_of_getElem? (i := 500) (by decide +kernel)
theorem wd501 : Cond.selects RX5 yX5_best yX5_best ∈ wsL_law := List.mem_of_getElem? (i := 501) (by decide +kernel)
theorem wd502 : Cond.code yX5_best cX5_best 2 (some .int) ∈ wsL_law := List.mem_of_getElem? (i := 502) (by decide +kernel)
theorem wd503 : Cond.methodLink RL 67 yX6_best ∈ wsL_law := List.mem_of_getElem? (i := 503) (by decide +kernel)
theorem wd504 : Cond.instanceMethod yX6_best ∈ wsL_law := List.mem_of_getElem? (i := 504) (by decide +kernel)
theorem wd505 : Cond.selects RX6 yX6_best yX6_best ∈ wsL_law := List.mem_of_getElem? (i := 505) (by decide +kernel)
theorem wd506 : Cond.code yX6_best cX6_best 1 (some .int) ∈ wsL_law := List.mem_of_getElem? (i := 506) (by decide +kernel)
theorem wd507 : Cond.methodLink RL 68 yX5_needs ∈ wsL_law := List.mem_of_getElem? (i := 507) (by decide +kernel)
theorem wd508 : Cond.instanceMethod yX5_needs ∈ wsL_law := List.mem_of_getElem? (i := 508) (by decide +kernel)
theorem wd509 : Cond.selects RX5 yX5_needs yX5_needs ∈ wsL_law := List.mem_of_getElem? (i := 509) (by decide +kernel)
theorem wd510 : Cond.code yX5_needs cX5_needs 7 (some .int) ∈ wsL_law := List.mem_of_getElem? (i := 510) (by decide +kernel)
theorem wd511 : Cond.instanceMethod yX4_fromHomeOn ∈ wsL_law := List.mem_of_getElem? (i := 511) (by decide +kernel)
theorem wd512 : Cond.selects RX4 yX4_fromHomeOn yX4_fromHomeOn ∈ wsL_law := List.mem_of_getElem? (i := 512) (by decide +kernel)
theorem wd513 : Cond.code yX4_fromHomeOn cX4_fromHomeOn 8 (some .int) ∈ wsL_law := List.mem_of_getElem? (i := 513) (by decide +kernel)
theorem wd514 : Cond.methodLink RX4 21 Lib.Math.min.name ∈ wsL_law := List.mem_of_getElem? (i := 514) (by decide +kernel)
theorem wd515 : Cond.instanceMethod yX4_goingWide ∈ wsL_law := List.mem_of_getElem? (i := 515) (by decide +kernel)
theorem wd516 : Cond.selects RX4 yX4_goingWide yX4_goingWide ∈ wsL_law := List.mem_of_getElem? (i := 516) (by decide +kernel)
theorem wd517 : Cond.code yX4_goingWide cX4_goingWide 5 (some .int) ∈ wsL_law := List.mem_of_getElem? (i := 517) (by decide +kernel)
theorem wd518 : Cond.methodLink RX4 27 yX4_widen ∈ wsL_law := List.mem_of_getElem? (i := 518) (by decide +kernel)
theorem wd519 : Cond.instanceMethod yX4_widen ∈ wsL_law := List.mem_of_getElem? (i := 519) (by decide +kernel)
theorem wd520 : Cond.selects RX4 yX4_widen yX4_widen ∈ wsL_law := List.mem_of_getElem? (i := 520) (by decide +kernel)
theorem wd521 : Cond.code yX4_widen cX4_widen 7 none ∈ wsL_law := List.mem_of_getElem? (i := 521) (by decide +kernel)
theorem wd522 : Cond.methodLink RL 71 yX6_needs ∈ wsL_law := List.mem_of_getElem? (i := 522) (by decide +kernel)
theorem wd523 : Cond.instanceMethod yX6_needs ∈ wsL_law := List.mem_of_getElem? (i := 523) (by decide +kernel)
theorem wd524 : Cond.selects RX6 yX6_needs yX6_needs ∈ wsL_law := List.mem_of_getElem? (i := 524) (by decide +kernel)
theorem wd525 : Cond.code yX6_needs cX6_needs 3 (some .int) ∈ wsL_law := List.mem_of_getElem? (i := 525) (by decide +kernel)
theorem wd526 : Cond.methodLink RX6 164 yX6_throwsNeeded ∈ wsL_law := List.mem_of_getElem? (i := 526) (by decide +kernel)
theorem wd527 : Cond.instanceMethod yX6_throwsNeeded ∈ wsL_law := List.mem_of_getElem? (i := 527) (by decide +kernel)
theorem wd528 : Cond.selects RX6 yX6_throwsNeeded yX6_throwsNeeded ∈ wsL_law := List.mem_of_getElem? (i := 528) (by decide +kernel)
theorem wd529 : Cond.code yX6_throwsNeeded cX6_throwsNeeded 6 (some .int) ∈ wsL_law := List.mem_of_getElem? (i := 529) (by decide +kernel)
theorem wd530 : Cond.methodLink RL 72 yX5_nextCast ∈ wsL_law := List.mem_of_getElem? (i := 530) (by decide +kernel)
theorem wd531 : Cond.instanceMethod yX5_nextCast ∈ wsL_law := List.mem_of_getElem? (i := 531) (by decide +kernel)
theorem wd532 : Cond.selects RX5 yX5_nextCast yX5_nextCast ∈ wsL_law := List.mem_of_getElem? (i := 532) (by decide +kernel)
theorem wd533 : Cond.code yX5_nextCast cX5_nextCast 4 (some .int) ∈ wsL_law := List.mem_of_getElem? (i := 533) (by decide +kernel)
theorem wd534 : Cond.methodLink RX5 193 yX5_nextX ∈ wsL_law := List.mem_of_getElem? (i := 534) (by decide +kernel)
theorem wd535 : Cond.methodLink RX5 196 yX5_castOf ∈ wsL_law := List.mem_of_getElem? (i := 535) (by decide +kernel)
theorem wd536 : Cond.methodLink RL 75 yX6_nextCast ∈ wsL_law := List.mem_of_getElem? (i := 536) (by decide +kernel)
theorem wd537 : Cond.instanceMethod yX6_nextCast ∈ wsL_law := List.mem_of_getElem? (i := 537) (by decide +kernel)
theorem wd538 : Cond.selects RX6 yX6_nextCast yX6_nextCast ∈ wsL_law := List.mem_of_getElem? (i := 538) (by decide +kernel)
theorem wd539 : Cond.code yX6_nextCast cX6_nextCast 5 (some .int) ∈ wsL_law := List.mem_of_getElem? (i := 539) (by decide +kernel)
theorem wd540 : Cond.methodLink RL 76 yX5_untilOver ∈ wsL_law := List.mem_of_getElem? (i := 540) (by decide +kernel)
theorem wd541 : Cond.instanceMethod yX5_untilOver ∈ wsL_law := List.mem_of_getElem? (i := 541) (by decide +kernel)
theorem wd542 : Cond.selects RX5 yX5_untilOver yX5_untilOver ∈ wsL_law := List.mem_of_getElem? (i := 542) (by decide +kernel)
theorem wd543 : Cond.code yX5_untilOver cX5_untilOver 2 (some .int) ∈ wsL_law := List.mem_of_getElem? (i := 543) (by decide +kernel)
theorem wd544 : Cond.methodLink RL 79 yX6_untilOver ∈ wsL_law := List.mem_of_getElem? (i := 544) (by decide +kernel)
theorem wd545 : Cond.instanceMethod yX6_untilOver ∈ wsL_law := List.mem_of_getElem? (i := 545) (by decide +kernel)
theorem wd546 : Cond.selects RX6 yX6_untilOver yX6_untilOver ∈ wsL_law := List.mem_of_getElem? (i := 546) (by decide +kernel)
theorem wd547 : Cond.code yX6_untilOver cX6_untilOver 3 (some .int) ∈ wsL_law := List.mem_of_getElem? (i := 547) (by decide +kernel)
theorem wd548 : Cond.methodLink RX6 167 yX6_putAside ∈ wsL_law := List.mem_of_getElem? (i := 548) (by decide +kernel)
theorem wd549 : Cond.instanceMethod yX6_putAside ∈ wsL_law := List.mem_of_getElem? (i := 549) (by decide +kernel)
theorem wd550 : Cond.selects RX6 yX6_putAside yX6_putAside ∈ wsL_law := List.mem_of_getElem? (i := 550) (by decide +kernel)
theorem wd551 : Cond.code yX6_putAside cX6_putAside 2 none ∈ wsL_law := List.mem_of_getElem? (i := 551) (by decide +kernel)
theorem wd552 : Cond.methodLink RX6 170 yX6_putBack ∈ wsL_law := List.mem_of_getElem? (i := 552) (by decide +kernel)
theorem wd553 : Cond.instanceMethod yX6_putBack ∈ wsL_law := List.mem_of_getElem? (i := 553) (by decide +kernel)
theorem wd554 : Cond.selects RX6 yX6_putBack yX6_putBack ∈ wsL_law := List.mem_of_getElem? (i := 554) (by decide +kernel)
theorem wd555 : Cond.code yX6_putBack cX6_putBack 2 none ∈ wsL_law := List.mem_of_getElem? (i := 555) (by decide +kernel)
theorem wd556 : Cond.methodLink RL 82 yX5_put ∈ wsL_law := List.mem_of_getElem? (i := 556) (by decide +kernel)
theorem wd557 : Cond.instanceMethod yX5_put ∈ wsL_law := List.mem_of_getElem? (i := 557) (by decide +kernel)
theorem wd558 : Cond.selects RX5 yX5_put yX5_put ∈ wsL_law := List.mem_of_getElem? (i := 558) (by decide +kernel)
theorem wd559 : Cond.code yX5_put cX5_put 4 (some .int) ∈ wsL_law := List.mem_of_getElem? (i := 559) (by decide +kernel)
theorem wd560 : Cond.methodLink RX5 202 yX5_lengthOf ∈ wsL_law := List.mem_of_getElem? (i := 560) (by decide +kernel)
theorem wd561 : Cond.static yX5_lengthOf ∈ wsL_law := List.mem_of_getElem? (i := 561) (by decide +kernel)
theorem wd562 : Cond.code yX5_lengthOf cX5_lengthOf 7 (some .int) ∈ wsL_law := List.mem_of_getElem? (i := 562) (by decide +kernel)
theorem wd563 : Cond.constantLong RX5 221 (255) ∈ wsL_law := List.mem_of_getElem? (i := 563) (by decide +kernel)
theorem wd564 : Cond.constantLong RX5 223 (33) ∈ wsL_law := List.mem_of_getElem? (i := 564) (by decide +kernel)
theorem wd565 : Cond.constantLong RX5 225 (126) ∈ wsL_law := List.mem_of_getElem? (i := 565) (by decide +kernel)
theorem wd566 : Cond.instanceMethod yX3_append ∈ wsL_law := List.mem_of_getElem? (i := 566) (by decide +kernel)
theorem wd567 : Cond.selects RX3 yX3_append yX3_append ∈ wsL_law := List.mem_of_getElem? (i := 567) (by decide +kernel)
theorem wd568 : Cond.code yX3_append cX3_append 5 none ∈ wsL_law := List.mem_of_getElem? (i := 568) (by decide +kernel)
theorem wd569 : Cond.constantLong RX3 19 (255) ∈ wsL_law := List.mem_of_getElem? (i := 569) (by decide +kernel)
theorem wd570 : Cond.methodLink RL 86 yX6_put ∈ wsL_law := List.mem_of_getElem? (i := 570) (by decide +kernel)
theorem wd571 : Cond.instanceMethod yX6_put ∈ wsL_law := List.mem_of_getElem? (i := 571) (by decide +kernel)
theorem wd572 : Cond.selects RX6 yX6_put yX6_put ∈ wsL_law := List.mem_of_getElem? (i := 572) (by decide +kernel)
theorem wd573 : Cond.code yX6_put cX6_put 8 (some .int) ∈ wsL_law := List.mem_of_getElem? (i := 573) (by decide +kernel)
theorem wd574 : Cond.constantLong RX6 173 (255) ∈ wsL_law := List.mem_of_getElem? (i := 574) (by decide +kernel)
theorem wd575 : Cond.methodLink RL 87 yX5_wipe ∈ wsL_law := List.mem_of_getElem? (i := 575) (by decide +kernel)
theorem wd576 : Cond.instanceMethod yX5_wipe ∈ wsL_law := List.mem_of_getElem? (i := 576) (by decide +kernel)
theorem wd577 : Cond.selects RX5 yX5_wipe yX5_wipe ∈ wsL_law := List.mem_of_getElem? (i := 577) (by decide +kernel)
theorem wd578 : Cond.code yX5_wipe cX5_wipe 2 (some .int) ∈ wsL_law := List.mem_of_getElem? (i := 578) (by decide +kernel)
theorem wd579 : Cond.methodLink RL 90 yX6_wipe ∈ wsL_law := List.mem_of_getElem? (i := 579) (by decide +kernel)
theorem wd580 : Cond.instanceMethod yX6_wipe ∈ wsL_law := List.mem_of_getElem? (i := 580) (by decide +kernel)
theorem wd581 : Cond.selects RX6 yX6_wipe yX6_wipe ∈ wsL_law := List.mem_of_getElem? (i := 581) (by decide +kernel)
theorem wd582 : Cond.code yX6_wipe cX6_wipe 2 (some .int) ∈ wsL_law := List.mem_of_getElem? (i := 582) (by decide +kernel)
theorem wd583 : Cond.methodLink RL 91 yX5_fault ∈ wsL_law := List.mem_of_getElem? (i := 583) (by decide +kernel)
theorem wd584 : Cond.instanceMethod yX5_fault ∈ wsL_law := List.mem_of_getElem? (i := 584) (by decide +kernel)
theorem wd585 : Cond.selects RX5 yX5_fault yX5_fault ∈ wsL_law := List.mem_of_getElem? (i := 585) (by decide +kernel)
theorem wd586 : Cond.code yX5_fault cX5_fault 1 (some .int) ∈ wsL_law := List.mem_of_getElem? (i := 586) (by decide +kernel)
theorem wd587 : Cond.methodLink RL 94 yX6_fault ∈ wsL_law := List.mem_of_getElem? (i := 587) (by decide +kernel)
theorem wd588 : Cond.instanceMethod yX6_fault ∈ wsL_law := List.mem_of_getElem? (i := 588) (by decide +kernel)
theorem wd589 : Cond.selects RX6 yX6_fault yX6_fault ∈ wsL_law := List.mem_of_getElem? (i := 589) (by decide +kernel)
theorem wd590 : Cond.code yX6_fault cX6_fault 1 (some .int) ∈ wsL_law := List.mem_of_getElem? (i := 590) (by decide +kernel)
theorem wd591 : Cond.methodLink RL 95 yX5_undo ∈ wsL_law := List.mem_of_getElem? (i := 591) (by decide +kernel)
theorem wd592 : Cond.instanceMethod yX5_undo ∈ wsL_law := List.mem_of_getElem? (i := 592) (by decide +kernel)
theorem wd593 : Cond.selects RX5 yX5_undo yX5_undo ∈ wsL_law := List.mem_of_getElem? (i := 593) (by decide +kernel)
theorem wd594 : Cond.code yX5_undo cX5_undo 1 (some .int) ∈ wsL_law := List.mem_of_getElem? (i := 594) (by decide +kernel)
theorem wd595 : Cond.instanceMethod yX2_takeBack ∈ wsL_law := List.mem_of_getElem? (i := 595) (by decide +kernel)
theorem wd596 : Cond.selects RX2 yX2_takeBack yX2_takeBack ∈ wsL_law := List.mem_of_getElem? (i := 596) (by decide +kernel)
theorem wd597 : Cond.code yX2_takeBack cX2_takeBack 4 (some .boolean) ∈ wsL_law := List.mem_of_getElem? (i := 597) (by decide +kernel)
theorem wd598 : Cond.methodLink RL 98 yX6_undo ∈ wsL_law := List.mem_of_getElem? (i := 598) (by decide +kernel)
theorem wd599 : Cond.instanceMethod yX6_undo ∈ wsL_law := List.mem_of_getElem? (i := 599) (by decide +kernel)
theorem wd600 : Cond.selects RX6 yX6_undo yX6_undo ∈ wsL_law := List.mem_of_getElem? (i := 600) (by decide +kernel)
theorem wd601 : Cond.code yX6_undo cX6_undo 2 (some .int) ∈ wsL_law := List.mem_of_getElem? (i := 601) (by decide +kernel)
theorem wd602 : Cond.methodLink RL 99 yX5_save ∈ wsL_law := List.mem_of_getElem? (i := 602) (by decide +kernel)
theorem wd603 : Cond.instanceMethod yX5_save ∈ wsL_law := List.mem_of_getElem? (i := 603) (by decide +kernel)
theorem wd604 : Cond.selects RX5 yX5_save yX5_save ∈ wsL_law := List.mem_of_getElem? (i := 604) (by decide +kernel)
theorem wd605 : Cond.code yX5_save cX5_save 3 (some .int) ∈ wsL_law := List.mem_of_getElem? (i := 605) (by decide +kernel)
theorem wd606 : Cond.methodLink RL 102 yX6_save ∈ wsL_law := List.mem_of_getElem? (i := 606) (by decide +kernel)
theorem wd607 : Cond.instanceMethod yX6_save ∈ wsL_law := List.mem_of_getElem? (i := 607) (by decide +kernel)
theorem wd608 : Cond.selects RX6 yX6_save yX6_save ∈ wsL_law := List.mem_of_getElem? (i := 608) (by decide +kernel)
theorem wd609 : Cond.code yX6_save cX6_save 3 (some .int) ∈ wsL_law := List.mem_of_getElem? (i := 609) (by decide +kernel)
theorem wd610 : Cond.methodLink RL 103 yX5_restore ∈ wsL_law := List.mem_of_getElem? (i := 610) (by decide +kernel)
theorem wd611 : Cond.instanceMethod yX5_restore ∈ wsL_law := List.mem_of_getElem? (i := 611) (by decide +kernel)
theorem wd612 : Cond.selects RX5 yX5_restore yX5_restore ∈ wsL_law := List.mem_of_getElem? (i := 612) (by decide +kernel)
theorem wd613 : Cond.code yX5_restore cX5_restore 3 (some .int) ∈ wsL_law := List.mem_of_getElem? (i := 613) (by decide +kernel)
theorem wd614 : Cond.methodLink RL 106 yX6_restore ∈ wsL_law := List.mem_of_getElem? (i := 614) (by decide +kernel)
theorem wd615 : Cond.instanceMethod yX6_restore ∈ wsL_law := List.mem_of_getElem? (i := 615) (by decide +kernel)
theorem wd616 : Cond.selects RX6 yX6_restore yX6_restore ∈ wsL_law := List.mem_of_getElem? (i := 616) (by decide +kernel)
theorem wd617 : Cond.code yX6_restore cX6_restore 3 (some .int) ∈ wsL_law := List.mem_of_getElem? (i := 617) (by decide +kernel)
theorem nestW_tbl : ∀ w ∈ nestW, w ∈ lw_tbl := by
  intro w hw
  have h : nestW = ([97, 103, 108, 109, 111, 113, 115, 117, 130, 136, 138, 140, 142, 144, 146, 148, 166, 176, 182, 191, 200, 235, 239, 240, 244, 260, 264, 272, 276, 280, 286, 298, 302, 310, 317, 320, 328, 336, 337, 340, 341, 345, 349, 370, 378, 383, 388, 401, 404, 410, 420, 424, 428, 432, 444, 449, 454, 458, 462, 467, 468, 473, 474, 478, 490, 491, 492, 496, 504, 509, 513, 515, 533, 544, 561] : List Nat).filterMap (fun i => lw_tbl[i]?) := by decide +kernel
  rw [h] at hw
  obtain ⟨i, -, hi⟩ := List.mem_filterMap.mp hw
  exact List.mem_of_getElem? hi
end
section
-- ===== numbers, contracts, calls: what every walk of this claim uses =====
abbrev IA : Type := Nat → Int32
abbrev tysG (cI cC cZ cG : ClassId) : List (ClassId × FieldType) := [(cI, .int), (cC, .char), (cZ, .boolean), (cG, .object "BridgedPachisi$Game")]
def isNest : Cond → Bool
  | .methodLinkNest .. => true
  | .fieldLinkNest .. => true
  | _ => false
theorem nest_warm {w : Cond} (h : isNest w = true) {s U : State} (hW : s.WarmedH U.vm) (hZ : va_Nw w s) : va_Nw w U := by
  unfold isNest at h
  split at h
  · exact hZ.warmM hW
  · exact hZ.warmF hW
  · cases h
theorem nestW_ok : ∀ w ∈ nestW, isNest w = true := by decide +kernel
theorem nestW_tab : ∀ w ∈ nestW, w.onTables = true := by decide +kernel
/-- what every method of ours asks of the tables -/
def kk (G : va_G) (cI cC cZ cG : ClassId) (U : State) : Prop := va_K G vwCl (tysG cI cC cZ cG) U ∧ ∀ w ∈ nestW, va_Nw w U
theorem kk.warm {G : va_G} {cI cC cZ cG : ClassId} {s U : State} (hW : s.WarmedH U.vm) (h : kk G cI cC cZ cG s) : kk G cI cC cZ cG U := ⟨va_K.moved hW.alike h.1, fun w hw => nest_warm (nestW_ok w hw) hW (h.2 w hw)⟩
theorem kk.calling {G : va_G} {cI cC cZ cG : ClassId} {U : State} {g : JFrame} {mk : MethodId} {a : Array Value} (h : kk G cI cC cZ cG U) : kk G cI cC cZ cG (U.calling g mk a) := ⟨va_K.moved (u := U) (U := U.calling g mk a) (Vm.Alike.refl U.vm) h.1, fun w hw => va_Nw.same (u := U) (nestW_tab w hw) rfl (h.2 w hw)⟩
def fvF : IA := fun j => if j = 0 then 5 else if j = 1 then 0 else 1
def fvL : IA := fun j => if j = 0 then 1 else 0
def fvG : IA := fun j => if j = 0 then 6 else if j = 1 then 40 else 3
/-- a static row of three ints that no cell of A is -/
def sx1 (n : String) (f : IA) (A : Nat → Prop) (U : State) (H : Heap) : Prop := ∃ t : Nat, va_Z "BridgedPachisi" n "[I" (.ref t) A U H ∧ va_X t 3 f U H ∧ t < H.size ∧ ¬ A t
theorem sx1.pass {n : String} {f : IA} {A A1 : Nat → Prop} {s U : State} {H0 H : Heap} {locs : List Loc} (h : sx1 n f A s H0) (hS : va_S A H0 H locs) (hA : ∀ q, A1 q → A q) (hW : s.vm.Alike U.vm) : sx1 n f A1 U H := by
  obtain ⟨t, h1, h2, h3, h4⟩ := h
  exact ⟨t, ((h1.moved hW).kept hS.2.1).narrow hA, (h2.moved hW).kept (hS.2.1 t h3 h4), Nat.lt_of_lt_of_le h3 hS.1, fun q => h4 (hA t q)⟩
def SX (A : Nat → Prop) (U : State) (H : Heap) : Prop := sx1 "FIRST_VALUE" fvF A U H ∧ sx1 "LEAST_VALUE" fvL A U H ∧ sx1 "GREATEST_VALUE" fvG A U H
theorem SX.pass {A A1 : Nat → Prop} {s U : State} {H0 H : Heap} {locs : List Loc} (h : SX A s H0) (hS : va_S A H0 H locs) (hA : ∀ q, A1 q → A q) (hW : s.vm.Alike U.vm) : SX A1 U H := ⟨h.1.pass hS hA hW, h.2.1.pass hS hA hW, h.2.2.pass hS hA hW⟩
/-- a method's start: its world ws, the heap's size; with b the class's static rows too -/
def bw (G : va_G) (cI cC cZ cG : ClassId) (b : Bool) (sz : Nat) (ws : va_W) (U : State) : Prop := U.heap.size = sz ∧ va_P G vwCl ws U.heap ∧ kk G cI cC cZ cG U ∧ va_D (fun _ => True) ws ∧ (b = true → SX (va_A ws sz) U U.heap)
theorem bw.blind {G : va_G} {cI cC cZ cG : ClassId} {b : Bool} {sz : Nat} {ws : va_W} {av : List Value} : FrameBlind (va_Pc av (bw G cI cC cZ cG b sz ws)) := by
  intro a U g mk h
  obtain ⟨h0, h1, h2, h3, h4, h5⟩ := h
  refine ⟨h0, h1, h2, h3.calling, h4, fun hb => ?_⟩
  have h6 := h5 hb
  exact SX.pass (locs := []) h6 ⟨Nat.le_refl _, fun _ _ _ => rfl, fun _ h => by cases h⟩ (fun _ h => h) (Vm.Alike.refl U.vm)
theorem pre_S {G : va_G} {cI cC cZ cG : ClassId} {ws : va_W} {av : List Value} {s : State} {H : Heap} (hK : kk G cI cC cZ cG s) (hP : va_P G vwCl ws H) (hD : va_D (fun _ => True) ws) : PreS s H (va_Pc av (bw G cI cC cZ cG false H.size ws)) av :=
  ⟨bw.blind, fun U hU hW => ⟨rfl, by rw [hU], by rw [hU]; exact hP, hK.warm hW, hD, fun h => by cases h⟩⟩
theorem pre_V {G : va_G} {cI cC cZ cG : ClassId} {ws : va_W} {As : List Value} {s : State} {H : Heap} {b q0 ci : Nat} {q : vw_C} {fs : List Value} (hK : kk G cI cC cZ cG s) (hP : va_P G vwCl ws H) (hD : va_D (fun _ => True) ws) (hc : vwCl[ci]? = some q) (he : ws[q0]? = some (b, .inr (ci, fs))) : PreV s H q.1 b (va_Pc (.ref b :: As) (bw G cI cC cZ cG false H.size ws)) As :=
  ⟨bw.blind, va_recv hK.1 hP hc he, fun U hU hW => ⟨rfl, by rw [hU], by rw [hU]; exact hP, hK.warm hW, hD, fun h => by cases h⟩⟩
theorem pre_SX {G : va_G} {cI cC cZ cG : ClassId} {ws : va_W} {av : List Value} {s : State} {H H0 : Heap} {A : Nat → Prop} {locs : List Loc} (hK : kk G cI cC cZ cG s) (hP : va_P G vwCl ws H) (hD : va_D (fun _ => True) ws) (hX : SX A s H0) (hS : va_S A H0 H locs) (hA : ∀ q, va_A ws H.size q → A q) : PreS s H (va_Pc av (bw G cI cC cZ cG true H.size ws)) av :=
  ⟨bw.blind, fun U hU hW => ⟨rfl, by rw [hU], by rw [hU]; exact hP, hK.warm hW, hD, fun _ => by rw [hU]; exact hX.pass hS hA hW.alike⟩⟩
theorem pre_VX {G : va_G} {cI cC cZ cG : ClassId} {ws : va_W} {As : List Value} {s : State} {H H0 : Heap} {A : Nat → Prop} {locs : List Loc} {b q0 ci : Nat} {q : vw_C} {fs : List Value} (hK : kk G cI cC cZ cG s) (hP : va_P G vwCl ws H) (hD : va_D (fun _ => True) ws) (hX : SX A s H0) (hS : va_S A H0 H locs) (hA : ∀ q, va_A ws H.size q → A q) (hc : vwCl[ci]? = some q) (he : ws[q0]? = some (b, .inr (ci, fs))) : PreV s H q.1 b (va_Pc (.ref b :: As) (bw G cI cC cZ cG true H.size ws)) As :=
  ⟨bw.blind, va_recv hK.1 hP hc he, fun U hU hW => ⟨rfl, by rw [hU], by rw [hU]; exact hP, hK.warm hW, hD, fun _ => by rw [hU]; exact hX.pass hS hA hW.alike⟩⟩
theorem pre_P {av : List Value} {s : State} {H : Heap} : PreS s H (va_Pc av (fun _ => True)) av := ⟨fun _ _ _ _ h => h, fun _ _ _ => ⟨rfl, trivial⟩⟩
/-- a method of ours out of the walk of its body -/
theorem met_bw {l : Launch} {G : va_G} {cI cC cZ cG : ClassId} {bo : Bool} {sz : Nat} {W0 : va_W} {y : MethodName} {rm : Room} {av : List Value} {Qc : Array Value → State → Outcome → State → Prop} {mc ms : Nat} {free : Addr → Prop} {cc : ByteArray} {maxL : Nat} {ret : Option FieldType} (hy : plainName y.cls = true) (hlen : (lg_sl av).length ≤ maxL)
    (body : ∀ (p : Program) (e : Env) (s : State) (m : MethodId) (below : List Frame) (meth : Method) (c : Code) (ls : Array Slot), p.tables.exec = Jvm.exec → c.code = cc → meth.sig.returnType = ret → c.maxLocals = maxL → s.vm.findClass y.cls = some m.cls → (∀ w ∈ wsL_law, w.before av.toArray s = true) → meth.locks = false → meth.name = y.name → s.heap.size = sz → va_P G vwCl W0 s.heap → kk G cI cC cZ cG s → va_D (fun _ => True) W0 → (bo = true → SX (va_A W0 sz) s s.heap) → lv_has ls maxL (lv_args 0 av) →
      W p l e rm s m av.toArray below meth c s.heap [] 0 0 (MQ below Qc av.toArray s mc ms free) (F0 m 0 ls [])) : Met l y (.code y cc maxL ret :: wsL_law) rm (va_Pc av (bw G cI cC cZ cG bo sz W0)) Qc mc ms free := by
  refine Met.ofW (cc := cc) (maxL := maxL) (ret := ret) hy rfl ?_
  intro p e s m args below meth c s₁ B hml hv
  obtain ⟨rfl, hsz, hP, hK, hD0, hX⟩ := hv
  have hts := atoms_spec (ws := .code y cc maxL ret :: wsL_law) B.pre
  rw [lg_entry_eq]
  exact body p e s m below meth c _ B.exec B.bytes B.returns hml (findClass_of_methodNamed B.named) (fun w h => hts w (List.mem_cons_of_mem _ h)) B.notSynchronized (name_of_methodNamed B.named B.method).1 hsz hP hK hD0 hX (lv_entry av hlen)
theorem met_p {l : Launch} {y : MethodName} {rm : Room} {av : List Value} {Qc : Array Value → State → Outcome → State → Prop} {mc ms : Nat} {free : Addr → Prop} {cc : ByteArray} {maxL : Nat} {ret : Option FieldType} (hy : plainName y.cls = true) (hlen : (lg_sl av).length ≤ maxL)
    (body : ∀ (p : Program) (e : Env) (s : State) (m : MethodId) (below : List Frame) (meth : Method) (c : Code) (ls : Array Slot), p.tables.exec = Jvm.exec → c.code = cc → meth.sig.returnType = ret → c.maxLocals = maxL → s.vm.findClass y.cls = some m.cls → (∀ w ∈ wsL_law, w.before av.toArray s = true) → meth.locks = false → lv_has ls maxL (lv_args 0 av) →
      W p l e rm s m av.toArray below meth c s.heap [] 0 0 (MQ below Qc av.toArray s mc ms free) (F0 m 0 ls [])) : Met l y (.code y cc maxL ret :: wsL_law) rm (va_Pc av (fun _ => True)) Qc mc ms free := by
  refine Met.ofW (cc := cc) (maxL := maxL) (ret := ret) hy rfl ?_
  intro p e s m args below meth c s₁ B hml hv
  obtain ⟨rfl, -⟩ := hv
  have hts := atoms_spec (ws := .code y cc maxL ret :: wsL_law) B.pre
  rw [lg_entry_eq]
  exact body p e s m below meth c _ B.exec B.bytes B.returns hml (findClass_of_methodNamed B.named) (fun w h => hts w (List.mem_cons_of_mem _ h)) B.notSynchronized (lv_entry av hlen)
theorem law_good : GoodIn wsL_law wsL_law := goodIn_sub (fun _ h => h) (by decide +kernel)
theorem law_goodC {w : Cond} (h : w ∈ wsL_law) : GoodIn wsL_law (w :: wsL_law) := fun v hv => (List.mem_cons.mp hv).elim (fun e => by rw [e]; exact law_good w h) (law_good v)
theorem cw_B {R : Room} {s : State} {args : Array Value} {own : String} {index : Nat} {y : MethodName} {bytes : ByteArray} {maxL mc ms : Nat} (n : Nat) {ret : Option FieldType} {rm : Room} (ht : ∀ w ∈ wsL_law, w.before args s = true) (h1 : Cond.methodLink own index y ∈ wsL_law) (h4 : Cond.initialized y.cls ∈ wsL_law) (h5 : Cond.code y bytes maxL ret ∈ wsL_law)
    (hd : y.cls ≠ "java/lang/invoke/MethodHandle" ∧ y.cls ≠ "java/lang/invoke/VarHandle" ∧ (parseMethodDescriptor y.desc).map (fun d => d.parameters.length) = some n) (hrc : rm.cells = mc) (hrs : rm.slots = ms) (hR : rm.frames + 1 ≤ R.frames ∧ 8 + (maxL + 11) + rm.locals ≤ R.locals) : CallB R s args own index y bytes maxL ret (.code y bytes maxL ret :: wsL_law) rm mc ms n :=
  callB_of n ht (law_goodC h5) rfl hrc hrs (ht _ h4) (ht _ h1) hd hR
theorem cw_N {R : Room} {s : State} {args : Array Value} {own host : String} {index : Nat} {y : MethodName} {bytes : ByteArray} {maxL mc ms : Nat} (n : Nat) {ret : Option FieldType} {rm : Room} (ht : ∀ w ∈ wsL_law, w.before args s = true) (hN : ∀ w ∈ nestW, va_Nw w s) (h1 : Cond.methodLinkNest own index y host ∈ nestW) (h4 : Cond.initialized y.cls ∈ wsL_law) (h5 : Cond.code y bytes maxL ret ∈ wsL_law)
    (hd : y.cls ≠ "java/lang/invoke/MethodHandle" ∧ y.cls ≠ "java/lang/invoke/VarHandle" ∧ (parseMethodDescriptor y.desc).map (fun d => d.parameters.length) = some n) (hrc : rm.cells = mc) (hrs : rm.slots = ms) (hR : rm.frames + 1 ≤ R.frames ∧ 8 + (maxL + 11) + rm.locals ≤ R.locals) : va_CN R s args own index y host bytes maxL ret (.code y bytes maxL ret :: wsL_law) rm mc ms n :=
  va_cnB n ht (law_goodC h5) rfl hrc hrs (hN _ h1) (ht _ h4) hd hR
theorem va_D.tt {A : Nat → Prop} {ws : va_W} (h : va_D A ws) : va_D (fun _ => True) ws := h.weaken (fun _ _ _ _ => trivial)
-- numbers
def jr (x y : Int32) : Int32 := x - x / y * y
def bz (p : Prop) [Decidable p] : Int32 := if p then 1 else 0
theorem bz_t {p : Prop} [Decidable p] (h : p) : (1 : Int32) = bz p := by rw [bz, if_pos h]
theorem bz_f {p : Prop} [Decidable p] (h : ¬ p) : (0 : Int32) = bz p := by rw [bz, if_neg h]
theorem bz_eq {p : Prop} [Decidable p] : bz p = 0 ↔ ¬ p := by
  by_cases h : p
  · simp [bz, h]
  · simp [bz, h]
theorem nI_inc (a : Nat) : nI a + Int32.ofInt 1 = nI (a + 1) := nI_1 a
theorem nI_neg {a : Nat} (ha : a < 2 ^ 31) {y : Int32} (hy : y.toInt < 0) : ¬ nI a = y := fun e => by
  have := nI_toInt ha
  rw [e] at this
  omega
def okv (v : Int32) : Prop := v = -6 ∨ ∃ k : Nat, k ≤ 35 ∧ v = nI k
def okc (v : Int32) : Prop := v = -6 ∨ ∃ k : Nat, 1 ≤ k ∧ k ≤ 6 ∧ v = nI k
def cnt (P : Nat → Bool) : Nat → Nat
  | 0 => 0
  | n + 1 => cnt P n + (if P n then 1 else 0)
theorem cnt_le (P : Nat → Bool) : ∀ n, cnt P n ≤ n
  | 0 => Nat.le_refl 0
  | n + 1 => by
    have := cnt_le P n
    simp only [cnt]
    split <;> omega
theorem cnt_t {P : Nat → Bool} {n : Nat} (h : P n = true) : cnt P (n + 1) = cnt P n + 1 := by simp [cnt, h]
theorem cnt_f {P : Nat → Bool} {n : Nat} (h : ¬ P n = true) : cnt P (n + 1) = cnt P n := by simp [cnt, h]
theorem cnt_none {P : Nat → Bool} (h : ∀ k, P k = false) : ∀ n, cnt P n = 0
  | 0 => rfl
  | n + 1 => by simp [cnt, h, cnt_none h n]
/-- the least place from a on, of n places, where P holds; -6 if none -/
def low (P : Nat → Bool) : Nat → Nat → Int32
  | _, 0 => -6
  | a, n + 1 => if P a then nI a else low P (a + 1) n
/-- whether P holds at one of the n places from a on -/
def anyp (P : Nat → Bool) : Nat → Nat → Bool
  | _, 0 => false
  | a, n + 1 => P a || anyp P (a + 1) n
section ZI
variable {p : Program} {l : Launch} {e : Env} {R : Room} {s : State} {m : MethodId} {args : Array Value} {below : List Frame} {meth : Method} {c : Code} {H : Heap} {locs : List Loc} {cells slots : Nat} {Q : State → Prop}
variable {cc : ByteArray} {pc : Nat} {ls : Array Slot} {rest : List Value}
theorem zi_add (hexec : p.tables.exec = Jvm.exec) (hb : c.code = cc) {x y : Int32} (a b : Nat) (hdg : decode cc pc = .ok (.iadd, 1)) (hx : x = nI a) (hy : y = nI b) (k : W p l e R s m args below meth c H locs cells slots Q (F0 m (pc + 1) ls (.int (nI (a + b)) :: rest))) : W p l e R s m args below meth c H locs cells slots Q (F0 m pc ls (.int y :: .int x :: rest)) := by
  subst hx; subst hy; exact lv_iadd hexec hb hdg (by rw [nI_add]; exact k)
theorem zi_mul (hexec : p.tables.exec = Jvm.exec) (hb : c.code = cc) {x y : Int32} (a b : Nat) (hdg : decode cc pc = .ok (.imul, 1)) (hx : x = nI a) (hy : y = nI b) (k : W p l e R s m args below meth c H locs cells slots Q (F0 m (pc + 1) ls (.int (nI (a * b)) :: rest))) : W p l e R s m args below meth c H locs cells slots Q (F0 m pc ls (.int y :: .int x :: rest)) := by
  subst hx; subst hy; exact lv_imul hexec hb hdg (by rw [pk_mul]; exact k)
theorem zi_sub (hexec : p.tables.exec = Jvm.exec) (hb : c.code = cc) {x y : Int32} (a b : Nat) (hdg : decode cc pc = .ok (.isub, 1)) (hx : x = nI a) (hy : y = nI b) (h : b ≤ a) (k : W p l e R s m args below meth c H locs cells slots Q (F0 m (pc + 1) ls (.int (nI (a - b)) :: rest))) : W p l e R s m args below meth c H locs cells slots Q (F0 m pc ls (.int y :: .int x :: rest)) := by
  subst hx; subst hy; exact lv_isub hexec hb hdg (by rw [pk_sub h]; exact k)
theorem zi_div (hexec : p.tables.exec = Jvm.exec) (hb : c.code = cc) {x y : Int32} (a b : Nat) (hdg : decode cc pc = .ok (.idiv, 1)) (hx : x = nI a) (hy : y = nI b) (ha : a < 2 ^ 31) (h0 : 0 < b) (hb2 : b < 2 ^ 31) (k : W p l e R s m args below meth c H locs cells slots Q (F0 m (pc + 1) ls (.int (nI (a / b)) :: rest))) : W p l e R s m args below meth c H locs cells slots Q (F0 m pc ls (.int y :: .int x :: rest)) := by
  subst hx; subst hy; exact lv_idiv hexec hb hdg (nI_ne0 h0 hb2) (by rw [pk_div ha h0 hb2]; exact k)
theorem zi_rem (hexec : p.tables.exec = Jvm.exec) (hb : c.code = cc) {x y : Int32} (a b : Nat) (hdg : decode cc pc = .ok (.irem, 1)) (hx : x = nI a) (hy : y = nI b) (ha : a < 2 ^ 31) (h0 : 0 < b) (hb2 : b < 2 ^ 31) (k : W p l e R s m args below meth c H locs cells slots Q (F0 m (pc + 1) ls (.int (nI (a % b)) :: rest))) : W p l e R s m args below meth c H locs cells slots Q (F0 m pc ls (.int y :: .int x :: rest)) := by
  subst hx; subst hy; exact lv_irem hexec hb hdg (nI_ne0 h0 hb2) (by rw [pk_rem ha h0 hb2]; exact k)
theorem zi_jr (hexec : p.tables.exec = Jvm.exec) (hb : c.code = cc) {x y : Int32} (hdg : decode cc pc = .ok (.irem, 1)) (hne : ¬ y = 0) (k : W p l e R s m args below meth c H locs cells slots Q (F0 m (pc + 1) ls (.int (jr x y) :: rest))) : W p l e R s m args below meth c H locs cells slots Q (F0 m pc ls (.int y :: .int x :: rest)) := lv_irem hexec hb hdg hne k
theorem zi_ge (hexec : p.tables.exec = Jvm.exec) (hb : c.code = cc) {x y : Int32} (a b : Nat) {off : Int} {tgt : Nat} (hdg : decode cc pc = .ok (.if_icmp .ge off, 3)) (ht : (pc : Int) + off = (tgt : Int)) (hx : x = nI a) (hy : y = nI b) (ha : a < 2 ^ 31) (hb2 : b < 2 ^ 31) (kt : b ≤ a → W p l e R s m args below meth c H locs cells slots Q (F0 m tgt ls rest)) (kf : a < b → W p l e R s m args below meth c H locs cells slots Q (F0 m (pc + 3) ls rest)) : W p l e R s m args below meth c H locs cells slots Q (F0 m pc ls (.int y :: .int x :: rest)) := by
  subst hx; subst hy; exact lv_icmp_ge hexec hb hdg ht (fun h => kt ((nI_leI hb2 ha).mp h)) (fun h => kf (Nat.not_le.mp fun q => h ((nI_leI hb2 ha).mpr q)))
theorem zi_lt (hexec : p.tables.exec = Jvm.exec) (hb : c.code = cc) {x y : Int32} (a b : Nat) {off : Int} {tgt : Nat} (hdg : decode cc pc = .ok (.if_icmp .lt off, 3)) (ht : (pc : Int) + off = (tgt : Int)) (hx : x = nI a) (hy : y = nI b) (ha : a < 2 ^ 31) (hb2 : b < 2 ^ 31) (kt : a < b → W p l e R s m args below meth c H locs cells slots Q (F0 m tgt ls rest)) (kf : b ≤ a → W p l e R s m args below meth c H locs cells slots Q (F0 m (pc + 3) ls rest)) : W p l e R s m args below meth c H locs cells slots Q (F0 m pc ls (.int y :: .int x :: rest)) := by
  subst hx; subst hy; exact lv_icmp_lt hexec hb hdg ht (fun h => kt ((nI_ltI ha hb2).mp h)) (fun h => kf (Nat.not_lt.mp fun q => h ((nI_ltI ha hb2).mpr q)))
theorem zi_gt (hexec : p.tables.exec = Jvm.exec) (hb : c.code = cc) {x y : Int32} (a b : Nat) {off : Int} {tgt : Nat} (hdg : decode cc pc = .ok (.if_icmp .gt off, 3)) (ht : (pc : Int) + off = (tgt : Int)) (hx : x = nI a) (hy : y = nI b) (ha : a < 2 ^ 31) (hb2 : b < 2 ^ 31) (kt : b < a → W p l e R s m args below meth c H locs cells slots Q (F0 m tgt ls rest)) (kf : a ≤ b → W p l e R s m args below meth c H locs cells slots Q (F0 m (pc + 3) ls rest)) : W p l e R s m args below meth c H locs cells slots Q (F0 m pc ls (.int y :: .int x :: rest)) := by
  subst hx; subst hy; exact lv_icmp_gt hexec hb hdg ht (fun h => kt ((nI_ltI hb2 ha).mp h)) (fun h => kf (Nat.not_lt.mp fun q => h ((nI_ltI hb2 ha).mpr q)))
theorem zi_le (hexec : p.tables.exec = Jvm.exec) (hb : c.code = cc) {x y : Int32} (a b : Nat) {off : Int} {tgt : Nat} (hdg : decode cc pc = .ok (.if_icmp .le off, 3)) (ht : (pc : Int) + off = (tgt : Int)) (hx : x = nI a) (hy : y = nI b) (ha : a < 2 ^ 31) (hb2 : b < 2 ^ 31) (kt : a ≤ b → W p l e R s m args below meth c H locs cells slots Q (F0 m tgt ls rest)) (kf : b < a → W p l e R s m args below meth c H locs cells slots Q (F0 m (pc + 3) ls rest)) : W p l e R s m args below meth c H locs cells slots Q (F0 m pc ls (.int y :: .int x :: rest)) := by
  subst hx; subst hy; exact lv_icmp_le hexec hb hdg ht (fun h => kt ((nI_leI ha hb2).mp h)) (fun h => kf (Nat.not_le.mp fun q => h ((nI_leI ha hb2).mpr q)))
theorem zi_eq (hexec : p.tables.exec = Jvm.exec) (hb : c.code = cc) {x y : Int32} (a b : Nat) {off : Int} {tgt : Nat} (hdg : decode cc pc = .ok (.if_icmp .eq off, 3)) (ht : (pc : Int) + off = (tgt : Int)) (hx : x = nI a) (hy : y = nI b) (ha : a < 2 ^ 31) (hb2 : b < 2 ^ 31) (kt : a = b → W p l e R s m args below meth c H locs cells slots Q (F0 m tgt ls rest)) (kf : ¬ a = b → W p l e R s m args below meth c H locs cells slots Q (F0 m (pc + 3) ls rest)) : W p l e R s m args below meth c H locs cells slots Q (F0 m pc ls (.int y :: .int x :: rest)) := by
  subst hx; subst hy; exact lv_icmp_eq hexec hb hdg ht (fun h => kt ((nI_eq ha hb2).mp h)) (fun h => kf (fun q => h ((nI_eq ha hb2).mpr q)))
theorem zi_ne (hexec : p.tables.exec = Jvm.exec) (hb : c.code = cc) {x y : Int32} (a b : Nat) {off : Int} {tgt : Nat} (hdg : decode cc pc = .ok (.if_icmp .ne off, 3)) (ht : (pc : Int) + off = (tgt : Int)) (hx : x = nI a) (hy : y = nI b) (ha : a < 2 ^ 31) (hb2 : b < 2 ^ 31) (kt : ¬ a = b → W p l e R s m args below meth c H locs cells slots Q (F0 m tgt ls rest)) (kf : a = b → W p l e R s m args below meth c H locs cells slots Q (F0 m (pc + 3) ls rest)) : W p l e R s m args below meth c H locs cells slots Q (F0 m pc ls (.int y :: .int x :: rest)) := by
  subst hx; subst hy; exact lv_icmp_ne hexec hb hdg ht (fun h => kt (fun q => h ((nI_eq ha hb2).mpr q))) (fun h => kf ((nI_eq ha hb2).mp h))
-- a number against 0
theorem z0_lt (hexec : p.tables.exec = Jvm.exec) (hb : c.code = cc) {x : Int32} (a : Nat) {off : Int} {tgt : Nat} (hdg : decode cc pc = .ok (.ifCond .lt off, 3)) (ht : (pc : Int) + off = (tgt : Int)) (hx : x = nI a) (ha : a < 2 ^ 31) (k : W p l e R s m args below meth c H locs cells slots Q (F0 m (pc + 3) ls rest)) : W p l e R s m args below meth c H locs cells slots Q (F0 m pc ls (.int x :: rest)) := by
  subst hx; exact lv_if_lt hexec hb hdg ht (fun h => absurd h (nI_pos ha)) (fun _ => k)
theorem z0_ge (hexec : p.tables.exec = Jvm.exec) (hb : c.code = cc) {x : Int32} (a : Nat) {off : Int} {tgt : Nat} (hdg : decode cc pc = .ok (.ifCond .ge off, 3)) (ht : (pc : Int) + off = (tgt : Int)) (hx : x = nI a) (ha : a < 2 ^ 31) (k : W p l e R s m args below meth c H locs cells slots Q (F0 m tgt ls rest)) : W p l e R s m args below meth c H locs cells slots Q (F0 m pc ls (.int x :: rest)) := by
  subst hx; exact lv_if_ge hexec hb hdg ht (fun _ => k) (fun h => absurd (nI_pos' ha) h)
theorem z0_eq (hexec : p.tables.exec = Jvm.exec) (hb : c.code = cc) {x : Int32} (a : Nat) {off : Int} {tgt : Nat} (hdg : decode cc pc = .ok (.ifCond .eq off, 3)) (ht : (pc : Int) + off = (tgt : Int)) (hx : x = nI a) (ha : a < 2 ^ 31) (kt : a = 0 → W p l e R s m args below meth c H locs cells slots Q (F0 m tgt ls rest)) (kf : ¬ a = 0 → W p l e R s m args below meth c H locs cells slots Q (F0 m (pc + 3) ls rest)) : W p l e R s m args below meth c H locs cells slots Q (F0 m pc ls (.int x :: rest)) := by
  subst hx; exact lv_if_eq hexec hb hdg ht (fun h => kt ((nI_eq ha (by decide)).mp h)) (fun h => kf (fun q => h (by rw [q]; rfl)))
theorem z0_ne (hexec : p.tables.exec = Jvm.exec) (hb : c.code = cc) {x : Int32} (a : Nat) {off : Int} {tgt : Nat} (hdg : decode cc pc = .ok (.ifCond .ne off, 3)) (ht : (pc : Int) + off = (tgt : Int)) (hx : x = nI a) (ha : a < 2 ^ 31) (kt : ¬ a = 0 → W p l e R s m args below meth c H locs cells slots Q (F0 m tgt ls rest)) (kf : a = 0 → W p l e R s m args below meth c H locs cells slots Q (F0 m (pc + 3) ls rest)) : W p l e R s m args below meth c H locs cells slots Q (F0 m pc ls (.int x :: rest)) := by
  subst hx; exact lv_if_ne hexec hb hdg ht (fun h => kt (fun q => h (by rw [q]; rfl))) (fun h => kf ((nI_eq ha (by decide)).mp h))
theorem z0_gt (hexec : p.tables.exec = Jvm.exec) (hb : c.code = cc) {x : Int32} (a : Nat) {off : Int} {tgt : Nat} (hdg : decode cc pc = .ok (.ifCond .gt off, 3)) (ht : (pc : Int) + off = (tgt : Int)) (hx : x = nI a) (ha : a < 2 ^ 31) (kt : 0 < a → W p l e R s m args below meth c H locs cells slots Q (F0 m tgt ls rest)) (kf : a = 0 → W p l e R s m args below meth c H locs cells slots Q (F0 m (pc + 3) ls rest)) : W p l e R s m args below meth c H locs cells slots Q (F0 m pc ls (.int x :: rest)) := by
  subst hx; exact lv_if_gt hexec hb hdg ht (fun h => kt ((nI_ltI (by decide) ha).mp h)) (fun h => kf (Nat.le_zero.mp (Nat.not_lt.mp fun q => h ((nI_ltI (by decide) ha).mpr q))))
theorem z0_le (hexec : p.tables.exec = Jvm.exec) (hb : c.code = cc) {x : Int32} (a : Nat) {off : Int} {tgt : Nat} (hdg : decode cc pc = .ok (.ifCond .le off, 3)) (ht : (pc : Int) + off = (tgt : Int)) (hx : x = nI a) (ha : a < 2 ^ 31) (kt : a = 0 → W p l e R s m args below meth c H locs cells slots Q (F0 m tgt ls rest)) (kf : 0 < a → W p l e R s m args below meth c H locs cells slots Q (F0 m (pc + 3) ls rest)) : W p l e R s m args below meth c H locs cells slots Q (F0 m pc ls (.int x :: rest)) := by
  subst hx; exact lv_if_le hexec hb hdg ht (fun h => kt (Nat.le_zero.mp ((nI_leI ha (by decide)).mp h))) (fun h => kf (Nat.not_le.mp fun q => h ((nI_leI ha (by decide)).mpr q)))
-- a truth against 0
theorem zb_eq (hexec : p.tables.exec = Jvm.exec) (hb : c.code = cc) {P : Prop} {hp : Decidable P} {off : Int} {tgt : Nat} (hdg : decode cc pc = .ok (.ifCond .eq off, 3)) (ht : (pc : Int) + off = (tgt : Int)) (kt : ¬ P → W p l e R s m args below meth c H locs cells slots Q (F0 m tgt ls rest)) (kf : P → W p l e R s m args below meth c H locs cells slots Q (F0 m (pc + 3) ls rest)) : W p l e R s m args below meth c H locs cells slots Q (F0 m pc ls (.int (@bz P hp) :: rest)) :=
  lv_if_eq hexec hb hdg ht (fun h => kt (bz_eq.mp h)) (fun h => kf (Decidable.byContradiction fun q => h (bz_eq.mpr q)))
theorem zb_ne (hexec : p.tables.exec = Jvm.exec) (hb : c.code = cc) {P : Prop} {hp : Decidable P} {off : Int} {tgt : Nat} (hdg : decode cc pc = .ok (.ifCond .ne off, 3)) (ht : (pc : Int) + off = (tgt : Int)) (kt : P → W p l e R s m args below meth c H locs cells slots Q (F0 m tgt ls rest)) (kf : ¬ P → W p l e R s m args below meth c H locs cells slots Q (F0 m (pc + 3) ls rest)) : W p l e R s m args below meth c H locs cells slots Q (F0 m pc ls (.int (@bz P hp) :: rest)) :=
  lv_if_ne hexec hb hdg ht (fun h => kt (Decidable.byContradiction fun q => h (bz_eq.mpr q))) (fun h => kf (bz_eq.mp h))
end ZI
section ZA
variable {p : Program} {l : Launch} {e : Env} {R : Room} {s : State} {m : MethodId} {args : Array Value} {below : List Frame} {meth : Method} {c : Code} {H H0 : Heap} {locs : List Loc} {cells slots : Nat} {Q : State → Prop}
variable {cc : ByteArray} {pc a : Nat} {ls : Array Slot} {rest : List Value} {D : va_G} {cl : List vw_C} {tys : List (ClassId × FieldType)} {ws : va_W} {A : Nat → Prop}
theorem za_ld (hexec : p.tables.exec = Jvm.exec) (hb : c.code = cc) (hK : va_K D cl tys s) (hP : va_P D cl ws H) (q0 t0 : Nat) {cA : ClassId} {n : Nat} {f : IA} (ha : ws[q0]? = some (a, .inl (cA, n, .inl f))) (ht : tys[t0]? = some (cA, .int)) {i : Int32} (k : Nat) (hi : i = nI k) (hk : k < n) (hn : n < 2 ^ 31) (hdg : decode cc pc = .ok (.iaload, 1))
    (kk : W p l e R s m args below meth c H locs cells slots Q (F0 m (pc + 1) ls (.int (f k) :: rest))) : W p l e R s m args below meth c H locs cells slots Q (F0 m pc ls (.int i :: .ref a :: rest)) := by
  subst hi; exact va_iald hexec hb hK hP q0 t0 ha ht (vp_in_nI hk hn) hdg (by rw [nI_clamp (Nat.lt_trans hk hn)]; exact kk)
theorem za_ldc (hexec : p.tables.exec = Jvm.exec) (hb : c.code = cc) (hK : va_K D cl tys s) (hP : va_P D cl ws H) (q0 t0 : Nat) {cA : ClassId} {n : Nat} {f : IA} (ha : ws[q0]? = some (a, .inl (cA, n, .inl f))) (ht : tys[t0]? = some (cA, .char)) {i : Int32} (k : Nat) (hi : i = nI k) (hk : k < n) (hn : n < 2 ^ 31) (hdg : decode cc pc = .ok (.caload, 1))
    (kk : W p l e R s m args below meth c H locs cells slots Q (F0 m (pc + 1) ls (.int (f k) :: rest))) : W p l e R s m args below meth c H locs cells slots Q (F0 m pc ls (.int i :: .ref a :: rest)) := by
  subst hi; exact va_cald hexec hb hK hP q0 t0 ha ht (vp_in_nI hk hn) hdg (by rw [nI_clamp (Nat.lt_trans hk hn)]; exact kk)
theorem za_ldz (hexec : p.tables.exec = Jvm.exec) (hb : c.code = cc) (hK : va_K D cl tys s) (hP : va_P D cl ws H) (q0 t0 : Nat) {cA : ClassId} {n : Nat} {f : IA} (ha : ws[q0]? = some (a, .inl (cA, n, .inl f))) (ht : tys[t0]? = some (cA, .boolean)) {i : Int32} (k : Nat) (hi : i = nI k) (hk : k < n) (hn : n < 2 ^ 31) (hdg : decode cc pc = .ok (.baload, 1))
    (kk : W p l e R s m args below meth c H locs cells slots Q (F0 m (pc + 1) ls (.int (f k) :: rest))) : W p l e R s m args below meth c H locs cells slots Q (F0 m pc ls (.int i :: .ref a :: rest)) := by
  subst hi; exact va_zald hexec hb hK hP q0 t0 ha ht (vp_in_nI hk hn) hdg (by rw [nI_clamp (Nat.lt_trans hk hn)]; exact kk)
theorem za_st (hexec : p.tables.exec = Jvm.exec) (hb : c.code = cc) (hK : va_K D cl tys s) (hP : va_P D cl ws H) (hD : va_D A ws) (hS : va_S A H0 H locs) (q0 t0 : Nat) {cA : ClassId} {n : Nat} {f : IA} (ha : ws[q0]? = some (a, .inl (cA, n, .inl f))) (ht : tys[t0]? = some (cA, .int)) {i x : Int32} (k : Nat) (hi : i = nI k) (hk : k < n) (hn : n < 2 ^ 31) (hdg : decode cc pc = .ok (.iastore, 1))
    (kk : ∀ (H1 : Heap) (locs1 : List Loc), va_P D cl (ws.set q0 (a, .inl (cA, n, .inl (upd f k x)))) H1 → va_D A (ws.set q0 (a, .inl (cA, n, .inl (upd f k x)))) → va_S A H0 H1 locs1 → W p l e R s m args below meth c H1 locs1 cells slots Q (F0 m (pc + 1) ls rest)) : W p l e R s m args below meth c H locs cells slots Q (F0 m pc ls (.int x :: .int i :: .ref a :: rest)) := by
  subst hi; exact va_iast hexec hb hK hP hD hS q0 t0 ha ht (vp_in_nI hk hn) hdg (by rw [nI_clamp (Nat.lt_trans hk hn)]; exact kk)
theorem za_stc (hexec : p.tables.exec = Jvm.exec) (hb : c.code = cc) (hK : va_K D cl tys s) (hP : va_P D cl ws H) (hD : va_D A ws) (hS : va_S A H0 H locs) (q0 t0 : Nat) {cA : ClassId} {n : Nat} {f : IA} (ha : ws[q0]? = some (a, .inl (cA, n, .inl f))) (ht : tys[t0]? = some (cA, .char)) {i x : Int32} (k : Nat) (hi : i = nI k) (hk : k < n) (hn : n < 2 ^ 31) (hdg : decode cc pc = .ok (.castore, 1))
    (kk : ∀ (H1 : Heap) (locs1 : List Loc), va_P D cl (ws.set q0 (a, .inl (cA, n, .inl (upd f k (vp_nar .char x))))) H1 → va_D A (ws.set q0 (a, .inl (cA, n, .inl (upd f k (vp_nar .char x))))) → va_S A H0 H1 locs1 → W p l e R s m args below meth c H1 locs1 cells slots Q (F0 m (pc + 1) ls rest)) : W p l e R s m args below meth c H locs cells slots Q (F0 m pc ls (.int x :: .int i :: .ref a :: rest)) := by
  subst hi; exact va_cast hexec hb hK hP hD hS q0 t0 ha ht (vp_in_nI hk hn) hdg (by rw [nI_clamp (Nat.lt_trans hk hn)]; exact kk)
theorem za_stz (hexec : p.tables.exec = Jvm.exec) (hb : c.code = cc) (hK : va_K D cl tys s) (hP : va_P D cl ws H) (hD : va_D A ws) (hS : va_S A H0 H locs) (q0 t0 : Nat) {cA : ClassId} {n : Nat} {f : IA} (ha : ws[q0]? = some (a, .inl (cA, n, .inl f))) (ht : tys[t0]? = some (cA, .boolean)) {i x : Int32} (k : Nat) (hi : i = nI k) (hk : k < n) (hn : n < 2 ^ 31) (hdg : decode cc pc = .ok (.bastore, 1))
    (kk : ∀ (H1 : Heap) (locs1 : List Loc), va_P D cl (ws.set q0 (a, .inl (cA, n, .inl (upd f k (vp_nar .boolean x))))) H1 → va_D A (ws.set q0 (a, .inl (cA, n, .inl (upd f k (vp_nar .boolean x))))) → va_S A H0 H1 locs1 → W p l e R s m args below meth c H1 locs1 cells slots Q (F0 m (pc + 1) ls rest)) : W p l e R s m args below meth c H locs cells slots Q (F0 m pc ls (.int x :: .int i :: .ref a :: rest)) := by
  subst hi; exact va_zast hexec hb hK hP hD hS q0 t0 ha ht (vp_in_nI hk hn) hdg (by rw [nI_clamp (Nat.lt_trans hk hn)]; exact kk)
end ZA
end
section
-- ===== what the methods answer: the class's small questions and its board =====
theorem sw_cases (n : Nat) (x : Int32) : (x.toInt < 0 ∨ (n : Int) < x.toInt) ∨ ∃ j : Nat, j ≤ n ∧ x = nI j := by
  by_cases h : x.toInt < 0 ∨ (n : Int) < x.toInt
  · exact Or.inl h
  · refine Or.inr ⟨x.toInt.toNat, by omega, Int32.toInt_inj.mp ?_⟩
    have h1 : x.toInt < 2 ^ 31 := x.toInt_lt
    rw [nI_toInt (by omega)]
    omega
/-- the field of a progress v of a player p -/
def rf (p : Nat) (v : Int32) : Int32 := if v < 0 then -6 else if 32 ≤ v then -6 else jr (nI (8 * p) + v) 32
def isf (f : Int32) : Bool := decide (¬ f < 0 ∧ jr f 8 = 0)
def bo (f : Int32) : Int32 := if f < 0 then -6 else if 32 ≤ f then -6 else if jr f 8 = 4 then f / 8 else -6
def onr (v : Int32) : Bool := decide (¬ v < 0 ∧ ¬ 32 ≤ v)
def nx (x : Int32) : Int32 := (x.toInt64 * 1103515245 + 12345 - (x.toInt64 * 1103515245 + 12345) / 2147483648 * 2147483648).toInt32
def co (x : Int32) : Int32 := 1 + jr (x / 65536) 6
theorem toInt_c {x : Int32} {c : Int} (y : Int32) (hc : y.toInt = c) : (x < y ↔ x.toInt < c) ∧ (y ≤ x ↔ c ≤ x.toInt) := by
  subst hc; exact ⟨Int32.lt_iff_toInt_lt, Int32.le_iff_toInt_le⟩
theorem bo_ne (f : Int32) (h : ¬ bo f = -6) : ∃ b : Nat, b < 4 ∧ bo f = nI b := by
  have h1 := (toInt_c (x := f) (c := 0) 0 (by decide)).1
  have h2 := (toInt_c (x := f) (c := 32) 32 (by decide)).2
  unfold bo at h ⊢
  split at h
  · exact absurd rfl h
  · rename_i g1
    rw [h1] at g1
    split at h
    · exact absurd rfl h
    · rename_i g2
      rw [h2] at g2
      obtain ⟨j, hj, rfl⟩ : ∃ j : Nat, j < 32 ∧ f = nI j := ⟨f.toInt.toNat, by omega, Int32.toInt_inj.mp (by rw [nI_toInt (by omega)]; omega)⟩
      split at h
      · rename_i g3
        rw [← h1] at g1; rw [← h2] at g2
        rw [if_neg g1, if_neg g2, if_pos g3]
        exact ⟨j / 8, by omega, pk_div (a := j) (d := 8) (by omega) (by decide) (by decide)⟩
      · exact absurd rfl h
/-- the pieces at a field -/
def pcP (pr : IA) (f : Int32) (k : Nat) : Bool := decide (rf (k / 3) (pr k) = f)
def rvP (pr : IA) (p : Nat) (f : Int32) (k : Nat) : Bool := decide (¬ f = -6 ∧ ¬ k / 3 = p ∧ rf (k / 3) (pr k) = f)
def rv (pr : IA) (p : Nat) (v : Int32) : Nat := cnt (rvP pr p (rf p v)) 12
def mtP (pr : IA) (k : Nat) (v : Int32) (j : Nat) : Bool := decide (¬ k - k % 3 + j = k ∧ pr (k - k % 3 + j) = v)
def mt (pr : IA) (k : Nat) (v : Int32) : Nat := cnt (mtP pr k v) 3
def pairQ (pr : IA) (k : Nat) : Bool := decide (onr (pr k) = true ∧ 0 < mt pr k (pr k))
def fullQ (pr : IA) (k : Nat) (v : Int32) : Bool := decide (¬ v = -6 ∧ ¬ v = 35 ∧ 2 ≤ mt pr k v)
def bs (br : IA) (f : Int32) : Int32 := if bo f = -6 then 0 else br (bo f).toNatClampNeg
def faQ (br : IA) (p : Nat) (v : Int32) : Bool := decide (bs br (rf p v) = 3)
def roomQ (pr br : IA) (k : Nat) (v : Int32) : Bool := decide (rv pr (k / 3) v = 0 ∧ ¬ fullQ pr k v = true ∧ ¬ faQ br (k / 3) v = true)
def hoP (pr : IA) (p j : Nat) : Bool := decide (pr (p * 3 + j) = 35)
def ho (pr : IA) (p : Nat) : Nat := cnt (hoP pr p) 3
def wiP (pr : IA) (p : Nat) : Bool := decide (ho pr p = 3)
def wi (pr : IA) : Int32 := low (wiP pr) 0 4
def sumI (f : IA) : Nat → Int32
  | 0 => 0
  | n + 1 => sumI f n + f n
def fset (br : IA) : Nat → Int32
  | 0 => 0
  | n + 1 => if br n = 3 then fset br n ||| ((1 : Int32) <<< (nI n &&& 31)) else fset br n
/-- where a throw leads: from a, with l of it left, over the fallen places F -/
def tg (F : Nat → Bool) : Nat → Nat → Option Nat
  | a, 0 => if F a then none else some a
  | a, 1 => if F (a + 1) then none else tg F (a + 1) 0
  | a, l + 2 => if F (a + 1) then tg F (a + 1) l else tg F (a + 1) (l + 1)
def tgI : Option Nat → Int32
  | none => -6
  | some a => if a ≤ 35 then nI a else -6
def faN (br : IA) (p a : Nat) : Bool := faQ br p (nI a)
def tgt (br : IA) (p : Nat) (v : Int32) (c : Nat) : Int32 := if v = -6 then 0 else tgI (tg (faN br p) v.toNatClampNeg c)
theorem rf_far {p a : Nat} (h : 32 ≤ a) (ha : a < 2 ^ 31) : rf p (nI a) = -6 := by
  rw [rf, if_neg (nI_pos ha), if_pos (show (32 : Int32) ≤ nI a from nI_le (a := 32) h ha)]
theorem fa_far {br : IA} {p a : Nat} (h : 32 ≤ a) (ha : a < 2 ^ 31) : faN br p a = false := by
  rw [faN, faQ, rf_far h ha]; simp [bs, bo]
theorem tg_far {F : Nat → Bool} : ∀ (l a : Nat), (∀ x, a ≤ x → x ≤ a + l → F x = false) → tg F a l = some (a + l)
  | 0, a, h => by simp [tg, h a (Nat.le_refl a) (Nat.le_refl a)]
  | 1, a, h => by simp [tg, h (a + 1) (by omega) (by omega)]
  | l + 2, a, h => by
    rw [tg, if_neg (by rw [h (a + 1) (by omega) (by omega)]; decide), tg_far (l + 1) (a + 1) (fun x h1 h2 => h x (by omega) (by omega))]
    congr 1; omega
theorem tg_le {F : Nat → Bool} : ∀ (l a t : Nat), tg F a l = some t → a ≤ t ∧ t ≤ a + l ∧ (0 < l → a < t) ∧ F t = false
  | 0, a, t, h => by
    simp only [tg] at h; split at h
    · cases h
    · rename_i g; cases h; exact ⟨by omega, by omega, fun q => absurd q (by omega), by simpa using g⟩
  | 1, a, t, h => by
    rw [tg] at h; split at h
    · cases h
    · have := tg_le 0 (a + 1) t h; exact ⟨by omega, by omega, fun _ => by omega, this.2.2.2⟩
  | l + 2, a, t, h => by
    rw [tg] at h; split at h
    · have := tg_le l (a + 1) t h; exact ⟨by omega, by omega, fun _ => by omega, this.2.2.2⟩
    · have := tg_le (l + 1) (a + 1) t h; exact ⟨by omega, by omega, fun _ => by omega, this.2.2.2⟩
def tgH (F : Nat → Bool) (r : Int32) (a : Nat) (x : Int32) : Prop := (∃ l : Nat, l ≤ 6 ∧ x = nI l ∧ r = tgI (tg F a l)) ∨ (x = -1 ∧ r = -6)
theorem tgH_f {F : Nat → Bool} {r : Int32} {a l : Nat} (h0 : 0 < l) (hl : l ≤ 6) (hr : r = tgI (tg F a l)) (hF : F (a + 1) = true) : tgH F r (a + 1) (nI l - 2) := by
  obtain ⟨k, rfl⟩ : ∃ k, l = k + 1 := ⟨l - 1, by omega⟩
  cases k with
  | zero => refine Or.inr ⟨by decide, ?_⟩; rw [hr, tg, if_pos hF]; rfl
  | succ k => exact Or.inl ⟨k, by omega, pk_sub (a := k + 1 + 1) (b := 2) (by omega), by rw [hr, tg, if_pos hF]⟩
theorem tgH_s {F : Nat → Bool} {r : Int32} {a l : Nat} (h0 : 0 < l) (hl : l ≤ 6) (hr : r = tgI (tg F a l)) (hF : ¬ F (a + 1) = true) : tgH F r (a + 1) (nI l - 1) := by
  obtain ⟨k, rfl⟩ : ∃ k, l = k + 1 := ⟨l - 1, by omega⟩
  refine Or.inl ⟨k, by omega, nI_pred k, ?_⟩
  cases k with
  | zero => rw [hr]; simp [tg, hF]
  | succ k => rw [hr, tg, if_neg hF]
theorem tgH_0 {br : IA} {p a c : Nat} (hc : c ≤ 6) (ha : a ≤ 35) : tgH (faN br p) (tgt br p (nI a) c) a (nI c) :=
  Or.inl ⟨c, hc, rfl, by rw [tgt, if_neg (nI_neg (by omega) (by decide)), nI_clamp (by omega)]⟩
theorem tg_35 {br : IA} {p a l : Nat} (h0 : 0 < l) (hl : l ≤ 6) (ha : 35 ≤ a) (ha2 : a ≤ 35) : tgI (tg (faN br p) a l) = -6 := by
  rw [tg_far l a (fun x h1 h2 => fa_far (by omega) (by omega)), tgI, if_neg (by omega)]
theorem tg_end {br : IA} {p a l : Nat} {r : Int32} (he : r = tgI (tg (faN br p) a l)) (h0 : l = 0) (hF : ¬ faQ br p (nI a) = true) (ha : a ≤ 35) : nI a = r := by
  rw [he, h0, tg, if_neg (show ¬ faN br p a = true from hF), tgI, if_pos ha]
theorem tg_fal {br : IA} {p a l : Nat} {r : Int32} (he : r = tgI (tg (faN br p) a l)) (h0 : l = 0) (hF : faQ br p (nI a) = true) : r = -6 := by
  rw [he, h0, tg, if_pos (show faN br p a = true from hF), tgI]
/-- the first place of a move's way -/
def fst0 (v : Int32) : Nat := if v = -6 then 0 else v.toNatClampNeg + 1
def blP (pr : IA) (p a : Nat) : Bool := decide (2 ≤ rv pr p (nI a))
def blQ (pr : IA) (p : Nat) (v : Int32) (t : Nat) : Bool := anyp (blP pr p) (fst0 v) (t + 1 - fst0 v)
/-- the rows when rivals are sent back -/
def srb (pr sb : IA) (p : Nat) (f : Int32) : Nat → IA × IA
  | 0 => (pr, sb)
  | n + 1 => if rvP (srb pr sb p f n).1 p f n then (upd (srb pr sb p f n).1 n (-6), upd (srb pr sb p f n).2 n ((srb pr sb p f n).2 n + 1)) else srb pr sb p f n
theorem srb_no {pr sb : IA} {p : Nat} {f : Int32} (h : f = -6) : ∀ n, srb pr sb p f n = (pr, sb)
  | 0 => rfl
  | n + 1 => by rw [srb, srb_no h n]; simp [rvP, h]
def pcN (pr : IA) (i : Nat) : Nat := cnt (pcP pr (nI (8 * i + 4))) 12
/-- bridges are strained, and fall -/
def sf (pr : IA) (tu : Int32) (br fe : IA) (fl : Int32) : Nat → IA × IA × Int32
  | 0 => (br, fe, fl)
  | i + 1 => if (sf pr tu br fe fl i).1 i = 1 ∧ 2 ≤ pcN pr i then (upd (sf pr tu br fe fl i).1 i 2, (sf pr tu br fe fl i).2.1, (sf pr tu br fe fl i).2.2)
    else if (sf pr tu br fe fl i).1 i = 2 ∧ pcN pr i = 0 then (upd (sf pr tu br fe fl i).1 i 3, upd (sf pr tu br fe fl i).2.1 i tu, (sf pr tu br fe fl i).2.2 + 1) else sf pr tu br fe fl i
def md (fe : IA) (tu me : Int32) (br : IA) : Nat → IA
  | 0 => br
  | i + 1 => if md fe tu me br i i = 3 ∧ ¬ me = 0 ∧ ¬ tu - fe i < me then upd (md fe tu me br i) i 1 else md fe tu me br i
theorem tgt_ne {br : IA} {p c : Nat} {v : Int32} (hv : okv v) (hc : c ≤ 6) (h : ¬ tgt br p v c = -6) : ∃ t : Nat, t ≤ 35 ∧ tgt br p v c = nI t ∧ (0 < c → fst0 v ≤ t) ∧ fst0 v ≤ t + 1 := by
  rcases hv with rfl | ⟨a, ha, rfl⟩
  · exact ⟨0, by omega, rfl, fun _ => by decide, by decide⟩
  · have e : tgt br p (nI a) c = tgI (tg (faN br p) a c) := by rw [tgt, if_neg (nI_neg (by omega) (by decide)), nI_clamp (by omega)]
    have f : fst0 (nI a) = a + 1 := by rw [fst0, if_neg (nI_neg (by omega) (by decide)), nI_clamp (by omega)]
    rw [e] at h ⊢
    cases ht : tg (faN br p) a c with
    | none => rw [ht] at h; exact absurd rfl h
    | some t =>
      rw [ht] at h
      have g := tg_le c a t ht
      by_cases q : t ≤ 35
      · exact ⟨t, q, by simp [tgI, q], fun h0 => by rw [f]; exact g.2.2.1 h0, by rw [f]; omega⟩
      · rw [tgI, if_neg q] at h; exact absurd rfl h
theorem fst_y : fst0 (-6) = 0 := rfl
theorem fst_n {a : Nat} (ha : a < 2 ^ 31) : fst0 (nI a) = a + 1 := by rw [fst0, if_neg (nI_neg ha (by decide)), nI_clamp ha]
end
section
abbrev rm_X5_ringField : Room := { frames := 0, cells := 0, slots := 0, locals := 0 }
set_option maxHeartbeats 1000000 in
set_option maxRecDepth 100000 in
theorem c_X5_ringField (l : Launch) (pn : Nat) (v : Int32) (hp : pn < 4) : Met l yX5_ringField (.code yX5_ringField cX5_ringField 2 (some .int) :: wsL_law) rm_X5_ringField (va_Pc [.int (nI pn), .int v] (fun _ => True)) (vp_Si (fun r => r = rf pn v)) 0 0 (fun _ => False) := by
  refine met_p rfl (Nat.le_of_ble_eq_true rfl) ?_
  intro p e s m below meth c ls hx hb hr hml hown hts hlocks hl
  have hown : s.vm.findClass RX5 = some m.cls := hown
  have hl : lv_has ls 2 [(0, .int (nI pn)), (1, .int v)] := hl
  refine lv_iload_n hx hb dX5_ringField_0 rfl (lv_at hl 1 rfl) ?_
  refine lv_if_lt (tgt := 22) hx hb dX5_ringField_1 (by decide) (fun c_1 => ?_) (fun c_1 => ?_)
  · refine lv_bipush (v := (-6)) hx hb dX5_ringField_22 (by decide) ?_
    exact W.iret (v := (-6)) hx hb hr (fun t ht hW => ⟨(-6), rfl, by simp [rf, c_1], ht⟩) (fun _ h => absurd h List.not_mem_nil) dX5_ringField_24
  · refine lv_iload_n hx hb dX5_ringField_4 rfl (lv_at hl 1 rfl) ?_
    refine lv_bipush (v := 32) hx hb dX5_ringField_5 (by decide) ?_
    refine lv_icmp_ge (tgt := 22) hx hb dX5_ringField_7 (by decide) (fun c_2 => ?_) (fun c_2 => ?_)
    · refine lv_bipush (v := (-6)) hx hb dX5_ringField_22 (by decide) ?_
      exact W.iret (v := (-6)) hx hb hr (fun t ht hW => ⟨(-6), rfl, by simp [rf, c_1, c_2], ht⟩) (fun _ h => absurd h List.not_mem_nil) dX5_ringField_24
    · refine lv_bipush (v := 8) hx hb dX5_ringField_10 (by decide) ?_
      refine lv_iload_n hx hb dX5_ringField_12 rfl (lv_at hl 0 rfl) ?_
      refine zi_mul hx hb 8 pn dX5_ringField_13 rfl rfl ?_
      refine lv_iload_n hx hb dX5_ringField_14 rfl (lv_at hl 1 rfl) ?_
      refine lv_iadd hx hb dX5_ringField_15 ?_
      refine lv_bipush (v := 32) hx hb dX5_ringField_16 (by decide) ?_
      refine zi_jr hx hb dX5_ringField_18 (by decide) ?_
      refine lv_goto (tgt := 24) hx hb dX5_ringField_19 (by decide) ?_
      exact W.iret (v := jr ((nI (8 * pn)) + v) 32) hx hb hr (fun t ht hW => ⟨jr ((nI (8 * pn)) + v) 32, rfl, by simp [rf, c_1, c_2], ht⟩) (fun _ h => absurd h List.not_mem_nil) dX5_ringField_24

abbrev rm_X5_isSafe : Room := { frames := 0, cells := 0, slots := 0, locals := 0 }
set_option maxHeartbeats 1000000 in
set_option maxRecDepth 100000 in
theorem c_X5_isSafe (l : Launch) (f : Int32) : Met l yX5_isSafe (.code yX5_isSafe cX5_isSafe 1 (some .boolean) :: wsL_law) rm_X5_isSafe (va_Pc [.int f] (fun _ => True)) (vp_Si (fun r => r = bz (isf f = true))) 0 0 (fun _ => False) := by
  refine met_p rfl (Nat.le_of_ble_eq_true rfl) ?_
  intro p e s m below meth c ls hx hb hr hml hown hts hlocks hl
  have hown : s.vm.findClass RX5 = some m.cls := hown
  have hl : lv_has ls 1 [(0, .int f)] := hl
  refine lv_iload_n hx hb dX5_isSafe_0 rfl (lv_at hl 0 rfl) ?_
  refine lv_if_lt (tgt := 15) hx hb dX5_isSafe_1 (by decide) (fun c_3 => ?_) (fun c_3 => ?_)
  · refine lv_iconst (v := 0) hx hb dX5_isSafe_15 (by decide) ?_
    exact W.zret (v := 0) hx hb hr rfl (fun t ht hW => ⟨0, rfl, bz_f (by simp [isf, c_3]), ht⟩) (fun _ h => absurd h List.not_mem_nil) dX5_isSafe_16
  · refine lv_iload_n hx hb dX5_isSafe_4 rfl (lv_at hl 0 rfl) ?_
    refine lv_bipush (v := 8) hx hb dX5_isSafe_5 (by decide) ?_
    refine zi_jr hx hb dX5_isSafe_7 (by decide) ?_
    refine lv_if_ne (tgt := 15) hx hb dX5_isSafe_8 (by decide) (fun c_4 => ?_) (fun c_4 => ?_)
    · refine lv_iconst (v := 0) hx hb dX5_isSafe_15 (by decide) ?_
      exact W.zret (v := 0) hx hb hr rfl (fun t ht hW => ⟨0, rfl, bz_f (by simp [isf, c_3, c_4]), ht⟩) (fun _ h => absurd h List.not_mem_nil) dX5_isSafe_16
    · refine lv_iconst (v := 1) hx hb dX5_isSafe_11 (by decide) ?_
      refine lv_goto (tgt := 16) hx hb dX5_isSafe_12 (by decide) ?_
      exact W.zret (v := 1) hx hb hr rfl (fun t ht hW => ⟨1, rfl, bz_t (by simp [isf, c_3, c_4]), ht⟩) (fun _ h => absurd h List.not_mem_nil) dX5_isSafe_16

abbrev rm_X5_bridgeOn : Room := { frames := 0, cells := 0, slots := 0, locals := 0 }
set_option maxHeartbeats 1000000 in
set_option maxRecDepth 100000 in
theorem c_X5_bridgeOn (l : Launch) (f : Int32) : Met l yX5_bridgeOn (.code yX5_bridgeOn cX5_bridgeOn 1 (some .int) :: wsL_law) rm_X5_bridgeOn (va_Pc [.int f] (fun _ => True)) (vp_Si (fun r => r = bo f)) 0 0 (fun _ => False) := by
  refine met_p rfl (Nat.le_of_ble_eq_true rfl) ?_
  intro p e s m below meth c ls hx hb hr hml hown hts hlocks hl
  have hown : s.vm.findClass RX5 = some m.cls := hown
  have hl : lv_has ls 1 [(0, .int f)] := hl
  refine lv_iload_n hx hb dX5_bridgeOn_0 rfl (lv_at hl 0 rfl) ?_
  refine lv_if_lt (tgt := 25) hx hb dX5_bridgeOn_1 (by decide) (fun c_5 => ?_) (fun c_5 => ?_)
  · refine lv_bipush (v := (-6)) hx hb dX5_bridgeOn_25 (by decide) ?_
    exact W.iret (v := (-6)) hx hb hr (fun t ht hW => ⟨(-6), rfl, by simp [bo, c_5], ht⟩) (fun _ h => absurd h List.not_mem_nil) dX5_bridgeOn_27
  · refine lv_iload_n hx hb dX5_bridgeOn_4 rfl (lv_at hl 0 rfl) ?_
    refine lv_bipush (v := 32) hx hb dX5_bridgeOn_5 (by decide) ?_
    refine lv_icmp_ge (tgt := 25) hx hb dX5_bridgeOn_7 (by decide) (fun c_6 => ?_) (fun c_6 => ?_)
    · refine lv_bipush (v := (-6)) hx hb dX5_bridgeOn_25 (by decide) ?_
      exact W.iret (v := (-6)) hx hb hr (fun t ht hW => ⟨(-6), rfl, by simp [bo, c_5, c_6], ht⟩) (fun _ h => absurd h List.not_mem_nil) dX5_bridgeOn_27
    · refine lv_iload_n hx hb dX5_bridgeOn_10 rfl (lv_at hl 0 rfl) ?_
      refine lv_bipush (v := 8) hx hb dX5_bridgeOn_11 (by decide) ?_
      refine zi_jr hx hb dX5_bridgeOn_13 (by decide) ?_
      refine lv_iconst (v := 4) hx hb dX5_bridgeOn_14 (by decide) ?_
      refine lv_icmp_ne (tgt := 25) hx hb dX5_bridgeOn_15 (by decide) (fun c_7 => ?_) (fun c_7 => ?_)
      · refine lv_bipush (v := (-6)) hx hb dX5_bridgeOn_25 (by decide) ?_
        exact W.iret (v := (-6)) hx hb hr (fun t ht hW => ⟨(-6), rfl, by simp [bo, c_5, c_6, c_7], ht⟩) (fun _ h => absurd h List.not_mem_nil) dX5_bridgeOn_27
      · refine lv_iload_n hx hb dX5_bridgeOn_18 rfl (lv_at hl 0 rfl) ?_
        refine lv_bipush (v := 8) hx hb dX5_bridgeOn_19 (by decide) ?_
        refine lv_idiv hx hb dX5_bridgeOn_21 (by decide) ?_
        refine lv_goto (tgt := 27) hx hb dX5_bridgeOn_22 (by decide) ?_
        exact W.iret (v := f / 8) hx hb hr (fun t ht hW => ⟨f / 8, rfl, by simp [bo, c_5, c_6, c_7], ht⟩) (fun _ h => absurd h List.not_mem_nil) dX5_bridgeOn_27

abbrev rm_X5_isOnRing : Room := { frames := 0, cells := 0, slots := 0, locals := 0 }
set_option maxHeartbeats 1000000 in
set_option maxRecDepth 100000 in
theorem c_X5_isOnRing (l : Launch) (v : Int32) : Met l yX5_isOnRing (.code yX5_isOnRing cX5_isOnRing 1 (some .boolean) :: wsL_law) rm_X5_isOnRing (va_Pc [.int v] (fun _ => True)) (vp_Si (fun r => r = bz (onr v = true))) 0 0 (fun _ => False) := by
  refine met_p rfl (Nat.le_of_ble_eq_true rfl) ?_
  intro p e s m below meth c ls hx hb hr hml hown hts hlocks hl
  have hown : s.vm.findClass RX5 = some m.cls := hown
  have hl : lv_has ls 1 [(0, .int v)] := hl
  refine lv_iload_n hx hb dX5_isOnRing_0 rfl (lv_at hl 0 rfl) ?_
  refine lv_if_lt (tgt := 14) hx hb dX5_isOnRing_1 (by decide) (fun c_8 => ?_) (fun c_8 => ?_)
  · refine lv_iconst (v := 0) hx hb dX5_isOnRing_14 (by decide) ?_
    exact W.zret (v := 0) hx hb hr rfl (fun t ht hW => ⟨0, rfl, bz_f (by simp [onr, c_8]), ht⟩) (fun _ h => absurd h List.not_mem_nil) dX5_isOnRing_15
  · refine lv_iload_n hx hb dX5_isOnRing_4 rfl (lv_at hl 0 rfl) ?_
    refine lv_bipush (v := 32) hx hb dX5_isOnRing_5 (by decide) ?_
    refine lv_icmp_ge (tgt := 14) hx hb dX5_isOnRing_7 (by decide) (fun c_9 => ?_) (fun c_9 => ?_)
    · refine lv_iconst (v := 0) hx hb dX5_isOnRing_14 (by decide) ?_
      exact W.zret (v := 0) hx hb hr rfl (fun t ht hW => ⟨0, rfl, bz_f (by simp [onr, c_8, c_9]), ht⟩) (fun _ h => absurd h List.not_mem_nil) dX5_isOnRing_15
    · refine lv_iconst (v := 1) hx hb dX5_isOnRing_10 (by decide) ?_
      refine lv_goto (tgt := 15) hx hb dX5_isOnRing_11 (by decide) ?_
      exact W.zret (v := 1) hx hb hr rfl (fun t ht hW => ⟨1, rfl, bz_t (by simp [onr, c_8, c_9]), ht⟩) (fun _ h => absurd h List.not_mem_nil) dX5_isOnRing_15

abbrev rm_X5_isNoPiece : Room := { frames := 0, cells := 0, slots := 0, locals := 0 }
set_option maxHeartbeats 1000000 in
set_option maxRecDepth 100000 in
theorem c_X5_isNoPiece (l : Launch) (k : Int32) : Met l yX5_isNoPiece (.code yX5_isNoPiece cX5_isNoPiece 1 (some .boolean) :: wsL_law) rm_X5_isNoPiece (va_Pc [.int k] (fun _ => True)) (vp_Si (fun r => r = bz (k < 0 ∨ ¬ k < 12))) 0 0 (fun _ => False) := by
  refine met_p rfl (Nat.le_of_ble_eq_true rfl) ?_
  intro p e s m below meth c ls hx hb hr hml hown hts hlocks hl
  have hown : s.vm.findClass RX5 = some m.cls := hown
  have hl : lv_has ls 1 [(0, .int k)] := hl
  refine lv_iload_n hx hb dX5_isNoPiece_0 rfl (lv_at hl 0 rfl) ?_
  refine lv_if_lt (tgt := 10) hx hb dX5_isNoPiece_1 (by decide) (fun c_10 => ?_) (fun c_10 => ?_)
  · refine lv_iconst (v := 1) hx hb dX5_isNoPiece_10 (by decide) ?_
    refine lv_goto (tgt := 15) hx hb dX5_isNoPiece_11 (by decide) ?_
    exact W.zret (v := 1) hx hb hr rfl (fun t ht hW => ⟨1, rfl, bz_t (by simp [true_or, c_10]), ht⟩) (fun _ h => absurd h List.not_mem_nil) dX5_isNoPiece_15
  · refine lv_iload_n hx hb dX5_isNoPiece_4 rfl (lv_at hl 0 rfl) ?_
    refine lv_bipush (v := 12) hx hb dX5_isNoPiece_5 (by decide) ?_
    refine lv_icmp_lt (tgt := 14) hx hb dX5_isNoPiece_7 (by decide) (fun c_11 => ?_) (fun c_11 => ?_)
    · refine lv_iconst (v := 0) hx hb dX5_isNoPiece_14 (by decide) ?_
      exact W.zret (v := 0) hx hb hr rfl (fun t ht hW => ⟨0, rfl, bz_f (by simp [true_or, c_10, c_11]), ht⟩) (fun _ h => absurd h List.not_mem_nil) dX5_isNoPiece_15
    · refine lv_iconst (v := 1) hx hb dX5_isNoPiece_10 (by decide) ?_
      refine lv_goto (tgt := 15) hx hb dX5_isNoPiece_11 (by decide) ?_
      exact W.zret (v := 1) hx hb hr rfl (fun t ht hW => ⟨1, rfl, bz_t (by simp [true_or, c_10, c_11]), ht⟩) (fun _ h => absurd h List.not_mem_nil) dX5_isNoPiece_15

abbrev rm_X5_nextX : Room := { frames := 0, cells := 0, slots := 0, locals := 0 }
set_option maxHeartbeats 1000000 in
set_option maxRecDepth 100000 in
theorem c_X5_nextX (l : Launch) (x : Int32) : Met l yX5_nextX (.code yX5_nextX cX5_nextX 1 (some .int) :: wsL_law) rm_X5_nextX (va_Pc [.int x] (fun _ => True)) (vp_Si (fun r => r = nx x)) 0 0 (fun _ => False) := by
  refine met_p rfl (Nat.le_of_ble_eq_true rfl) ?_
  intro p e s m below meth c ls hx hb hr hml hown hts hlocks hl
  have hown : s.vm.findClass RX5 = some m.cls := hown
  have hl : lv_has ls 1 [(0, .int x)] := hl
  refine lv_iload_n hx hb dX5_nextX_0 rfl (lv_at hl 0 rfl) ?_
  refine lv_i2l hx hb dX5_nextX_1 rfl ?_
  refine lv_ldc2 hx hb hown (hts _ wd154) dX5_nextX_2 ?_
  refine lv_lmul hx hb dX5_nextX_5 ?_
  refine lv_ldc2 hx hb hown (hts _ wd155) dX5_nextX_6 ?_
  refine lv_ladd hx hb dX5_nextX_9 ?_
  refine lv_ldc2 hx hb hown (hts _ wd156) dX5_nextX_10 ?_
  refine lv_lrem hx hb dX5_nextX_13 (by decide) ?_
  refine lv_l2i hx hb dX5_nextX_14 rfl ?_
  exact W.iret (v := (((x.toInt64 * 1103515245) + 12345) - ((x.toInt64 * 1103515245) + 12345) / 2147483648 * 2147483648).toInt32) hx hb hr (fun t ht hW => ⟨(((x.toInt64 * 1103515245) + 12345) - ((x.toInt64 * 1103515245) + 12345) / 2147483648 * 2147483648).toInt32, rfl, rfl, ht⟩) (fun _ h => absurd h List.not_mem_nil) dX5_nextX_15

abbrev rm_X5_castOf : Room := { frames := 0, cells := 0, slots := 0, locals := 0 }
set_option maxHeartbeats 1000000 in
set_option maxRecDepth 100000 in
theorem c_X5_castOf (l : Launch) (x : Int32) : Met l yX5_castOf (.code yX5_castOf cX5_castOf 1 (some .int) :: wsL_law) rm_X5_castOf (va_Pc [.int x] (fun _ => True)) (vp_Si (fun r => r = co x)) 0 0 (fun _ => False) := by
  refine met_p rfl (Nat.le_of_ble_eq_true rfl) ?_
  intro p e s m below meth c ls hx hb hr hml hown hts hlocks hl
  have hown : s.vm.findClass RX5 = some m.cls := hown
  have hl : lv_has ls 1 [(0, .int x)] := hl
  refine lv_iconst (v := 1) hx hb dX5_castOf_0 (by decide) ?_
  refine lv_iload_n hx hb dX5_castOf_1 rfl (lv_at hl 0 rfl) ?_
  refine lv_ldc hx hb hown (hts _ wd159) dX5_castOf_2 ?_
  refine lv_idiv hx hb dX5_castOf_4 (by decide) ?_
  refine lv_bipush (v := 6) hx hb dX5_castOf_5 (by decide) ?_
  refine zi_jr hx hb dX5_castOf_7 (by decide) ?_
  refine lv_iadd hx hb dX5_castOf_8 ?_
  exact W.iret (v := 1 + (jr (x / 65536) 6)) hx hb hr (fun t ht hW => ⟨1 + (jr (x / 65536) 6), rfl, rfl, ht⟩) (fun _ h => absurd h List.not_mem_nil) dX5_castOf_9

abbrev rm_X0_fieldOf : Room := { frames := 1, cells := 0, slots := 0, locals := 21 }
theorem cf_RX0_34 {R : Room} {s : State} {args : Array Value} (ht : ∀ w ∈ wsL_law, w.before args s = true) (hN : ∀ w ∈ nestW, va_Nw w s) (hR : rm_X5_ringField.frames + 1 ≤ R.frames ∧ 8 + (2 + 11) + rm_X5_ringField.locals ≤ R.locals) : va_CN R s args RX0 34 yX5_ringField "BridgedPachisi" cX5_ringField 2 (some .int) (.code yX5_ringField cX5_ringField 2 (some .int) :: wsL_law) rm_X5_ringField 0 0 2 ∧ (Cond.static yX5_ringField).before args s = true ∧ True := ⟨cw_N 2 ht hN nw33 wd2 wd211 (by decide +kernel) rfl rfl hR, ht _ wd210, trivial⟩
set_option maxHeartbeats 1000000 in
set_option maxRecDepth 100000 in
theorem c_X0_fieldOf (l : Launch) (G : va_G) (cI cC cZ cG : ClassId) (sz : Nat) (qb qp qs qr qf : Nat) (pr sb br fe : IA) (fl : Int32) (k : Nat) (hk : k < 12) : Met l yX0_fieldOf (.code yX0_fieldOf cX0_fieldOf 2 (some .int) :: wsL_law) rm_X0_fieldOf (va_Pc [.ref qb, .int (nI k)] (bw G cI cC cZ cG false sz [(qb, .inr (0, [.ref qp, .ref qs, .ref qr, .ref qf, .int fl])), (qp, .inl (cI, 12, .inl pr)), (qs, .inl (cI, 12, .inl sb)), (qr, .inl (cI, 4, .inl br)), (qf, .inl (cI, 4, .inl fe))])) (vp_Si (fun r => r = rf (k / 3) (pr k))) 0 0 (fun _ => False) := by
  refine met_bw rfl (Nat.le_of_ble_eq_true rfl) ?_
  intro p e s m below meth c ls hx hb hr hml hown hts hlocks hin hsz hP hK hD0 hX0 hl
  have hown : s.vm.findClass RX0 = some m.cls := hown
  have hl : lv_has ls 2 [(0, .ref qb), (1, .int (nI k))] := hl
  refine lv_iload_n hx hb dX0_fieldOf_0 rfl (lv_at hl 1 rfl) ?_
  refine lv_iconst (v := 3) hx hb dX0_fieldOf_1 (by decide) ?_
  refine zi_div hx hb k 3 dX0_fieldOf_2 rfl rfl (by omega) (by decide) (by decide) ?_
  refine lv_aload_n hx hb dX0_fieldOf_3 rfl (lv_at hl 0 rfl) ?_
  refine va_get (D := G) (ci := 0) (v := .ref qp) (C := RX0) (T := TX0) (N := 5) hx hb hts inlX0 hown hK.1 hP 0 rfl rfl 0 (by decide) (hts _ wd52) (fun _ h9 => h9) rfl dX0_fieldOf_4 ?_
  refine lv_iload_n hx hb dX0_fieldOf_7 rfl (lv_at hl 1 rfl) ?_
  refine za_ld hx hb hK.1 hP 1 0 rfl rfl k rfl (by omega) (by decide) dX0_fieldOf_8 ?_
  refine vp_callSi (va_Run.run (va_runSN (As := [.int (nI (k / 3)), .int (pr k)]) (rest := []) ⟨hx, hb, hml, hown, hts⟩ (c_X5_ringField l (k / 3) (pr k) (by omega)) (cf_RX0_34 hts hK.2 ⟨Nat.le_of_ble_eq_true rfl, Nat.le_of_ble_eq_true rfl⟩) pre_P rfl rfl hl.1 rfl (lv_room (Nat.le_of_ble_eq_true rfl)) dX0_fieldOf_9 ⟨Nat.le_of_ble_eq_true rfl, Nat.le_of_ble_eq_true rfl⟩)) (fun r12 hr12 => ?_)
  subst hr12
  exact W.iret (v := rf (k / 3) (pr k)) hx hb hr (fun t ht hW => ⟨rf (k / 3) (pr k), rfl, rfl, ht⟩) (fun _ h => absurd h List.not_mem_nil) dX0_fieldOf_12

abbrev rm_X0_piecesOn : Room := { frames := 1, cells := 0, slots := 0, locals := 21 }
set_option maxHeartbeats 1000000 in
set_option maxRecDepth 100000 in
theorem c_X0_piecesOn (l : Launch) (G : va_G) (cI cC cZ cG : ClassId) (sz : Nat) (qb qp qs qr qf : Nat) (pr sb br fe : IA) (fl : Int32) (g : Int32) : Met l yX0_piecesOn (.code yX0_piecesOn cX0_piecesOn 4 (some .int) :: wsL_law) rm_X0_piecesOn (va_Pc [.ref qb, .int g] (bw G cI cC cZ cG false sz [(qb, .inr (0, [.ref qp, .ref qs, .ref qr, .ref qf, .int fl])), (qp, .inl (cI, 12, .inl pr)), (qs, .inl (cI, 12, .inl sb)), (qr, .inl (cI, 4, .inl br)), (qf, .inl (cI, 4, .inl fe))])) (vp_Si (fun r => r = nI (cnt (pcP pr g) 12))) 0 0 (fun _ => False) := by
  refine met_bw rfl (Nat.le_of_ble_eq_true rfl) ?_
  intro p e s m below meth c ls hx hb hr hml hown hts hlocks hin hsz hP hK hD0 hX0 hl
  have hown : s.vm.findClass RX0 = some m.cls := hown
  have hl : lv_has ls 4 [(0, .ref qb), (1, .int g)] := hl
  generalize hQ : MQ below (vp_Si (fun r => r = nI (cnt (pcP pr g) 12))) ([.ref qb, .int g] : List Value).toArray s 0 0 (fun _ => False) = Q
  generalize hag : ([.ref qb, .int g] : List Value).toArray = ag at hts hQ ⊢
  refine lv_iconst (v := 0) hx hb dX0_piecesOn_0 (by decide) ?_
  refine lv_istore_n (lv' := [(2, .int 0), (0, .ref qb), (1, .int g)]) hx hb dX0_piecesOn_1 rfl hl (by decide) rfl (fun ls hl => ?_)
  refine lv_iconst (v := 0) hx hb dX0_piecesOn_2 (by decide) ?_
  refine lv_istore_n (lv' := [(3, .int 0), (2, .int 0), (0, .ref qb), (1, .int g)]) hx hb dX0_piecesOn_3 rfl hl (by decide) rfl (fun ls hl => ?_)
  have L1 : ∀ (n : Nat), ∀ (i : Nat), ∀ (f : Nat), ∀ (hi : i ≤ 12), ∀ (hf : f = cnt (pcP pr g) i), ∀ (hn : 13 ≤ i + n), ∀ (ls : Array Slot), lv_has ls 4 [(3, .int (nI i)), (2, .int (nI f)), (0, .ref qb), (1, .int g)] → W p l e rm_X0_piecesOn s m ag below meth c s.heap [] 0 0 Q (F0 m 4 ls []) := by
    intro n
    induction n with
    | zero =>
      intro i f hi hf hn ls hl
      omega
    | succ n ih =>
      intro i f hi hf hn ls hl
      refine lv_iload_n hx hb dX0_piecesOn_4 rfl (lv_at hl 0 rfl) ?_
      refine lv_bipush (v := 12) hx hb dX0_piecesOn_5 (by decide) ?_
      refine zi_ge (tgt := 35) hx hb i 12 dX0_piecesOn_7 (by decide) rfl rfl (by omega) (by decide) (fun c_14 => ?_) (fun c_14 => ?_)
      · refine lv_iload_n hx hb dX0_piecesOn_35 rfl (lv_at hl 1 rfl) ?_
        subst hQ
        exact W.iret (v := nI f) hx hb hr (fun t ht hW => ⟨nI f, rfl, by rw [hf, show i = 12 by omega], ht⟩) (fun _ h => absurd h List.not_mem_nil) dX0_piecesOn_36
      · refine lv_iload_n hx hb dX0_piecesOn_10 rfl (lv_at hl 0 rfl) ?_
        refine lv_iconst (v := 3) hx hb dX0_piecesOn_11 (by decide) ?_
        refine zi_div hx hb i 3 dX0_piecesOn_12 rfl rfl (by omega) (by decide) (by decide) ?_
        refine lv_aload_n hx hb dX0_piecesOn_13 rfl (lv_at hl 2 rfl) ?_
        refine va_get (D := G) (ci := 0) (v := .ref qp) (C := RX0) (T := TX0) (N := 5) hx hb hts inlX0 hown hK.1 hP 0 rfl rfl 0 (by decide) (hts _ wd52) (fun _ h9 => h9) rfl dX0_piecesOn_14 ?_
        refine lv_iload_n hx hb dX0_piecesOn_17 rfl (lv_at hl 0 rfl) ?_
        refine za_ld hx hb hK.1 hP 1 0 rfl rfl i rfl (by omega) (by decide) dX0_piecesOn_18 ?_
        refine vp_callSi (va_Run.run (va_runSN (As := [.int (nI (i / 3)), .int (pr i)]) (rest := []) ⟨hx, hb, hml, hown, hts⟩ (c_X5_ringField l (i / 3) (pr i) (by omega)) (cf_RX0_34 hts hK.2 ⟨Nat.le_of_ble_eq_true rfl, Nat.le_of_ble_eq_true rfl⟩) pre_P rfl rfl hl.1 rfl (lv_room (Nat.le_of_ble_eq_true rfl)) dX0_piecesOn_19 ⟨Nat.le_of_ble_eq_true rfl, Nat.le_of_ble_eq_true rfl⟩)) (fun r15 hr15 => ?_)
        subst hr15
        refine lv_iload_n hx hb dX0_piecesOn_22 rfl (lv_at hl 3 rfl) ?_
        refine lv_icmp_ne (tgt := 29) hx hb dX0_piecesOn_23 (by decide) (fun c_16 => ?_) (fun c_16 => ?_)
        · refine lv_iinc (v := nI (i + 1)) (lv' := [(3, .int (nI (i + 1))), (2, .int (nI f)), (0, .ref qb), (1, .int g)]) hx hb dX0_piecesOn_29 hl (k := 0) rfl (nI_inc i) (by decide) rfl (fun ls hl => ?_)
          refine lv_goto (tgt := 4) hx hb dX0_piecesOn_32 (by decide) ?_
          exact ih (i + 1) f (by omega) (by rw [cnt_f (by simp [pcP, c_16]), hf]) (by omega) _ (lv_sub hl [0, 1, 2, 3] rfl)
        · refine lv_iinc (v := nI (f + 1)) (lv' := [(2, .int (nI (f + 1))), (3, .int (nI i)), (0, .ref qb), (1, .int g)]) hx hb dX0_piecesOn_26 hl (k := 1) rfl (nI_inc f) (by decide) rfl (fun ls hl => ?_)
          refine lv_iinc (v := nI (i + 1)) (lv' := [(3, .int (nI (i + 1))), (2, .int (nI (f + 1))), (0, .ref qb), (1, .int g)]) hx hb dX0_piecesOn_29 hl (k := 1) rfl (nI_inc i) (by decide) rfl (fun ls hl => ?_)
          refine lv_goto (tgt := 4) hx hb dX0_piecesOn_32 (by decide) ?_
          exact ih (i + 1) (f + 1) (by omega) (by rw [cnt_t (by simp [pcP, c_16]), hf]) (by omega) _ (lv_sub hl [0, 1, 2, 3] rfl)
  exact L1 13 0 0 (by decide) rfl (by decide) _ (lv_sub hl [0, 1, 2, 3] rfl)

abbrev rm_X0_lowestOn : Room := { frames := 1, cells := 0, slots := 0, locals := 21 }
set_option maxHeartbeats 1000000 in
set_option maxRecDepth 100000 in
theorem c_X0_lowestOn (l : Launch) (G : va_G) (cI cC cZ cG : ClassId) (sz : Nat) (qb qp qs qr qf : Nat) (pr sb br fe : IA) (fl : Int32) (g : Int32) : Met l yX0_lowestOn (.code yX0_lowestOn cX0_lowestOn 3 (some .int) :: wsL_law) rm_X0_lowestOn (va_Pc [.ref qb, .int g] (bw G cI cC cZ cG false sz [(qb, .inr (0, [.ref qp, .ref qs, .ref qr, .ref qf, .int fl])), (qp, .inl (cI, 12, .inl pr)), (qs, .inl (cI, 12, .inl sb)), (qr, .inl (cI, 4, .inl br)), (qf, .inl (cI, 4, .inl fe))])) (vp_Si (fun r => r = low (pcP pr g) 0 12)) 0 0 (fun _ => False) := by
  refine met_bw rfl (Nat.le_of_ble_eq_true rfl) ?_
  intro p e s m below meth c ls hx hb hr hml hown hts hlocks hin hsz hP hK hD0 hX0 hl
  have hown : s.vm.findClass RX0 = some m.cls := hown
  have hl : lv_has ls 3 [(0, .ref qb), (1, .int g)] := hl
  generalize hQ : MQ below (vp_Si (fun r => r = low (pcP pr g) 0 12)) ([.ref qb, .int g] : List Value).toArray s 0 0 (fun _ => False) = Q
  generalize hag : ([.ref qb, .int g] : List Value).toArray = ag at hts hQ ⊢
  refine lv_iconst (v := 0) hx hb dX0_lowestOn_0 (by decide) ?_
  refine lv_istore_n (lv' := [(2, .int 0), (0, .ref qb), (1, .int g)]) hx hb dX0_lowestOn_1 rfl hl (by decide) rfl (fun ls hl => ?_)
  have L1 : ∀ (n : Nat), ∀ (i : Nat), ∀ (hi : i ≤ 12), ∀ (hf : low (pcP pr g) 0 12 = low (pcP pr g) i (12 - i)), ∀ (hn : 13 ≤ i + n), ∀ (ls : Array Slot), lv_has ls 3 [(2, .int (nI i)), (0, .ref qb), (1, .int g)] → W p l e rm_X0_lowestOn s m ag below meth c s.heap [] 0 0 Q (F0 m 2 ls []) := by
    intro n
    induction n with
    | zero =>
      intro i hi hf hn ls hl
      omega
    | succ n ih =>
      intro i hi hf hn ls hl
      have he : i < 12 → 12 - i = (12 - (i + 1)) + 1 := fun h => by omega
      refine lv_iload_n hx hb dX0_lowestOn_2 rfl (lv_at hl 0 rfl) ?_
      refine lv_bipush (v := 12) hx hb dX0_lowestOn_3 (by decide) ?_
      refine zi_ge (tgt := 32) hx hb i 12 dX0_lowestOn_5 (by decide) rfl rfl (by omega) (by decide) (fun c_18 => ?_) (fun c_18 => ?_)
      · refine lv_bipush (v := (-6)) hx hb dX0_lowestOn_32 (by decide) ?_
        subst hQ
        exact W.iret (v := (-6)) hx hb hr (fun t ht hW => ⟨(-6), rfl, by rw [hf, show 12 - i = 0 by omega]; rfl, ht⟩) (fun _ h => absurd h List.not_mem_nil) dX0_lowestOn_34
      · refine lv_iload_n hx hb dX0_lowestOn_8 rfl (lv_at hl 0 rfl) ?_
        refine lv_iconst (v := 3) hx hb dX0_lowestOn_9 (by decide) ?_
        refine zi_div hx hb i 3 dX0_lowestOn_10 rfl rfl (by omega) (by decide) (by decide) ?_
        refine lv_aload_n hx hb dX0_lowestOn_11 rfl (lv_at hl 1 rfl) ?_
        refine va_get (D := G) (ci := 0) (v := .ref qp) (C := RX0) (T := TX0) (N := 5) hx hb hts inlX0 hown hK.1 hP 0 rfl rfl 0 (by decide) (hts _ wd52) (fun _ h9 => h9) rfl dX0_lowestOn_12 ?_
        refine lv_iload_n hx hb dX0_lowestOn_15 rfl (lv_at hl 0 rfl) ?_
        refine za_ld hx hb hK.1 hP 1 0 rfl rfl i rfl (by omega) (by decide) dX0_lowestOn_16 ?_
        refine vp_callSi (va_Run.run (va_runSN (As := [.int (nI (i / 3)), .int (pr i)]) (rest := []) ⟨hx, hb, hml, hown, hts⟩ (c_X5_ringField l (i / 3) (pr i) (by omega)) (cf_RX0_34 hts hK.2 ⟨Nat.le_of_ble_eq_true rfl, Nat.le_of_ble_eq_true rfl⟩) pre_P rfl rfl hl.1 rfl (lv_room (Nat.le_of_ble_eq_true rfl)) dX0_lowestOn_17 ⟨Nat.le_of_ble_eq_true rfl, Nat.le_of_ble_eq_true rfl⟩)) (fun r19 hr19 => ?_)
        subst hr19
        refine lv_iload_n hx hb dX0_lowestOn_20 rfl (lv_at hl 2 rfl) ?_
        refine lv_icmp_ne (tgt := 26) hx hb dX0_lowestOn_21 (by decide) (fun c_20 => ?_) (fun c_20 => ?_)
        · refine lv_iinc (v := nI (i + 1)) (lv' := [(2, .int (nI (i + 1))), (0, .ref qb), (1, .int g)]) hx hb dX0_lowestOn_26 hl (k := 0) rfl (nI_inc i) (by decide) rfl (fun ls hl => ?_)
          refine lv_goto (tgt := 2) hx hb dX0_lowestOn_29 (by decide) ?_
          exact ih (i + 1) (by omega) (by rw [hf, he c_18]; simp [low, pcP, c_20]) (by omega) _ (lv_sub hl [0, 1, 2] rfl)
        · refine lv_iload_n hx hb dX0_lowestOn_24 rfl (lv_at hl 0 rfl) ?_
          subst hQ
          exact W.iret (v := nI i) hx hb hr (fun t ht hW => ⟨nI i, rfl, by rw [hf, he c_18]; simp [low, pcP, c_20], ht⟩) (fun _ h => absurd h List.not_mem_nil) dX0_lowestOn_25
  exact L1 13 0 (by decide) rfl (by decide) _ (lv_sub hl [0, 1, 2] rfl)

abbrev rm_X0_rivalsAt : Room := { frames := 1, cells := 0, slots := 0, locals := 21 }
set_option maxHeartbeats 1000000 in
set_option maxRecDepth 100000 in
theorem c_X0_rivalsAt (l : Launch) (G : va_G) (cI cC cZ cG : ClassId) (sz : Nat) (qb qp qs qr qf : Nat) (pr sb br fe : IA) (fl : Int32) (pn : Nat) (v : Int32) (hp : pn < 4) : Met l yX0_rivalsAt (.code yX0_rivalsAt cX0_rivalsAt 6 (some .int) :: wsL_law) rm_X0_rivalsAt (va_Pc [.ref qb, .int (nI pn), .int v] (bw G cI cC cZ cG false sz [(qb, .inr (0, [.ref qp, .ref qs, .ref qr, .ref qf, .int fl])), (qp, .inl (cI, 12, .inl pr)), (qs, .inl (cI, 12, .inl sb)), (qr, .inl (cI, 4, .inl br)), (qf, .inl (cI, 4, .inl fe))])) (vp_Si (fun r => r = nI (rv pr pn v))) 0 0 (fun _ => False) := by
  refine met_bw rfl (Nat.le_of_ble_eq_true rfl) ?_
  intro p e s m below meth c ls hx hb hr hml hown hts hlocks hin hsz hP hK hD0 hX0 hl
  have hown : s.vm.findClass RX0 = some m.cls := hown
  have hl : lv_has ls 6 [(0, .ref qb), (1, .int (nI pn)), (2, .int v)] := hl
  generalize hQ : MQ below (vp_Si (fun r => r = nI (rv pr pn v))) ([.ref qb, .int (nI pn), .int v] : List Value).toArray s 0 0 (fun _ => False) = Q
  generalize hag : ([.ref qb, .int (nI pn), .int v] : List Value).toArray = ag at hts hQ ⊢
  refine lv_iload_n hx hb dX0_rivalsAt_0 rfl (lv_at hl 1 rfl) ?_
  refine lv_iload_n hx hb dX0_rivalsAt_1 rfl (lv_at hl 2 rfl) ?_
  refine vp_callSi (va_Run.run (va_runSN (As := [.int (nI pn), .int v]) (rest := []) ⟨hx, hb, hml, hown, hts⟩ (c_X5_ringField l pn v (by omega)) (cf_RX0_34 hts hK.2 ⟨Nat.le_of_ble_eq_true rfl, Nat.le_of_ble_eq_true rfl⟩) pre_P rfl rfl hl.1 rfl (lv_room (Nat.le_of_ble_eq_true rfl)) dX0_rivalsAt_2 ⟨Nat.le_of_ble_eq_true rfl, Nat.le_of_ble_eq_true rfl⟩)) (fun r21 hr21 => ?_)
  subst hr21
  refine lv_istore_n (lv' := [(3, .int (rf pn v)), (0, .ref qb), (1, .int (nI pn)), (2, .int v)]) hx hb dX0_rivalsAt_5 rfl hl (by decide) rfl (fun ls hl => ?_)
  refine lv_iconst (v := 0) hx hb dX0_rivalsAt_6 (by decide) ?_
  refine lv_istore (lv' := [(4, .int 0), (3, .int (rf pn v)), (0, .ref qb), (1, .int (nI pn)), (2, .int v)]) hx hb dX0_rivalsAt_7 hl (by decide) rfl (fun ls hl => ?_)
  refine lv_iconst (v := 0) hx hb dX0_rivalsAt_9 (by decide) ?_
  refine lv_istore (lv' := [(5, .int 0), (4, .int 0), (3, .int (rf pn v)), (0, .ref qb), (1, .int (nI pn)), (2, .int v)]) hx hb dX0_rivalsAt_10 hl (by decide) rfl (fun ls hl => ?_)
  have L1 : ∀ (n : Nat), ∀ (i : Nat), ∀ (f : Nat), ∀ (hi : i ≤ 12), ∀ (hf : f = cnt (rvP pr pn (rf pn v)) i), ∀ (hn : 13 ≤ i + n), ∀ (ls : Array Slot), lv_has ls 6 [(5, .int (nI i)), (4, .int (nI f)), (3, .int (rf pn v)), (0, .ref qb), (1, .int (nI pn)), (2, .int v)] → W p l e rm_X0_rivalsAt s m ag below meth c s.heap [] 0 0 Q (F0 m 12 ls []) := by
    intro n
    induction n with
    | zero =>
      intro i f hi hf hn ls hl
      omega
    | succ n ih =>
      intro i f hi hf hn ls hl
      refine lv_iload hx hb dX0_rivalsAt_12 (lv_at hl 0 rfl) ?_
      refine lv_bipush (v := 12) hx hb dX0_rivalsAt_14 (by decide) ?_
      refine zi_ge (tgt := 60) hx hb i 12 dX0_rivalsAt_16 (by decide) rfl rfl (by omega) (by decide) (fun c_23 => ?_) (fun c_23 => ?_)
      · refine lv_iload hx hb dX0_rivalsAt_60 (lv_at hl 1 rfl) ?_
        subst hQ
        exact W.iret (v := nI f) hx hb hr (fun t ht hW => ⟨nI f, rfl, by rw [hf, show i = 12 by omega]; rfl, ht⟩) (fun _ h => absurd h List.not_mem_nil) dX0_rivalsAt_62
      · refine lv_iload_n hx hb dX0_rivalsAt_19 rfl (lv_at hl 2 rfl) ?_
        refine lv_bipush (v := (-6)) hx hb dX0_rivalsAt_20 (by decide) ?_
        refine lv_icmp_eq (tgt := 60) hx hb dX0_rivalsAt_22 (by decide) (fun c_24 => ?_) (fun c_24 => ?_)
        · refine lv_iload hx hb dX0_rivalsAt_60 (lv_at hl 1 rfl) ?_
          subst hQ
          exact W.iret (v := nI f) hx hb hr (fun t ht hW => ⟨nI f, rfl, by rw [hf, rv, cnt_none (fun k => by simp [rvP, c_24]), cnt_none (fun k => by simp [rvP, c_24])], ht⟩) (fun _ h => absurd h List.not_mem_nil) dX0_rivalsAt_62
        · refine lv_iload hx hb dX0_rivalsAt_25 (lv_at hl 0 rfl) ?_
          refine lv_iconst (v := 3) hx hb dX0_rivalsAt_27 (by decide) ?_
          refine zi_div hx hb i 3 dX0_rivalsAt_28 rfl rfl (by omega) (by decide) (by decide) ?_
          refine lv_iload_n hx hb dX0_rivalsAt_29 rfl (lv_at hl 4 rfl) ?_
          refine zi_eq (tgt := 54) hx hb (i / 3) pn dX0_rivalsAt_30 (by decide) rfl rfl (by omega) (by omega) (fun c_25 => ?_) (fun c_25 => ?_)
          · refine lv_iinc (v := nI (i + 1)) (lv' := [(5, .int (nI (i + 1))), (4, .int (nI f)), (3, .int (rf pn v)), (0, .ref qb), (1, .int (nI pn)), (2, .int v)]) hx hb dX0_rivalsAt_54 hl (k := 0) rfl (nI_inc i) (by decide) rfl (fun ls hl => ?_)
            refine lv_goto (tgt := 12) hx hb dX0_rivalsAt_57 (by decide) ?_
            exact ih (i + 1) f (by omega) (by rw [cnt_f (by simp [rvP, c_23, c_24, c_25]), hf]) (by omega) _ (lv_sub hl [0, 1, 2, 3, 4, 5] rfl)
          · refine lv_iload hx hb dX0_rivalsAt_33 (lv_at hl 0 rfl) ?_
            refine lv_iconst (v := 3) hx hb dX0_rivalsAt_35 (by decide) ?_
            refine zi_div hx hb i 3 dX0_rivalsAt_36 rfl rfl (by omega) (by decide) (by decide) ?_
            refine lv_aload_n hx hb dX0_rivalsAt_37 rfl (lv_at hl 3 rfl) ?_
            refine va_get (D := G) (ci := 0) (v := .ref qp) (C := RX0) (T := TX0) (N := 5) hx hb hts inlX0 hown hK.1 hP 0 rfl rfl 0 (by decide) (hts _ wd52) (fun _ h9 => h9) rfl dX0_rivalsAt_38 ?_
            refine lv_iload hx hb dX0_rivalsAt_41 (lv_at hl 0 rfl) ?_
            refine za_ld hx hb hK.1 hP 1 0 rfl rfl i rfl (by omega) (by decide) dX0_rivalsAt_43 ?_
            refine vp_callSi (va_Run.run (va_runSN (As := [.int (nI (i / 3)), .int (pr i)]) (rest := []) ⟨hx, hb, hml, hown, hts⟩ (c_X5_ringField l (i / 3) (pr i) (by omega)) (cf_RX0_34 hts hK.2 ⟨Nat.le_of_ble_eq_true rfl, Nat.le_of_ble_eq_true rfl⟩) pre_P rfl rfl hl.1 rfl (lv_room (Nat.le_of_ble_eq_true rfl)) dX0_rivalsAt_44 ⟨Nat.le_of_ble_eq_true rfl, Nat.le_of_ble_eq_true rfl⟩)) (fun r26 hr26 => ?_)
            subst hr26
            refine lv_iload_n hx hb dX0_rivalsAt_47 rfl (lv_at hl 2 rfl) ?_
            refine lv_icmp_ne (tgt := 54) hx hb dX0_rivalsAt_48 (by decide) (fun c_27 => ?_) (fun c_27 => ?_)
            · refine lv_iinc (v := nI (i + 1)) (lv' := [(5, .int (nI (i + 1))), (4, .int (nI f)), (3, .int (rf pn v)), (0, .ref qb), (1, .int (nI pn)), (2, .int v)]) hx hb dX0_rivalsAt_54 hl (k := 0) rfl (nI_inc i) (by decide) rfl (fun ls hl => ?_)
              refine lv_goto (tgt := 12) hx hb dX0_rivalsAt_57 (by decide) ?_
              exact ih (i + 1) f (by omega) (by rw [cnt_f (by simp [rvP, c_23, c_24, c_25, c_27]), hf]) (by omega) _ (lv_sub hl [0, 1, 2, 3, 4, 5] rfl)
            · refine lv_iinc (v := nI (f + 1)) (lv' := [(4, .int (nI (f + 1))), (5, .int (nI i)), (3, .int (rf pn v)), (0, .ref qb), (1, .int (nI pn)), (2, .int v)]) hx hb dX0_rivalsAt_51 hl (k := 1) rfl (nI_inc f) (by decide) rfl (fun ls hl => ?_)
              refine lv_iinc (v := nI (i + 1)) (lv' := [(5, .int (nI (i + 1))), (4, .int (nI (f + 1))), (3, .int (rf pn v)), (0, .ref qb), (1, .int (nI pn)), (2, .int v)]) hx hb dX0_rivalsAt_54 hl (k := 1) rfl (nI_inc i) (by decide) rfl (fun ls hl => ?_)
              refine lv_goto (tgt := 12) hx hb dX0_rivalsAt_57 (by decide) ?_
              exact ih (i + 1) (f + 1) (by omega) (by rw [cnt_t (by simp [rvP, c_23, c_24, c_25, c_27]), hf]) (by omega) _ (lv_sub hl [0, 1, 2, 3, 4, 5] rfl)
  exact L1 13 0 0 (by decide) rfl (by decide) _ (lv_sub hl [0, 1, 2, 3, 4, 5] rfl)

abbrev rm_X0_matesAt : Room := { frames := 0, cells := 0, slots := 0, locals := 0 }
set_option maxHeartbeats 1000000 in
set_option maxRecDepth 100000 in
theorem c_X0_matesAt (l : Launch) (G : va_G) (cI cC cZ cG : ClassId) (sz : Nat) (qb qp qs qr qf : Nat) (pr sb br fe : IA) (fl : Int32) (k : Nat) (v : Int32) (hk : k < 12) : Met l yX0_matesAt (.code yX0_matesAt cX0_matesAt 6 (some .int) :: wsL_law) rm_X0_matesAt (va_Pc [.ref qb, .int (nI k), .int v] (bw G cI cC cZ cG false sz [(qb, .inr (0, [.ref qp, .ref qs, .ref qr, .ref qf, .int fl])), (qp, .inl (cI, 12, .inl pr)), (qs, .inl (cI, 12, .inl sb)), (qr, .inl (cI, 4, .inl br)), (qf, .inl (cI, 4, .inl fe))])) (vp_Si (fun r => r = nI (mt pr k v))) 0 0 (fun _ => False) := by
  refine met_bw rfl (Nat.le_of_ble_eq_true rfl) ?_
  intro p e s m below meth c ls hx hb hr hml hown hts hlocks hin hsz hP hK hD0 hX0 hl
  have hown : s.vm.findClass RX0 = some m.cls := hown
  have hl : lv_has ls 6 [(0, .ref qb), (1, .int (nI k)), (2, .int v)] := hl
  generalize hQ : MQ below (vp_Si (fun r => r = nI (mt pr k v))) ([.ref qb, .int (nI k), .int v] : List Value).toArray s 0 0 (fun _ => False) = Q
  generalize hag : ([.ref qb, .int (nI k), .int v] : List Value).toArray = ag at hts hQ ⊢
  refine lv_iload_n hx hb dX0_matesAt_0 rfl (lv_at hl 1 rfl) ?_
  refine lv_iload_n hx hb dX0_matesAt_1 rfl (lv_at hl 1 rfl) ?_
  refine lv_iconst (v := 3) hx hb dX0_matesAt_2 (by decide) ?_
  refine zi_rem hx hb k 3 dX0_matesAt_3 rfl rfl (by omega) (by decide) (by decide) ?_
  refine zi_sub hx hb k (k % 3) dX0_matesAt_4 rfl rfl (Nat.mod_le _ _) ?_
  refine lv_istore_n (lv' := [(3, .int (nI (k - (k % 3)))), (0, .ref qb), (1, .int (nI k)), (2, .int v)]) hx hb dX0_matesAt_5 rfl hl (by decide) rfl (fun ls hl => ?_)
  refine lv_iconst (v := 0) hx hb dX0_matesAt_6 (by decide) ?_
  refine lv_istore (lv' := [(4, .int 0), (3, .int (nI (k - (k % 3)))), (0, .ref qb), (1, .int (nI k)), (2, .int v)]) hx hb dX0_matesAt_7 hl (by decide) rfl (fun ls hl => ?_)
  refine lv_iload_n hx hb dX0_matesAt_9 rfl (lv_at hl 1 rfl) ?_
  refine lv_istore (lv' := [(5, .int (nI (k - (k % 3)))), (4, .int 0), (3, .int (nI (k - (k % 3)))), (0, .ref qb), (1, .int (nI k)), (2, .int v)]) hx hb dX0_matesAt_10 hl (by decide) rfl (fun ls hl => ?_)
  have L1 : ∀ (n : Nat), ∀ (i : Nat), ∀ (f : Nat), ∀ (h0 : (k - k % 3) ≤ i), ∀ (hi : i ≤ (k - k % 3) + 3), ∀ (hf : f = cnt (mtP pr k v) (i - (k - k % 3))), ∀ (hn : (k - k % 3) + 4 ≤ i + n), ∀ (ls : Array Slot), lv_has ls 6 [(5, .int (nI i)), (4, .int (nI f)), (3, .int (nI (k - (k % 3)))), (0, .ref qb), (1, .int (nI k)), (2, .int v)] → W p l e rm_X0_matesAt s m ag below meth c s.heap [] 0 0 Q (F0 m 12 ls []) := by
    intro n
    induction n with
    | zero =>
      intro i f h0 hi hf hn ls hl
      omega
    | succ n ih =>
      intro i f h0 hi hf hn ls hl
      have hb2 : (k - k % 3) + (i - (k - k % 3)) = i := by omega
      have hb3 : i + 1 - (k - k % 3) = (i - (k - k % 3)) + 1 := by omega
      refine lv_iload hx hb dX0_matesAt_12 (lv_at hl 0 rfl) ?_
      refine lv_iload_n hx hb dX0_matesAt_14 rfl (lv_at hl 2 rfl) ?_
      refine lv_iconst (v := 3) hx hb dX0_matesAt_15 (by decide) ?_
      refine zi_add hx hb (k - (k % 3)) 3 dX0_matesAt_16 rfl rfl ?_
      refine zi_ge (tgt := 46) hx hb i ((k - (k % 3)) + 3) dX0_matesAt_17 (by decide) rfl rfl (by omega) (by omega) (fun c_29 => ?_) (fun c_29 => ?_)
      · refine lv_iload hx hb dX0_matesAt_46 (lv_at hl 1 rfl) ?_
        subst hQ
        exact W.iret (v := nI f) hx hb hr (fun t ht hW => ⟨nI f, rfl, by rw [hf, show i - (k - k % 3) = 3 by omega]; rfl, ht⟩) (fun _ h => absurd h List.not_mem_nil) dX0_matesAt_48
      · refine lv_iload hx hb dX0_matesAt_20 (lv_at hl 0 rfl) ?_
        refine lv_iload_n hx hb dX0_matesAt_22 rfl (lv_at hl 4 rfl) ?_
        refine zi_eq (tgt := 40) hx hb i k dX0_matesAt_23 (by decide) rfl rfl (by omega) (by omega) (fun c_30 => ?_) (fun c_30 => ?_)
        · refine lv_iinc (v := nI (i + 1)) (lv' := [(5, .int (nI (i + 1))), (4, .int (nI f)), (3, .int (nI (k - (k % 3)))), (0, .ref qb), (1, .int (nI k)), (2, .int v)]) hx hb dX0_matesAt_40 hl (k := 0) rfl (nI_inc i) (by decide) rfl (fun ls hl => ?_)
          refine lv_goto (tgt := 12) hx hb dX0_matesAt_43 (by decide) ?_
          exact ih (i + 1) f (by omega) (by omega) (by rw [hb3, cnt_f (by simp [mtP, hb2, c_29, c_30]), hf]) (by omega) _ (lv_sub hl [0, 1, 2, 3, 4, 5] rfl)
        · refine lv_aload_n hx hb dX0_matesAt_26 rfl (lv_at hl 3 rfl) ?_
          refine va_get (D := G) (ci := 0) (v := .ref qp) (C := RX0) (T := TX0) (N := 5) hx hb hts inlX0 hown hK.1 hP 0 rfl rfl 0 (by decide) (hts _ wd52) (fun _ h9 => h9) rfl dX0_matesAt_27 ?_
          refine lv_iload hx hb dX0_matesAt_30 (lv_at hl 0 rfl) ?_
          refine za_ld hx hb hK.1 hP 1 0 rfl rfl i rfl (by omega) (by decide) dX0_matesAt_32 ?_
          refine lv_iload_n hx hb dX0_matesAt_33 rfl (lv_at hl 5 rfl) ?_
          refine lv_icmp_ne (tgt := 40) hx hb dX0_matesAt_34 (by decide) (fun c_31 => ?_) (fun c_31 => ?_)
          · refine lv_iinc (v := nI (i + 1)) (lv' := [(5, .int (nI (i + 1))), (4, .int (nI f)), (3, .int (nI (k - (k % 3)))), (0, .ref qb), (1, .int (nI k)), (2, .int v)]) hx hb dX0_matesAt_40 hl (k := 0) rfl (nI_inc i) (by decide) rfl (fun ls hl => ?_)
            refine lv_goto (tgt := 12) hx hb dX0_matesAt_43 (by decide) ?_
            exact ih (i + 1) f (by omega) (by omega) (by rw [hb3, cnt_f (by simp [mtP, hb2, c_29, c_30, c_31]), hf]) (by omega) _ (lv_sub hl [0, 1, 2, 3, 4, 5] rfl)
          · refine lv_iinc (v := nI (f + 1)) (lv' := [(4, .int (nI (f + 1))), (5, .int (nI i)), (3, .int (nI (k - (k % 3)))), (0, .ref qb), (1, .int (nI k)), (2, .int v)]) hx hb dX0_matesAt_37 hl (k := 1) rfl (nI_inc f) (by decide) rfl (fun ls hl => ?_)
            refine lv_iinc (v := nI (i + 1)) (lv' := [(5, .int (nI (i + 1))), (4, .int (nI (f + 1))), (3, .int (nI (k - (k % 3)))), (0, .ref qb), (1, .int (nI k)), (2, .int v)]) hx hb dX0_matesAt_40 hl (k := 1) rfl (nI_inc i) (by decide) rfl (fun ls hl => ?_)
            refine lv_goto (tgt := 12) hx hb dX0_matesAt_43 (by decide) ?_
            exact ih (i + 1) (f + 1) (by omega) (by omega) (by rw [hb3, cnt_t (by simp [mtP, hb2, c_29, c_30, c_31]), hf]) (by omega) _ (lv_sub hl [0, 1, 2, 3, 4, 5] rfl)
  exact L1 4 (k - (k % 3)) 0 (by omega) (by omega) (by rw [Nat.sub_self]; rfl) (by omega) _ (lv_sub hl [0, 1, 2, 3, 4, 5] rfl)

abbrev rm_X0_isInPair : Room := { frames := 1, cells := 0, slots := 0, locals := 25 }
theorem cf_RX0_38 {R : Room} {s : State} {args : Array Value} (ht : ∀ w ∈ wsL_law, w.before args s = true) (hN : ∀ w ∈ nestW, va_Nw w s) (hR : rm_X5_isOnRing.frames + 1 ≤ R.frames ∧ 8 + (1 + 11) + rm_X5_isOnRing.locals ≤ R.locals) : va_CN R s args RX0 38 yX5_isOnRing "BridgedPachisi" cX5_isOnRing 1 (some .boolean) (.code yX5_isOnRing cX5_isOnRing 1 (some .boolean) :: wsL_law) rm_X5_isOnRing 0 0 1 ∧ (Cond.static yX5_isOnRing).before args s = true ∧ True := ⟨cw_N 1 ht hN nw58 wd2 wd358 (by decide +kernel) rfl rfl hR, ht _ wd357, trivial⟩
theorem cf_RX0_42 {R : Room} {s : State} {args : Array Value} (ht : ∀ w ∈ wsL_law, w.before args s = true) (hR : rm_X0_matesAt.frames + 1 ≤ R.frames ∧ 8 + (6 + 11) + rm_X0_matesAt.locals ≤ R.locals) : CallW R s args RX0 RX0 42 yX0_matesAt cX0_matesAt 6 (some .int) (.code yX0_matesAt cX0_matesAt 6 (some .int) :: wsL_law) rm_X0_matesAt 0 0 2 := ⟨cw_B 2 ht wd228 wd36 wd231 (by decide +kernel) rfl rfl hR, ht _ wd229, ht _ wd230⟩
set_option maxHeartbeats 1000000 in
set_option maxRecDepth 100000 in
theorem c_X0_isInPair (l : Launch) (G : va_G) (cI cC cZ cG : ClassId) (sz : Nat) (qb qp qs qr qf : Nat) (pr sb br fe : IA) (fl : Int32) (k : Nat) (hk : k < 12) : Met l yX0_isInPair (.code yX0_isInPair cX0_isInPair 2 (some .boolean) :: wsL_law) rm_X0_isInPair (va_Pc [.ref qb, .int (nI k)] (bw G cI cC cZ cG false sz [(qb, .inr (0, [.ref qp, .ref qs, .ref qr, .ref qf, .int fl])), (qp, .inl (cI, 12, .inl pr)), (qs, .inl (cI, 12, .inl sb)), (qr, .inl (cI, 4, .inl br)), (qf, .inl (cI, 4, .inl fe))])) (vp_Si (fun r => r = bz (pairQ pr k = true))) 0 0 (fun _ => False) := by
  refine met_bw rfl (Nat.le_of_ble_eq_true rfl) ?_
  intro p e s m below meth c ls hx hb hr hml hown hts hlocks hin hsz hP hK hD0 hX0 hl
  have hown : s.vm.findClass RX0 = some m.cls := hown
  have hl : lv_has ls 2 [(0, .ref qb), (1, .int (nI k))] := hl
  refine lv_aload_n hx hb dX0_isInPair_0 rfl (lv_at hl 0 rfl) ?_
  refine va_get (D := G) (ci := 0) (v := .ref qp) (C := RX0) (T := TX0) (N := 5) hx hb hts inlX0 hown hK.1 hP 0 rfl rfl 0 (by decide) (hts _ wd52) (fun _ h9 => h9) rfl dX0_isInPair_1 ?_
  refine lv_iload_n hx hb dX0_isInPair_4 rfl (lv_at hl 1 rfl) ?_
  refine za_ld hx hb hK.1 hP 1 0 rfl rfl k rfl (by omega) (by decide) dX0_isInPair_5 ?_
  refine vp_callSi (va_Run.run (va_runSN (As := [.int (pr k)]) (rest := []) ⟨hx, hb, hml, hown, hts⟩ (c_X5_isOnRing l (pr k)) (cf_RX0_38 hts hK.2 ⟨Nat.le_of_ble_eq_true rfl, Nat.le_of_ble_eq_true rfl⟩) pre_P rfl rfl hl.1 rfl (lv_room (Nat.le_of_ble_eq_true rfl)) dX0_isInPair_6 ⟨Nat.le_of_ble_eq_true rfl, Nat.le_of_ble_eq_true rfl⟩)) (fun r32 hr32 => ?_)
  subst hr32
  refine zb_eq (tgt := 30) hx hb dX0_isInPair_9 (by decide) (fun c_33 => ?_) (fun c_33 => ?_)
  · refine lv_iconst (v := 0) hx hb dX0_isInPair_30 (by decide) ?_
    exact W.zret (v := 0) hx hb hr rfl (fun t ht hW => ⟨0, rfl, bz_f (by simp [pairQ, c_33]), ht⟩) (fun _ h => absurd h List.not_mem_nil) dX0_isInPair_31
  · refine lv_aload_n hx hb dX0_isInPair_12 rfl (lv_at hl 0 rfl) ?_
    refine lv_iload_n hx hb dX0_isInPair_13 rfl (lv_at hl 1 rfl) ?_
    refine lv_aload_n hx hb dX0_isInPair_14 rfl (lv_at hl 0 rfl) ?_
    refine va_get (D := G) (ci := 0) (v := .ref qp) (C := RX0) (T := TX0) (N := 5) hx hb hts inlX0 hown hK.1 hP 0 rfl rfl 0 (by decide) (hts _ wd52) (fun _ h9 => h9) rfl dX0_isInPair_15 ?_
    refine lv_iload_n hx hb dX0_isInPair_18 rfl (lv_at hl 1 rfl) ?_
    refine za_ld hx hb hK.1 hP 1 0 rfl rfl k rfl (by omega) (by decide) dX0_isInPair_19 ?_
    have hPc : va_P G vwCl [(qb, .inr (0, [.ref qp, .ref qs, .ref qr, .ref qf, .int fl])), (qp, .inl (cI, 12, .inl pr)), (qs, .inl (cI, 12, .inl sb)), (qr, .inl (cI, 4, .inl br)), (qf, .inl (cI, 4, .inl fe))] s.heap := hP
    have hDc := hD0
    refine vp_callSi (va_Run.run (va_runV (As := [.int (nI k), .int (pr k)]) (rest := []) ⟨hx, hb, hml, hown, hts⟩ (c_X0_matesAt l G cI cC cZ cG s.heap.size qb qp qs qr qf pr sb br fe fl k (pr k) (by omega)) (cf_RX0_42 hts ⟨Nat.le_of_ble_eq_true rfl, Nat.le_of_ble_eq_true rfl⟩) (pre_V hK hPc hDc (ci := 0) (q0 := 0) rfl rfl) rfl rfl hl.1 rfl (lv_room (Nat.le_of_ble_eq_true rfl)) dX0_isInPair_20 ⟨Nat.le_of_ble_eq_true rfl, Nat.le_of_ble_eq_true rfl⟩)) (fun r34 hr34 => ?_)
    subst hr34
    have hf35 := (show mt pr k (pr k) ≤ 3 from cnt_le (mtP pr k (pr k)) 3)
    refine z0_le (tgt := 30) hx hb (mt pr k (pr k)) dX0_isInPair_23 (by decide) rfl (by omega) (fun c_36 => ?_) (fun c_36 => ?_)
    · refine lv_iconst (v := 0) hx hb dX0_isInPair_30 (by decide) ?_
      exact W.zret (v := 0) hx hb hr rfl (fun t ht hW => ⟨0, rfl, bz_f (by simp [pairQ, c_33, c_36]), ht⟩) (fun _ h => absurd h List.not_mem_nil) dX0_isInPair_31
    · refine lv_iconst (v := 1) hx hb dX0_isInPair_26 (by decide) ?_
      refine lv_goto (tgt := 31) hx hb dX0_isInPair_27 (by decide) ?_
      exact W.zret (v := 1) hx hb hr rfl (fun t ht hW => ⟨1, rfl, bz_t (by simp [pairQ, c_33, c_36]), ht⟩) (fun _ h => absurd h List.not_mem_nil) dX0_isInPair_31

abbrev rm_X0_isFullFor : Room := { frames := 1, cells := 0, slots := 0, locals := 25 }
set_option maxHeartbeats 1000000 in
set_option maxRecDepth 100000 in
theorem c_X0_isFullFor (l : Launch) (G : va_G) (cI cC cZ cG : ClassId) (sz : Nat) (qb qp qs qr qf : Nat) (pr sb br fe : IA) (fl : Int32) (k : Nat) (v : Int32) (hk : k < 12) : Met l yX0_isFullFor (.code yX0_isFullFor cX0_isFullFor 3 (some .boolean) :: wsL_law) rm_X0_isFullFor (va_Pc [.ref qb, .int (nI k), .int v] (bw G cI cC cZ cG false sz [(qb, .inr (0, [.ref qp, .ref qs, .ref qr, .ref qf, .int fl])), (qp, .inl (cI, 12, .inl pr)), (qs, .inl (cI, 12, .inl sb)), (qr, .inl (cI, 4, .inl br)), (qf, .inl (cI, 4, .inl fe))])) (vp_Si (fun r => r = bz (fullQ pr k v = true))) 0 0 (fun _ => False) := by
  refine met_bw rfl (Nat.le_of_ble_eq_true rfl) ?_
  intro p e s m below meth c ls hx hb hr hml hown hts hlocks hin hsz hP hK hD0 hX0 hl
  have hown : s.vm.findClass RX0 = some m.cls := hown
  have hl : lv_has ls 3 [(0, .ref qb), (1, .int (nI k)), (2, .int v)] := hl
  refine lv_iload_n hx hb dX0_isFullFor_0 rfl (lv_at hl 2 rfl) ?_
  refine lv_bipush (v := (-6)) hx hb dX0_isFullFor_1 (by decide) ?_
  refine lv_icmp_eq (tgt := 26) hx hb dX0_isFullFor_3 (by decide) (fun c_37 => ?_) (fun c_37 => ?_)
  · refine lv_iconst (v := 0) hx hb dX0_isFullFor_26 (by decide) ?_
    exact W.zret (v := 0) hx hb hr rfl (fun t ht hW => ⟨0, rfl, bz_f (by simp [fullQ, c_37]), ht⟩) (fun _ h => absurd h List.not_mem_nil) dX0_isFullFor_27
  · refine lv_iload_n hx hb dX0_isFullFor_6 rfl (lv_at hl 2 rfl) ?_
    refine lv_bipush (v := 35) hx hb dX0_isFullFor_7 (by decide) ?_
    refine lv_icmp_eq (tgt := 26) hx hb dX0_isFullFor_9 (by decide) (fun c_38 => ?_) (fun c_38 => ?_)
    · refine lv_iconst (v := 0) hx hb dX0_isFullFor_26 (by decide) ?_
      exact W.zret (v := 0) hx hb hr rfl (fun t ht hW => ⟨0, rfl, bz_f (by simp [fullQ, c_37, c_38]), ht⟩) (fun _ h => absurd h List.not_mem_nil) dX0_isFullFor_27
    · refine lv_aload_n hx hb dX0_isFullFor_12 rfl (lv_at hl 0 rfl) ?_
      refine lv_iload_n hx hb dX0_isFullFor_13 rfl (lv_at hl 1 rfl) ?_
      refine lv_iload_n hx hb dX0_isFullFor_14 rfl (lv_at hl 2 rfl) ?_
      have hPc : va_P G vwCl [(qb, .inr (0, [.ref qp, .ref qs, .ref qr, .ref qf, .int fl])), (qp, .inl (cI, 12, .inl pr)), (qs, .inl (cI, 12, .inl sb)), (qr, .inl (cI, 4, .inl br)), (qf, .inl (cI, 4, .inl fe))] s.heap := hP
      have hDc := hD0
      refine vp_callSi (va_Run.run (va_runV (As := [.int (nI k), .int v]) (rest := []) ⟨hx, hb, hml, hown, hts⟩ (c_X0_matesAt l G cI cC cZ cG s.heap.size qb qp qs qr qf pr sb br fe fl k v (by omega)) (cf_RX0_42 hts ⟨Nat.le_of_ble_eq_true rfl, Nat.le_of_ble_eq_true rfl⟩) (pre_V hK hPc hDc (ci := 0) (q0 := 0) rfl rfl) rfl rfl hl.1 rfl (lv_room (Nat.le_of_ble_eq_true rfl)) dX0_isFullFor_15 ⟨Nat.le_of_ble_eq_true rfl, Nat.le_of_ble_eq_true rfl⟩)) (fun r39 hr39 => ?_)
      subst hr39
      have hf40 := (show mt pr k v ≤ 3 from cnt_le (mtP pr k v) 3)
      refine lv_iconst (v := 2) hx hb dX0_isFullFor_18 (by decide) ?_
      refine zi_lt (tgt := 26) hx hb (mt pr k v) 2 dX0_isFullFor_19 (by decide) rfl rfl (by omega) (by decide) (fun c_41 => ?_) (fun c_41 => ?_)
      · refine lv_iconst (v := 0) hx hb dX0_isFullFor_26 (by decide) ?_
        exact W.zret (v := 0) hx hb hr rfl (fun t ht hW => ⟨0, rfl, bz_f (by simp [fullQ, c_37, c_38, c_41]), ht⟩) (fun _ h => absurd h List.not_mem_nil) dX0_isFullFor_27
      · refine lv_iconst (v := 1) hx hb dX0_isFullFor_22 (by decide) ?_
        refine lv_goto (tgt := 27) hx hb dX0_isFullFor_23 (by decide) ?_
        exact W.zret (v := 1) hx hb hr rfl (fun t ht hW => ⟨1, rfl, bz_t (by simp [fullQ, c_37, c_38, c_41]), ht⟩) (fun _ h => absurd h List.not_mem_nil) dX0_isFullFor_27

abbrev rm_X0_bridgeState : Room := { frames := 1, cells := 0, slots := 0, locals := 20 }
theorem cf_RX0_59 {R : Room} {s : State} {args : Array Value} (ht : ∀ w ∈ wsL_law, w.before args s = true) (hN : ∀ w ∈ nestW, va_Nw w s) (hR : rm_X5_bridgeOn.frames + 1 ≤ R.frames ∧ 8 + (1 + 11) + rm_X5_bridgeOn.locals ≤ R.locals) : va_CN R s args RX0 59 yX5_bridgeOn "BridgedPachisi" cX5_bridgeOn 1 (some .int) (.code yX5_bridgeOn cX5_bridgeOn 1 (some .int) :: wsL_law) rm_X5_bridgeOn 0 0 1 ∧ (Cond.static yX5_bridgeOn).before args s = true ∧ True := ⟨cw_N 1 ht hN nw34 wd2 wd217 (by decide +kernel) rfl rfl hR, ht _ wd216, trivial⟩
set_option maxHeartbeats 1000000 in
set_option maxRecDepth 100000 in
theorem c_X0_bridgeState (l : Launch) (G : va_G) (cI cC cZ cG : ClassId) (sz : Nat) (qb qp qs qr qf : Nat) (pr sb br fe : IA) (fl : Int32) (g : Int32) : Met l yX0_bridgeState (.code yX0_bridgeState cX0_bridgeState 3 (some .int) :: wsL_law) rm_X0_bridgeState (va_Pc [.ref qb, .int g] (bw G cI cC cZ cG false sz [(qb, .inr (0, [.ref qp, .ref qs, .ref qr, .ref qf, .int fl])), (qp, .inl (cI, 12, .inl pr)), (qs, .inl (cI, 12, .inl sb)), (qr, .inl (cI, 4, .inl br)), (qf, .inl (cI, 4, .inl fe))])) (vp_Si (fun r => r = bs br g)) 0 0 (fun _ => False) := by
  refine met_bw rfl (Nat.le_of_ble_eq_true rfl) ?_
  intro p e s m below meth c ls hx hb hr hml hown hts hlocks hin hsz hP hK hD0 hX0 hl
  have hown : s.vm.findClass RX0 = some m.cls := hown
  have hl : lv_has ls 3 [(0, .ref qb), (1, .int g)] := hl
  refine lv_iload_n hx hb dX0_bridgeState_0 rfl (lv_at hl 1 rfl) ?_
  refine vp_callSi (va_Run.run (va_runSN (As := [.int g]) (rest := []) ⟨hx, hb, hml, hown, hts⟩ (c_X5_bridgeOn l g) (cf_RX0_59 hts hK.2 ⟨Nat.le_of_ble_eq_true rfl, Nat.le_of_ble_eq_true rfl⟩) pre_P rfl rfl hl.1 rfl (lv_room (Nat.le_of_ble_eq_true rfl)) dX0_bridgeState_1 ⟨Nat.le_of_ble_eq_true rfl, Nat.le_of_ble_eq_true rfl⟩)) (fun r42 hr42 => ?_)
  subst hr42
  refine lv_istore_n (lv' := [(2, .int (bo g)), (0, .ref qb), (1, .int g)]) hx hb dX0_bridgeState_4 rfl hl (by decide) rfl (fun ls hl => ?_)
  refine lv_iload_n hx hb dX0_bridgeState_5 rfl (lv_at hl 0 rfl) ?_
  refine lv_bipush (v := (-6)) hx hb dX0_bridgeState_6 (by decide) ?_
  refine lv_icmp_ne (tgt := 15) hx hb dX0_bridgeState_8 (by decide) (fun c_43 => ?_) (fun c_43 => ?_)
  · refine lv_aload_n hx hb dX0_bridgeState_15 rfl (lv_at hl 1 rfl) ?_
    refine va_get (D := G) (ci := 0) (v := .ref qr) (C := RX0) (T := TX0) (N := 5) hx hb hts inlX0 hown hK.1 hP 0 rfl rfl 2 (by decide) (hts _ wd54) (fun _ h9 => h9) rfl dX0_bridgeState_16 ?_
    refine lv_iload_n hx hb dX0_bridgeState_19 rfl (lv_at hl 0 rfl) ?_
    refine va_iald hx hb hK.1 hP 3 0 rfl rfl (by obtain ⟨b, hb4, eb⟩ := bo_ne _ c_43; rw [eb]; exact vp_in_nI hb4 (by decide)) dX0_bridgeState_20 ?_
    exact W.iret (v := br (bo g).toNatClampNeg) hx hb hr (fun t ht hW => ⟨br (bo g).toNatClampNeg, rfl, by simp [bs, c_43], ht⟩) (fun _ h => absurd h List.not_mem_nil) dX0_bridgeState_21
  · refine lv_iconst (v := 0) hx hb dX0_bridgeState_11 (by decide) ?_
    refine lv_goto (tgt := 21) hx hb dX0_bridgeState_12 (by decide) ?_
    exact W.iret (v := 0) hx hb hr (fun t ht hW => ⟨0, rfl, by simp [bs, c_43], ht⟩) (fun _ h => absurd h List.not_mem_nil) dX0_bridgeState_21

abbrev rm_X0_isFallenAt : Room := { frames := 2, cells := 0, slots := 0, locals := 42 }
theorem cf_RX0_62 {R : Room} {s : State} {args : Array Value} (ht : ∀ w ∈ wsL_law, w.before args s = true) (hR : rm_X0_bridgeState.frames + 1 ≤ R.frames ∧ 8 + (3 + 11) + rm_X0_bridgeState.locals ≤ R.locals) : CallW R s args RX0 RX0 62 yX0_bridgeState cX0_bridgeState 3 (some .int) (.code yX0_bridgeState cX0_bridgeState 3 (some .int) :: wsL_law) rm_X0_bridgeState 0 0 1 := ⟨cw_B 1 ht wd212 wd36 wd215 (by decide +kernel) rfl rfl hR, ht _ wd213, ht _ wd214⟩
set_option maxHeartbeats 1000000 in
set_option maxRecDepth 100000 in
theorem c_X0_isFallenAt (l : Launch) (G : va_G) (cI cC cZ cG : ClassId) (sz : Nat) (qb qp qs qr qf : Nat) (pr sb br fe : IA) (fl : Int32) (pn : Nat) (v : Int32) (hp : pn < 4) : Met l yX0_isFallenAt (.code yX0_isFallenAt cX0_isFallenAt 3 (some .boolean) :: wsL_law) rm_X0_isFallenAt (va_Pc [.ref qb, .int (nI pn), .int v] (bw G cI cC cZ cG false sz [(qb, .inr (0, [.ref qp, .ref qs, .ref qr, .ref qf, .int fl])), (qp, .inl (cI, 12, .inl pr)), (qs, .inl (cI, 12, .inl sb)), (qr, .inl (cI, 4, .inl br)), (qf, .inl (cI, 4, .inl fe))])) (vp_Si (fun r => r = bz (faQ br pn v = true))) 0 0 (fun _ => False) := by
  refine met_bw rfl (Nat.le_of_ble_eq_true rfl) ?_
  intro p e s m below meth c ls hx hb hr hml hown hts hlocks hin hsz hP hK hD0 hX0 hl
  have hown : s.vm.findClass RX0 = some m.cls := hown
  have hl : lv_has ls 3 [(0, .ref qb), (1, .int (nI pn)), (2, .int v)] := hl
  refine lv_aload_n hx hb dX0_isFallenAt_0 rfl (lv_at hl 0 rfl) ?_
  refine lv_iload_n hx hb dX0_isFallenAt_1 rfl (lv_at hl 1 rfl) ?_
  refine lv_iload_n hx hb dX0_isFallenAt_2 rfl (lv_at hl 2 rfl) ?_
  refine vp_callSi (va_Run.run (va_runSN (As := [.int (nI pn), .int v]) (rest := [.ref qb]) ⟨hx, hb, hml, hown, hts⟩ (c_X5_ringField l pn v (by omega)) (cf_RX0_34 hts hK.2 ⟨Nat.le_of_ble_eq_true rfl, Nat.le_of_ble_eq_true rfl⟩) pre_P rfl rfl hl.1 rfl (lv_room (Nat.le_of_ble_eq_true rfl)) dX0_isFallenAt_3 ⟨Nat.le_of_ble_eq_true rfl, Nat.le_of_ble_eq_true rfl⟩)) (fun r44 hr44 => ?_)
  subst hr44
  have hPc : va_P G vwCl [(qb, .inr (0, [.ref qp, .ref qs, .ref qr, .ref qf, .int fl])), (qp, .inl (cI, 12, .inl pr)), (qs, .inl (cI, 12, .inl sb)), (qr, .inl (cI, 4, .inl br)), (qf, .inl (cI, 4, .inl fe))] s.heap := hP
  have hDc := hD0
  refine vp_callSi (va_Run.run (va_runV (As := [.int (rf pn v)]) (rest := []) ⟨hx, hb, hml, hown, hts⟩ (c_X0_bridgeState l G cI cC cZ cG s.heap.size qb qp qs qr qf pr sb br fe fl (rf pn v)) (cf_RX0_62 hts ⟨Nat.le_of_ble_eq_true rfl, Nat.le_of_ble_eq_true rfl⟩) (pre_V hK hPc hDc (ci := 0) (q0 := 0) rfl rfl) rfl rfl hl.1 rfl (lv_room (Nat.le_of_ble_eq_true rfl)) dX0_isFallenAt_6 ⟨Nat.le_of_ble_eq_true rfl, Nat.le_of_ble_eq_true rfl⟩)) (fun r45 hr45 => ?_)
  subst hr45
  refine lv_iconst (v := 3) hx hb dX0_isFallenAt_9 (by decide) ?_
  refine lv_icmp_ne (tgt := 17) hx hb dX0_isFallenAt_10 (by decide) (fun c_46 => ?_) (fun c_46 => ?_)
  · refine lv_iconst (v := 0) hx hb dX0_isFallenAt_17 (by decide) ?_
    exact W.zret (v := 0) hx hb hr rfl (fun t ht hW => ⟨0, rfl, bz_f (by simp [faQ, c_46]), ht⟩) (fun _ h => absurd h List.not_mem_nil) dX0_isFallenAt_18
  · refine lv_iconst (v := 1) hx hb dX0_isFallenAt_13 (by decide) ?_
    refine lv_goto (tgt := 18) hx hb dX0_isFallenAt_14 (by decide) ?_
    exact W.zret (v := 1) hx hb hr rfl (fun t ht hW => ⟨1, rfl, bz_t (by simp [faQ, c_46]), ht⟩) (fun _ h => absurd h List.not_mem_nil) dX0_isFallenAt_18

abbrev rm_X0_hasRoomFor : Room := { frames := 3, cells := 0, slots := 0, locals := 64 }
theorem cf_RX0_45 {R : Room} {s : State} {args : Array Value} (ht : ∀ w ∈ wsL_law, w.before args s = true) (hR : rm_X0_rivalsAt.frames + 1 ≤ R.frames ∧ 8 + (6 + 11) + rm_X0_rivalsAt.locals ≤ R.locals) : CallW R s args RX0 RX0 45 yX0_rivalsAt cX0_rivalsAt 6 (some .int) (.code yX0_rivalsAt cX0_rivalsAt 6 (some .int) :: wsL_law) rm_X0_rivalsAt 0 0 2 := ⟨cw_B 2 ht wd221 wd36 wd224 (by decide +kernel) rfl rfl hR, ht _ wd222, ht _ wd223⟩
theorem cf_RX0_48 {R : Room} {s : State} {args : Array Value} (ht : ∀ w ∈ wsL_law, w.before args s = true) (hR : rm_X0_isFullFor.frames + 1 ≤ R.frames ∧ 8 + (3 + 11) + rm_X0_isFullFor.locals ≤ R.locals) : CallW R s args RX0 RX0 48 yX0_isFullFor cX0_isFullFor 3 (some .boolean) (.code yX0_isFullFor cX0_isFullFor 3 (some .boolean) :: wsL_law) rm_X0_isFullFor 0 0 2 := ⟨cw_B 2 ht wd421 wd36 wd227 (by decide +kernel) rfl rfl hR, ht _ wd225, ht _ wd226⟩
theorem cf_RX0_52 {R : Room} {s : State} {args : Array Value} (ht : ∀ w ∈ wsL_law, w.before args s = true) (hR : rm_X0_isFallenAt.frames + 1 ≤ R.frames ∧ 8 + (3 + 11) + rm_X0_isFallenAt.locals ≤ R.locals) : CallW R s args RX0 RX0 52 yX0_isFallenAt cX0_isFallenAt 3 (some .boolean) (.code yX0_isFallenAt cX0_isFallenAt 3 (some .boolean) :: wsL_law) rm_X0_isFallenAt 0 0 2 := ⟨cw_B 2 ht wd206 wd36 wd209 (by decide +kernel) rfl rfl hR, ht _ wd207, ht _ wd208⟩
set_option maxHeartbeats 1000000 in
set_option maxRecDepth 100000 in
theorem c_X0_hasRoomFor (l : Launch) (G : va_G) (cI cC cZ cG : ClassId) (sz : Nat) (qb qp qs qr qf : Nat) (pr sb br fe : IA) (fl : Int32) (k : Nat) (v : Int32) (hk : k < 12) : Met l yX0_hasRoomFor (.code yX0_hasRoomFor cX0_hasRoomFor 4 (some .boolean) :: wsL_law) rm_X0_hasRoomFor (va_Pc [.ref qb, .int (nI k), .int v] (bw G cI cC cZ cG false sz [(qb, .inr (0, [.ref qp, .ref qs, .ref qr, .ref qf, .int fl])), (qp, .inl (cI, 12, .inl pr)), (qs, .inl (cI, 12, .inl sb)), (qr, .inl (cI, 4, .inl br)), (qf, .inl (cI, 4, .inl fe))])) (vp_Si (fun r => r = bz (roomQ pr br k v = true))) 0 0 (fun _ => False) := by
  refine met_bw rfl (Nat.le_of_ble_eq_true rfl) ?_
  intro p e s m below meth c ls hx hb hr hml hown hts hlocks hin hsz hP hK hD0 hX0 hl
  have hown : s.vm.findClass RX0 = some m.cls := hown
  have hl : lv_has ls 4 [(0, .ref qb), (1, .int (nI k)), (2, .int v)] := hl
  refine lv_iload_n hx hb dX0_hasRoomFor_0 rfl (lv_at hl 1 rfl) ?_
  refine lv_iconst (v := 3) hx hb dX0_hasRoomFor_1 (by decide) ?_
  refine zi_div hx hb k 3 dX0_hasRoomFor_2 rfl rfl (by omega) (by decide) (by decide) ?_
  refine lv_istore_n (lv' := [(3, .int (nI (k / 3))), (0, .ref qb), (1, .int (nI k)), (2, .int v)]) hx hb dX0_hasRoomFor_3 rfl hl (by decide) rfl (fun ls hl => ?_)
  refine lv_aload_n hx hb dX0_hasRoomFor_4 rfl (lv_at hl 1 rfl) ?_
  refine lv_iload_n hx hb dX0_hasRoomFor_5 rfl (lv_at hl 0 rfl) ?_
  refine lv_iload_n hx hb dX0_hasRoomFor_6 rfl (lv_at hl 3 rfl) ?_
  have hPc : va_P G vwCl [(qb, .inr (0, [.ref qp, .ref qs, .ref qr, .ref qf, .int fl])), (qp, .inl (cI, 12, .inl pr)), (qs, .inl (cI, 12, .inl sb)), (qr, .inl (cI, 4, .inl br)), (qf, .inl (cI, 4, .inl fe))] s.heap := hP
  have hDc := hD0
  refine vp_callSi (va_Run.run (va_runV (As := [.int (nI (k / 3)), .int v]) (rest := []) ⟨hx, hb, hml, hown, hts⟩ (c_X0_rivalsAt l G cI cC cZ cG s.heap.size qb qp qs qr qf pr sb br fe fl (k / 3) v (by omega)) (cf_RX0_45 hts ⟨Nat.le_of_ble_eq_true rfl, Nat.le_of_ble_eq_true rfl⟩) (pre_V hK hPc hDc (ci := 0) (q0 := 0) rfl rfl) rfl rfl hl.1 rfl (lv_room (Nat.le_of_ble_eq_true rfl)) dX0_hasRoomFor_7 ⟨Nat.le_of_ble_eq_true rfl, Nat.le_of_ble_eq_true rfl⟩)) (fun r47 hr47 => ?_)
  subst hr47
  have hf48 := (show rv pr (k / 3) v ≤ 12 from cnt_le (rvP pr (k / 3) (rf (k / 3) v)) 12)
  refine z0_ne (tgt := 35) hx hb (rv pr (k / 3) v) dX0_hasRoomFor_10 (by decide) rfl (by omega) (fun c_49 => ?_) (fun c_49 => ?_)
  · refine lv_iconst (v := 0) hx hb dX0_hasRoomFor_35 (by decide) ?_
    exact W.zret (v := 0) hx hb hr rfl (fun t ht hW => ⟨0, rfl, bz_f (by simp [roomQ, c_49]), ht⟩) (fun _ h => absurd h List.not_mem_nil) dX0_hasRoomFor_36
  · refine lv_aload_n hx hb dX0_hasRoomFor_13 rfl (lv_at hl 1 rfl) ?_
    refine lv_iload_n hx hb dX0_hasRoomFor_14 rfl (lv_at hl 2 rfl) ?_
    refine lv_iload_n hx hb dX0_hasRoomFor_15 rfl (lv_at hl 3 rfl) ?_
    have hPc : va_P G vwCl [(qb, .inr (0, [.ref qp, .ref qs, .ref qr, .ref qf, .int fl])), (qp, .inl (cI, 12, .inl pr)), (qs, .inl (cI, 12, .inl sb)), (qr, .inl (cI, 4, .inl br)), (qf, .inl (cI, 4, .inl fe))] s.heap := hP
    have hDc := hD0
    refine vp_callSi (va_Run.run (va_runV (As := [.int (nI k), .int v]) (rest := []) ⟨hx, hb, hml, hown, hts⟩ (c_X0_isFullFor l G cI cC cZ cG s.heap.size qb qp qs qr qf pr sb br fe fl k v (by omega)) (cf_RX0_48 hts ⟨Nat.le_of_ble_eq_true rfl, Nat.le_of_ble_eq_true rfl⟩) (pre_V hK hPc hDc (ci := 0) (q0 := 0) rfl rfl) rfl rfl hl.1 rfl (lv_room (Nat.le_of_ble_eq_true rfl)) dX0_hasRoomFor_16 ⟨Nat.le_of_ble_eq_true rfl, Nat.le_of_ble_eq_true rfl⟩)) (fun r50 hr50 => ?_)
    subst hr50
    refine zb_ne (tgt := 35) hx hb dX0_hasRoomFor_19 (by decide) (fun c_51 => ?_) (fun c_51 => ?_)
    · refine lv_iconst (v := 0) hx hb dX0_hasRoomFor_35 (by decide) ?_
      exact W.zret (v := 0) hx hb hr rfl (fun t ht hW => ⟨0, rfl, bz_f (by simp [roomQ, c_49, c_51]), ht⟩) (fun _ h => absurd h List.not_mem_nil) dX0_hasRoomFor_36
    · refine lv_aload_n hx hb dX0_hasRoomFor_22 rfl (lv_at hl 1 rfl) ?_
      refine lv_iload_n hx hb dX0_hasRoomFor_23 rfl (lv_at hl 0 rfl) ?_
      refine lv_iload_n hx hb dX0_hasRoomFor_24 rfl (lv_at hl 3 rfl) ?_
      have hPc : va_P G vwCl [(qb, .inr (0, [.ref qp, .ref qs, .ref qr, .ref qf, .int fl])), (qp, .inl (cI, 12, .inl pr)), (qs, .inl (cI, 12, .inl sb)), (qr, .inl (cI, 4, .inl br)), (qf, .inl (cI, 4, .inl fe))] s.heap := hP
      have hDc := hD0
      refine vp_callSi (va_Run.run (va_runV (As := [.int (nI (k / 3)), .int v]) (rest := []) ⟨hx, hb, hml, hown, hts⟩ (c_X0_isFallenAt l G cI cC cZ cG s.heap.size qb qp qs qr qf pr sb br fe fl (k / 3) v (by omega)) (cf_RX0_52 hts ⟨Nat.le_of_ble_eq_true rfl, Nat.le_of_ble_eq_true rfl⟩) (pre_V hK hPc hDc (ci := 0) (q0 := 0) rfl rfl) rfl rfl hl.1 rfl (lv_room (Nat.le_of_ble_eq_true rfl)) dX0_hasRoomFor_25 ⟨Nat.le_of_ble_eq_true rfl, Nat.le_of_ble_eq_true rfl⟩)) (fun r52 hr52 => ?_)
      subst hr52
      refine zb_ne (tgt := 35) hx hb dX0_hasRoomFor_28 (by decide) (fun c_53 => ?_) (fun c_53 => ?_)
      · refine lv_iconst (v := 0) hx hb dX0_hasRoomFor_35 (by decide) ?_
        exact W.zret (v := 0) hx hb hr rfl (fun t ht hW => ⟨0, rfl, bz_f (by simp [roomQ, c_49, c_51, c_53]), ht⟩) (fun _ h => absurd h List.not_mem_nil) dX0_hasRoomFor_36
      · refine lv_iconst (v := 1) hx hb dX0_hasRoomFor_31 (by decide) ?_
        refine lv_goto (tgt := 36) hx hb dX0_hasRoomFor_32 (by decide) ?_
        exact W.zret (v := 1) hx hb hr rfl (fun t ht hW => ⟨1, rfl, bz_t (by simp [roomQ, c_49, c_51, c_53]), ht⟩) (fun _ h => absurd h List.not_mem_nil) dX0_hasRoomFor_36

abbrev rm_X0_homeOf : Room := { frames := 0, cells := 0, slots := 0, locals := 0 }
set_option maxHeartbeats 1000000 in
set_option maxRecDepth 100000 in
theorem c_X0_homeOf (l : Launch) (G : va_G) (cI cC cZ cG : ClassId) (sz : Nat) (qb qp qs qr qf : Nat) (pr sb br fe : IA) (fl : Int32) (pn : Nat) (hp : pn < 4) : Met l yX0_homeOf (.code yX0_homeOf cX0_homeOf 4 (some .int) :: wsL_law) rm_X0_homeOf (va_Pc [.ref qb, .int (nI pn)] (bw G cI cC cZ cG false sz [(qb, .inr (0, [.ref qp, .ref qs, .ref qr, .ref qf, .int fl])), (qp, .inl (cI, 12, .inl pr)), (qs, .inl (cI, 12, .inl sb)), (qr, .inl (cI, 4, .inl br)), (qf, .inl (cI, 4, .inl fe))])) (vp_Si (fun r => r = nI (ho pr pn))) 0 0 (fun _ => False) := by
  refine met_bw rfl (Nat.le_of_ble_eq_true rfl) ?_
  intro p e s m below meth c ls hx hb hr hml hown hts hlocks hin hsz hP hK hD0 hX0 hl
  have hown : s.vm.findClass RX0 = some m.cls := hown
  have hl : lv_has ls 4 [(0, .ref qb), (1, .int (nI pn))] := hl
  generalize hQ : MQ below (vp_Si (fun r => r = nI (ho pr pn))) ([.ref qb, .int (nI pn)] : List Value).toArray s 0 0 (fun _ => False) = Q
  generalize hag : ([.ref qb, .int (nI pn)] : List Value).toArray = ag at hts hQ ⊢
  refine lv_iconst (v := 0) hx hb dX0_homeOf_0 (by decide) ?_
  refine lv_istore_n (lv' := [(2, .int 0), (0, .ref qb), (1, .int (nI pn))]) hx hb dX0_homeOf_1 rfl hl (by decide) rfl (fun ls hl => ?_)
  refine lv_iload_n hx hb dX0_homeOf_2 rfl (lv_at hl 2 rfl) ?_
  refine lv_iconst (v := 3) hx hb dX0_homeOf_3 (by decide) ?_
  refine zi_mul hx hb pn 3 dX0_homeOf_4 rfl rfl ?_
  refine lv_istore_n (lv' := [(3, .int (nI (pn * 3))), (2, .int 0), (0, .ref qb), (1, .int (nI pn))]) hx hb dX0_homeOf_5 rfl hl (by decide) rfl (fun ls hl => ?_)
  have L1 : ∀ (n : Nat), ∀ (i : Nat), ∀ (f : Nat), ∀ (h0 : pn * 3 ≤ i), ∀ (hi : i ≤ pn * 3 + 3), ∀ (hf : f = cnt (hoP pr pn) (i - pn * 3)), ∀ (hn : pn * 3 + 4 ≤ i + n), ∀ (ls : Array Slot), lv_has ls 4 [(3, .int (nI i)), (2, .int (nI f)), (0, .ref qb), (1, .int (nI pn))] → W p l e rm_X0_homeOf s m ag below meth c s.heap [] 0 0 Q (F0 m 6 ls []) := by
    intro n
    induction n with
    | zero =>
      intro i f h0 hi hf hn ls hl
      omega
    | succ n ih =>
      intro i f h0 hi hf hn ls hl
      have hb2 : pn * 3 + (i - pn * 3) = i := by omega
      have hb3 : i + 1 - pn * 3 = (i - pn * 3) + 1 := by omega
      refine lv_iload_n hx hb dX0_homeOf_6 rfl (lv_at hl 0 rfl) ?_
      refine lv_iload_n hx hb dX0_homeOf_7 rfl (lv_at hl 3 rfl) ?_
      refine lv_iconst (v := 3) hx hb dX0_homeOf_8 (by decide) ?_
      refine zi_mul hx hb pn 3 dX0_homeOf_9 rfl rfl ?_
      refine lv_iconst (v := 3) hx hb dX0_homeOf_10 (by decide) ?_
      refine zi_add hx hb (pn * 3) 3 dX0_homeOf_11 rfl rfl ?_
      refine zi_ge (tgt := 35) hx hb i ((pn * 3) + 3) dX0_homeOf_12 (by decide) rfl rfl (by omega) (by omega) (fun c_55 => ?_) (fun c_55 => ?_)
      · refine lv_iload_n hx hb dX0_homeOf_35 rfl (lv_at hl 1 rfl) ?_
        subst hQ
        exact W.iret (v := nI f) hx hb hr (fun t ht hW => ⟨nI f, rfl, by rw [hf, show i - pn * 3 = 3 by omega]; rfl, ht⟩) (fun _ h => absurd h List.not_mem_nil) dX0_homeOf_36
      · refine lv_aload_n hx hb dX0_homeOf_15 rfl (lv_at hl 2 rfl) ?_
        refine va_get (D := G) (ci := 0) (v := .ref qp) (C := RX0) (T := TX0) (N := 5) hx hb hts inlX0 hown hK.1 hP 0 rfl rfl 0 (by decide) (hts _ wd52) (fun _ h9 => h9) rfl dX0_homeOf_16 ?_
        refine lv_iload_n hx hb dX0_homeOf_19 rfl (lv_at hl 0 rfl) ?_
        refine za_ld hx hb hK.1 hP 1 0 rfl rfl i rfl (by omega) (by decide) dX0_homeOf_20 ?_
        refine lv_bipush (v := 35) hx hb dX0_homeOf_21 (by decide) ?_
        refine lv_icmp_ne (tgt := 29) hx hb dX0_homeOf_23 (by decide) (fun c_56 => ?_) (fun c_56 => ?_)
        · refine lv_iinc (v := nI (i + 1)) (lv' := [(3, .int (nI (i + 1))), (2, .int (nI f)), (0, .ref qb), (1, .int (nI pn))]) hx hb dX0_homeOf_29 hl (k := 0) rfl (nI_inc i) (by decide) rfl (fun ls hl => ?_)
          refine lv_goto (tgt := 6) hx hb dX0_homeOf_32 (by decide) ?_
          exact ih (i + 1) f (by omega) (by omega) (by rw [hb3, cnt_f (by simp [hoP, hb2, c_55, c_56]), hf]) (by omega) _ (lv_sub hl [0, 1, 2, 3] rfl)
        · refine lv_iinc (v := nI (f + 1)) (lv' := [(2, .int (nI (f + 1))), (3, .int (nI i)), (0, .ref qb), (1, .int (nI pn))]) hx hb dX0_homeOf_26 hl (k := 1) rfl (nI_inc f) (by decide) rfl (fun ls hl => ?_)
          refine lv_iinc (v := nI (i + 1)) (lv' := [(3, .int (nI (i + 1))), (2, .int (nI (f + 1))), (0, .ref qb), (1, .int (nI pn))]) hx hb dX0_homeOf_29 hl (k := 1) rfl (nI_inc i) (by decide) rfl (fun ls hl => ?_)
          refine lv_goto (tgt := 6) hx hb dX0_homeOf_32 (by decide) ?_
          exact ih (i + 1) (f + 1) (by omega) (by omega) (by rw [hb3, cnt_t (by simp [hoP, hb2, c_55, c_56]), hf]) (by omega) _ (lv_sub hl [0, 1, 2, 3] rfl)
  exact L1 4 (pn * 3) 0 (by omega) (by omega) (by rw [Nat.sub_self]; rfl) (by omega) _ (lv_sub hl [0, 1, 2, 3] rfl)

abbrev rm_X0_winner : Room := { frames := 1, cells := 0, slots := 0, locals := 23 }
theorem cf_RX0_55 {R : Room} {s : State} {args : Array Value} (ht : ∀ w ∈ wsL_law, w.before args s = true) (hR : rm_X0_homeOf.frames + 1 ≤ R.frames ∧ 8 + (4 + 11) + rm_X0_homeOf.locals ≤ R.locals) : CallW R s args RX0 RX0 55 yX0_homeOf cX0_homeOf 4 (some .int) (.code yX0_homeOf cX0_homeOf 4 (some .int) :: wsL_law) rm_X0_homeOf 0 0 1 := ⟨cw_B 1 ht wd142 wd36 wd145 (by decide +kernel) rfl rfl hR, ht _ wd143, ht _ wd144⟩
set_option maxHeartbeats 1000000 in
set_option maxRecDepth 100000 in
theorem c_X0_winner (l : Launch) (G : va_G) (cI cC cZ cG : ClassId) (sz : Nat) (qb qp qs qr qf : Nat) (pr sb br fe : IA) (fl : Int32) : Met l yX0_winner (.code yX0_winner cX0_winner 2 (some .int) :: wsL_law) rm_X0_winner (va_Pc [.ref qb] (bw G cI cC cZ cG false sz [(qb, .inr (0, [.ref qp, .ref qs, .ref qr, .ref qf, .int fl])), (qp, .inl (cI, 12, .inl pr)), (qs, .inl (cI, 12, .inl sb)), (qr, .inl (cI, 4, .inl br)), (qf, .inl (cI, 4, .inl fe))])) (vp_Si (fun r => r = wi pr)) 0 0 (fun _ => False) := by
  refine met_bw rfl (Nat.le_of_ble_eq_true rfl) ?_
  intro p e s m below meth c ls hx hb hr hml hown hts hlocks hin hsz hP hK hD0 hX0 hl
  have hown : s.vm.findClass RX0 = some m.cls := hown
  have hl : lv_has ls 2 [(0, .ref qb)] := hl
  generalize hQ : MQ below (vp_Si (fun r => r = wi pr)) ([.ref qb] : List Value).toArray s 0 0 (fun _ => False) = Q
  generalize hag : ([.ref qb] : List Value).toArray = ag at hts hQ ⊢
  refine lv_iconst (v := 0) hx hb dX0_winner_0 (by decide) ?_
  refine lv_istore_n (lv' := [(1, .int 0), (0, .ref qb)]) hx hb dX0_winner_1 rfl hl (by decide) rfl (fun ls hl => ?_)
  have L1 : ∀ (n : Nat), ∀ (i : Nat), ∀ (hi : i ≤ 4), ∀ (hf : low (wiP pr) 0 4 = low (wiP pr) i (4 - i)), ∀ (hn : 5 ≤ i + n), ∀ (ls : Array Slot), lv_has ls 2 [(1, .int (nI i)), (0, .ref qb)] → W p l e rm_X0_winner s m ag below meth c s.heap [] 0 0 Q (F0 m 2 ls []) := by
    intro n
    induction n with
    | zero =>
      intro i hi hf hn ls hl
      omega
    | succ n ih =>
      intro i hi hf hn ls hl
      have he : i < 4 → 4 - i = (4 - (i + 1)) + 1 := fun h => by omega
      refine lv_iload_n hx hb dX0_winner_2 rfl (lv_at hl 0 rfl) ?_
      refine lv_iconst (v := 4) hx hb dX0_winner_3 (by decide) ?_
      refine zi_ge (tgt := 24) hx hb i 4 dX0_winner_4 (by decide) rfl rfl (by omega) (by decide) (fun c_58 => ?_) (fun c_58 => ?_)
      · refine lv_bipush (v := (-6)) hx hb dX0_winner_24 (by decide) ?_
        subst hQ
        exact W.iret (v := (-6)) hx hb hr (fun t ht hW => ⟨(-6), rfl, by rw [wi, hf, show 4 - i = 0 by omega]; rfl, ht⟩) (fun _ h => absurd h List.not_mem_nil) dX0_winner_26
      · refine lv_aload_n hx hb dX0_winner_7 rfl (lv_at hl 1 rfl) ?_
        refine lv_iload_n hx hb dX0_winner_8 rfl (lv_at hl 0 rfl) ?_
        have hPc : va_P G vwCl [(qb, .inr (0, [.ref qp, .ref qs, .ref qr, .ref qf, .int fl])), (qp, .inl (cI, 12, .inl pr)), (qs, .inl (cI, 12, .inl sb)), (qr, .inl (cI, 4, .inl br)), (qf, .inl (cI, 4, .inl fe))] s.heap := hP
        have hDc := hD0
        refine vp_callSi (va_Run.run (va_runV (As := [.int (nI i)]) (rest := []) ⟨hx, hb, hml, hown, hts⟩ (c_X0_homeOf l G cI cC cZ cG s.heap.size qb qp qs qr qf pr sb br fe fl i (by omega)) (cf_RX0_55 hts ⟨Nat.le_of_ble_eq_true rfl, Nat.le_of_ble_eq_true rfl⟩) (pre_V hK hPc hDc (ci := 0) (q0 := 0) rfl rfl) rfl rfl hl.1 rfl (lv_room (Nat.le_of_ble_eq_true rfl)) dX0_winner_9 ⟨Nat.le_of_ble_eq_true rfl, Nat.le_of_ble_eq_true rfl⟩)) (fun r59 hr59 => ?_)
        subst hr59
        have hf60 := (show ho pr i ≤ 3 from cnt_le (hoP pr i) 3)
        refine lv_iconst (v := 3) hx hb dX0_winner_12 (by decide) ?_
        refine zi_ne (tgt := 18) hx hb (ho pr i) 3 dX0_winner_13 (by decide) rfl rfl (by omega) (by decide) (fun c_61 => ?_) (fun c_61 => ?_)
        · refine lv_iinc (v := nI (i + 1)) (lv' := [(1, .int (nI (i + 1))), (0, .ref qb)]) hx hb dX0_winner_18 hl (k := 0) rfl (nI_inc i) (by decide) rfl (fun ls hl => ?_)
          refine lv_goto (tgt := 2) hx hb dX0_winner_21 (by decide) ?_
          exact ih (i + 1) (by omega) (by rw [hf, he c_58]; simp [low, wiP, c_61]) (by omega) _ (lv_sub hl [0, 1] rfl)
        · refine lv_iload_n hx hb dX0_winner_16 rfl (lv_at hl 0 rfl) ?_
          subst hQ
          exact W.iret (v := nI i) hx hb hr (fun t ht hW => ⟨nI i, rfl, by rw [wi, hf, he c_58]; simp [low, wiP, c_61], ht⟩) (fun _ h => absurd h List.not_mem_nil) dX0_winner_17
  exact L1 5 0 (by decide) rfl (by decide) _ (lv_sub hl [0, 1] rfl)

abbrev rm_X0_sentBackInAll : Room := { frames := 0, cells := 0, slots := 0, locals := 0 }
set_option maxHeartbeats 1000000 in
set_option maxRecDepth 100000 in
theorem c_X0_sentBackInAll (l : Launch) (G : va_G) (cI cC cZ cG : ClassId) (sz : Nat) (qb qp qs qr qf : Nat) (pr sb br fe : IA) (fl : Int32) : Met l yX0_sentBackInAll (.code yX0_sentBackInAll cX0_sentBackInAll 3 (some .int) :: wsL_law) rm_X0_sentBackInAll (va_Pc [.ref qb] (bw G cI cC cZ cG false sz [(qb, .inr (0, [.ref qp, .ref qs, .ref qr, .ref qf, .int fl])), (qp, .inl (cI, 12, .inl pr)), (qs, .inl (cI, 12, .inl sb)), (qr, .inl (cI, 4, .inl br)), (qf, .inl (cI, 4, .inl fe))])) (vp_Si (fun r => r = sumI sb 12)) 0 0 (fun _ => False) := by
  refine met_bw rfl (Nat.le_of_ble_eq_true rfl) ?_
  intro p e s m below meth c ls hx hb hr hml hown hts hlocks hin hsz hP hK hD0 hX0 hl
  have hown : s.vm.findClass RX0 = some m.cls := hown
  have hl : lv_has ls 3 [(0, .ref qb)] := hl
  generalize hQ : MQ below (vp_Si (fun r => r = sumI sb 12)) ([.ref qb] : List Value).toArray s 0 0 (fun _ => False) = Q
  generalize hag : ([.ref qb] : List Value).toArray = ag at hts hQ ⊢
  refine lv_iconst (v := 0) hx hb dX0_sentBackInAll_0 (by decide) ?_
  refine lv_istore_n (lv' := [(1, .int 0), (0, .ref qb)]) hx hb dX0_sentBackInAll_1 rfl hl (by decide) rfl (fun ls hl => ?_)
  refine lv_iconst (v := 0) hx hb dX0_sentBackInAll_2 (by decide) ?_
  refine lv_istore_n (lv' := [(2, .int 0), (1, .int 0), (0, .ref qb)]) hx hb dX0_sentBackInAll_3 rfl hl (by decide) rfl (fun ls hl => ?_)
  have L1 : ∀ (n : Nat), ∀ (i : Nat), ∀ (f : Int32), ∀ (hi : i ≤ 12), ∀ (hf : f = sumI sb i), ∀ (hn : 13 ≤ i + n), ∀ (ls : Array Slot), lv_has ls 3 [(2, .int (nI i)), (1, .int f), (0, .ref qb)] → W p l e rm_X0_sentBackInAll s m ag below meth c s.heap [] 0 0 Q (F0 m 4 ls []) := by
    intro n
    induction n with
    | zero =>
      intro i f hi hf hn ls hl
      omega
    | succ n ih =>
      intro i f hi hf hn ls hl
      refine lv_iload_n hx hb dX0_sentBackInAll_4 rfl (lv_at hl 0 rfl) ?_
      refine lv_bipush (v := 12) hx hb dX0_sentBackInAll_5 (by decide) ?_
      refine zi_ge (tgt := 25) hx hb i 12 dX0_sentBackInAll_7 (by decide) rfl rfl (by omega) (by decide) (fun c_63 => ?_) (fun c_63 => ?_)
      · refine lv_iload_n hx hb dX0_sentBackInAll_25 rfl (lv_at hl 1 rfl) ?_
        subst hQ
        exact W.iret (v := f) hx hb hr (fun t ht hW => ⟨f, rfl, by rw [hf, show i = 12 by omega], ht⟩) (fun _ h => absurd h List.not_mem_nil) dX0_sentBackInAll_26
      · refine lv_iload_n hx hb dX0_sentBackInAll_10 rfl (lv_at hl 1 rfl) ?_
        refine lv_aload_n hx hb dX0_sentBackInAll_11 rfl (lv_at hl 2 rfl) ?_
        refine va_get (D := G) (ci := 0) (v := .ref qs) (C := RX0) (T := TX0) (N := 5) hx hb hts inlX0 hown hK.1 hP 0 rfl rfl 1 (by decide) (hts _ wd53) (fun _ h9 => h9) rfl dX0_sentBackInAll_12 ?_
        refine lv_iload_n hx hb dX0_sentBackInAll_15 rfl (lv_at hl 0 rfl) ?_
        refine za_ld hx hb hK.1 hP 2 0 rfl rfl i rfl (by omega) (by decide) dX0_sentBackInAll_16 ?_
        refine lv_iadd hx hb dX0_sentBackInAll_17 ?_
        refine lv_istore_n (lv' := [(1, .int (f + (sb i))), (2, .int (nI i)), (0, .ref qb)]) hx hb dX0_sentBackInAll_18 rfl hl (by decide) rfl (fun ls hl => ?_)
        refine lv_iinc (v := nI (i + 1)) (lv' := [(2, .int (nI (i + 1))), (1, .int (f + (sb i))), (0, .ref qb)]) hx hb dX0_sentBackInAll_19 hl (k := 1) rfl (nI_inc i) (by decide) rfl (fun ls hl => ?_)
        refine lv_goto (tgt := 4) hx hb dX0_sentBackInAll_22 (by decide) ?_
        exact ih (i + 1) (f + (sb i)) (by omega) (by rw [sumI, hf]) (by omega) _ (lv_sub hl [0, 1, 2] rfl)
  exact L1 13 0 0 (by decide) rfl (by decide) _ (lv_sub hl [0, 1, 2] rfl)

abbrev rm_X0_fallenSet : Room := { frames := 0, cells := 0, slots := 0, locals := 0 }
set_option maxHeartbeats 1000000 in
set_option maxRecDepth 100000 in
theorem c_X0_fallenSet (l : Launch) (G : va_G) (cI cC cZ cG : ClassId) (sz : Nat) (qb qp qs qr qf : Nat) (pr sb br fe : IA) (fl : Int32) : Met l yX0_fallenSet (.code yX0_fallenSet cX0_fallenSet 3 (some .int) :: wsL_law) rm_X0_fallenSet (va_Pc [.ref qb] (bw G cI cC cZ cG false sz [(qb, .inr (0, [.ref qp, .ref qs, .ref qr, .ref qf, .int fl])), (qp, .inl (cI, 12, .inl pr)), (qs, .inl (cI, 12, .inl sb)), (qr, .inl (cI, 4, .inl br)), (qf, .inl (cI, 4, .inl fe))])) (vp_Si (fun r => r = fset br 4)) 0 0 (fun _ => False) := by
  refine met_bw rfl (Nat.le_of_ble_eq_true rfl) ?_
  intro p e s m below meth c ls hx hb hr hml hown hts hlocks hin hsz hP hK hD0 hX0 hl
  have hown : s.vm.findClass RX0 = some m.cls := hown
  have hl : lv_has ls 3 [(0, .ref qb)] := hl
  generalize hQ : MQ below (vp_Si (fun r => r = fset br 4)) ([.ref qb] : List Value).toArray s 0 0 (fun _ => False) = Q
  generalize hag : ([.ref qb] : List Value).toArray = ag at hts hQ ⊢
  refine lv_iconst (v := 0) hx hb dX0_fallenSet_0 (by decide) ?_
  refine lv_istore_n (lv' := [(1, .int 0), (0, .ref qb)]) hx hb dX0_fallenSet_1 rfl hl (by decide) rfl (fun ls hl => ?_)
  refine lv_iconst (v := 0) hx hb dX0_fallenSet_2 (by decide) ?_
  refine lv_istore_n (lv' := [(2, .int 0), (1, .int 0), (0, .ref qb)]) hx hb dX0_fallenSet_3 rfl hl (by decide) rfl (fun ls hl => ?_)
  have L1 : ∀ (n : Nat), ∀ (i : Nat), ∀ (f : Int32), ∀ (hi : i ≤ 4), ∀ (hf : f = fset br i), ∀ (hn : 5 ≤ i + n), ∀ (ls : Array Slot), lv_has ls 3 [(2, .int (nI i)), (1, .int f), (0, .ref qb)] → W p l e rm_X0_fallenSet s m ag below meth c s.heap [] 0 0 Q (F0 m 4 ls []) := by
    intro n
    induction n with
    | zero =>
      intro i f hi hf hn ls hl
      omega
    | succ n ih =>
      intro i f hi hf hn ls hl
      refine lv_iload_n hx hb dX0_fallenSet_4 rfl (lv_at hl 0 rfl) ?_
      refine lv_iconst (v := 4) hx hb dX0_fallenSet_5 (by decide) ?_
      refine zi_ge (tgt := 31) hx hb i 4 dX0_fallenSet_6 (by decide) rfl rfl (by omega) (by decide) (fun c_65 => ?_) (fun c_65 => ?_)
      · refine lv_iload_n hx hb dX0_fallenSet_31 rfl (lv_at hl 1 rfl) ?_
        subst hQ
        exact W.iret (v := f) hx hb hr (fun t ht hW => ⟨f, rfl, by rw [hf, show i = 4 by omega], ht⟩) (fun _ h => absurd h List.not_mem_nil) dX0_fallenSet_32
      · refine lv_aload_n hx hb dX0_fallenSet_9 rfl (lv_at hl 2 rfl) ?_
        refine va_get (D := G) (ci := 0) (v := .ref qr) (C := RX0) (T := TX0) (N := 5) hx hb hts inlX0 hown hK.1 hP 0 rfl rfl 2 (by decide) (hts _ wd54) (fun _ h9 => h9) rfl dX0_fallenSet_10 ?_
        refine lv_iload_n hx hb dX0_fallenSet_13 rfl (lv_at hl 0 rfl) ?_
        refine za_ld hx hb hK.1 hP 3 0 rfl rfl i rfl (by omega) (by decide) dX0_fallenSet_14 ?_
        refine lv_iconst (v := 3) hx hb dX0_fallenSet_15 (by decide) ?_
        refine lv_icmp_ne (tgt := 25) hx hb dX0_fallenSet_16 (by decide) (fun c_66 => ?_) (fun c_66 => ?_)
        · refine lv_iinc (v := nI (i + 1)) (lv' := [(2, .int (nI (i + 1))), (1, .int f), (0, .ref qb)]) hx hb dX0_fallenSet_25 hl (k := 0) rfl (nI_inc i) (by decide) rfl (fun ls hl => ?_)
          refine lv_goto (tgt := 4) hx hb dX0_fallenSet_28 (by decide) ?_
          exact ih (i + 1) f (by omega) (by simp [fset, c_66, hf]) (by omega) _ (lv_sub hl [0, 1, 2] rfl)
        · refine lv_iload_n hx hb dX0_fallenSet_19 rfl (lv_at hl 1 rfl) ?_
          refine lv_iconst (v := 1) hx hb dX0_fallenSet_20 (by decide) ?_
          refine lv_iload_n hx hb dX0_fallenSet_21 rfl (lv_at hl 0 rfl) ?_
          refine lv_ishl hx hb dX0_fallenSet_22 ?_
          refine lv_ior hx hb dX0_fallenSet_23 ?_
          refine lv_istore_n (lv' := [(1, .int (f ||| (1 <<< ((nI i) &&& 31)))), (2, .int (nI i)), (0, .ref qb)]) hx hb dX0_fallenSet_24 rfl hl (by decide) rfl (fun ls hl => ?_)
          refine lv_iinc (v := nI (i + 1)) (lv' := [(2, .int (nI (i + 1))), (1, .int (f ||| (1 <<< ((nI i) &&& 31)))), (0, .ref qb)]) hx hb dX0_fallenSet_25 hl (k := 1) rfl (nI_inc i) (by decide) rfl (fun ls hl => ?_)
          refine lv_goto (tgt := 4) hx hb dX0_fallenSet_28 (by decide) ?_
          exact ih (i + 1) (f ||| (1 <<< ((nI i) &&& 31))) (by omega) (by simp [fset, c_66, hf]) (by omega) _ (lv_sub hl [0, 1, 2] rfl)
  exact L1 5 0 0 (by decide) rfl (by decide) _ (lv_sub hl [0, 1, 2] rfl)

abbrev rm_X0_target : Room := { frames := 3, cells := 0, slots := 0, locals := 64 }
set_option maxHeartbeats 1000000 in
set_option maxRecDepth 100000 in
theorem c_X0_target (l : Launch) (G : va_G) (cI cC cZ cG : ClassId) (sz : Nat) (qb qp qs qr qf : Nat) (pr sb br fe : IA) (fl : Int32) (pn : Nat) (v : Int32) (cn : Nat) (hp : pn < 4) (hv : okv v) (hc : cn ≤ 6) : Met l yX0_target (.code yX0_target cX0_target 6 (some .int) :: wsL_law) rm_X0_target (va_Pc [.ref qb, .int (nI pn), .int v, .int (nI cn)] (bw G cI cC cZ cG false sz [(qb, .inr (0, [.ref qp, .ref qs, .ref qr, .ref qf, .int fl])), (qp, .inl (cI, 12, .inl pr)), (qs, .inl (cI, 12, .inl sb)), (qr, .inl (cI, 4, .inl br)), (qf, .inl (cI, 4, .inl fe))])) (vp_Si (fun r => r = tgt br pn v cn)) 0 0 (fun _ => False) := by
  refine met_bw rfl (Nat.le_of_ble_eq_true rfl) ?_
  intro p e s m below meth c ls hx hb hr hml hown hts hlocks hin hsz hP hK hD0 hX0 hl
  have hown : s.vm.findClass RX0 = some m.cls := hown
  have hl : lv_has ls 6 [(0, .ref qb), (1, .int (nI pn)), (2, .int v), (3, .int (nI cn))] := hl
  generalize hQ : MQ below (vp_Si (fun r => r = tgt br pn v cn)) ([.ref qb, .int (nI pn), .int v, .int (nI cn)] : List Value).toArray s 0 0 (fun _ => False) = Q
  generalize hag : ([.ref qb, .int (nI pn), .int v, .int (nI cn)] : List Value).toArray = ag at hts hQ ⊢
  rcases hv with rfl | ⟨a, ha, rfl⟩
  · refine lv_iload_n hx hb dX0_target_0 rfl (lv_at hl 2 rfl) ?_
    refine lv_bipush (v := (-6)) hx hb dX0_target_1 (by decide) ?_
    refine lv_icmp_ne (tgt := 8) hx hb dX0_target_3 (by decide) (fun c_67 => ?_) (fun c_67 => ?_)
    · exact absurd c_67 (by decide)
    · refine lv_iconst (v := 0) hx hb dX0_target_6 (by decide) ?_
      subst hQ
      exact W.iret (v := 0) hx hb hr (fun t ht hW => ⟨0, rfl, (by simp [tgt]), ht⟩) (fun _ h => absurd h List.not_mem_nil) dX0_target_7
  · refine lv_iload_n hx hb dX0_target_0 rfl (lv_at hl 2 rfl) ?_
    refine lv_bipush (v := (-6)) hx hb dX0_target_1 (by decide) ?_
    refine lv_icmp_ne (tgt := 8) hx hb dX0_target_3 (by decide) (fun c_68 => ?_) (fun c_68 => ?_)
    · refine lv_iload_n hx hb dX0_target_8 rfl (lv_at hl 2 rfl) ?_
      refine lv_istore (lv' := [(4, .int (nI a)), (0, .ref qb), (1, .int (nI pn)), (2, .int (nI a)), (3, .int (nI cn))]) hx hb dX0_target_9 hl (by decide) rfl (fun ls hl => ?_)
      refine lv_iload_n hx hb dX0_target_11 rfl (lv_at hl 4 rfl) ?_
      refine lv_istore (lv' := [(5, .int (nI cn)), (4, .int (nI a)), (0, .ref qb), (1, .int (nI pn)), (2, .int (nI a)), (3, .int (nI cn))]) hx hb dX0_target_12 hl (by decide) rfl (fun ls hl => ?_)
      have L1 : ∀ (n : Nat), ∀ (b : Nat), ∀ (x : Int32), ∀ (hb2 : b ≤ 35), ∀ (hx2 : tgH (faN br pn) (tgt br pn (nI a) cn) b x), ∀ (hn : 36 ≤ b + n), ∀ (ls : Array Slot), lv_has ls 6 [(5, .int x), (4, .int (nI b)), (0, .ref qb), (1, .int (nI pn)), (2, .int (nI a)), (3, .int (nI cn))] → W p l e rm_X0_target s m ag below meth c s.heap [] 0 0 Q (F0 m 14 ls []) := by
        intro n
        induction n with
        | zero =>
          intro b x hb2 hx2 hn ls hl
          omega
        | succ n ih =>
          intro b x hb2 hx2 hn ls hl
          rcases hx2 with ⟨y, hy, rfl, he⟩ | ⟨rfl, he⟩
          · refine lv_iload hx hb dX0_target_14 (lv_at hl 0 rfl) ?_
            refine z0_le (tgt := 52) hx hb y dX0_target_16 (by decide) rfl (by omega) (fun c_70 => ?_) (fun c_70 => ?_)
            · refine lv_iload hx hb dX0_target_52 (lv_at hl 0 rfl) ?_
              refine z0_ne (tgt := 67) hx hb y dX0_target_54 (by decide) rfl (by omega) (fun c_71 => ?_) (fun c_71 => ?_)
              · refine lv_bipush (v := (-6)) hx hb dX0_target_67 (by decide) ?_
                refine lv_goto (tgt := 74) hx hb dX0_target_69 (by decide) ?_
                subst hQ
                exact W.iret (v := (-6)) hx hb hr (fun t ht hW => ⟨(-6), rfl, (by first | exact he.symm | exact (he.trans (tg_35 (by omega) hy (by omega) hb2)).symm | exact (tg_fal he (by omega) c_71).symm | (exfalso; omega)), ht⟩) (fun _ h => absurd h List.not_mem_nil) dX0_target_74
              · refine lv_aload_n hx hb dX0_target_57 rfl (lv_at hl 2 rfl) ?_
                refine lv_iload_n hx hb dX0_target_58 rfl (lv_at hl 3 rfl) ?_
                refine lv_iload hx hb dX0_target_59 (lv_at hl 1 rfl) ?_
                have hPc : va_P G vwCl [(qb, .inr (0, [.ref qp, .ref qs, .ref qr, .ref qf, .int fl])), (qp, .inl (cI, 12, .inl pr)), (qs, .inl (cI, 12, .inl sb)), (qr, .inl (cI, 4, .inl br)), (qf, .inl (cI, 4, .inl fe))] s.heap := hP
                have hDc := hD0
                refine vp_callSi (va_Run.run (va_runV (As := [.int (nI pn), .int (nI b)]) (rest := []) ⟨hx, hb, hml, hown, hts⟩ (c_X0_isFallenAt l G cI cC cZ cG s.heap.size qb qp qs qr qf pr sb br fe fl pn (nI b) (by omega)) (cf_RX0_52 hts ⟨Nat.le_of_ble_eq_true rfl, Nat.le_of_ble_eq_true rfl⟩) (pre_V hK hPc hDc (ci := 0) (q0 := 0) rfl rfl) rfl rfl hl.1 rfl (lv_room (Nat.le_of_ble_eq_true rfl)) dX0_target_61 ⟨Nat.le_of_ble_eq_true rfl, Nat.le_of_ble_eq_true rfl⟩)) (fun r72 hr72 => ?_)
                subst hr72
                refine zb_eq (tgt := 72) hx hb dX0_target_64 (by decide) (fun c_73 => ?_) (fun c_73 => ?_)
                · refine lv_iload hx hb dX0_target_72 (lv_at hl 1 rfl) ?_
                  subst hQ
                  exact W.iret (v := nI b) hx hb hr (fun t ht hW => ⟨nI b, rfl, (by first | exact tg_end he (by omega) c_73 hb2 | (exfalso; omega)), ht⟩) (fun _ h => absurd h List.not_mem_nil) dX0_target_74
                · refine lv_bipush (v := (-6)) hx hb dX0_target_67 (by decide) ?_
                  refine lv_goto (tgt := 74) hx hb dX0_target_69 (by decide) ?_
                  subst hQ
                  exact W.iret (v := (-6)) hx hb hr (fun t ht hW => ⟨(-6), rfl, (by first | exact he.symm | exact (he.trans (tg_35 (by omega) hy (by omega) hb2)).symm | exact (tg_fal he (by omega) c_73).symm | (exfalso; omega)), ht⟩) (fun _ h => absurd h List.not_mem_nil) dX0_target_74
            · refine lv_iload hx hb dX0_target_19 (lv_at hl 1 rfl) ?_
              refine lv_bipush (v := 35) hx hb dX0_target_21 (by decide) ?_
              refine zi_ge (tgt := 52) hx hb b 35 dX0_target_23 (by decide) rfl rfl (by omega) (by decide) (fun c_74 => ?_) (fun c_74 => ?_)
              · refine lv_iload hx hb dX0_target_52 (lv_at hl 0 rfl) ?_
                refine z0_ne (tgt := 67) hx hb y dX0_target_54 (by decide) rfl (by omega) (fun c_75 => ?_) (fun c_75 => ?_)
                · refine lv_bipush (v := (-6)) hx hb dX0_target_67 (by decide) ?_
                  refine lv_goto (tgt := 74) hx hb dX0_target_69 (by decide) ?_
                  subst hQ
                  exact W.iret (v := (-6)) hx hb hr (fun t ht hW => ⟨(-6), rfl, (by first | exact he.symm | exact (he.trans (tg_35 (by omega) hy (by omega) hb2)).symm | exact (tg_fal he (by omega) c_75).symm | (exfalso; omega)), ht⟩) (fun _ h => absurd h List.not_mem_nil) dX0_target_74
                · refine lv_aload_n hx hb dX0_target_57 rfl (lv_at hl 2 rfl) ?_
                  refine lv_iload_n hx hb dX0_target_58 rfl (lv_at hl 3 rfl) ?_
                  refine lv_iload hx hb dX0_target_59 (lv_at hl 1 rfl) ?_
                  have hPc : va_P G vwCl [(qb, .inr (0, [.ref qp, .ref qs, .ref qr, .ref qf, .int fl])), (qp, .inl (cI, 12, .inl pr)), (qs, .inl (cI, 12, .inl sb)), (qr, .inl (cI, 4, .inl br)), (qf, .inl (cI, 4, .inl fe))] s.heap := hP
                  have hDc := hD0
                  refine vp_callSi (va_Run.run (va_runV (As := [.int (nI pn), .int (nI b)]) (rest := []) ⟨hx, hb, hml, hown, hts⟩ (c_X0_isFallenAt l G cI cC cZ cG s.heap.size qb qp qs qr qf pr sb br fe fl pn (nI b) (by omega)) (cf_RX0_52 hts ⟨Nat.le_of_ble_eq_true rfl, Nat.le_of_ble_eq_true rfl⟩) (pre_V hK hPc hDc (ci := 0) (q0 := 0) rfl rfl) rfl rfl hl.1 rfl (lv_room (Nat.le_of_ble_eq_true rfl)) dX0_target_61 ⟨Nat.le_of_ble_eq_true rfl, Nat.le_of_ble_eq_true rfl⟩)) (fun r76 hr76 => ?_)
                  subst hr76
                  refine zb_eq (tgt := 72) hx hb dX0_target_64 (by decide) (fun c_77 => ?_) (fun c_77 => ?_)
                  · refine lv_iload hx hb dX0_target_72 (lv_at hl 1 rfl) ?_
                    subst hQ
                    exact W.iret (v := nI b) hx hb hr (fun t ht hW => ⟨nI b, rfl, (by first | exact tg_end he (by omega) c_77 hb2 | (exfalso; omega)), ht⟩) (fun _ h => absurd h List.not_mem_nil) dX0_target_74
                  · refine lv_bipush (v := (-6)) hx hb dX0_target_67 (by decide) ?_
                    refine lv_goto (tgt := 74) hx hb dX0_target_69 (by decide) ?_
                    subst hQ
                    exact W.iret (v := (-6)) hx hb hr (fun t ht hW => ⟨(-6), rfl, (by first | exact he.symm | exact (he.trans (tg_35 (by omega) hy (by omega) hb2)).symm | exact (tg_fal he (by omega) c_77).symm | (exfalso; omega)), ht⟩) (fun _ h => absurd h List.not_mem_nil) dX0_target_74
              · refine lv_iinc (v := nI (b + 1)) (lv' := [(4, .int (nI (b + 1))), (5, .int (nI y)), (0, .ref qb), (1, .int (nI pn)), (2, .int (nI a)), (3, .int (nI cn))]) hx hb dX0_target_26 hl (k := 1) rfl (nI_inc b) (by decide) rfl (fun ls hl => ?_)
                refine lv_iload hx hb dX0_target_29 (lv_at hl 1 rfl) ?_
                refine lv_aload_n hx hb dX0_target_31 rfl (lv_at hl 2 rfl) ?_
                refine lv_iload_n hx hb dX0_target_32 rfl (lv_at hl 3 rfl) ?_
                refine lv_iload hx hb dX0_target_33 (lv_at hl 0 rfl) ?_
                have hPc : va_P G vwCl [(qb, .inr (0, [.ref qp, .ref qs, .ref qr, .ref qf, .int fl])), (qp, .inl (cI, 12, .inl pr)), (qs, .inl (cI, 12, .inl sb)), (qr, .inl (cI, 4, .inl br)), (qf, .inl (cI, 4, .inl fe))] s.heap := hP
                have hDc := hD0
                refine vp_callSi (va_Run.run (va_runV (As := [.int (nI pn), .int (nI (b + 1))]) (rest := [.int (nI y)]) ⟨hx, hb, hml, hown, hts⟩ (c_X0_isFallenAt l G cI cC cZ cG s.heap.size qb qp qs qr qf pr sb br fe fl pn (nI (b + 1)) (by omega)) (cf_RX0_52 hts ⟨Nat.le_of_ble_eq_true rfl, Nat.le_of_ble_eq_true rfl⟩) (pre_V hK hPc hDc (ci := 0) (q0 := 0) rfl rfl) rfl rfl hl.1 rfl (lv_room (Nat.le_of_ble_eq_true rfl)) dX0_target_35 ⟨Nat.le_of_ble_eq_true rfl, Nat.le_of_ble_eq_true rfl⟩)) (fun r78 hr78 => ?_)
                subst hr78
                refine zb_eq (tgt := 45) hx hb dX0_target_38 (by decide) (fun c_79 => ?_) (fun c_79 => ?_)
                · refine lv_iconst (v := 1) hx hb dX0_target_45 (by decide) ?_
                  refine lv_isub hx hb dX0_target_46 ?_
                  refine lv_istore (lv' := [(5, .int ((nI y) - 1)), (4, .int (nI (b + 1))), (0, .ref qb), (1, .int (nI pn)), (2, .int (nI a)), (3, .int (nI cn))]) hx hb dX0_target_47 hl (by decide) rfl (fun ls hl => ?_)
                  refine lv_goto (tgt := 14) hx hb dX0_target_49 (by decide) ?_
                  exact ih (b + 1) ((nI y) - 1) (by omega) (tgH_s c_70 hy he c_79) (by omega) _ (lv_sub hl [0, 1, 2, 3, 4, 5] rfl)
                · refine lv_iconst (v := 2) hx hb dX0_target_41 (by decide) ?_
                  refine lv_goto (tgt := 46) hx hb dX0_target_42 (by decide) ?_
                  refine lv_isub hx hb dX0_target_46 ?_
                  refine lv_istore (lv' := [(5, .int ((nI y) - 2)), (4, .int (nI (b + 1))), (0, .ref qb), (1, .int (nI pn)), (2, .int (nI a)), (3, .int (nI cn))]) hx hb dX0_target_47 hl (by decide) rfl (fun ls hl => ?_)
                  refine lv_goto (tgt := 14) hx hb dX0_target_49 (by decide) ?_
                  exact ih (b + 1) ((nI y) - 2) (by omega) (tgH_f c_70 hy he c_79) (by omega) _ (lv_sub hl [0, 1, 2, 3, 4, 5] rfl)
          · refine lv_iload hx hb dX0_target_14 (lv_at hl 0 rfl) ?_
            refine lv_if_le (tgt := 52) hx hb dX0_target_16 (by decide) (fun c_80 => ?_) (fun c_80 => ?_)
            · refine lv_iload hx hb dX0_target_52 (lv_at hl 0 rfl) ?_
              refine lv_if_ne (tgt := 67) hx hb dX0_target_54 (by decide) (fun c_81 => ?_) (fun c_81 => ?_)
              · refine lv_bipush (v := (-6)) hx hb dX0_target_67 (by decide) ?_
                refine lv_goto (tgt := 74) hx hb dX0_target_69 (by decide) ?_
                subst hQ
                exact W.iret (v := (-6)) hx hb hr (fun t ht hW => ⟨(-6), rfl, (by first | exact he.symm | exact (he.trans (tg_35 (by omega) hy (by omega) hb2)).symm | exact (tg_fal he (by omega) c_81).symm | (exfalso; omega)), ht⟩) (fun _ h => absurd h List.not_mem_nil) dX0_target_74
              · exact absurd c_81 (by decide)
            · exact absurd c_80 (by decide)
      exact L1 36 a (nI cn) ha (tgH_0 hc ha) (by omega) _ (lv_sub hl [0, 1, 2, 3, 4, 5] rfl)
    · exact absurd c_68 (nI_neg (by omega) (by decide))

abbrev rm_X0_isBlockedOnWay : Room := { frames := 2, cells := 0, slots := 0, locals := 46 }
set_option maxHeartbeats 1000000 in
set_option maxRecDepth 100000 in
theorem c_X0_isBlockedOnWay (l : Launch) (G : va_G) (cI cC cZ cG : ClassId) (sz : Nat) (qb qp qs qr qf : Nat) (pr sb br fe : IA) (fl : Int32) (pn : Nat) (v : Int32) (tn : Nat) (hp : pn < 4) (hv : okv v) (ht2 : tn ≤ 35) (hf0 : fst0 v ≤ tn + 1) : Met l yX0_isBlockedOnWay (.code yX0_isBlockedOnWay cX0_isBlockedOnWay 6 (some .boolean) :: wsL_law) rm_X0_isBlockedOnWay (va_Pc [.ref qb, .int (nI pn), .int v, .int (nI tn)] (bw G cI cC cZ cG false sz [(qb, .inr (0, [.ref qp, .ref qs, .ref qr, .ref qf, .int fl])), (qp, .inl (cI, 12, .inl pr)), (qs, .inl (cI, 12, .inl sb)), (qr, .inl (cI, 4, .inl br)), (qf, .inl (cI, 4, .inl fe))])) (vp_Si (fun r => r = bz (blQ pr pn v tn = true))) 0 0 (fun _ => False) := by
  refine met_bw rfl (Nat.le_of_ble_eq_true rfl) ?_
  intro p e s m below meth c ls hx hb hr hml hown hts hlocks hin hsz hP hK hD0 hX0 hl
  have hown : s.vm.findClass RX0 = some m.cls := hown
  have hl : lv_has ls 6 [(0, .ref qb), (1, .int (nI pn)), (2, .int v), (3, .int (nI tn))] := hl
  generalize hQ : MQ below (vp_Si (fun r => r = bz (blQ pr pn v tn = true))) ([.ref qb, .int (nI pn), .int v, .int (nI tn)] : List Value).toArray s 0 0 (fun _ => False) = Q
  generalize hag : ([.ref qb, .int (nI pn), .int v, .int (nI tn)] : List Value).toArray = ag at hts hQ ⊢
  rcases hv with rfl | ⟨a, ha, rfl⟩
  · refine lv_iload_n hx hb dX0_isBlockedOnWay_0 rfl (lv_at hl 2 rfl) ?_
    refine lv_bipush (v := (-6)) hx hb dX0_isBlockedOnWay_1 (by decide) ?_
    refine lv_icmp_ne (tgt := 10) hx hb dX0_isBlockedOnWay_3 (by decide) (fun c_82 => ?_) (fun c_82 => ?_)
    · exact absurd c_82 (by decide)
    · refine lv_iconst (v := 0) hx hb dX0_isBlockedOnWay_6 (by decide) ?_
      refine lv_goto (tgt := 13) hx hb dX0_isBlockedOnWay_7 (by decide) ?_
      refine lv_istore (lv' := [(4, .int 0), (0, .ref qb), (1, .int (nI pn)), (2, .int (-6)), (3, .int (nI tn))]) hx hb dX0_isBlockedOnWay_13 hl (by decide) rfl (fun ls hl => ?_)
      refine lv_iload hx hb dX0_isBlockedOnWay_15 (lv_at hl 0 rfl) ?_
      refine lv_istore (lv' := [(5, .int 0), (4, .int 0), (0, .ref qb), (1, .int (nI pn)), (2, .int (-6)), (3, .int (nI tn))]) hx hb dX0_isBlockedOnWay_17 hl (by decide) rfl (fun ls hl => ?_)
      have L1 : ∀ (n : Nat), ∀ (i : Nat), ∀ (hi : i ≤ tn + 1), ∀ (hf : blQ pr pn (-6) tn = anyp (blP pr pn) i (tn + 1 - i)), ∀ (hn : tn + 2 ≤ i + n), ∀ (ls : Array Slot), lv_has ls 6 [(5, .int (nI i)), (4, .int 0), (0, .ref qb), (1, .int (nI pn)), (2, .int (-6)), (3, .int (nI tn))] → W p l e rm_X0_isBlockedOnWay s m ag below meth c s.heap [] 0 0 Q (F0 m 19 ls []) := by
        intro n
        induction n with
        | zero =>
          intro i hi hf hn ls hl
          omega
        | succ n ih =>
          intro i hi hf hn ls hl
          have he : i ≤ tn → tn + 1 - i = (tn + 1 - (i + 1)) + 1 := fun h => by omega
          refine lv_iload hx hb dX0_isBlockedOnWay_19 (lv_at hl 0 rfl) ?_
          refine lv_iload_n hx hb dX0_isBlockedOnWay_21 rfl (lv_at hl 5 rfl) ?_
          refine zi_gt (tgt := 44) hx hb i tn dX0_isBlockedOnWay_22 (by decide) rfl rfl (by omega) (by omega) (fun c_84 => ?_) (fun c_84 => ?_)
          · refine lv_iconst (v := 0) hx hb dX0_isBlockedOnWay_44 (by decide) ?_
            subst hQ
            exact W.zret (v := 0) hx hb hr rfl (fun t ht hW => ⟨0, rfl, bz_f (by rw [hf, show tn + 1 - i = 0 by omega]; simp [anyp]), ht⟩) (fun _ h => absurd h List.not_mem_nil) dX0_isBlockedOnWay_45
          · refine lv_aload_n hx hb dX0_isBlockedOnWay_25 rfl (lv_at hl 2 rfl) ?_
            refine lv_iload_n hx hb dX0_isBlockedOnWay_26 rfl (lv_at hl 3 rfl) ?_
            refine lv_iload hx hb dX0_isBlockedOnWay_27 (lv_at hl 0 rfl) ?_
            have hPc : va_P G vwCl [(qb, .inr (0, [.ref qp, .ref qs, .ref qr, .ref qf, .int fl])), (qp, .inl (cI, 12, .inl pr)), (qs, .inl (cI, 12, .inl sb)), (qr, .inl (cI, 4, .inl br)), (qf, .inl (cI, 4, .inl fe))] s.heap := hP
            have hDc := hD0
            refine vp_callSi (va_Run.run (va_runV (As := [.int (nI pn), .int (nI i)]) (rest := []) ⟨hx, hb, hml, hown, hts⟩ (c_X0_rivalsAt l G cI cC cZ cG s.heap.size qb qp qs qr qf pr sb br fe fl pn (nI i) (by omega)) (cf_RX0_45 hts ⟨Nat.le_of_ble_eq_true rfl, Nat.le_of_ble_eq_true rfl⟩) (pre_V hK hPc hDc (ci := 0) (q0 := 0) rfl rfl) rfl rfl hl.1 rfl (lv_room (Nat.le_of_ble_eq_true rfl)) dX0_isBlockedOnWay_29 ⟨Nat.le_of_ble_eq_true rfl, Nat.le_of_ble_eq_true rfl⟩)) (fun r85 hr85 => ?_)
            subst hr85
            have hf86 := (show rv pr pn (nI i) ≤ 12 from cnt_le (rvP pr pn (rf pn (nI i))) 12)
            refine lv_iconst (v := 2) hx hb dX0_isBlockedOnWay_32 (by decide) ?_
            refine zi_lt (tgt := 38) hx hb (rv pr pn (nI i)) 2 dX0_isBlockedOnWay_33 (by decide) rfl rfl (by omega) (by decide) (fun c_87 => ?_) (fun c_87 => ?_)
            · refine lv_iinc (v := nI (i + 1)) (lv' := [(5, .int (nI (i + 1))), (4, .int 0), (0, .ref qb), (1, .int (nI pn)), (2, .int (-6)), (3, .int (nI tn))]) hx hb dX0_isBlockedOnWay_38 hl (k := 0) rfl (nI_inc i) (by decide) rfl (fun ls hl => ?_)
              refine lv_goto (tgt := 19) hx hb dX0_isBlockedOnWay_41 (by decide) ?_
              exact ih (i + 1) (by omega) (by rw [hf, he c_84]; simp [anyp, blP, Nat.not_le.mpr c_87]) (by omega) _ (lv_sub hl [0, 1, 2, 3, 4, 5] rfl)
            · refine lv_iconst (v := 1) hx hb dX0_isBlockedOnWay_36 (by decide) ?_
              subst hQ
              exact W.zret (v := 1) hx hb hr rfl (fun t ht hW => ⟨1, rfl, bz_t (by rw [hf, he c_84]; simp [anyp, blP, c_87]), ht⟩) (fun _ h => absurd h List.not_mem_nil) dX0_isBlockedOnWay_37
      exact L1 (tn + 2) 0 (by first | omega | (rw [fst_n (by omega)] at hf0; exact hf0)) (by first | rfl | rw [blQ, fst_n (by omega)]) (by omega) _ (lv_sub hl [0, 1, 2, 3, 4, 5] rfl)
  · refine lv_iload_n hx hb dX0_isBlockedOnWay_0 rfl (lv_at hl 2 rfl) ?_
    refine lv_bipush (v := (-6)) hx hb dX0_isBlockedOnWay_1 (by decide) ?_
    refine lv_icmp_ne (tgt := 10) hx hb dX0_isBlockedOnWay_3 (by decide) (fun c_88 => ?_) (fun c_88 => ?_)
    · refine lv_iload_n hx hb dX0_isBlockedOnWay_10 rfl (lv_at hl 2 rfl) ?_
      refine lv_iconst (v := 1) hx hb dX0_isBlockedOnWay_11 (by decide) ?_
      refine zi_add hx hb a 1 dX0_isBlockedOnWay_12 rfl rfl ?_
      refine lv_istore (lv' := [(4, .int (nI (a + 1))), (0, .ref qb), (1, .int (nI pn)), (2, .int (nI a)), (3, .int (nI tn))]) hx hb dX0_isBlockedOnWay_13 hl (by decide) rfl (fun ls hl => ?_)
      refine lv_iload hx hb dX0_isBlockedOnWay_15 (lv_at hl 0 rfl) ?_
      refine lv_istore (lv' := [(5, .int (nI (a + 1))), (4, .int (nI (a + 1))), (0, .ref qb), (1, .int (nI pn)), (2, .int (nI a)), (3, .int (nI tn))]) hx hb dX0_isBlockedOnWay_17 hl (by decide) rfl (fun ls hl => ?_)
      have L2 : ∀ (n : Nat), ∀ (i : Nat), ∀ (hi : i ≤ tn + 1), ∀ (hf : blQ pr pn (nI a) tn = anyp (blP pr pn) i (tn + 1 - i)), ∀ (hn : tn + 2 ≤ i + n), ∀ (ls : Array Slot), lv_has ls 6 [(5, .int (nI i)), (4, .int (nI (a + 1))), (0, .ref qb), (1, .int (nI pn)), (2, .int (nI a)), (3, .int (nI tn))] → W p l e rm_X0_isBlockedOnWay s m ag below meth c s.heap [] 0 0 Q (F0 m 19 ls []) := by
        intro n
        induction n with
        | zero =>
          intro i hi hf hn ls hl
          omega
        | succ n ih =>
          intro i hi hf hn ls hl
          have he : i ≤ tn → tn + 1 - i = (tn + 1 - (i + 1)) + 1 := fun h => by omega
          refine lv_iload hx hb dX0_isBlockedOnWay_19 (lv_at hl 0 rfl) ?_
          refine lv_iload_n hx hb dX0_isBlockedOnWay_21 rfl (lv_at hl 5 rfl) ?_
          refine zi_gt (tgt := 44) hx hb i tn dX0_isBlockedOnWay_22 (by decide) rfl rfl (by omega) (by omega) (fun c_90 => ?_) (fun c_90 => ?_)
          · refine lv_iconst (v := 0) hx hb dX0_isBlockedOnWay_44 (by decide) ?_
            subst hQ
            exact W.zret (v := 0) hx hb hr rfl (fun t ht hW => ⟨0, rfl, bz_f (by rw [hf, show tn + 1 - i = 0 by omega]; simp [anyp]), ht⟩) (fun _ h => absurd h List.not_mem_nil) dX0_isBlockedOnWay_45
          · refine lv_aload_n hx hb dX0_isBlockedOnWay_25 rfl (lv_at hl 2 rfl) ?_
            refine lv_iload_n hx hb dX0_isBlockedOnWay_26 rfl (lv_at hl 3 rfl) ?_
            refine lv_iload hx hb dX0_isBlockedOnWay_27 (lv_at hl 0 rfl) ?_
            have hPc : va_P G vwCl [(qb, .inr (0, [.ref qp, .ref qs, .ref qr, .ref qf, .int fl])), (qp, .inl (cI, 12, .inl pr)), (qs, .inl (cI, 12, .inl sb)), (qr, .inl (cI, 4, .inl br)), (qf, .inl (cI, 4, .inl fe))] s.heap := hP
            have hDc := hD0
            refine vp_callSi (va_Run.run (va_runV (As := [.int (nI pn), .int (nI i)]) (rest := []) ⟨hx, hb, hml, hown, hts⟩ (c_X0_rivalsAt l G cI cC cZ cG s.heap.size qb qp qs qr qf pr sb br fe fl pn (nI i) (by omega)) (cf_RX0_45 hts ⟨Nat.le_of_ble_eq_true rfl, Nat.le_of_ble_eq_true rfl⟩) (pre_V hK hPc hDc (ci := 0) (q0 := 0) rfl rfl) rfl rfl hl.1 rfl (lv_room (Nat.le_of_ble_eq_true rfl)) dX0_isBlockedOnWay_29 ⟨Nat.le_of_ble_eq_true rfl, Nat.le_of_ble_eq_true rfl⟩)) (fun r91 hr91 => ?_)
            subst hr91
            have hf92 := (show rv pr pn (nI i) ≤ 12 from cnt_le (rvP pr pn (rf pn (nI i))) 12)
            refine lv_iconst (v := 2) hx hb dX0_isBlockedOnWay_32 (by decide) ?_
            refine zi_lt (tgt := 38) hx hb (rv pr pn (nI i)) 2 dX0_isBlockedOnWay_33 (by decide) rfl rfl (by omega) (by decide) (fun c_93 => ?_) (fun c_93 => ?_)
            · refine lv_iinc (v := nI (i + 1)) (lv' := [(5, .int (nI (i + 1))), (4, .int (nI (a + 1))), (0, .ref qb), (1, .int (nI pn)), (2, .int (nI a)), (3, .int (nI tn))]) hx hb dX0_isBlockedOnWay_38 hl (k := 0) rfl (nI_inc i) (by decide) rfl (fun ls hl => ?_)
              refine lv_goto (tgt := 19) hx hb dX0_isBlockedOnWay_41 (by decide) ?_
              exact ih (i + 1) (by omega) (by rw [hf, he c_90]; simp [anyp, blP, Nat.not_le.mpr c_93]) (by omega) _ (lv_sub hl [0, 1, 2, 3, 4, 5] rfl)
            · refine lv_iconst (v := 1) hx hb dX0_isBlockedOnWay_36 (by decide) ?_
              subst hQ
              exact W.zret (v := 1) hx hb hr rfl (fun t ht hW => ⟨1, rfl, bz_t (by rw [hf, he c_90]; simp [anyp, blP, c_93]), ht⟩) (fun _ h => absurd h List.not_mem_nil) dX0_isBlockedOnWay_37
      exact L2 (tn + 2) (a + 1) (by first | omega | (rw [fst_n (by omega)] at hf0; exact hf0)) (by first | rfl | rw [blQ, fst_n (by omega)]) (by omega) _ (lv_sub hl [0, 1, 2, 3, 4, 5] rfl)
    · exact absurd c_88 (nI_neg (by omega) (by decide))

abbrev rm_X0_sendRivalsBack : Room := { frames := 1, cells := 0, slots := 0, locals := 21 }
set_option maxHeartbeats 1000000 in
set_option maxRecDepth 100000 in
theorem c_X0_sendRivalsBack (l : Launch) (G : va_G) (cI cC cZ cG : ClassId) (sz : Nat) (qb qp qs qr qf : Nat) (pr sb br fe : IA) (fl : Int32) (pn : Nat) (v : Int32) (hp : pn < 4) : Met l yX0_sendRivalsBack (.code yX0_sendRivalsBack cX0_sendRivalsBack 5 none :: wsL_law) rm_X0_sendRivalsBack (va_Pc [.ref qb, .int (nI pn), .int v] (bw G cI cC cZ cG false sz [(qb, .inr (0, [.ref qp, .ref qs, .ref qr, .ref qf, .int fl])), (qp, .inl (cI, 12, .inl pr)), (qs, .inl (cI, 12, .inl sb)), (qr, .inl (cI, 4, .inl br)), (qf, .inl (cI, 4, .inl fe))])) (va_Qv (fun (u : IA × IA) => u = srb pr sb pn (rf pn v) 12) (fun (u : IA × IA) t => va_P G vwCl [(qb, .inr (0, [.ref qp, .ref qs, .ref qr, .ref qf, .int fl])), (qp, .inl (cI, 12, .inl u.1)), (qs, .inl (cI, 12, .inl u.2)), (qr, .inl (cI, 4, .inl br)), (qf, .inl (cI, 4, .inl fe))] t.heap ∧ va_D (va_A [(qb, .inr (0, [.ref qp, .ref qs, .ref qr, .ref qf, .int fl])), (qp, .inl (cI, 12, .inl pr)), (qs, .inl (cI, 12, .inl sb)), (qr, .inl (cI, 4, .inl br)), (qf, .inl (cI, 4, .inl fe))] sz) [(qb, .inr (0, [.ref qp, .ref qs, .ref qr, .ref qf, .int fl])), (qp, .inl (cI, 12, .inl u.1)), (qs, .inl (cI, 12, .inl u.2)), (qr, .inl (cI, 4, .inl br)), (qf, .inl (cI, 4, .inl fe))]) (va_A [(qb, .inr (0, [.ref qp, .ref qs, .ref qr, .ref qf, .int fl])), (qp, .inl (cI, 12, .inl pr)), (qs, .inl (cI, 12, .inl sb)), (qr, .inl (cI, 4, .inl br)), (qf, .inl (cI, 4, .inl fe))] sz)) 0 0 (va_A [(qb, .inr (0, [.ref qp, .ref qs, .ref qr, .ref qf, .int fl])), (qp, .inl (cI, 12, .inl pr)), (qs, .inl (cI, 12, .inl sb)), (qr, .inl (cI, 4, .inl br)), (qf, .inl (cI, 4, .inl fe))] sz) := by
  refine met_bw rfl (Nat.le_of_ble_eq_true rfl) ?_
  intro p e s m below meth c ls hx hb hr hml hown hts hlocks hin hsz hP hK hD0 hX0 hl
  have hown : s.vm.findClass RX0 = some m.cls := hown
  have hl : lv_has ls 5 [(0, .ref qb), (1, .int (nI pn)), (2, .int v)] := hl
  subst hsz
  have hD := hD0.self (sz := s.heap.size)
  generalize hAe : va_A [(qb, .inr (0, [.ref qp, .ref qs, .ref qr, .ref qf, .int fl])), (qp, .inl (cI, 12, .inl pr)), (qs, .inl (cI, 12, .inl sb)), (qr, .inl (cI, 4, .inl br)), (qf, .inl (cI, 4, .inl fe))] s.heap.size = A at hD ⊢
  have hA : ∀ q : Nat, s.heap.size ≤ q → A q := fun q h => by rw [← hAe]; exact Or.inr h
  have hS : va_S A s.heap s.heap [] := va_S.rf
  generalize hQ : MQ below (va_Qv (fun (u : IA × IA) => u = srb pr sb pn (rf pn v) 12) (fun (u : IA × IA) t => va_P G vwCl [(qb, .inr (0, [.ref qp, .ref qs, .ref qr, .ref qf, .int fl])), (qp, .inl (cI, 12, .inl u.1)), (qs, .inl (cI, 12, .inl u.2)), (qr, .inl (cI, 4, .inl br)), (qf, .inl (cI, 4, .inl fe))] t.heap ∧ va_D A [(qb, .inr (0, [.ref qp, .ref qs, .ref qr, .ref qf, .int fl])), (qp, .inl (cI, 12, .inl u.1)), (qs, .inl (cI, 12, .inl u.2)), (qr, .inl (cI, 4, .inl br)), (qf, .inl (cI, 4, .inl fe))]) A) ([.ref qb, .int (nI pn), .int v] : List Value).toArray s 0 0 A = Q
  generalize hag : ([.ref qb, .int (nI pn), .int v] : List Value).toArray = ag at hts hQ ⊢
  refine lv_iload_n hx hb dX0_sendRivalsBack_0 rfl (lv_at hl 1 rfl) ?_
  refine lv_iload_n hx hb dX0_sendRivalsBack_1 rfl (lv_at hl 2 rfl) ?_
  refine vp_callSi (va_Run.run (va_runSN (As := [.int (nI pn), .int v]) (rest := []) ⟨hx, hb, hml, hown, hts⟩ (c_X5_ringField l pn v (by omega)) (cf_RX0_34 hts hK.2 ⟨Nat.le_of_ble_eq_true rfl, Nat.le_of_ble_eq_true rfl⟩) pre_P rfl rfl hl.1 rfl (lv_room (Nat.le_of_ble_eq_true rfl)) dX0_sendRivalsBack_2 ⟨Nat.le_of_ble_eq_true rfl, Nat.le_of_ble_eq_true rfl⟩)) (fun r94 hr94 => ?_)
  subst hr94
  refine lv_istore_n (lv' := [(3, .int (rf pn v)), (0, .ref qb), (1, .int (nI pn)), (2, .int v)]) hx hb dX0_sendRivalsBack_5 rfl hl (by decide) rfl (fun ls hl => ?_)
  refine lv_iconst (v := 0) hx hb dX0_sendRivalsBack_6 (by decide) ?_
  refine lv_istore (lv' := [(4, .int 0), (3, .int (rf pn v)), (0, .ref qb), (1, .int (nI pn)), (2, .int v)]) hx hb dX0_sendRivalsBack_7 hl (by decide) rfl (fun ls hl => ?_)
  have L1 : ∀ (n : Nat), ∀ (i : Nat), ∀ (a : IA), ∀ (b : IA), ∀ (hi : i ≤ 12), ∀ (hf : (a, b) = srb pr sb pn (rf pn v) i), ∀ (hn : 13 ≤ i + n), ∀ (H95 : Heap) (locs95 : List Loc), va_P G vwCl [(qb, .inr (0, [.ref qp, .ref qs, .ref qr, .ref qf, .int fl])), (qp, .inl (cI, 12, .inl a)), (qs, .inl (cI, 12, .inl b)), (qr, .inl (cI, 4, .inl br)), (qf, .inl (cI, 4, .inl fe))] H95 → va_D A [(qb, .inr (0, [.ref qp, .ref qs, .ref qr, .ref qf, .int fl])), (qp, .inl (cI, 12, .inl a)), (qs, .inl (cI, 12, .inl b)), (qr, .inl (cI, 4, .inl br)), (qf, .inl (cI, 4, .inl fe))] → va_S A s.heap H95 locs95 → ∀ (ls : Array Slot), lv_has ls 5 [(4, .int (nI i)), (3, .int (rf pn v)), (0, .ref qb), (1, .int (nI pn)), (2, .int v)] → W p l e rm_X0_sendRivalsBack s m ag below meth c H95 locs95 0 0 Q (F0 m 9 ls []) := by
    intro n
    induction n with
    | zero =>
      intro i a b hi hf hn H95 locs95 hP hD hS ls hl
      omega
    | succ n ih =>
      intro i a b hi hf hn H95 locs95 hP hD hS ls hl
      refine lv_iload hx hb dX0_sendRivalsBack_9 (lv_at hl 0 rfl) ?_
      refine lv_bipush (v := 12) hx hb dX0_sendRivalsBack_11 (by decide) ?_
      refine zi_ge (tgt := 74) hx hb i 12 dX0_sendRivalsBack_13 (by decide) rfl rfl (by omega) (by decide) (fun c_96 => ?_) (fun c_96 => ?_)
      · subst hQ
        exact W.vret hx hb hr (fun t ht hW => ⟨⟨(a, b), rfl, by rw [hf, show i = 12 by omega], by rw [ht]; exact hP, hD⟩, hS.F ht⟩) hS.2.2 dX0_sendRivalsBack_74
      · refine lv_iload_n hx hb dX0_sendRivalsBack_16 rfl (lv_at hl 1 rfl) ?_
        refine lv_bipush (v := (-6)) hx hb dX0_sendRivalsBack_17 (by decide) ?_
        refine lv_icmp_eq (tgt := 74) hx hb dX0_sendRivalsBack_19 (by decide) (fun c_97 => ?_) (fun c_97 => ?_)
        · subst hQ
          exact W.vret hx hb hr (fun t ht hW => ⟨⟨(a, b), rfl, by rw [hf, srb_no c_97, srb_no c_97], by rw [ht]; exact hP, hD⟩, hS.F ht⟩) hS.2.2 dX0_sendRivalsBack_74
        · refine lv_iload hx hb dX0_sendRivalsBack_22 (lv_at hl 0 rfl) ?_
          refine lv_iconst (v := 3) hx hb dX0_sendRivalsBack_24 (by decide) ?_
          refine zi_div hx hb i 3 dX0_sendRivalsBack_25 rfl rfl (by omega) (by decide) (by decide) ?_
          refine lv_iload_n hx hb dX0_sendRivalsBack_26 rfl (lv_at hl 3 rfl) ?_
          refine zi_eq (tgt := 68) hx hb (i / 3) pn dX0_sendRivalsBack_27 (by decide) rfl rfl (by omega) (by omega) (fun c_98 => ?_) (fun c_98 => ?_)
          · refine lv_iinc (v := nI (i + 1)) (lv' := [(4, .int (nI (i + 1))), (3, .int (rf pn v)), (0, .ref qb), (1, .int (nI pn)), (2, .int v)]) hx hb dX0_sendRivalsBack_68 hl (k := 0) rfl (nI_inc i) (by decide) rfl (fun ls hl => ?_)
            refine lv_goto (tgt := 9) hx hb dX0_sendRivalsBack_71 (by decide) ?_
            exact ih (i + 1) a b (by omega) (by rw [srb, ← hf, if_neg (by simp [rvP, c_96, c_97, c_98])]) (by omega) H95 locs95 hP hD hS _ (lv_sub hl [0, 1, 2, 3, 4] rfl)
          · refine lv_iload hx hb dX0_sendRivalsBack_30 (lv_at hl 0 rfl) ?_
            refine lv_iconst (v := 3) hx hb dX0_sendRivalsBack_32 (by decide) ?_
            refine zi_div hx hb i 3 dX0_sendRivalsBack_33 rfl rfl (by omega) (by decide) (by decide) ?_
            refine lv_aload_n hx hb dX0_sendRivalsBack_34 rfl (lv_at hl 2 rfl) ?_
            refine va_get (D := G) (ci := 0) (v := .ref qp) (C := RX0) (T := TX0) (N := 5) hx hb hts inlX0 hown hK.1 hP 0 rfl rfl 0 (by decide) (hts _ wd52) (fun _ h9 => h9) rfl dX0_sendRivalsBack_35 ?_
            refine lv_iload hx hb dX0_sendRivalsBack_38 (lv_at hl 0 rfl) ?_
            refine za_ld hx hb hK.1 hP 1 0 rfl rfl i rfl (by omega) (by decide) dX0_sendRivalsBack_40 ?_
            refine vp_callSi (va_Run.run (va_runSN (As := [.int (nI (i / 3)), .int (a i)]) (rest := []) ⟨hx, hb, hml, hown, hts⟩ (c_X5_ringField l (i / 3) (a i) (by omega)) (cf_RX0_34 hts hK.2 ⟨Nat.le_of_ble_eq_true rfl, Nat.le_of_ble_eq_true rfl⟩) pre_P rfl rfl hl.1 rfl (lv_room (Nat.le_of_ble_eq_true rfl)) dX0_sendRivalsBack_41 ⟨Nat.le_of_ble_eq_true rfl, Nat.le_of_ble_eq_true rfl⟩)) (fun r99 hr99 => ?_)
            subst hr99
            refine lv_iload_n hx hb dX0_sendRivalsBack_44 rfl (lv_at hl 1 rfl) ?_
            refine lv_icmp_ne (tgt := 68) hx hb dX0_sendRivalsBack_45 (by decide) (fun c_100 => ?_) (fun c_100 => ?_)
            · refine lv_iinc (v := nI (i + 1)) (lv' := [(4, .int (nI (i + 1))), (3, .int (rf pn v)), (0, .ref qb), (1, .int (nI pn)), (2, .int v)]) hx hb dX0_sendRivalsBack_68 hl (k := 0) rfl (nI_inc i) (by decide) rfl (fun ls hl => ?_)
              refine lv_goto (tgt := 9) hx hb dX0_sendRivalsBack_71 (by decide) ?_
              exact ih (i + 1) a b (by omega) (by rw [srb, ← hf, if_neg (by simp [rvP, c_96, c_97, c_98, c_100])]) (by omega) H95 locs95 hP hD hS _ (lv_sub hl [0, 1, 2, 3, 4] rfl)
            · refine lv_aload_n hx hb dX0_sendRivalsBack_48 rfl (lv_at hl 2 rfl) ?_
              refine va_get (D := G) (ci := 0) (v := .ref qp) (C := RX0) (T := TX0) (N := 5) hx hb hts inlX0 hown hK.1 hP 0 rfl rfl 0 (by decide) (hts _ wd52) (fun _ h9 => h9) rfl dX0_sendRivalsBack_49 ?_
              refine lv_iload hx hb dX0_sendRivalsBack_52 (lv_at hl 0 rfl) ?_
              refine lv_bipush (v := (-6)) hx hb dX0_sendRivalsBack_54 (by decide) ?_
              refine za_st hx hb hK.1 hP hD hS 1 0 rfl rfl i rfl (by omega) (by decide) dX0_sendRivalsBack_56 (fun H101 locs101 hP hD hS => ?_)
              have hP : va_P G vwCl [(qb, .inr (0, [.ref qp, .ref qs, .ref qr, .ref qf, .int fl])), (qp, .inl (cI, 12, .inl (upd a i (-6)))), (qs, .inl (cI, 12, .inl b)), (qr, .inl (cI, 4, .inl br)), (qf, .inl (cI, 4, .inl fe))] H101 := hP
              have hD : va_D A [(qb, .inr (0, [.ref qp, .ref qs, .ref qr, .ref qf, .int fl])), (qp, .inl (cI, 12, .inl (upd a i (-6)))), (qs, .inl (cI, 12, .inl b)), (qr, .inl (cI, 4, .inl br)), (qf, .inl (cI, 4, .inl fe))] := hD
              refine lv_aload_n hx hb dX0_sendRivalsBack_57 rfl (lv_at hl 2 rfl) ?_
              refine va_get (D := G) (ci := 0) (v := .ref qs) (C := RX0) (T := TX0) (N := 5) hx hb hts inlX0 hown hK.1 hP 0 rfl rfl 1 (by decide) (hts _ wd53) (fun _ h9 => h9) rfl dX0_sendRivalsBack_58 ?_
              refine lv_iload hx hb dX0_sendRivalsBack_61 (lv_at hl 0 rfl) ?_
              refine lv_dup2_11 hx hb dX0_sendRivalsBack_63 rfl rfl ?_
              refine za_ld hx hb hK.1 hP 2 0 rfl rfl i rfl (by omega) (by decide) dX0_sendRivalsBack_64 ?_
              refine lv_iconst (v := 1) hx hb dX0_sendRivalsBack_65 (by decide) ?_
              refine lv_iadd hx hb dX0_sendRivalsBack_66 ?_
              refine za_st hx hb hK.1 hP hD hS 2 0 rfl rfl i rfl (by omega) (by decide) dX0_sendRivalsBack_67 (fun H102 locs102 hP hD hS => ?_)
              have hP : va_P G vwCl [(qb, .inr (0, [.ref qp, .ref qs, .ref qr, .ref qf, .int fl])), (qp, .inl (cI, 12, .inl (upd a i (-6)))), (qs, .inl (cI, 12, .inl (upd b i ((b i) + 1)))), (qr, .inl (cI, 4, .inl br)), (qf, .inl (cI, 4, .inl fe))] H102 := hP
              have hD : va_D A [(qb, .inr (0, [.ref qp, .ref qs, .ref qr, .ref qf, .int fl])), (qp, .inl (cI, 12, .inl (upd a i (-6)))), (qs, .inl (cI, 12, .inl (upd b i ((b i) + 1)))), (qr, .inl (cI, 4, .inl br)), (qf, .inl (cI, 4, .inl fe))] := hD
              refine lv_iinc (v := nI (i + 1)) (lv' := [(4, .int (nI (i + 1))), (3, .int (rf pn v)), (0, .ref qb), (1, .int (nI pn)), (2, .int v)]) hx hb dX0_sendRivalsBack_68 hl (k := 0) rfl (nI_inc i) (by decide) rfl (fun ls hl => ?_)
              refine lv_goto (tgt := 9) hx hb dX0_sendRivalsBack_71 (by decide) ?_
              exact ih (i + 1) (upd a i (-6)) (upd b i ((b i) + 1)) (by omega) (by rw [srb, ← hf, if_pos (by simp [rvP, c_96, c_97, c_98, c_100])]) (by omega) H102 locs102 hP hD hS _ (lv_sub hl [0, 1, 2, 3, 4] rfl)
  exact L1 13 0 pr sb (by decide) rfl (by decide) s.heap [] hP hD hS _ (lv_sub hl [0, 1, 2, 3, 4] rfl)

abbrev rm_X0_strainAndFall : Room := { frames := 2, cells := 0, slots := 0, locals := 44 }
theorem cf_RX0_69 {R : Room} {s : State} {args : Array Value} (ht : ∀ w ∈ wsL_law, w.before args s = true) (hR : rm_X0_piecesOn.frames + 1 ≤ R.frames ∧ 8 + (4 + 11) + rm_X0_piecesOn.locals ≤ R.locals) : CallW R s args RX0 RX0 69 yX0_piecesOn cX0_piecesOn 4 (some .int) (.code yX0_piecesOn cX0_piecesOn 4 (some .int) :: wsL_law) rm_X0_piecesOn 0 0 1 := ⟨cw_B 1 ht wd247 wd36 wd250 (by decide +kernel) rfl rfl hR, ht _ wd248, ht _ wd249⟩
set_option maxHeartbeats 1000000 in
set_option maxRecDepth 100000 in
theorem c_X0_strainAndFall (l : Launch) (G : va_G) (cI cC cZ cG : ClassId) (sz : Nat) (qb qp qs qr qf : Nat) (pr sb br fe : IA) (fl : Int32) (tu : Int32) : Met l yX0_strainAndFall (.code yX0_strainAndFall cX0_strainAndFall 4 none :: wsL_law) rm_X0_strainAndFall (va_Pc [.ref qb, .int tu] (bw G cI cC cZ cG false sz [(qb, .inr (0, [.ref qp, .ref qs, .ref qr, .ref qf, .int fl])), (qp, .inl (cI, 12, .inl pr)), (qs, .inl (cI, 12, .inl sb)), (qr, .inl (cI, 4, .inl br)), (qf, .inl (cI, 4, .inl fe))])) (va_Qv (fun (u : IA × IA × Int32) => u = sf pr tu br fe fl 4) (fun (u : IA × IA × Int32) t => va_P G vwCl [(qb, .inr (0, [.ref qp, .ref qs, .ref qr, .ref qf, .int u.2.2])), (qp, .inl (cI, 12, .inl pr)), (qs, .inl (cI, 12, .inl sb)), (qr, .inl (cI, 4, .inl u.1)), (qf, .inl (cI, 4, .inl u.2.1))] t.heap ∧ va_D (va_A [(qb, .inr (0, [.ref qp, .ref qs, .ref qr, .ref qf, .int fl])), (qp, .inl (cI, 12, .inl pr)), (qs, .inl (cI, 12, .inl sb)), (qr, .inl (cI, 4, .inl br)), (qf, .inl (cI, 4, .inl fe))] sz) [(qb, .inr (0, [.ref qp, .ref qs, .ref qr, .ref qf, .int u.2.2])), (qp, .inl (cI, 12, .inl pr)), (qs, .inl (cI, 12, .inl sb)), (qr, .inl (cI, 4, .inl u.1)), (qf, .inl (cI, 4, .inl u.2.1))]) (va_A [(qb, .inr (0, [.ref qp, .ref qs, .ref qr, .ref qf, .int fl])), (qp, .inl (cI, 12, .inl pr)), (qs, .inl (cI, 12, .inl sb)), (qr, .inl (cI, 4, .inl br)), (qf, .inl (cI, 4, .inl fe))] sz)) 0 0 (va_A [(qb, .inr (0, [.ref qp, .ref qs, .ref qr, .ref qf, .int fl])), (qp, .inl (cI, 12, .inl pr)), (qs, .inl (cI, 12, .inl sb)), (qr, .inl (cI, 4, .inl br)), (qf, .inl (cI, 4, .inl fe))] sz) := by
  refine met_bw rfl (Nat.le_of_ble_eq_true rfl) ?_
  intro p e s m below meth c ls hx hb hr hml hown hts hlocks hin hsz hP hK hD0 hX0 hl
  have hown : s.vm.findClass RX0 = some m.cls := hown
  have hl : lv_has ls 4 [(0, .ref qb), (1, .int tu)] := hl
  subst hsz
  have hD := hD0.self (sz := s.heap.size)
  generalize hAe : va_A [(qb, .inr (0, [.ref qp, .ref qs, .ref qr, .ref qf, .int fl])), (qp, .inl (cI, 12, .inl pr)), (qs, .inl (cI, 12, .inl sb)), (qr, .inl (cI, 4, .inl br)), (qf, .inl (cI, 4, .inl fe))] s.heap.size = A at hD ⊢
  have hA : ∀ q : Nat, s.heap.size ≤ q → A q := fun q h => by rw [← hAe]; exact Or.inr h
  have hS : va_S A s.heap s.heap [] := va_S.rf
  generalize hQ : MQ below (va_Qv (fun (u : IA × IA × Int32) => u = sf pr tu br fe fl 4) (fun (u : IA × IA × Int32) t => va_P G vwCl [(qb, .inr (0, [.ref qp, .ref qs, .ref qr, .ref qf, .int u.2.2])), (qp, .inl (cI, 12, .inl pr)), (qs, .inl (cI, 12, .inl sb)), (qr, .inl (cI, 4, .inl u.1)), (qf, .inl (cI, 4, .inl u.2.1))] t.heap ∧ va_D A [(qb, .inr (0, [.ref qp, .ref qs, .ref qr, .ref qf, .int u.2.2])), (qp, .inl (cI, 12, .inl pr)), (qs, .inl (cI, 12, .inl sb)), (qr, .inl (cI, 4, .inl u.1)), (qf, .inl (cI, 4, .inl u.2.1))]) A) ([.ref qb, .int tu] : List Value).toArray s 0 0 A = Q
  generalize hag : ([.ref qb, .int tu] : List Value).toArray = ag at hts hQ ⊢
  refine lv_iconst (v := 0) hx hb dX0_strainAndFall_0 (by decide) ?_
  refine lv_istore_n (lv' := [(2, .int 0), (0, .ref qb), (1, .int tu)]) hx hb dX0_strainAndFall_1 rfl hl (by decide) rfl (fun ls hl => ?_)
  have L1 : ∀ (n : Nat), ∀ (i : Nat), ∀ (a : IA), ∀ (b : IA), ∀ (d : Int32), ∀ (hi : i ≤ 4), ∀ (hf : (a, b, d) = sf pr tu br fe fl i), ∀ (hn : 5 ≤ i + n), ∀ (H103 : Heap) (locs103 : List Loc), va_P G vwCl [(qb, .inr (0, [.ref qp, .ref qs, .ref qr, .ref qf, .int d])), (qp, .inl (cI, 12, .inl pr)), (qs, .inl (cI, 12, .inl sb)), (qr, .inl (cI, 4, .inl a)), (qf, .inl (cI, 4, .inl b))] H103 → va_D A [(qb, .inr (0, [.ref qp, .ref qs, .ref qr, .ref qf, .int d])), (qp, .inl (cI, 12, .inl pr)), (qs, .inl (cI, 12, .inl sb)), (qr, .inl (cI, 4, .inl a)), (qf, .inl (cI, 4, .inl b))] → va_S A s.heap H103 locs103 → ∀ (ls : Array Slot), lv_has ls 4 [(2, .int (nI i)), (0, .ref qb), (1, .int tu)] → W p l e rm_X0_strainAndFall s m ag below meth c H103 locs103 0 0 Q (F0 m 2 ls []) := by
    intro n
    induction n with
    | zero =>
      intro i a b d hi hf hn H103 locs103 hP hD hS ls hl
      omega
    | succ n ih =>
      intro i a b d hi hf hn H103 locs103 hP hD hS ls hl
      refine lv_iload_n hx hb dX0_strainAndFall_2 rfl (lv_at hl 0 rfl) ?_
      refine lv_iconst (v := 4) hx hb dX0_strainAndFall_3 (by decide) ?_
      refine zi_ge (tgt := 87) hx hb i 4 dX0_strainAndFall_4 (by decide) rfl rfl (by omega) (by decide) (fun c_104 => ?_) (fun c_104 => ?_)
      · subst hQ
        exact W.vret hx hb hr (fun t ht hW => ⟨⟨(a, b, d), rfl, by rw [hf, show i = 4 by omega], by rw [ht]; exact hP, hD⟩, hS.F ht⟩) hS.2.2 dX0_strainAndFall_87
      · refine lv_aload_n hx hb dX0_strainAndFall_7 rfl (lv_at hl 1 rfl) ?_
        refine lv_bipush (v := 8) hx hb dX0_strainAndFall_8 (by decide) ?_
        refine lv_iload_n hx hb dX0_strainAndFall_10 rfl (lv_at hl 0 rfl) ?_
        refine zi_mul hx hb 8 i dX0_strainAndFall_11 rfl rfl ?_
        refine lv_iconst (v := 4) hx hb dX0_strainAndFall_12 (by decide) ?_
        refine zi_add hx hb (8 * i) 4 dX0_strainAndFall_13 rfl rfl ?_
        have hPc : va_P G vwCl [(qb, .inr (0, [.ref qp, .ref qs, .ref qr, .ref qf, .int d])), (qp, .inl (cI, 12, .inl pr)), (qs, .inl (cI, 12, .inl sb)), (qr, .inl (cI, 4, .inl a)), (qf, .inl (cI, 4, .inl b))] H103 := hP
        have hDc := hD.tt
        refine vp_callSi (va_Run.run (va_runV (As := [.int (nI ((8 * i) + 4))]) (rest := []) ⟨hx, hb, hml, hown, hts⟩ (c_X0_piecesOn l G cI cC cZ cG H103.size qb qp qs qr qf pr sb a b d (nI ((8 * i) + 4))) (cf_RX0_69 hts ⟨Nat.le_of_ble_eq_true rfl, Nat.le_of_ble_eq_true rfl⟩) (pre_V hK hPc hDc (ci := 0) (q0 := 0) rfl rfl) rfl rfl hl.1 rfl (lv_room (Nat.le_of_ble_eq_true rfl)) dX0_strainAndFall_14 ⟨Nat.le_of_ble_eq_true rfl, Nat.le_of_ble_eq_true rfl⟩)) (fun r105 hr105 => ?_)
        subst hr105
        have hf106 := cnt_le (pcP pr (nI ((8 * i) + 4))) 12
        refine lv_istore_n (lv' := [(3, .int (nI (cnt (pcP pr (nI ((8 * i) + 4))) 12))), (2, .int (nI i)), (0, .ref qb), (1, .int tu)]) hx hb dX0_strainAndFall_17 rfl hl (by decide) rfl (fun ls hl => ?_)
        refine lv_aload_n hx hb dX0_strainAndFall_18 rfl (lv_at hl 2 rfl) ?_
        refine va_get (D := G) (ci := 0) (v := .ref qr) (C := RX0) (T := TX0) (N := 5) hx hb hts inlX0 hown hK.1 hP 0 rfl rfl 2 (by decide) (hts _ wd54) (fun _ h9 => h9) rfl dX0_strainAndFall_19 ?_
        refine lv_iload_n hx hb dX0_strainAndFall_22 rfl (lv_at hl 1 rfl) ?_
        refine za_ld hx hb hK.1 hP 3 0 rfl rfl i rfl (by omega) (by decide) dX0_strainAndFall_23 ?_
        refine lv_iconst (v := 1) hx hb dX0_strainAndFall_24 (by decide) ?_
        refine lv_icmp_ne (tgt := 43) hx hb dX0_strainAndFall_25 (by decide) (fun c_107 => ?_) (fun c_107 => ?_)
        · refine lv_aload_n hx hb dX0_strainAndFall_43 rfl (lv_at hl 2 rfl) ?_
          refine va_get (D := G) (ci := 0) (v := .ref qr) (C := RX0) (T := TX0) (N := 5) hx hb hts inlX0 hown hK.1 hP 0 rfl rfl 2 (by decide) (hts _ wd54) (fun _ h9 => h9) rfl dX0_strainAndFall_44 ?_
          refine lv_iload_n hx hb dX0_strainAndFall_47 rfl (lv_at hl 1 rfl) ?_
          refine za_ld hx hb hK.1 hP 3 0 rfl rfl i rfl (by omega) (by decide) dX0_strainAndFall_48 ?_
          refine lv_iconst (v := 2) hx hb dX0_strainAndFall_49 (by decide) ?_
          refine lv_icmp_ne (tgt := 81) hx hb dX0_strainAndFall_50 (by decide) (fun c_108 => ?_) (fun c_108 => ?_)
          · refine lv_iinc (v := nI (i + 1)) (lv' := [(2, .int (nI (i + 1))), (3, .int (nI (cnt (pcP pr (nI ((8 * i) + 4))) 12))), (0, .ref qb), (1, .int tu)]) hx hb dX0_strainAndFall_81 hl (k := 1) rfl (nI_inc i) (by decide) rfl (fun ls hl => ?_)
            refine lv_goto (tgt := 2) hx hb dX0_strainAndFall_84 (by decide) ?_
            exact ih (i + 1) a b d (by omega) (by first | done | rw [sf, ← hf, if_neg (by simp [pcN, c_104, c_107, c_108]), if_neg (by simp [pcN, c_104, c_107, c_108])]) (by omega) H103 locs103 hP hD hS _ (lv_sub hl [0, 2, 3] rfl)
          · refine lv_iload_n hx hb dX0_strainAndFall_53 rfl (lv_at hl 0 rfl) ?_
            refine z0_ne (tgt := 81) hx hb (cnt (pcP pr (nI ((8 * i) + 4))) 12) dX0_strainAndFall_54 (by decide) rfl (by omega) (fun c_109 => ?_) (fun c_109 => ?_)
            · refine lv_iinc (v := nI (i + 1)) (lv' := [(2, .int (nI (i + 1))), (3, .int (nI (cnt (pcP pr (nI ((8 * i) + 4))) 12))), (0, .ref qb), (1, .int tu)]) hx hb dX0_strainAndFall_81 hl (k := 1) rfl (nI_inc i) (by decide) rfl (fun ls hl => ?_)
              refine lv_goto (tgt := 2) hx hb dX0_strainAndFall_84 (by decide) ?_
              exact ih (i + 1) a b d (by omega) (by first | exact absurd (c_107.symm.trans c_109) (by decide) | rw [sf, ← hf, if_neg (by simp [pcN, c_104, c_107, c_108, c_109]), if_neg (by simp [pcN, c_104, c_107, c_108, c_109])]) (by omega) H103 locs103 hP hD hS _ (lv_sub hl [0, 2, 3] rfl)
            · refine lv_aload_n hx hb dX0_strainAndFall_57 rfl (lv_at hl 2 rfl) ?_
              refine va_get (D := G) (ci := 0) (v := .ref qr) (C := RX0) (T := TX0) (N := 5) hx hb hts inlX0 hown hK.1 hP 0 rfl rfl 2 (by decide) (hts _ wd54) (fun _ h9 => h9) rfl dX0_strainAndFall_58 ?_
              refine lv_iload_n hx hb dX0_strainAndFall_61 rfl (lv_at hl 1 rfl) ?_
              refine lv_iconst (v := 3) hx hb dX0_strainAndFall_62 (by decide) ?_
              refine za_st hx hb hK.1 hP hD hS 3 0 rfl rfl i rfl (by omega) (by decide) dX0_strainAndFall_63 (fun H110 locs110 hP hD hS => ?_)
              have hP : va_P G vwCl [(qb, .inr (0, [.ref qp, .ref qs, .ref qr, .ref qf, .int d])), (qp, .inl (cI, 12, .inl pr)), (qs, .inl (cI, 12, .inl sb)), (qr, .inl (cI, 4, .inl (upd a i 3))), (qf, .inl (cI, 4, .inl b))] H110 := hP
              have hD : va_D A [(qb, .inr (0, [.ref qp, .ref qs, .ref qr, .ref qf, .int d])), (qp, .inl (cI, 12, .inl pr)), (qs, .inl (cI, 12, .inl sb)), (qr, .inl (cI, 4, .inl (upd a i 3))), (qf, .inl (cI, 4, .inl b))] := hD
              refine lv_aload_n hx hb dX0_strainAndFall_64 rfl (lv_at hl 2 rfl) ?_
              refine va_get (D := G) (ci := 0) (v := .ref qf) (C := RX0) (T := TX0) (N := 5) hx hb hts inlX0 hown hK.1 hP 0 rfl rfl 3 (by decide) (hts _ wd55) (fun _ h9 => h9) rfl dX0_strainAndFall_65 ?_
              refine lv_iload_n hx hb dX0_strainAndFall_68 rfl (lv_at hl 1 rfl) ?_
              refine lv_iload_n hx hb dX0_strainAndFall_69 rfl (lv_at hl 3 rfl) ?_
              refine za_st hx hb hK.1 hP hD hS 4 0 rfl rfl i rfl (by omega) (by decide) dX0_strainAndFall_70 (fun H111 locs111 hP hD hS => ?_)
              have hP : va_P G vwCl [(qb, .inr (0, [.ref qp, .ref qs, .ref qr, .ref qf, .int d])), (qp, .inl (cI, 12, .inl pr)), (qs, .inl (cI, 12, .inl sb)), (qr, .inl (cI, 4, .inl (upd a i 3))), (qf, .inl (cI, 4, .inl (upd b i tu)))] H111 := hP
              have hD : va_D A [(qb, .inr (0, [.ref qp, .ref qs, .ref qr, .ref qf, .int d])), (qp, .inl (cI, 12, .inl pr)), (qs, .inl (cI, 12, .inl sb)), (qr, .inl (cI, 4, .inl (upd a i 3))), (qf, .inl (cI, 4, .inl (upd b i tu)))] := hD
              refine lv_aload_n hx hb dX0_strainAndFall_71 rfl (lv_at hl 2 rfl) ?_
              refine lv_dup hx hb dX0_strainAndFall_72 rfl ?_
              refine va_get (D := G) (ci := 0) (v := .int d) (C := RX0) (T := TX0) (N := 5) hx hb hts inlX0 hown hK.1 hP 0 rfl rfl 4 (by decide) (hts _ wd56) (fun _ h9 => h9) rfl dX0_strainAndFall_73 ?_
              refine lv_iconst (v := 1) hx hb dX0_strainAndFall_76 (by decide) ?_
              refine lv_iadd hx hb dX0_strainAndFall_77 ?_
              refine va_put (D := G) (ci := 0) (v := .int (d + 1)) (ty := .int) (C := RX0) (T := TX0) (N := 5) hx hb hts inlX0 tyX0 tyX0_ok nmX0 hown hK.1 hP hD hS 0 rfl rfl 4 (by decide) (hts _ wd56) (fun _ h9 => h9) rfl (by decide +kernel) rfl rfl (Nat.le_of_ble_eq_true rfl) dX0_strainAndFall_78 (fun H112 locs112 hP hD hS => ?_)
              have hP : va_P G vwCl [(qb, .inr (0, [.ref qp, .ref qs, .ref qr, .ref qf, .int (d + 1)])), (qp, .inl (cI, 12, .inl pr)), (qs, .inl (cI, 12, .inl sb)), (qr, .inl (cI, 4, .inl (upd a i 3))), (qf, .inl (cI, 4, .inl (upd b i tu)))] H112 := hP
              have hD : va_D A [(qb, .inr (0, [.ref qp, .ref qs, .ref qr, .ref qf, .int (d + 1)])), (qp, .inl (cI, 12, .inl pr)), (qs, .inl (cI, 12, .inl sb)), (qr, .inl (cI, 4, .inl (upd a i 3))), (qf, .inl (cI, 4, .inl (upd b i tu)))] := hD
              refine lv_iinc (v := nI (i + 1)) (lv' := [(2, .int (nI (i + 1))), (3, .int (nI (cnt (pcP pr (nI ((8 * i) + 4))) 12))), (0, .ref qb), (1, .int tu)]) hx hb dX0_strainAndFall_81 hl (k := 1) rfl (nI_inc i) (by decide) rfl (fun ls hl => ?_)
              refine lv_goto (tgt := 2) hx hb dX0_strainAndFall_84 (by decide) ?_
              exact ih (i + 1) (upd a i 3) (upd b i tu) (d + 1) (by omega) (by first | exact absurd (c_107.symm.trans c_109) (by decide) | rw [sf, ← hf, if_neg (by simp [pcN, c_104, c_107, c_108, c_109]), if_pos (by simp [pcN, c_104, c_107, c_108, c_109])]) (by omega) H112 locs112 hP hD hS _ (lv_sub hl [0, 2, 3] rfl)
        · refine lv_iload_n hx hb dX0_strainAndFall_28 rfl (lv_at hl 0 rfl) ?_
          refine lv_iconst (v := 2) hx hb dX0_strainAndFall_29 (by decide) ?_
          refine zi_lt (tgt := 43) hx hb (cnt (pcP pr (nI ((8 * i) + 4))) 12) 2 dX0_strainAndFall_30 (by decide) rfl rfl (by omega) (by decide) (fun c_113 => ?_) (fun c_113 => ?_)
          · refine lv_aload_n hx hb dX0_strainAndFall_43 rfl (lv_at hl 2 rfl) ?_
            refine va_get (D := G) (ci := 0) (v := .ref qr) (C := RX0) (T := TX0) (N := 5) hx hb hts inlX0 hown hK.1 hP 0 rfl rfl 2 (by decide) (hts _ wd54) (fun _ h9 => h9) rfl dX0_strainAndFall_44 ?_
            refine lv_iload_n hx hb dX0_strainAndFall_47 rfl (lv_at hl 1 rfl) ?_
            refine za_ld hx hb hK.1 hP 3 0 rfl rfl i rfl (by omega) (by decide) dX0_strainAndFall_48 ?_
            refine lv_iconst (v := 2) hx hb dX0_strainAndFall_49 (by decide) ?_
            refine lv_icmp_ne (tgt := 81) hx hb dX0_strainAndFall_50 (by decide) (fun c_114 => ?_) (fun c_114 => ?_)
            · refine lv_iinc (v := nI (i + 1)) (lv' := [(2, .int (nI (i + 1))), (3, .int (nI (cnt (pcP pr (nI ((8 * i) + 4))) 12))), (0, .ref qb), (1, .int tu)]) hx hb dX0_strainAndFall_81 hl (k := 1) rfl (nI_inc i) (by decide) rfl (fun ls hl => ?_)
              refine lv_goto (tgt := 2) hx hb dX0_strainAndFall_84 (by decide) ?_
              exact ih (i + 1) a b d (by omega) (by first | exact absurd (c_107.symm.trans c_114) (by decide) | rw [sf, ← hf, if_neg (by simp [pcN, c_104, c_107, c_113, c_114]), if_neg (by simp [pcN, c_104, c_107, c_113, c_114])]) (by omega) H103 locs103 hP hD hS _ (lv_sub hl [0, 2, 3] rfl)
            · refine lv_iload_n hx hb dX0_strainAndFall_53 rfl (lv_at hl 0 rfl) ?_
              refine z0_ne (tgt := 81) hx hb (cnt (pcP pr (nI ((8 * i) + 4))) 12) dX0_strainAndFall_54 (by decide) rfl (by omega) (fun c_115 => ?_) (fun c_115 => ?_)
              · refine lv_iinc (v := nI (i + 1)) (lv' := [(2, .int (nI (i + 1))), (3, .int (nI (cnt (pcP pr (nI ((8 * i) + 4))) 12))), (0, .ref qb), (1, .int tu)]) hx hb dX0_strainAndFall_81 hl (k := 1) rfl (nI_inc i) (by decide) rfl (fun ls hl => ?_)
                refine lv_goto (tgt := 2) hx hb dX0_strainAndFall_84 (by decide) ?_
                exact ih (i + 1) a b d (by omega) (by first | exact absurd (c_107.symm.trans c_114) (by decide) | rw [sf, ← hf, if_neg (by simp [pcN, c_104, c_107, c_113, c_114, c_115]), if_neg (by simp [pcN, c_104, c_107, c_113, c_114, c_115])]) (by omega) H103 locs103 hP hD hS _ (lv_sub hl [0, 2, 3] rfl)
              · refine lv_aload_n hx hb dX0_strainAndFall_57 rfl (lv_at hl 2 rfl) ?_
                refine va_get (D := G) (ci := 0) (v := .ref qr) (C := RX0) (T := TX0) (N := 5) hx hb hts inlX0 hown hK.1 hP 0 rfl rfl 2 (by decide) (hts _ wd54) (fun _ h9 => h9) rfl dX0_strainAndFall_58 ?_
                refine lv_iload_n hx hb dX0_strainAndFall_61 rfl (lv_at hl 1 rfl) ?_
                refine lv_iconst (v := 3) hx hb dX0_strainAndFall_62 (by decide) ?_
                refine za_st hx hb hK.1 hP hD hS 3 0 rfl rfl i rfl (by omega) (by decide) dX0_strainAndFall_63 (fun H116 locs116 hP hD hS => ?_)
                have hP : va_P G vwCl [(qb, .inr (0, [.ref qp, .ref qs, .ref qr, .ref qf, .int d])), (qp, .inl (cI, 12, .inl pr)), (qs, .inl (cI, 12, .inl sb)), (qr, .inl (cI, 4, .inl (upd a i 3))), (qf, .inl (cI, 4, .inl b))] H116 := hP
                have hD : va_D A [(qb, .inr (0, [.ref qp, .ref qs, .ref qr, .ref qf, .int d])), (qp, .inl (cI, 12, .inl pr)), (qs, .inl (cI, 12, .inl sb)), (qr, .inl (cI, 4, .inl (upd a i 3))), (qf, .inl (cI, 4, .inl b))] := hD
                refine lv_aload_n hx hb dX0_strainAndFall_64 rfl (lv_at hl 2 rfl) ?_
                refine va_get (D := G) (ci := 0) (v := .ref qf) (C := RX0) (T := TX0) (N := 5) hx hb hts inlX0 hown hK.1 hP 0 rfl rfl 3 (by decide) (hts _ wd55) (fun _ h9 => h9) rfl dX0_strainAndFall_65 ?_
                refine lv_iload_n hx hb dX0_strainAndFall_68 rfl (lv_at hl 1 rfl) ?_
                refine lv_iload_n hx hb dX0_strainAndFall_69 rfl (lv_at hl 3 rfl) ?_
                refine za_st hx hb hK.1 hP hD hS 4 0 rfl rfl i rfl (by omega) (by decide) dX0_strainAndFall_70 (fun H117 locs117 hP hD hS => ?_)
                have hP : va_P G vwCl [(qb, .inr (0, [.ref qp, .ref qs, .ref qr, .ref qf, .int d])), (qp, .inl (cI, 12, .inl pr)), (qs, .inl (cI, 12, .inl sb)), (qr, .inl (cI, 4, .inl (upd a i 3))), (qf, .inl (cI, 4, .inl (upd b i tu)))] H117 := hP
                have hD : va_D A [(qb, .inr (0, [.ref qp, .ref qs, .ref qr, .ref qf, .int d])), (qp, .inl (cI, 12, .inl pr)), (qs, .inl (cI, 12, .inl sb)), (qr, .inl (cI, 4, .inl (upd a i 3))), (qf, .inl (cI, 4, .inl (upd b i tu)))] := hD
                refine lv_aload_n hx hb dX0_strainAndFall_71 rfl (lv_at hl 2 rfl) ?_
                refine lv_dup hx hb dX0_strainAndFall_72 rfl ?_
                refine va_get (D := G) (ci := 0) (v := .int d) (C := RX0) (T := TX0) (N := 5) hx hb hts inlX0 hown hK.1 hP 0 rfl rfl 4 (by decide) (hts _ wd56) (fun _ h9 => h9) rfl dX0_strainAndFall_73 ?_
                refine lv_iconst (v := 1) hx hb dX0_strainAndFall_76 (by decide) ?_
                refine lv_iadd hx hb dX0_strainAndFall_77 ?_
                refine va_put (D := G) (ci := 0) (v := .int (d + 1)) (ty := .int) (C := RX0) (T := TX0) (N := 5) hx hb hts inlX0 tyX0 tyX0_ok nmX0 hown hK.1 hP hD hS 0 rfl rfl 4 (by decide) (hts _ wd56) (fun _ h9 => h9) rfl (by decide +kernel) rfl rfl (Nat.le_of_ble_eq_true rfl) dX0_strainAndFall_78 (fun H118 locs118 hP hD hS => ?_)
                have hP : va_P G vwCl [(qb, .inr (0, [.ref qp, .ref qs, .ref qr, .ref qf, .int (d + 1)])), (qp, .inl (cI, 12, .inl pr)), (qs, .inl (cI, 12, .inl sb)), (qr, .inl (cI, 4, .inl (upd a i 3))), (qf, .inl (cI, 4, .inl (upd b i tu)))] H118 := hP
                have hD : va_D A [(qb, .inr (0, [.ref qp, .ref qs, .ref qr, .ref qf, .int (d + 1)])), (qp, .inl (cI, 12, .inl pr)), (qs, .inl (cI, 12, .inl sb)), (qr, .inl (cI, 4, .inl (upd a i 3))), (qf, .inl (cI, 4, .inl (upd b i tu)))] := hD
                refine lv_iinc (v := nI (i + 1)) (lv' := [(2, .int (nI (i + 1))), (3, .int (nI (cnt (pcP pr (nI ((8 * i) + 4))) 12))), (0, .ref qb), (1, .int tu)]) hx hb dX0_strainAndFall_81 hl (k := 1) rfl (nI_inc i) (by decide) rfl (fun ls hl => ?_)
                refine lv_goto (tgt := 2) hx hb dX0_strainAndFall_84 (by decide) ?_
                exact ih (i + 1) (upd a i 3) (upd b i tu) (d + 1) (by omega) (by first | exact absurd (c_107.symm.trans c_114) (by decide) | rw [sf, ← hf, if_neg (by simp [pcN, c_104, c_107, c_113, c_114, c_115]), if_pos (by simp [pcN, c_104, c_107, c_113, c_114, c_115])]) (by omega) H118 locs118 hP hD hS _ (lv_sub hl [0, 2, 3] rfl)
          · refine lv_aload_n hx hb dX0_strainAndFall_33 rfl (lv_at hl 2 rfl) ?_
            refine va_get (D := G) (ci := 0) (v := .ref qr) (C := RX0) (T := TX0) (N := 5) hx hb hts inlX0 hown hK.1 hP 0 rfl rfl 2 (by decide) (hts _ wd54) (fun _ h9 => h9) rfl dX0_strainAndFall_34 ?_
            refine lv_iload_n hx hb dX0_strainAndFall_37 rfl (lv_at hl 1 rfl) ?_
            refine lv_iconst (v := 2) hx hb dX0_strainAndFall_38 (by decide) ?_
            refine za_st hx hb hK.1 hP hD hS 3 0 rfl rfl i rfl (by omega) (by decide) dX0_strainAndFall_39 (fun H119 locs119 hP hD hS => ?_)
            have hP : va_P G vwCl [(qb, .inr (0, [.ref qp, .ref qs, .ref qr, .ref qf, .int d])), (qp, .inl (cI, 12, .inl pr)), (qs, .inl (cI, 12, .inl sb)), (qr, .inl (cI, 4, .inl (upd a i 2))), (qf, .inl (cI, 4, .inl b))] H119 := hP
            have hD : va_D A [(qb, .inr (0, [.ref qp, .ref qs, .ref qr, .ref qf, .int d])), (qp, .inl (cI, 12, .inl pr)), (qs, .inl (cI, 12, .inl sb)), (qr, .inl (cI, 4, .inl (upd a i 2))), (qf, .inl (cI, 4, .inl b))] := hD
            refine lv_goto (tgt := 81) hx hb dX0_strainAndFall_40 (by decide) ?_
            refine lv_iinc (v := nI (i + 1)) (lv' := [(2, .int (nI (i + 1))), (3, .int (nI (cnt (pcP pr (nI ((8 * i) + 4))) 12))), (0, .ref qb), (1, .int tu)]) hx hb dX0_strainAndFall_81 hl (k := 1) rfl (nI_inc i) (by decide) rfl (fun ls hl => ?_)
            refine lv_goto (tgt := 2) hx hb dX0_strainAndFall_84 (by decide) ?_
            exact ih (i + 1) (upd a i 2) b d (by omega) (by first | done | rw [sf, ← hf, if_pos (by simp [pcN, c_104, c_107, c_113])]) (by omega) H119 locs119 hP hD hS _ (lv_sub hl [0, 2, 3] rfl)
  exact L1 5 0 br fe fl (by decide) rfl (by decide) s.heap [] hP hD hS _ (lv_sub hl [0, 1, 2] rfl)

abbrev rm_X0_place : Room := { frames := 3, cells := 0, slots := 0, locals := 67 }
theorem cf_RX0_65 {R : Room} {s : State} {args : Array Value} (ht : ∀ w ∈ wsL_law, w.before args s = true) (hR : rm_X0_strainAndFall.frames + 1 ≤ R.frames ∧ 8 + (4 + 11) + rm_X0_strainAndFall.locals ≤ R.locals) : CallW R s args RX0 RX0 65 yX0_strainAndFall cX0_strainAndFall 4 none (.code yX0_strainAndFall cX0_strainAndFall 4 none :: wsL_law) rm_X0_strainAndFall 0 0 1 := ⟨cw_B 1 ht wd243 wd36 wd246 (by decide +kernel) rfl rfl hR, ht _ wd244, ht _ wd245⟩
set_option maxHeartbeats 1000000 in
set_option maxRecDepth 100000 in
theorem c_X0_place (l : Launch) (G : va_G) (cI cC cZ cG : ClassId) (sz : Nat) (qb qp qs qr qf : Nat) (pr sb br fe : IA) (fl : Int32) (k : Nat) (v : Int32) (tu : Int32) (hk : k < 12) : Met l yX0_place (.code yX0_place cX0_place 4 none :: wsL_law) rm_X0_place (va_Pc [.ref qb, .int (nI k), .int v, .int tu] (bw G cI cC cZ cG false sz [(qb, .inr (0, [.ref qp, .ref qs, .ref qr, .ref qf, .int fl])), (qp, .inl (cI, 12, .inl pr)), (qs, .inl (cI, 12, .inl sb)), (qr, .inl (cI, 4, .inl br)), (qf, .inl (cI, 4, .inl fe))])) (va_Qv (fun (u : IA × IA × Int32) => u = sf (upd pr k v) tu br fe fl 4) (fun (u : IA × IA × Int32) t => va_P G vwCl [(qb, .inr (0, [.ref qp, .ref qs, .ref qr, .ref qf, .int u.2.2])), (qp, .inl (cI, 12, .inl (upd pr k v))), (qs, .inl (cI, 12, .inl sb)), (qr, .inl (cI, 4, .inl u.1)), (qf, .inl (cI, 4, .inl u.2.1))] t.heap ∧ va_D (va_A [(qb, .inr (0, [.ref qp, .ref qs, .ref qr, .ref qf, .int fl])), (qp, .inl (cI, 12, .inl pr)), (qs, .inl (cI, 12, .inl sb)), (qr, .inl (cI, 4, .inl br)), (qf, .inl (cI, 4, .inl fe))] sz) [(qb, .inr (0, [.ref qp, .ref qs, .ref qr, .ref qf, .int u.2.2])), (qp, .inl (cI, 12, .inl (upd pr k v))), (qs, .inl (cI, 12, .inl sb)), (qr, .inl (cI, 4, .inl u.1)), (qf, .inl (cI, 4, .inl u.2.1))]) (va_A [(qb, .inr (0, [.ref qp, .ref qs, .ref qr, .ref qf, .int fl])), (qp, .inl (cI, 12, .inl pr)), (qs, .inl (cI, 12, .inl sb)), (qr, .inl (cI, 4, .inl br)), (qf, .inl (cI, 4, .inl fe))] sz)) 0 0 (va_A [(qb, .inr (0, [.ref qp, .ref qs, .ref qr, .ref qf, .int fl])), (qp, .inl (cI, 12, .inl pr)), (qs, .inl (cI, 12, .inl sb)), (qr, .inl (cI, 4, .inl br)), (qf, .inl (cI, 4, .inl fe))] sz) := by
  refine met_bw rfl (Nat.le_of_ble_eq_true rfl) ?_
  intro p e s m below meth c ls hx hb hr hml hown hts hlocks hin hsz hP hK hD0 hX0 hl
  have hown : s.vm.findClass RX0 = some m.cls := hown
  have hl : lv_has ls 4 [(0, .ref qb), (1, .int (nI k)), (2, .int v), (3, .int tu)] := hl
  subst hsz
  have hD := hD0.self (sz := s.heap.size)
  generalize hAe : va_A [(qb, .inr (0, [.ref qp, .ref qs, .ref qr, .ref qf, .int fl])), (qp, .inl (cI, 12, .inl pr)), (qs, .inl (cI, 12, .inl sb)), (qr, .inl (cI, 4, .inl br)), (qf, .inl (cI, 4, .inl fe))] s.heap.size = A at hD ⊢
  have hA : ∀ q : Nat, s.heap.size ≤ q → A q := fun q h => by rw [← hAe]; exact Or.inr h
  have hS : va_S A s.heap s.heap [] := va_S.rf
  refine lv_aload_n hx hb dX0_place_0 rfl (lv_at hl 0 rfl) ?_
  refine va_get (D := G) (ci := 0) (v := .ref qp) (C := RX0) (T := TX0) (N := 5) hx hb hts inlX0 hown hK.1 hP 0 rfl rfl 0 (by decide) (hts _ wd52) (fun _ h9 => h9) rfl dX0_place_1 ?_
  refine lv_iload_n hx hb dX0_place_4 rfl (lv_at hl 1 rfl) ?_
  refine lv_iload_n hx hb dX0_place_5 rfl (lv_at hl 2 rfl) ?_
  refine za_st hx hb hK.1 hP hD hS 1 0 rfl rfl k rfl (by omega) (by decide) dX0_place_6 (fun H120 locs120 hP hD hS => ?_)
  have hP : va_P G vwCl [(qb, .inr (0, [.ref qp, .ref qs, .ref qr, .ref qf, .int fl])), (qp, .inl (cI, 12, .inl (upd pr k v))), (qs, .inl (cI, 12, .inl sb)), (qr, .inl (cI, 4, .inl br)), (qf, .inl (cI, 4, .inl fe))] H120 := hP
  have hD : va_D A [(qb, .inr (0, [.ref qp, .ref qs, .ref qr, .ref qf, .int fl])), (qp, .inl (cI, 12, .inl (upd pr k v))), (qs, .inl (cI, 12, .inl sb)), (qr, .inl (cI, 4, .inl br)), (qf, .inl (cI, 4, .inl fe))] := hD
  refine lv_aload_n hx hb dX0_place_7 rfl (lv_at hl 0 rfl) ?_
  refine lv_iload_n hx hb dX0_place_8 rfl (lv_at hl 3 rfl) ?_
  have hPc : va_P G vwCl [(qb, .inr (0, [.ref qp, .ref qs, .ref qr, .ref qf, .int fl])), (qp, .inl (cI, 12, .inl (upd pr k v))), (qs, .inl (cI, 12, .inl sb)), (qr, .inl (cI, 4, .inl br)), (qf, .inl (cI, 4, .inl fe))] H120 := hP
  have hDc := hD.tt
  have hFc := va_free (wc := [(qb, .inr (0, [.ref qp, .ref qs, .ref qr, .ref qf, .int fl])), (qp, .inl (cI, 12, .inl (upd pr k v))), (qs, .inl (cI, 12, .inl sb)), (qr, .inl (cI, 4, .inl br)), (qf, .inl (cI, 4, .inl fe))]) hD hS hA [0, 1, 2, 3, 4] rfl
  refine va_callv (va_runV (As := [.int tu]) (rest := []) ⟨hx, hb, hml, hown, hts⟩ (c_X0_strainAndFall l G cI cC cZ cG H120.size qb qp qs qr qf (upd pr k v) sb br fe fl tu) (cf_RX0_65 hts ⟨Nat.le_of_ble_eq_true rfl, Nat.le_of_ble_eq_true rfl⟩) (pre_V hK hPc hDc (ci := 0) (q0 := 0) rfl rfl) rfl rfl hl.1 rfl (lv_room (Nat.le_of_ble_eq_true rfl)) dX0_place_9 ⟨Nat.le_of_ble_eq_true rfl, Nat.le_of_ble_eq_true rfl⟩) hS (fun q _ h => hFc q h) hFc (fun u121 t121 H121 locs121 ht121 hvm121 hw121 hB121 hz121 hk121 hS => ?_)
  obtain ⟨br121, fe121, fl121⟩ := u121
  obtain ⟨hP1, hD1⟩ := hB121
  rw [ht121] at hP1
  try dsimp only at hw121
  obtain ⟨hP, hD⟩ := va_join (wr := []) (w1 := [(qb, .inr (0, [.ref qp, .ref qs, .ref qr, .ref qf, .int fl121])), (qp, .inl (cI, 12, .inl (upd pr k v))), (qs, .inl (cI, 12, .inl sb)), (qr, .inl (cI, 4, .inl br121)), (qf, .inl (cI, 4, .inl fe121))]) hP hD [0, 1, 2, 3, 4] [] rfl rfl (by decide) (by decide) hk121 hFc hP1 hD1
  have hP : va_P G vwCl [(qb, .inr (0, [.ref qp, .ref qs, .ref qr, .ref qf, .int fl121])), (qp, .inl (cI, 12, .inl (upd pr k v))), (qs, .inl (cI, 12, .inl sb)), (qr, .inl (cI, 4, .inl br121)), (qf, .inl (cI, 4, .inl fe121))] H121 := hP
  have hD : va_D A [(qb, .inr (0, [.ref qp, .ref qs, .ref qr, .ref qf, .int fl121])), (qp, .inl (cI, 12, .inl (upd pr k v))), (qs, .inl (cI, 12, .inl sb)), (qr, .inl (cI, 4, .inl br121)), (qf, .inl (cI, 4, .inl fe121))] := hD
  exact W.vret hx hb hr (fun t ht hW => ⟨⟨(br121, fe121, fl121), rfl, hw121, by rw [ht]; exact hP, hD⟩, hS.F ht⟩) hS.2.2 dX0_place_12

abbrev rm_X0_mend : Room := { frames := 0, cells := 0, slots := 0, locals := 0 }
set_option maxHeartbeats 1000000 in
set_option maxRecDepth 100000 in
theorem c_X0_mend (l : Launch) (G : va_G) (cI cC cZ cG : ClassId) (sz : Nat) (qb qp qs qr qf : Nat) (pr sb br fe : IA) (fl : Int32) (tu : Int32) (me : Int32) : Met l yX0_mend (.code yX0_mend cX0_mend 4 none :: wsL_law) rm_X0_mend (va_Pc [.ref qb, .int tu, .int me] (bw G cI cC cZ cG false sz [(qb, .inr (0, [.ref qp, .ref qs, .ref qr, .ref qf, .int fl])), (qp, .inl (cI, 12, .inl pr)), (qs, .inl (cI, 12, .inl sb)), (qr, .inl (cI, 4, .inl br)), (qf, .inl (cI, 4, .inl fe))])) (va_Qv (fun (u : IA) => u = md fe tu me br 4) (fun (u : IA) t => va_P G vwCl [(qb, .inr (0, [.ref qp, .ref qs, .ref qr, .ref qf, .int fl])), (qp, .inl (cI, 12, .inl pr)), (qs, .inl (cI, 12, .inl sb)), (qr, .inl (cI, 4, .inl u)), (qf, .inl (cI, 4, .inl fe))] t.heap ∧ va_D (va_A [(qb, .inr (0, [.ref qp, .ref qs, .ref qr, .ref qf, .int fl])), (qp, .inl (cI, 12, .inl pr)), (qs, .inl (cI, 12, .inl sb)), (qr, .inl (cI, 4, .inl br)), (qf, .inl (cI, 4, .inl fe))] sz) [(qb, .inr (0, [.ref qp, .ref qs, .ref qr, .ref qf, .int fl])), (qp, .inl (cI, 12, .inl pr)), (qs, .inl (cI, 12, .inl sb)), (qr, .inl (cI, 4, .inl u)), (qf, .inl (cI, 4, .inl fe))]) (va_A [(qb, .inr (0, [.ref qp, .ref qs, .ref qr, .ref qf, .int fl])), (qp, .inl (cI, 12, .inl pr)), (qs, .inl (cI, 12, .inl sb)), (qr, .inl (cI, 4, .inl br)), (qf, .inl (cI, 4, .inl fe))] sz)) 0 0 (va_A [(qb, .inr (0, [.ref qp, .ref qs, .ref qr, .ref qf, .int fl])), (qp, .inl (cI, 12, .inl pr)), (qs, .inl (cI, 12, .inl sb)), (qr, .inl (cI, 4, .inl br)), (qf, .inl (cI, 4, .inl fe))] sz) := by
  refine met_bw rfl (Nat.le_of_ble_eq_true rfl) ?_
  intro p e s m below meth c ls hx hb hr hml hown hts hlocks hin hsz hP hK hD0 hX0 hl
  have hown : s.vm.findClass RX0 = some m.cls := hown
  have hl : lv_has ls 4 [(0, .ref qb), (1, .int tu), (2, .int me)] := hl
  subst hsz
  have hD := hD0.self (sz := s.heap.size)
  generalize hAe : va_A [(qb, .inr (0, [.ref qp, .ref qs, .ref qr, .ref qf, .int fl])), (qp, .inl (cI, 12, .inl pr)), (qs, .inl (cI, 12, .inl sb)), (qr, .inl (cI, 4, .inl br)), (qf, .inl (cI, 4, .inl fe))] s.heap.size = A at hD ⊢
  have hA : ∀ q : Nat, s.heap.size ≤ q → A q := fun q h => by rw [← hAe]; exact Or.inr h
  have hS : va_S A s.heap s.heap [] := va_S.rf
  generalize hQ : MQ below (va_Qv (fun (u : IA) => u = md fe tu me br 4) (fun (u : IA) t => va_P G vwCl [(qb, .inr (0, [.ref qp, .ref qs, .ref qr, .ref qf, .int fl])), (qp, .inl (cI, 12, .inl pr)), (qs, .inl (cI, 12, .inl sb)), (qr, .inl (cI, 4, .inl u)), (qf, .inl (cI, 4, .inl fe))] t.heap ∧ va_D A [(qb, .inr (0, [.ref qp, .ref qs, .ref qr, .ref qf, .int fl])), (qp, .inl (cI, 12, .inl pr)), (qs, .inl (cI, 12, .inl sb)), (qr, .inl (cI, 4, .inl u)), (qf, .inl (cI, 4, .inl fe))]) A) ([.ref qb, .int tu, .int me] : List Value).toArray s 0 0 A = Q
  generalize hag : ([.ref qb, .int tu, .int me] : List Value).toArray = ag at hts hQ ⊢
  refine lv_iconst (v := 0) hx hb dX0_mend_0 (by decide) ?_
  refine lv_istore_n (lv' := [(3, .int 0), (0, .ref qb), (1, .int tu), (2, .int me)]) hx hb dX0_mend_1 rfl hl (by decide) rfl (fun ls hl => ?_)
  have L1 : ∀ (n : Nat), ∀ (i : Nat), ∀ (a : IA), ∀ (hi : i ≤ 4), ∀ (hf : a = md fe tu me br i), ∀ (hn : 5 ≤ i + n), ∀ (H122 : Heap) (locs122 : List Loc), va_P G vwCl [(qb, .inr (0, [.ref qp, .ref qs, .ref qr, .ref qf, .int fl])), (qp, .inl (cI, 12, .inl pr)), (qs, .inl (cI, 12, .inl sb)), (qr, .inl (cI, 4, .inl a)), (qf, .inl (cI, 4, .inl fe))] H122 → va_D A [(qb, .inr (0, [.ref qp, .ref qs, .ref qr, .ref qf, .int fl])), (qp, .inl (cI, 12, .inl pr)), (qs, .inl (cI, 12, .inl sb)), (qr, .inl (cI, 4, .inl a)), (qf, .inl (cI, 4, .inl fe))] → va_S A s.heap H122 locs122 → ∀ (ls : Array Slot), lv_has ls 4 [(3, .int (nI i)), (0, .ref qb), (1, .int tu), (2, .int me)] → W p l e rm_X0_mend s m ag below meth c H122 locs122 0 0 Q (F0 m 2 ls []) := by
    intro n
    induction n with
    | zero =>
      intro i a hi hf hn H122 locs122 hP hD hS ls hl
      omega
    | succ n ih =>
      intro i a hi hf hn H122 locs122 hP hD hS ls hl
      refine lv_iload_n hx hb dX0_mend_2 rfl (lv_at hl 0 rfl) ?_
      refine lv_iconst (v := 4) hx hb dX0_mend_3 (by decide) ?_
      refine zi_ge (tgt := 46) hx hb i 4 dX0_mend_4 (by decide) rfl rfl (by omega) (by decide) (fun c_123 => ?_) (fun c_123 => ?_)
      · subst hQ
        exact W.vret hx hb hr (fun t ht hW => ⟨⟨a, rfl, by rw [hf, show i = 4 by omega], by rw [ht]; exact hP, hD⟩, hS.F ht⟩) hS.2.2 dX0_mend_46
      · refine lv_aload_n hx hb dX0_mend_7 rfl (lv_at hl 1 rfl) ?_
        refine va_get (D := G) (ci := 0) (v := .ref qr) (C := RX0) (T := TX0) (N := 5) hx hb hts inlX0 hown hK.1 hP 0 rfl rfl 2 (by decide) (hts _ wd54) (fun _ h9 => h9) rfl dX0_mend_8 ?_
        refine lv_iload_n hx hb dX0_mend_11 rfl (lv_at hl 0 rfl) ?_
        refine za_ld hx hb hK.1 hP 3 0 rfl rfl i rfl (by omega) (by decide) dX0_mend_12 ?_
        refine lv_iconst (v := 3) hx hb dX0_mend_13 (by decide) ?_
        refine lv_icmp_ne (tgt := 40) hx hb dX0_mend_14 (by decide) (fun c_124 => ?_) (fun c_124 => ?_)
        · refine lv_iinc (v := nI (i + 1)) (lv' := [(3, .int (nI (i + 1))), (0, .ref qb), (1, .int tu), (2, .int me)]) hx hb dX0_mend_40 hl (k := 0) rfl (nI_inc i) (by decide) rfl (fun ls hl => ?_)
          refine lv_goto (tgt := 2) hx hb dX0_mend_43 (by decide) ?_
          exact ih (i + 1) a (by omega) (by rw [md, ← hf, if_neg (by simp [c_124])]) (by omega) H122 locs122 hP hD hS _ (lv_sub hl [0, 1, 2, 3] rfl)
        · refine lv_iload_n hx hb dX0_mend_17 rfl (lv_at hl 3 rfl) ?_
          refine lv_if_eq (tgt := 40) hx hb dX0_mend_18 (by decide) (fun c_125 => ?_) (fun c_125 => ?_)
          · refine lv_iinc (v := nI (i + 1)) (lv' := [(3, .int (nI (i + 1))), (0, .ref qb), (1, .int tu), (2, .int me)]) hx hb dX0_mend_40 hl (k := 0) rfl (nI_inc i) (by decide) rfl (fun ls hl => ?_)
            refine lv_goto (tgt := 2) hx hb dX0_mend_43 (by decide) ?_
            exact ih (i + 1) a (by omega) (by rw [md, ← hf, if_neg (by simp [c_124, c_125])]) (by omega) H122 locs122 hP hD hS _ (lv_sub hl [0, 1, 2, 3] rfl)
          · refine lv_iload_n hx hb dX0_mend_21 rfl (lv_at hl 2 rfl) ?_
            refine lv_aload_n hx hb dX0_mend_22 rfl (lv_at hl 1 rfl) ?_
            refine va_get (D := G) (ci := 0) (v := .ref qf) (C := RX0) (T := TX0) (N := 5) hx hb hts inlX0 hown hK.1 hP 0 rfl rfl 3 (by decide) (hts _ wd55) (fun _ h9 => h9) rfl dX0_mend_23 ?_
            refine lv_iload_n hx hb dX0_mend_26 rfl (lv_at hl 0 rfl) ?_
            refine za_ld hx hb hK.1 hP 4 0 rfl rfl i rfl (by omega) (by decide) dX0_mend_27 ?_
            refine lv_isub hx hb dX0_mend_28 ?_
            refine lv_iload_n hx hb dX0_mend_29 rfl (lv_at hl 3 rfl) ?_
            refine lv_icmp_lt (tgt := 40) hx hb dX0_mend_30 (by decide) (fun c_126 => ?_) (fun c_126 => ?_)
            · refine lv_iinc (v := nI (i + 1)) (lv' := [(3, .int (nI (i + 1))), (0, .ref qb), (1, .int tu), (2, .int me)]) hx hb dX0_mend_40 hl (k := 0) rfl (nI_inc i) (by decide) rfl (fun ls hl => ?_)
              refine lv_goto (tgt := 2) hx hb dX0_mend_43 (by decide) ?_
              exact ih (i + 1) a (by omega) (by rw [md, ← hf, if_neg (by simp [c_124, c_125, c_126])]) (by omega) H122 locs122 hP hD hS _ (lv_sub hl [0, 1, 2, 3] rfl)
            · refine lv_aload_n hx hb dX0_mend_33 rfl (lv_at hl 1 rfl) ?_
              refine va_get (D := G) (ci := 0) (v := .ref qr) (C := RX0) (T := TX0) (N := 5) hx hb hts inlX0 hown hK.1 hP 0 rfl rfl 2 (by decide) (hts _ wd54) (fun _ h9 => h9) rfl dX0_mend_34 ?_
              refine lv_iload_n hx hb dX0_mend_37 rfl (lv_at hl 0 rfl) ?_
              refine lv_iconst (v := 1) hx hb dX0_mend_38 (by decide) ?_
              refine za_st hx hb hK.1 hP hD hS 3 0 rfl rfl i rfl (by omega) (by decide) dX0_mend_39 (fun H127 locs127 hP hD hS => ?_)
              have hP : va_P G vwCl [(qb, .inr (0, [.ref qp, .ref qs, .ref qr, .ref qf, .int fl])), (qp, .inl (cI, 12, .inl pr)), (qs, .inl (cI, 12, .inl sb)), (qr, .inl (cI, 4, .inl (upd a i 1))), (qf, .inl (cI, 4, .inl fe))] H127 := hP
              have hD : va_D A [(qb, .inr (0, [.ref qp, .ref qs, .ref qr, .ref qf, .int fl])), (qp, .inl (cI, 12, .inl pr)), (qs, .inl (cI, 12, .inl sb)), (qr, .inl (cI, 4, .inl (upd a i 1))), (qf, .inl (cI, 4, .inl fe))] := hD
              refine lv_iinc (v := nI (i + 1)) (lv' := [(3, .int (nI (i + 1))), (0, .ref qb), (1, .int tu), (2, .int me)]) hx hb dX0_mend_40 hl (k := 0) rfl (nI_inc i) (by decide) rfl (fun ls hl => ?_)
              refine lv_goto (tgt := 2) hx hb dX0_mend_43 (by decide) ?_
              exact ih (i + 1) (upd a i 1) (by omega) (by rw [md, ← hf, if_pos ⟨c_124, c_125, c_126⟩]) (by omega) H127 locs127 hP hD hS _ (lv_sub hl [0, 1, 2, 3] rfl)
  exact L1 5 0 br (by decide) rfl (by decide) s.heap [] hP hD hS _ (lv_sub hl [0, 1, 2, 3] rfl)

abbrev rm_X0_copyFrom : Room := { frames := 1, cells := 0, slots := 0, locals := 30 }
set_option maxHeartbeats 1000000 in
set_option maxRecDepth 100000 in
theorem c_X0_copyFrom (l : Launch) (G : va_G) (cI cC cZ cG : ClassId) (sz : Nat) (qb qp qs qr qf : Nat) (pr sb br fe : IA) (fl : Int32) (rb rp rs rr rf0 : Nat) (op os oR oe : IA) (ol : Int32) : Met l yX0_copyFrom (.code yX0_copyFrom cX0_copyFrom 2 none :: wsL_law) rm_X0_copyFrom (va_Pc [.ref qb, .ref rb] (bw G cI cC cZ cG false sz [(qb, .inr (0, [.ref qp, .ref qs, .ref qr, .ref qf, .int fl])), (qp, .inl (cI, 12, .inl pr)), (qs, .inl (cI, 12, .inl sb)), (qr, .inl (cI, 4, .inl br)), (qf, .inl (cI, 4, .inl fe)), (rb, .inr (0, [.ref rp, .ref rs, .ref rr, .ref rf0, .int ol])), (rp, .inl (cI, 12, .inl op)), (rs, .inl (cI, 12, .inl os)), (rr, .inl (cI, 4, .inl oR)), (rf0, .inl (cI, 4, .inl oe))])) (va_Qv (fun (u : Unit) => True) (fun (u : Unit) t => va_P G vwCl [(qb, .inr (0, [.ref qp, .ref qs, .ref qr, .ref qf, .int ol])), (qp, .inl (cI, 12, .inl (va_cpy op pr 0 0 12))), (qs, .inl (cI, 12, .inl (va_cpy os sb 0 0 12))), (qr, .inl (cI, 4, .inl (va_cpy oR br 0 0 4))), (qf, .inl (cI, 4, .inl (va_cpy oe fe 0 0 4))), (rb, .inr (0, [.ref rp, .ref rs, .ref rr, .ref rf0, .int ol])), (rp, .inl (cI, 12, .inl op)), (rs, .inl (cI, 12, .inl os)), (rr, .inl (cI, 4, .inl oR)), (rf0, .inl (cI, 4, .inl oe))] t.heap ∧ va_D (va_A [(qb, .inr (0, [.ref qp, .ref qs, .ref qr, .ref qf, .int fl])), (qp, .inl (cI, 12, .inl pr)), (qs, .inl (cI, 12, .inl sb)), (qr, .inl (cI, 4, .inl br)), (qf, .inl (cI, 4, .inl fe)), (rb, .inr (0, [.ref rp, .ref rs, .ref rr, .ref rf0, .int ol])), (rp, .inl (cI, 12, .inl op)), (rs, .inl (cI, 12, .inl os)), (rr, .inl (cI, 4, .inl oR)), (rf0, .inl (cI, 4, .inl oe))] sz) [(qb, .inr (0, [.ref qp, .ref qs, .ref qr, .ref qf, .int ol])), (qp, .inl (cI, 12, .inl (va_cpy op pr 0 0 12))), (qs, .inl (cI, 12, .inl (va_cpy os sb 0 0 12))), (qr, .inl (cI, 4, .inl (va_cpy oR br 0 0 4))), (qf, .inl (cI, 4, .inl (va_cpy oe fe 0 0 4))), (rb, .inr (0, [.ref rp, .ref rs, .ref rr, .ref rf0, .int ol])), (rp, .inl (cI, 12, .inl op)), (rs, .inl (cI, 12, .inl os)), (rr, .inl (cI, 4, .inl oR)), (rf0, .inl (cI, 4, .inl oe))]) (va_A [(qb, .inr (0, [.ref qp, .ref qs, .ref qr, .ref qf, .int fl])), (qp, .inl (cI, 12, .inl pr)), (qs, .inl (cI, 12, .inl sb)), (qr, .inl (cI, 4, .inl br)), (qf, .inl (cI, 4, .inl fe)), (rb, .inr (0, [.ref rp, .ref rs, .ref rr, .ref rf0, .int ol])), (rp, .inl (cI, 12, .inl op)), (rs, .inl (cI, 12, .inl os)), (rr, .inl (cI, 4, .inl oR)), (rf0, .inl (cI, 4, .inl oe))] sz)) 0 0 (va_A [(qb, .inr (0, [.ref qp, .ref qs, .ref qr, .ref qf, .int fl])), (qp, .inl (cI, 12, .inl pr)), (qs, .inl (cI, 12, .inl sb)), (qr, .inl (cI, 4, .inl br)), (qf, .inl (cI, 4, .inl fe)), (rb, .inr (0, [.ref rp, .ref rs, .ref rr, .ref rf0, .int ol])), (rp, .inl (cI, 12, .inl op)), (rs, .inl (cI, 12, .inl os)), (rr, .inl (cI, 4, .inl oR)), (rf0, .inl (cI, 4, .inl oe))] sz) := by
  refine met_bw rfl (Nat.le_of_ble_eq_true rfl) ?_
  intro p e s m below meth c ls hx hb hr hml hown hts hlocks hin hsz hP hK hD0 hX0 hl
  have hown : s.vm.findClass RX0 = some m.cls := hown
  have hl : lv_has ls 2 [(0, .ref qb), (1, .ref rb)] := hl
  subst hsz
  have hD := hD0.self (sz := s.heap.size)
  generalize hAe : va_A [(qb, .inr (0, [.ref qp, .ref qs, .ref qr, .ref qf, .int fl])), (qp, .inl (cI, 12, .inl pr)), (qs, .inl (cI, 12, .inl sb)), (qr, .inl (cI, 4, .inl br)), (qf, .inl (cI, 4, .inl fe)), (rb, .inr (0, [.ref rp, .ref rs, .ref rr, .ref rf0, .int ol])), (rp, .inl (cI, 12, .inl op)), (rs, .inl (cI, 12, .inl os)), (rr, .inl (cI, 4, .inl oR)), (rf0, .inl (cI, 4, .inl oe))] s.heap.size = A at hD ⊢
  have hA : ∀ q : Nat, s.heap.size ≤ q → A q := fun q h => by rw [← hAe]; exact Or.inr h
  have hS : va_S A s.heap s.heap [] := va_S.rf
  refine lv_aload_n hx hb dX0_copyFrom_0 rfl (lv_at hl 1 rfl) ?_
  refine va_get (D := G) (ci := 0) (v := .ref rp) (C := RX0) (T := TX0) (N := 5) hx hb hts inlX0 hown hK.1 hP 5 rfl rfl 0 (by decide) (hts _ wd52) (fun _ h9 => h9) rfl dX0_copyFrom_1 ?_
  refine lv_iconst (v := 0) hx hb dX0_copyFrom_4 (by decide) ?_
  refine lv_aload_n hx hb dX0_copyFrom_5 rfl (lv_at hl 0 rfl) ?_
  refine va_get (D := G) (ci := 0) (v := .ref qp) (C := RX0) (T := TX0) (N := 5) hx hb hts inlX0 hown hK.1 hP 0 rfl rfl 0 (by decide) (hts _ wd52) (fun _ h9 => h9) rfl dX0_copyFrom_6 ?_
  refine lv_iconst (v := 0) hx hb dX0_copyFrom_9 (by decide) ?_
  refine lv_bipush (v := 12) hx hb dX0_copyFrom_10 (by decide) ?_
  refine va_copyi (ty := .int) hx hb (by rw [hml]; exact hl.1.symm) hown (hts _ wd105) (hts _ wd46) (hts _ wd47) (hts _ wd48) hK.1 hP hD hS 6 1 0 0 rfl rfl rfl rfl rfl (by decide) (by decide) (by decide) (by decide) (by decide) (fun _ _ => rfl) (Nat.le_of_ble_eq_true rfl) (Nat.le_of_ble_eq_true rfl) dX0_copyFrom_12 (fun H128 locs128 hP hD hS => ?_)
  have hP : va_P G vwCl [(qb, .inr (0, [.ref qp, .ref qs, .ref qr, .ref qf, .int fl])), (qp, .inl (cI, 12, .inl (va_cpy op pr 0 0 12))), (qs, .inl (cI, 12, .inl sb)), (qr, .inl (cI, 4, .inl br)), (qf, .inl (cI, 4, .inl fe)), (rb, .inr (0, [.ref rp, .ref rs, .ref rr, .ref rf0, .int ol])), (rp, .inl (cI, 12, .inl op)), (rs, .inl (cI, 12, .inl os)), (rr, .inl (cI, 4, .inl oR)), (rf0, .inl (cI, 4, .inl oe))] H128 := hP
  have hD : va_D A [(qb, .inr (0, [.ref qp, .ref qs, .ref qr, .ref qf, .int fl])), (qp, .inl (cI, 12, .inl (va_cpy op pr 0 0 12))), (qs, .inl (cI, 12, .inl sb)), (qr, .inl (cI, 4, .inl br)), (qf, .inl (cI, 4, .inl fe)), (rb, .inr (0, [.ref rp, .ref rs, .ref rr, .ref rf0, .int ol])), (rp, .inl (cI, 12, .inl op)), (rs, .inl (cI, 12, .inl os)), (rr, .inl (cI, 4, .inl oR)), (rf0, .inl (cI, 4, .inl oe))] := hD
  refine lv_aload_n hx hb dX0_copyFrom_15 rfl (lv_at hl 1 rfl) ?_
  refine va_get (D := G) (ci := 0) (v := .ref rs) (C := RX0) (T := TX0) (N := 5) hx hb hts inlX0 hown hK.1 hP 5 rfl rfl 1 (by decide) (hts _ wd53) (fun _ h9 => h9) rfl dX0_copyFrom_16 ?_
  refine lv_iconst (v := 0) hx hb dX0_copyFrom_19 (by decide) ?_
  refine lv_aload_n hx hb dX0_copyFrom_20 rfl (lv_at hl 0 rfl) ?_
  refine va_get (D := G) (ci := 0) (v := .ref qs) (C := RX0) (T := TX0) (N := 5) hx hb hts inlX0 hown hK.1 hP 0 rfl rfl 1 (by decide) (hts _ wd53) (fun _ h9 => h9) rfl dX0_copyFrom_21 ?_
  refine lv_iconst (v := 0) hx hb dX0_copyFrom_24 (by decide) ?_
  refine lv_bipush (v := 12) hx hb dX0_copyFrom_25 (by decide) ?_
  refine va_copyi (ty := .int) hx hb (by rw [hml]; exact hl.1.symm) hown (hts _ wd105) (hts _ wd46) (hts _ wd47) (hts _ wd48) hK.1 hP hD hS 7 2 0 0 rfl rfl rfl rfl rfl (by decide) (by decide) (by decide) (by decide) (by decide) (fun _ _ => rfl) (Nat.le_of_ble_eq_true rfl) (Nat.le_of_ble_eq_true rfl) dX0_copyFrom_27 (fun H129 locs129 hP hD hS => ?_)
  have hP : va_P G vwCl [(qb, .inr (0, [.ref qp, .ref qs, .ref qr, .ref qf, .int fl])), (qp, .inl (cI, 12, .inl (va_cpy op pr 0 0 12))), (qs, .inl (cI, 12, .inl (va_cpy os sb 0 0 12))), (qr, .inl (cI, 4, .inl br)), (qf, .inl (cI, 4, .inl fe)), (rb, .inr (0, [.ref rp, .ref rs, .ref rr, .ref rf0, .int ol])), (rp, .inl (cI, 12, .inl op)), (rs, .inl (cI, 12, .inl os)), (rr, .inl (cI, 4, .inl oR)), (rf0, .inl (cI, 4, .inl oe))] H129 := hP
  have hD : va_D A [(qb, .inr (0, [.ref qp, .ref qs, .ref qr, .ref qf, .int fl])), (qp, .inl (cI, 12, .inl (va_cpy op pr 0 0 12))), (qs, .inl (cI, 12, .inl (va_cpy os sb 0 0 12))), (qr, .inl (cI, 4, .inl br)), (qf, .inl (cI, 4, .inl fe)), (rb, .inr (0, [.ref rp, .ref rs, .ref rr, .ref rf0, .int ol])), (rp, .inl (cI, 12, .inl op)), (rs, .inl (cI, 12, .inl os)), (rr, .inl (cI, 4, .inl oR)), (rf0, .inl (cI, 4, .inl oe))] := hD
  refine lv_aload_n hx hb dX0_copyFrom_30 rfl (lv_at hl 1 rfl) ?_
  refine va_get (D := G) (ci := 0) (v := .ref rr) (C := RX0) (T := TX0) (N := 5) hx hb hts inlX0 hown hK.1 hP 5 rfl rfl 2 (by decide) (hts _ wd54) (fun _ h9 => h9) rfl dX0_copyFrom_31 ?_
  refine lv_iconst (v := 0) hx hb dX0_copyFrom_34 (by decide) ?_
  refine lv_aload_n hx hb dX0_copyFrom_35 rfl (lv_at hl 0 rfl) ?_
  refine va_get (D := G) (ci := 0) (v := .ref qr) (C := RX0) (T := TX0) (N := 5) hx hb hts inlX0 hown hK.1 hP 0 rfl rfl 2 (by decide) (hts _ wd54) (fun _ h9 => h9) rfl dX0_copyFrom_36 ?_
  refine lv_iconst (v := 0) hx hb dX0_copyFrom_39 (by decide) ?_
  refine lv_iconst (v := 4) hx hb dX0_copyFrom_40 (by decide) ?_
  refine va_copyi (ty := .int) hx hb (by rw [hml]; exact hl.1.symm) hown (hts _ wd105) (hts _ wd46) (hts _ wd47) (hts _ wd48) hK.1 hP hD hS 8 3 0 0 rfl rfl rfl rfl rfl (by decide) (by decide) (by decide) (by decide) (by decide) (fun _ _ => rfl) (Nat.le_of_ble_eq_true rfl) (Nat.le_of_ble_eq_true rfl) dX0_copyFrom_41 (fun H130 locs130 hP hD hS => ?_)
  have hP : va_P G vwCl [(qb, .inr (0, [.ref qp, .ref qs, .ref qr, .ref qf, .int fl])), (qp, .inl (cI, 12, .inl (va_cpy op pr 0 0 12))), (qs, .inl (cI, 12, .inl (va_cpy os sb 0 0 12))), (qr, .inl (cI, 4, .inl (va_cpy oR br 0 0 4))), (qf, .inl (cI, 4, .inl fe)), (rb, .inr (0, [.ref rp, .ref rs, .ref rr, .ref rf0, .int ol])), (rp, .inl (cI, 12, .inl op)), (rs, .inl (cI, 12, .inl os)), (rr, .inl (cI, 4, .inl oR)), (rf0, .inl (cI, 4, .inl oe))] H130 := hP
  have hD : va_D A [(qb, .inr (0, [.ref qp, .ref qs, .ref qr, .ref qf, .int fl])), (qp, .inl (cI, 12, .inl (va_cpy op pr 0 0 12))), (qs, .inl (cI, 12, .inl (va_cpy os sb 0 0 12))), (qr, .inl (cI, 4, .inl (va_cpy oR br 0 0 4))), (qf, .inl (cI, 4, .inl fe)), (rb, .inr (0, [.ref rp, .ref rs, .ref rr, .ref rf0, .int ol])), (rp, .inl (cI, 12, .inl op)), (rs, .inl (cI, 12, .inl os)), (rr, .inl (cI, 4, .inl oR)), (rf0, .inl (cI, 4, .inl oe))] := hD
  refine lv_aload_n hx hb dX0_copyFrom_44 rfl (lv_at hl 1 rfl) ?_
  refine va_get (D := G) (ci := 0) (v := .ref rf0) (C := RX0) (T := TX0) (N := 5) hx hb hts inlX0 hown hK.1 hP 5 rfl rfl 3 (by decide) (hts _ wd55) (fun _ h9 => h9) rfl dX0_copyFrom_45 ?_
  refine lv_iconst (v := 0) hx hb dX0_copyFrom_48 (by decide) ?_
  refine lv_aload_n hx hb dX0_copyFrom_49 rfl (lv_at hl 0 rfl) ?_
  refine va_get (D := G) (ci := 0) (v := .ref qf) (C := RX0) (T := TX0) (N := 5) hx hb hts inlX0 hown hK.1 hP 0 rfl rfl 3 (by decide) (hts _ wd55) (fun _ h9 => h9) rfl dX0_copyFrom_50 ?_
  refine lv_iconst (v := 0) hx hb dX0_copyFrom_53 (by decide) ?_
  refine lv_iconst (v := 4) hx hb dX0_copyFrom_54 (by decide) ?_
  refine va_copyi (ty := .int) hx hb (by rw [hml]; exact hl.1.symm) hown (hts _ wd105) (hts _ wd46) (hts _ wd47) (hts _ wd48) hK.1 hP hD hS 9 4 0 0 rfl rfl rfl rfl rfl (by decide) (by decide) (by decide) (by decide) (by decide) (fun _ _ => rfl) (Nat.le_of_ble_eq_true rfl) (Nat.le_of_ble_eq_true rfl) dX0_copyFrom_55 (fun H131 locs131 hP hD hS => ?_)
  have hP : va_P G vwCl [(qb, .inr (0, [.ref qp, .ref qs, .ref qr, .ref qf, .int fl])), (qp, .inl (cI, 12, .inl (va_cpy op pr 0 0 12))), (qs, .inl (cI, 12, .inl (va_cpy os sb 0 0 12))), (qr, .inl (cI, 4, .inl (va_cpy oR br 0 0 4))), (qf, .inl (cI, 4, .inl (va_cpy oe fe 0 0 4))), (rb, .inr (0, [.ref rp, .ref rs, .ref rr, .ref rf0, .int ol])), (rp, .inl (cI, 12, .inl op)), (rs, .inl (cI, 12, .inl os)), (rr, .inl (cI, 4, .inl oR)), (rf0, .inl (cI, 4, .inl oe))] H131 := hP
  have hD : va_D A [(qb, .inr (0, [.ref qp, .ref qs, .ref qr, .ref qf, .int fl])), (qp, .inl (cI, 12, .inl (va_cpy op pr 0 0 12))), (qs, .inl (cI, 12, .inl (va_cpy os sb 0 0 12))), (qr, .inl (cI, 4, .inl (va_cpy oR br 0 0 4))), (qf, .inl (cI, 4, .inl (va_cpy oe fe 0 0 4))), (rb, .inr (0, [.ref rp, .ref rs, .ref rr, .ref rf0, .int ol])), (rp, .inl (cI, 12, .inl op)), (rs, .inl (cI, 12, .inl os)), (rr, .inl (cI, 4, .inl oR)), (rf0, .inl (cI, 4, .inl oe))] := hD
  refine lv_aload_n hx hb dX0_copyFrom_58 rfl (lv_at hl 0 rfl) ?_
  refine lv_aload_n hx hb dX0_copyFrom_59 rfl (lv_at hl 1 rfl) ?_
  refine va_get (D := G) (ci := 0) (v := .int ol) (C := RX0) (T := TX0) (N := 5) hx hb hts inlX0 hown hK.1 hP 5 rfl rfl 4 (by decide) (hts _ wd56) (fun _ h9 => h9) rfl dX0_copyFrom_60 ?_
  refine va_put (D := G) (ci := 0) (v := .int ol) (ty := .int) (C := RX0) (T := TX0) (N := 5) hx hb hts inlX0 tyX0 tyX0_ok nmX0 hown hK.1 hP hD hS 0 rfl rfl 4 (by decide) (hts _ wd56) (fun _ h9 => h9) rfl (by decide +kernel) rfl rfl (Nat.le_of_ble_eq_true rfl) dX0_copyFrom_63 (fun H132 locs132 hP hD hS => ?_)
  have hP : va_P G vwCl [(qb, .inr (0, [.ref qp, .ref qs, .ref qr, .ref qf, .int ol])), (qp, .inl (cI, 12, .inl (va_cpy op pr 0 0 12))), (qs, .inl (cI, 12, .inl (va_cpy os sb 0 0 12))), (qr, .inl (cI, 4, .inl (va_cpy oR br 0 0 4))), (qf, .inl (cI, 4, .inl (va_cpy oe fe 0 0 4))), (rb, .inr (0, [.ref rp, .ref rs, .ref rr, .ref rf0, .int ol])), (rp, .inl (cI, 12, .inl op)), (rs, .inl (cI, 12, .inl os)), (rr, .inl (cI, 4, .inl oR)), (rf0, .inl (cI, 4, .inl oe))] H132 := hP
  have hD : va_D A [(qb, .inr (0, [.ref qp, .ref qs, .ref qr, .ref qf, .int ol])), (qp, .inl (cI, 12, .inl (va_cpy op pr 0 0 12))), (qs, .inl (cI, 12, .inl (va_cpy os sb 0 0 12))), (qr, .inl (cI, 4, .inl (va_cpy oR br 0 0 4))), (qf, .inl (cI, 4, .inl (va_cpy oe fe 0 0 4))), (rb, .inr (0, [.ref rp, .ref rs, .ref rr, .ref rf0, .int ol])), (rp, .inl (cI, 12, .inl op)), (rs, .inl (cI, 12, .inl os)), (rr, .inl (cI, 4, .inl oR)), (rf0, .inl (cI, 4, .inl oe))] := hD
  exact W.vret hx hb hr (fun t ht hW => ⟨⟨(), rfl, trivial, by rw [ht]; exact hP, hD⟩, hS.F ht⟩) hS.2.2 dX0_copyFrom_66
end
