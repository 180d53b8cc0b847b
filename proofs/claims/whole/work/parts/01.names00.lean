/-! ===== BEGIN words of one list among another's, by their places ===== -/
theorem goodIn_r {big : List Cond} (ws : List Cond) (ps : List Nat) (hp : ws = ps.filterMap (fun i => big[i]?)) (h : ws.all goodWord = true) : GoodIn big ws := by
  intro w hw
  have h1 := List.all_eq_true.mp h w hw
  rw [hp] at hw
  obtain ⟨i, -, hi⟩ := List.mem_filterMap.mp hw
  have hm : w ∈ big := by first | exact List.mem_of_getElem? hi | exact List.getElem?_mem hi
  exact ⟨hm, good_of_word h1⟩
theorem goodIn_app {big a b : List Cond} (ha : GoodIn big a) (hb : GoodIn big b) : GoodIn big (a ++ b) := fun w h => (List.mem_append.mp h).elim (ha w) (hb w)
theorem goodIn_ca {big a b : List Cond} {c : Cond} (ha : GoodIn big (c :: a)) (hb : GoodIn big b) : GoodIn big (c :: (a ++ b)) := fun w h => (List.mem_cons.mp h).elim (fun e => ha w (List.mem_cons.mpr (Or.inl e))) (fun h => (List.mem_append.mp h).elim (fun h => ha w (List.mem_cons.mpr (Or.inr h))) (hb w))
theorem goodIn_sub {big ws : List Cond} (hm : ∀ w ∈ ws, w ∈ big) (h : ws.all goodWord = true) : GoodIn big ws := fun w hw => ⟨hm w hw, good_of_word (List.all_eq_true.mp h w hw)⟩
/-! ===== END ===== -/

/-! ===== BEGIN printed: names, fields, word lists, decode rows ===== -/
def RX0 : String := "BridgedPachisi$Board"
def TX0 : u_T := fun k => match k with
  | 0 => ("BridgedPachisi$Board", "progress", "[I", true)
  | 1 => ("BridgedPachisi$Board", "sentBack", "[I", true)
  | 2 => ("BridgedPachisi$Board", "bridges", "[I", true)
  | 3 => ("BridgedPachisi$Board", "fellIn", "[I", true)
  | _ => ("BridgedPachisi$Board", "falls", "I", false)
def tyX0 : Nat → FieldType := fun k => match k with
  | 0 => .array .int
  | 1 => .array .int
  | 2 => .array .int
  | 3 => .array .int
  | _ => .int
abbrev wsX00 : List Cond := u_ws RX0 TX0 5
theorem nmX0 : ∀ a, a < 5 → ∀ b, b < 5 → a ≠ b → (TX0 a).2.1 ≠ (TX0 b).2.1 := by decide +kernel
theorem tyX0_ok : ∀ k, k < 5 → parseFieldDescriptor (TX0 k).2.2.1 = some (tyX0 k) := by decide +kernel
abbrev cX0_init : ByteArray := prog_2_method_1_code
def yX0_init : MethodName := ⟨RX0, "<init>", "()V"⟩
abbrev cX0_copyFrom : ByteArray := prog_2_method_2_code
def yX0_copyFrom : MethodName := ⟨RX0, "copyFrom", "(LBridgedPachisi$Board;)V"⟩
abbrev cX0_fieldOf : ByteArray := prog_2_method_3_code
def yX0_fieldOf : MethodName := ⟨RX0, "fieldOf", "(I)I"⟩
abbrev cX0_piecesOn : ByteArray := prog_2_method_4_code
def yX0_piecesOn : MethodName := ⟨RX0, "piecesOn", "(I)I"⟩
abbrev cX0_lowestOn : ByteArray := prog_2_method_5_code
def yX0_lowestOn : MethodName := ⟨RX0, "lowestOn", "(I)I"⟩
abbrev cX0_rivalsAt : ByteArray := prog_2_method_6_code
def yX0_rivalsAt : MethodName := ⟨RX0, "rivalsAt", "(II)I"⟩
abbrev cX0_matesAt : ByteArray := prog_2_method_7_code
def yX0_matesAt : MethodName := ⟨RX0, "matesAt", "(II)I"⟩
abbrev cX0_isInPair : ByteArray := prog_2_method_8_code
def yX0_isInPair : MethodName := ⟨RX0, "isInPair", "(I)Z"⟩
abbrev cX0_isFullFor : ByteArray := prog_2_method_9_code
def yX0_isFullFor : MethodName := ⟨RX0, "isFullFor", "(II)Z"⟩
abbrev cX0_hasRoomFor : ByteArray := prog_2_method_10_code
def yX0_hasRoomFor : MethodName := ⟨RX0, "hasRoomFor", "(II)Z"⟩
abbrev cX0_homeOf : ByteArray := prog_2_method_11_code
def yX0_homeOf : MethodName := ⟨RX0, "homeOf", "(I)I"⟩
abbrev cX0_winner : ByteArray := prog_2_method_12_code
def yX0_winner : MethodName := ⟨RX0, "winner", "()I"⟩
abbrev cX0_sentBackInAll : ByteArray := prog_2_method_13_code
def yX0_sentBackInAll : MethodName := ⟨RX0, "sentBackInAll", "()I"⟩
abbrev cX0_bridgeState : ByteArray := prog_2_method_14_code
def yX0_bridgeState : MethodName := ⟨RX0, "bridgeState", "(I)I"⟩
abbrev cX0_isFallenAt : ByteArray := prog_2_method_15_code
def yX0_isFallenAt : MethodName := ⟨RX0, "isFallenAt", "(II)Z"⟩
abbrev cX0_fallenSet : ByteArray := prog_2_method_16_code
def yX0_fallenSet : MethodName := ⟨RX0, "fallenSet", "()I"⟩
abbrev cX0_target : ByteArray := prog_2_method_17_code
def yX0_target : MethodName := ⟨RX0, "target", "(III)I"⟩
abbrev cX0_isBlockedOnWay : ByteArray := prog_2_method_18_code
def yX0_isBlockedOnWay : MethodName := ⟨RX0, "isBlockedOnWay", "(III)Z"⟩
abbrev cX0_sendRivalsBack : ByteArray := prog_2_method_19_code
def yX0_sendRivalsBack : MethodName := ⟨RX0, "sendRivalsBack", "(II)V"⟩
abbrev cX0_place : ByteArray := prog_2_method_20_code
def yX0_place : MethodName := ⟨RX0, "place", "(III)V"⟩
abbrev cX0_strainAndFall : ByteArray := prog_2_method_21_code
def yX0_strainAndFall : MethodName := ⟨RX0, "strainAndFall", "(I)V"⟩
abbrev cX0_mend : ByteArray := prog_2_method_22_code
def yX0_mend : MethodName := ⟨RX0, "mend", "(II)V"⟩
def RX1 : String := "BridgedPachisi$Game"
def TX1 : u_T := fun k => match k with
  | 0 => ("BridgedPachisi$Game", "board", "LBridgedPachisi$Board;", true)
  | 1 => ("BridgedPachisi$Game", "settings", "[I", true)
  | 2 => ("BridgedPachisi$Game", "x", "I", false)
  | 3 => ("BridgedPachisi$Game", "player", "I", false)
  | 4 => ("BridgedPachisi$Game", "thrown", "I", false)
  | 5 => ("BridgedPachisi$Game", "turns", "I", false)
  | _ => ("BridgedPachisi$Game", "casts", "I", false)
def tyX1 : Nat → FieldType := fun k => match k with
  | 0 => .object "BridgedPachisi$Board"
  | 1 => .array .int
  | 2 => .int
  | 3 => .int
  | 4 => .int
  | 5 => .int
  | _ => .int
abbrev wsX10 : List Cond := u_ws RX1 TX1 7
theorem nmX1 : ∀ a, a < 7 → ∀ b, b < 7 → a ≠ b → (TX1 a).2.1 ≠ (TX1 b).2.1 := by decide +kernel
theorem tyX1_ok : ∀ k, k < 7 → parseFieldDescriptor (TX1 k).2.2.1 = some (tyX1 k) := by decide +kernel
abbrev cX1_init : ByteArray := prog_3_method_1_code
def yX1_init : MethodName := ⟨RX1, "<init>", "()V"⟩
abbrev cX1_copyFrom : ByteArray := prog_3_method_2_code
def yX1_copyFrom : MethodName := ⟨RX1, "copyFrom", "(LBridgedPachisi$Game;)V"⟩
abbrev cX1_isOver : ByteArray := prog_3_method_3_code
def yX1_isOver : MethodName := ⟨RX1, "isOver", "()Z"⟩
abbrev cX1_hasThrow : ByteArray := prog_3_method_4_code
def yX1_hasThrow : MethodName := ⟨RX1, "hasThrow", "()Z"⟩
abbrev cX1_reason : ByteArray := prog_3_method_5_code
def yX1_reason : MethodName := ⟨RX1, "reason", "(II)I"⟩
abbrev cX1_canMoveBy : ByteArray := prog_3_method_6_code
def yX1_canMoveBy : MethodName := ⟨RX1, "canMoveBy", "(I)Z"⟩
abbrev cX1_bestPiece : ByteArray := prog_3_method_7_code
def yX1_bestPiece : MethodName := ⟨RX1, "bestPiece", "()I"⟩
abbrev cX1_worthOfMove : ByteArray := prog_3_method_8_code
def yX1_worthOfMove : MethodName := ⟨RX1, "worthOfMove", "(I)I"⟩
abbrev cX1_throwByX : ByteArray := prog_3_method_9_code
def yX1_throwByX : MethodName := ⟨RX1, "throwByX", "()V"⟩
abbrev cX1_takeThrow : ByteArray := prog_3_method_10_code
def yX1_takeThrow : MethodName := ⟨RX1, "takeThrow", "(I)V"⟩
abbrev cX1_moveByThrow : ByteArray := prog_3_method_11_code
def yX1_moveByThrow : MethodName := ⟨RX1, "moveByThrow", "(I)I"⟩
abbrev cX1_endThrow : ByteArray := prog_3_method_12_code
def yX1_endThrow : MethodName := ⟨RX1, "endThrow", "()V"⟩
abbrev cX1_beginTurn : ByteArray := prog_3_method_13_code
def yX1_beginTurn : MethodName := ⟨RX1, "beginTurn", "()V"⟩
abbrev cX1_playOn : ByteArray := prog_3_method_14_code
def yX1_playOn : MethodName := ⟨RX1, "playOn", "(I)I"⟩
abbrev cX1_makeMove : ByteArray := prog_3_method_15_code
def yX1_makeMove : MethodName := ⟨RX1, "makeMove", "(II)Z"⟩
abbrev cX1_turnsUntilMended : ByteArray := prog_3_method_16_code
def yX1_turnsUntilMended : MethodName := ⟨RX1, "turnsUntilMended", "(I)I"⟩
def RX2 : String := "BridgedPachisi$History"
def TX2 : u_T := fun k => match k with
  | 0 => ("BridgedPachisi$History", "states", "[LBridgedPachisi$Game;", true)
  | 1 => ("BridgedPachisi$History", "next", "I", false)
  | _ => ("BridgedPachisi$History", "size", "I", false)
def tyX2 : Nat → FieldType := fun k => match k with
  | 0 => .array (.object "BridgedPachisi$Game")
  | 1 => .int
  | _ => .int
abbrev wsX20 : List Cond := u_ws RX2 TX2 3
theorem nmX2 : ∀ a, a < 3 → ∀ b, b < 3 → a ≠ b → (TX2 a).2.1 ≠ (TX2 b).2.1 := by decide +kernel
theorem tyX2_ok : ∀ k, k < 3 → parseFieldDescriptor (TX2 k).2.2.1 = some (tyX2 k) := by decide +kernel
abbrev cX2_init : ByteArray := prog_4_method_1_code
def yX2_init : MethodName := ⟨RX2, "<init>", "()V"⟩
abbrev cX2_remember : ByteArray := prog_4_method_2_code
def yX2_remember : MethodName := ⟨RX2, "remember", "(LBridgedPachisi$Game;)V"⟩
abbrev cX2_takeBack : ByteArray := prog_4_method_3_code
def yX2_takeBack : MethodName := ⟨RX2, "takeBack", "(LBridgedPachisi$Game;)Z"⟩
def RX3 : String := "BridgedPachisi$Pad"
def TX3 : u_T := fun k => match k with
  | 0 => ("BridgedPachisi$Pad", "text", "[C", true)
  | _ => ("BridgedPachisi$Pad", "length", "I", false)
def tyX3 : Nat → FieldType := fun k => match k with
  | 0 => .array .char
  | _ => .int
abbrev wsX30 : List Cond := u_ws RX3 TX3 2
theorem nmX3 : ∀ a, a < 2 → ∀ b, b < 2 → a ≠ b → (TX3 a).2.1 ≠ (TX3 b).2.1 := by decide +kernel
theorem tyX3_ok : ∀ k, k < 2 → parseFieldDescriptor (TX3 k).2.2.1 = some (tyX3 k) := by decide +kernel
abbrev cX3_init : ByteArray := prog_5_method_1_code
def yX3_init : MethodName := ⟨RX3, "<init>", "()V"⟩
abbrev cX3_append : ByteArray := prog_5_method_2_code
def yX3_append : MethodName := ⟨RX3, "append", "(JI)V"⟩
abbrev cX3_faultIndex : ByteArray := prog_5_method_3_code
def yX3_faultIndex : MethodName := ⟨RX3, "faultIndex", "()I"⟩
abbrev cX3_isCast : ByteArray := prog_5_method_4_code
def yX3_isCast : MethodName := ⟨RX3, "isCast", "(C)Z"⟩
abbrev cX3_isPieceOrPass : ByteArray := prog_5_method_5_code
def yX3_isPieceOrPass : MethodName := ⟨RX3, "isPieceOrPass", "(C)Z"⟩
abbrev cX3_moves : ByteArray := prog_5_method_6_code
def yX3_moves : MethodName := ⟨RX3, "moves", "()I"⟩
abbrev cX3_castOfMove : ByteArray := prog_5_method_7_code
def yX3_castOfMove : MethodName := ⟨RX3, "castOfMove", "(I)I"⟩
abbrev cX3_pieceOfMove : ByteArray := prog_5_method_8_code
def yX3_pieceOfMove : MethodName := ⟨RX3, "pieceOfMove", "(I)I"⟩
def RX4 : String := "BridgedPachisi$Route"
def TX4 : u_T := fun k => match k with
  | _ => ("BridgedPachisi$Route", "needed", "[I", true)
def tyX4 : Nat → FieldType := fun k => match k with
  | _ => .array .int
abbrev wsX40 : List Cond := u_ws RX4 TX4 1
theorem nmX4 : ∀ a, a < 1 → ∀ b, b < 1 → a ≠ b → (TX4 a).2.1 ≠ (TX4 b).2.1 := by decide +kernel
theorem tyX4_ok : ∀ k, k < 1 → parseFieldDescriptor (TX4 k).2.2.1 = some (tyX4 k) := by decide +kernel
abbrev cX4_init : ByteArray := prog_6_method_1_code
def yX4_init : MethodName := ⟨RX4, "<init>", "()V"⟩
abbrev cX4_fromHomeOn : ByteArray := prog_6_method_2_code
def yX4_fromHomeOn : MethodName := ⟨RX4, "fromHomeOn", "(LBridgedPachisi$Board;II)I"⟩
abbrev cX4_goingWide : ByteArray := prog_6_method_3_code
def yX4_goingWide : MethodName := ⟨RX4, "goingWide", "(LBridgedPachisi$Board;II)I"⟩
abbrev cX4_widen : ByteArray := prog_6_method_4_code
def yX4_widen : MethodName := ⟨RX4, "widen", "(LBridgedPachisi$Board;II)V"⟩
def RX5 : String := "BridgedPachisi"
def TX5 : u_T := fun k => match k with
  | 0 => ("BridgedPachisi", "game", "LBridgedPachisi$Game;", true)
  | 1 => ("BridgedPachisi", "trial", "LBridgedPachisi$Game;", true)
  | 2 => ("BridgedPachisi", "route", "LBridgedPachisi$Route;", true)
  | 3 => ("BridgedPachisi", "pad", "LBridgedPachisi$Pad;", true)
  | 4 => ("BridgedPachisi", "history", "LBridgedPachisi$History;", true)
  | _ => ("BridgedPachisi", "slots", "[LBridgedPachisi$Game;", true)
def tyX5 : Nat → FieldType := fun k => match k with
  | 0 => .object "BridgedPachisi$Game"
  | 1 => .object "BridgedPachisi$Game"
  | 2 => .object "BridgedPachisi$Route"
  | 3 => .object "BridgedPachisi$Pad"
  | 4 => .object "BridgedPachisi$History"
  | _ => .array (.object "BridgedPachisi$Game")
abbrev wsX50 : List Cond := u_ws RX5 TX5 6
theorem nmX5 : ∀ a, a < 6 → ∀ b, b < 6 → a ≠ b → (TX5 a).2.1 ≠ (TX5 b).2.1 := by decide +kernel
theorem tyX5_ok : ∀ k, k < 6 → parseFieldDescriptor (TX5 k).2.2.1 = some (tyX5 k) := by decide +kernel
abbrev cX5_init : ByteArray := prog_1_method_1_code
def yX5_init : MethodName := ⟨RX5, "<init>", "()V"⟩
abbrev cX5_set : ByteArray := prog_1_method_2_code
def yX5_set : MethodName := ⟨RX5, "set", "(II)I"⟩
abbrev cX5_seed : ByteArray := prog_1_method_3_code
def yX5_seed : MethodName := ⟨RX5, "seed", "(I)I"⟩
abbrev cX5_cast : ByteArray := prog_1_method_4_code
def yX5_cast : MethodName := ⟨RX5, "cast", "()I"⟩
abbrev cX5_move : ByteArray := prog_1_method_5_code
def yX5_move : MethodName := ⟨RX5, "move", "(I)I"⟩
abbrev cX5_skip : ByteArray := prog_1_method_6_code
def yX5_skip : MethodName := ⟨RX5, "skip", "()I"⟩
abbrev cX5_play : ByteArray := prog_1_method_7_code
def yX5_play : MethodName := ⟨RX5, "play", "(I)I"⟩
abbrev cX5_read : ByteArray := prog_1_method_8_code
def yX5_read : MethodName := ⟨RX5, "read", "()I"⟩
abbrev cX5_lay : ByteArray := prog_1_method_9_code
def yX5_lay : MethodName := ⟨RX5, "lay", "(II)I"⟩
abbrev cX5_piece : ByteArray := prog_1_method_10_code
def yX5_piece : MethodName := ⟨RX5, "piece", "(II)I"⟩
abbrev cX5_field : ByteArray := prog_1_method_11_code
def yX5_field : MethodName := ⟨RX5, "field", "(II)I"⟩
abbrev cX5_why : ByteArray := prog_1_method_12_code
def yX5_why : MethodName := ⟨RX5, "why", "(II)I"⟩
abbrev cX5_count : ByteArray := prog_1_method_13_code
def yX5_count : MethodName := ⟨RX5, "count", "(I)I"⟩
abbrev cX5_best : ByteArray := prog_1_method_14_code
def yX5_best : MethodName := ⟨RX5, "best", "()I"⟩
abbrev cX5_needs : ByteArray := prog_1_method_15_code
def yX5_needs : MethodName := ⟨RX5, "needs", "(II)I"⟩
abbrev cX5_nextCast : ByteArray := prog_1_method_16_code
def yX5_nextCast : MethodName := ⟨RX5, "nextCast", "(I)I"⟩
abbrev cX5_untilOver : ByteArray := prog_1_method_17_code
def yX5_untilOver : MethodName := ⟨RX5, "untilOver", "()I"⟩
abbrev cX5_put : ByteArray := prog_1_method_18_code
def yX5_put : MethodName := ⟨RX5, "put", "(J)I"⟩
abbrev cX5_wipe : ByteArray := prog_1_method_19_code
def yX5_wipe : MethodName := ⟨RX5, "wipe", "()I"⟩
abbrev cX5_fault : ByteArray := prog_1_method_20_code
def yX5_fault : MethodName := ⟨RX5, "fault", "()I"⟩
abbrev cX5_undo : ByteArray := prog_1_method_21_code
def yX5_undo : MethodName := ⟨RX5, "undo", "()I"⟩
abbrev cX5_save : ByteArray := prog_1_method_22_code
def yX5_save : MethodName := ⟨RX5, "save", "(I)I"⟩
abbrev cX5_restore : ByteArray := prog_1_method_23_code
def yX5_restore : MethodName := ⟨RX5, "restore", "(I)I"⟩
abbrev cX5_isNoPiece : ByteArray := prog_1_method_24_code
def yX5_isNoPiece : MethodName := ⟨RX5, "isNoPiece", "(I)Z"⟩
abbrev cX5_isOnRing : ByteArray := prog_1_method_25_code
def yX5_isOnRing : MethodName := ⟨RX5, "isOnRing", "(I)Z"⟩
abbrev cX5_isSafe : ByteArray := prog_1_method_26_code
def yX5_isSafe : MethodName := ⟨RX5, "isSafe", "(I)Z"⟩
abbrev cX5_bridgeOn : ByteArray := prog_1_method_27_code
def yX5_bridgeOn : MethodName := ⟨RX5, "bridgeOn", "(I)I"⟩
abbrev cX5_ringField : ByteArray := prog_1_method_28_code
def yX5_ringField : MethodName := ⟨RX5, "ringField", "(II)I"⟩
abbrev cX5_nextX : ByteArray := prog_1_method_29_code
def yX5_nextX : MethodName := ⟨RX5, "nextX", "(I)I"⟩
abbrev cX5_castOf : ByteArray := prog_1_method_30_code
def yX5_castOf : MethodName := ⟨RX5, "castOf", "(I)I"⟩
abbrev cX5_lengthOf : ByteArray := prog_1_method_31_code
def yX5_lengthOf : MethodName := ⟨RX5, "lengthOf", "(J)I"⟩
def RX6 : String := "BridgedPachisiModel"
def TX6 : u_T := fun k => match k with
  | 0 => ("BridgedPachisiModel", "z", "[I", true)
  | 1 => ("BridgedPachisiModel", "aside", "[I", true)
  | 2 => ("BridgedPachisiModel", "before", "[I", true)
  | 3 => ("BridgedPachisiModel", "states", "I", false)
  | 4 => ("BridgedPachisiModel", "slots", "[I", true)
  | 5 => ("BridgedPachisiModel", "isSaved", "[Z", true)
  | 6 => ("BridgedPachisiModel", "pad", "[I", true)
  | 7 => ("BridgedPachisiModel", "length", "I", false)
  | 8 => ("BridgedPachisiModel", "goal", "I", false)
  | _ => ("BridgedPachisiModel", "needed", "[I", true)
def tyX6 : Nat → FieldType := fun k => match k with
  | 0 => .array .int
  | 1 => .array .int
  | 2 => .array .int
  | 3 => .int
  | 4 => .array .int
  | 5 => .array .boolean
  | 6 => .array .int
  | 7 => .int
  | 8 => .int
  | _ => .array .int
abbrev wsX60 : List Cond := u_ws RX6 TX6 10
theorem nmX6 : ∀ a, a < 10 → ∀ b, b < 10 → a ≠ b → (TX6 a).2.1 ≠ (TX6 b).2.1 := by decide +kernel
theorem tyX6_ok : ∀ k, k < 10 → parseFieldDescriptor (TX6 k).2.2.1 = some (tyX6 k) := by decide +kernel
abbrev cX6_init : ByteArray := prog_8_method_1_code
def yX6_init : MethodName := ⟨RX6, "<init>", "()V"⟩
abbrev cX6_in : ByteArray := prog_8_method_3_code
def yX6_in : MethodName := ⟨RX6, "in", "(III)Z"⟩
abbrev cX6_isPiece : ByteArray := prog_8_method_4_code
def yX6_isPiece : MethodName := ⟨RX6, "isPiece", "(I)Z"⟩
abbrev cX6_fieldAt : ByteArray := prog_8_method_5_code
def yX6_fieldAt : MethodName := ⟨RX6, "fieldAt", "(II)I"⟩
abbrev cX6_fieldOf : ByteArray := prog_8_method_6_code
def yX6_fieldOf : MethodName := ⟨RX6, "fieldOf", "(I)I"⟩
abbrev cX6_isSafe : ByteArray := prog_8_method_7_code
def yX6_isSafe : MethodName := ⟨RX6, "isSafe", "(I)Z"⟩
abbrev cX6_isBridge : ByteArray := prog_8_method_8_code
def yX6_isBridge : MethodName := ⟨RX6, "isBridge", "(I)Z"⟩
abbrev cX6_isFallen : ByteArray := prog_8_method_9_code
def yX6_isFallen : MethodName := ⟨RX6, "isFallen", "(I)Z"⟩
abbrev cX6_piecesOn : ByteArray := prog_8_method_10_code
def yX6_piecesOn : MethodName := ⟨RX6, "piecesOn", "(II)I"⟩
abbrev cX6_allOn : ByteArray := prog_8_method_11_code
def yX6_allOn : MethodName := ⟨RX6, "allOn", "(I)I"⟩
abbrev cX6_isPairOn : ByteArray := prog_8_method_12_code
def yX6_isPairOn : MethodName := ⟨RX6, "isPairOn", "(I)Z"⟩
abbrev cX6_atHome : ByteArray := prog_8_method_13_code
def yX6_atHome : MethodName := ⟨RX6, "atHome", "(I)I"⟩
abbrev cX6_winner : ByteArray := prog_8_method_14_code
def yX6_winner : MethodName := ⟨RX6, "winner", "()I"⟩
abbrev cX6_isOver : ByteArray := prog_8_method_15_code
def yX6_isOver : MethodName := ⟨RX6, "isOver", "()Z"⟩
abbrev cX6_lookAtBridges : ByteArray := prog_8_method_16_code
def yX6_lookAtBridges : MethodName := ⟨RX6, "lookAtBridges", "()V"⟩
abbrev cX6_record : ByteArray := prog_8_method_17_code
def yX6_record : MethodName := ⟨RX6, "record", "()V"⟩
abbrev cX6_undo : ByteArray := prog_8_method_18_code
def yX6_undo : MethodName := ⟨RX6, "undo", "()I"⟩
abbrev cX6_save : ByteArray := prog_8_method_19_code
def yX6_save : MethodName := ⟨RX6, "save", "(I)I"⟩
abbrev cX6_restore : ByteArray := prog_8_method_20_code
def yX6_restore : MethodName := ⟨RX6, "restore", "(I)I"⟩
abbrev cX6_putAside : ByteArray := prog_8_method_21_code
def yX6_putAside : MethodName := ⟨RX6, "putAside", "()V"⟩
abbrev cX6_putBack : ByteArray := prog_8_method_22_code
def yX6_putBack : MethodName := ⟨RX6, "putBack", "()V"⟩
abbrev cX6_isBlocked : ByteArray := prog_8_method_23_code
def yX6_isBlocked : MethodName := ⟨RX6, "isBlocked", "(II)Z"⟩
abbrev cX6_stepOn : ByteArray := prog_8_method_24_code
def yX6_stepOn : MethodName := ⟨RX6, "stepOn", "(III)I"⟩
abbrev cX6_whyNot : ByteArray := prog_8_method_25_code
def yX6_whyNot : MethodName := ⟨RX6, "whyNot", "(II)I"⟩
abbrev cX6_otherOn : ByteArray := prog_8_method_26_code
def yX6_otherOn : MethodName := ⟨RX6, "otherOn", "(II)I"⟩
abbrev cX6_doMove : ByteArray := prog_8_method_27_code
def yX6_doMove : MethodName := ⟨RX6, "doMove", "(II)V"⟩
abbrev cX6_canMove : ByteArray := prog_8_method_28_code
def yX6_canMove : MethodName := ⟨RX6, "canMove", "(I)Z"⟩
abbrev cX6_goOn : ByteArray := prog_8_method_29_code
def yX6_goOn : MethodName := ⟨RX6, "goOn", "()V"⟩
abbrev cX6_draw : ByteArray := prog_8_method_30_code
def yX6_draw : MethodName := ⟨RX6, "draw", "()I"⟩
abbrev cX6_least : ByteArray := prog_8_method_31_code
def yX6_least : MethodName := ⟨RX6, "least", "(I)I"⟩
abbrev cX6_most : ByteArray := prog_8_method_32_code
def yX6_most : MethodName := ⟨RX6, "most", "(I)I"⟩
abbrev cX6_set : ByteArray := prog_8_method_33_code
def yX6_set : MethodName := ⟨RX6, "set", "(II)I"⟩
abbrev cX6_seed : ByteArray := prog_8_method_34_code
def yX6_seed : MethodName := ⟨RX6, "seed", "(I)I"⟩
abbrev cX6_hasCast : ByteArray := prog_8_method_35_code
def yX6_hasCast : MethodName := ⟨RX6, "hasCast", "()Z"⟩
abbrev cX6_doCast : ByteArray := prog_8_method_36_code
def yX6_doCast : MethodName := ⟨RX6, "doCast", "(I)V"⟩
abbrev cX6_cast : ByteArray := prog_8_method_37_code
def yX6_cast : MethodName := ⟨RX6, "cast", "()I"⟩
abbrev cX6_move : ByteArray := prog_8_method_38_code
def yX6_move : MethodName := ⟨RX6, "move", "(I)I"⟩
abbrev cX6_skip : ByteArray := prog_8_method_39_code
def yX6_skip : MethodName := ⟨RX6, "skip", "()I"⟩
abbrev cX6_doPlay : ByteArray := prog_8_method_40_code
def yX6_doPlay : MethodName := ⟨RX6, "doPlay", "(I)I"⟩
abbrev cX6_play : ByteArray := prog_8_method_41_code
def yX6_play : MethodName := ⟨RX6, "play", "(I)I"⟩
abbrev cX6_read : ByteArray := prog_8_method_42_code
def yX6_read : MethodName := ⟨RX6, "read", "()I"⟩
abbrev cX6_lay : ByteArray := prog_8_method_43_code
def yX6_lay : MethodName := ⟨RX6, "lay", "(II)I"⟩
abbrev cX6_piece : ByteArray := prog_8_method_44_code
def yX6_piece : MethodName := ⟨RX6, "piece", "(II)I"⟩
abbrev cX6_lowestOn : ByteArray := prog_8_method_45_code
def yX6_lowestOn : MethodName := ⟨RX6, "lowestOn", "(I)I"⟩
abbrev cX6_bridgeOn : ByteArray := prog_8_method_46_code
def yX6_bridgeOn : MethodName := ⟨RX6, "bridgeOn", "(I)I"⟩
abbrev cX6_mendedIn : ByteArray := prog_8_method_47_code
def yX6_mendedIn : MethodName := ⟨RX6, "mendedIn", "(I)I"⟩
abbrev cX6_field : ByteArray := prog_8_method_48_code
def yX6_field : MethodName := ⟨RX6, "field", "(II)I"⟩
abbrev cX6_why : ByteArray := prog_8_method_49_code
def yX6_why : MethodName := ⟨RX6, "why", "(II)I"⟩
abbrev cX6_fallenBridges : ByteArray := prog_8_method_50_code
def yX6_fallenBridges : MethodName := ⟨RX6, "fallenBridges", "()I"⟩
abbrev cX6_count : ByteArray := prog_8_method_51_code
def yX6_count : MethodName := ⟨RX6, "count", "(I)I"⟩
abbrev cX6_kindOf : ByteArray := prog_8_method_52_code
def yX6_kindOf : MethodName := ⟨RX6, "kindOf", "(II)I"⟩
abbrev cX6_bestPiece : ByteArray := prog_8_method_53_code
def yX6_bestPiece : MethodName := ⟨RX6, "bestPiece", "()I"⟩
abbrev cX6_best : ByteArray := prog_8_method_54_code
def yX6_best : MethodName := ⟨RX6, "best", "()I"⟩
abbrev cX6_throwsNeeded : ByteArray := prog_8_method_55_code
def yX6_throwsNeeded : MethodName := ⟨RX6, "throwsNeeded", "(I)I"⟩
abbrev cX6_needs : ByteArray := prog_8_method_56_code
def yX6_needs : MethodName := ⟨RX6, "needs", "(II)I"⟩
abbrev cX6_nextCast : ByteArray := prog_8_method_57_code
def yX6_nextCast : MethodName := ⟨RX6, "nextCast", "(I)I"⟩
abbrev cX6_untilOver : ByteArray := prog_8_method_58_code
def yX6_untilOver : MethodName := ⟨RX6, "untilOver", "()I"⟩
abbrev cX6_put : ByteArray := prog_8_method_59_code
def yX6_put : MethodName := ⟨RX6, "put", "(J)I"⟩
abbrev cX6_wipe : ByteArray := prog_8_method_60_code
def yX6_wipe : MethodName := ⟨RX6, "wipe", "()I"⟩
abbrev cX6_findFault : ByteArray := prog_8_method_61_code
def yX6_findFault : MethodName := ⟨RX6, "findFault", "()I"⟩
abbrev cX6_fault : ByteArray := prog_8_method_62_code
def yX6_fault : MethodName := ⟨RX6, "fault", "()I"⟩
def RJ9 : String := "java/lang/Math"
def TJ9 : u_T := fun k => match k with
  | _ => ("", "", "", false)
def tyJ9 : Nat → FieldType := fun k => match k with
  | _ => .int
abbrev wsJ90 : List Cond := u_ws RJ9 TJ9 0
theorem nmJ9 : ∀ a, a < 0 → ∀ b, b < 0 → a ≠ b → (TJ9 a).2.1 ≠ (TJ9 b).2.1 := by decide +kernel
theorem tyJ9_ok : ∀ k, k < 0 → parseFieldDescriptor (TJ9 k).2.2.1 = some (tyJ9 k) := by decide +kernel
abbrev cJ9_max_7cf53 : ByteArray := prog_9_method_65_code
def yJ9_max_7cf53 : MethodName := ⟨RJ9, "max", "(II)I"⟩
abbrev cJ9_min_7cf53 : ByteArray := prog_9_method_69_code
def yJ9_min_7cf53 : MethodName := ⟨RJ9, "min", "(II)I"⟩
def RJ10 : String := "java/lang/System"
def TJ10 : u_T := fun k => match k with
  | _ => ("", "", "", false)
def tyJ10 : Nat → FieldType := fun k => match k with
  | _ => .int
abbrev wsJ100 : List Cond := u_ws RJ10 TJ10 0
theorem nmJ10 : ∀ a, a < 0 → ∀ b, b < 0 → a ≠ b → (TJ10 a).2.1 ≠ (TJ10 b).2.1 := by decide +kernel
theorem tyJ10_ok : ∀ k, k < 0 → parseFieldDescriptor (TJ10 k).2.2.1 = some (tyJ10 k) := by decide +kernel
def RL : String := "BridgedPachisiLaw"
abbrev cL_law : ByteArray := code
def yL_law : MethodName := ⟨RL, "law", "([I)Z"⟩
def wsL_law_r1 : List Cond := [Cond.classLink RL 7 RX5, Cond.instantiable RX5 6, Cond.initialized RX5, Cond.classLink RL 10 RX6, Cond.instantiable RX6 10, Cond.initialized RX6, Cond.constantLong RL 80 (4294967295), Cond.methodLink RL 9 yX5_init, Cond.instanceMethod yX5_init, Cond.code yX5_init cX5_init 1 none, Cond.methodLink RX5 3 objectInit, Cond.instanceMethod objectInit, Cond.code objectInit ⟨#[0xb1]⟩ 1 none, Cond.classLink RX5 9 RX1, Cond.instantiable RX1 7, Cond.initialized RX1, Cond.fieldLink RX5 12 "BridgedPachisi" "game" "LBridgedPachisi$Game;", Cond.fieldLink RX5 16 "BridgedPachisi" "trial" "LBridgedPachisi$Game;", Cond.classLink RX5 19 RX4, Cond.instantiable RX4 1, Cond.initialized RX4, Cond.fieldLink RX5 22 "BridgedPachisi" "route" "LBridgedPachisi$Route;", Cond.classLink RX5 26 RX3, Cond.instantiable RX3 2]
def wsL_law_r2 : List Cond := [Cond.initialized RX3, Cond.fieldLink RX5 29 "BridgedPachisi" "pad" "LBridgedPachisi$Pad;", Cond.classLink RX5 33 RX2, Cond.instantiable RX2 3, Cond.initialized RX2, Cond.fieldLink RX5 36 "BridgedPachisi" "history" "LBridgedPachisi$History;", Cond.fieldLink RX5 40 "BridgedPachisi" "slots" "[LBridgedPachisi$Game;", Cond.instanceMethod yX1_init, Cond.code yX1_init cX1_init 1 none, Cond.methodLink RX1 3 objectInit, Cond.classLink RX1 9 RX0, Cond.instantiable RX0 5, Cond.initialized RX0, Cond.fieldLink RX1 12 "BridgedPachisi$Game" "board" "LBridgedPachisi$Board;", Cond.arrayClass .int, Cond.fieldLink RX1 18 "BridgedPachisi$Game" "settings" "[I", Cond.fieldLink RX1 22 "BridgedPachisi$Game" "x" "I", Cond.fieldLink RX1 26 "BridgedPachisi$Game" "player" "I", Cond.fieldLink RX1 29 "BridgedPachisi$Game" "thrown" "I", Cond.fieldLink RX1 32 "BridgedPachisi$Game" "turns" "I", Cond.fieldLink RX1 35 "BridgedPachisi$Game" "casts" "I", Cond.methodLink RX1 41 arraycopyName, Cond.native arraycopyName, Cond.static arraycopyName]
def wsL_law_r3 : List Cond := [Cond.initialized "java/lang/System", Cond.instanceMethod yX0_init, Cond.code yX0_init cX0_init 2 none, Cond.methodLink RX0 3 objectInit, Cond.fieldLink RX0 9 "BridgedPachisi$Board" "progress" "[I", Cond.fieldLink RX0 15 "BridgedPachisi$Board" "sentBack" "[I", Cond.fieldLink RX0 18 "BridgedPachisi$Board" "bridges" "[I", Cond.fieldLink RX0 21 "BridgedPachisi$Board" "fellIn" "[I", Cond.fieldLink RX0 24 "BridgedPachisi$Board" "falls" "I", Cond.instanceMethod yX4_init, Cond.code yX4_init cX4_init 1 none, Cond.methodLink RX4 3 objectInit, Cond.fieldLink RX4 9 "BridgedPachisi$Route" "needed" "[I", Cond.instanceMethod yX3_init, Cond.code yX3_init cX3_init 1 none, Cond.methodLink RX3 3 objectInit, Cond.arrayClass .char, Cond.fieldLink RX3 9 "BridgedPachisi$Pad" "text" "[C", Cond.fieldLink RX3 15 "BridgedPachisi$Pad" "length" "I", Cond.instanceMethod yX2_init, Cond.code yX2_init cX2_init 1 none, Cond.methodLink RX2 3 objectInit, Cond.classLink RX2 9 RX1, Cond.fieldLink RX2 11 "BridgedPachisi$History" "states" "[LBridgedPachisi$Game;"]
def wsL_law_r4 : List Cond := [Cond.fieldLink RX2 17 "BridgedPachisi$History" "next" "I", Cond.fieldLink RX2 21 "BridgedPachisi$History" "size" "I", Cond.methodLink RL 12 yX6_init, Cond.instanceMethod yX6_init, Cond.code yX6_init cX6_init 2 none, Cond.methodLink RX6 1 objectInit, Cond.fieldLink RX6 7 "BridgedPachisiModel" "z" "[I", Cond.fieldLink RX6 13 "BridgedPachisiModel" "aside" "[I", Cond.fieldLink RX6 16 "BridgedPachisiModel" "before" "[I", Cond.fieldLink RX6 19 "BridgedPachisiModel" "slots" "[I", Cond.arrayClass .boolean, Cond.fieldLink RX6 22 "BridgedPachisiModel" "isSaved" "[Z", Cond.fieldLink RX6 26 "BridgedPachisiModel" "pad" "[I", Cond.fieldLink RX6 29 "BridgedPachisiModel" "needed" "[I", Cond.methodLink RL 13 yX5_set, Cond.instanceMethod yX5_set, Cond.selects RX5 yX5_set yX5_set, Cond.code yX5_set cX5_set 4 (some .int), Cond.fieldLink RX5 44 "BridgedPachisi" "LEAST_VALUE" "[I", Cond.fieldLink RX5 48 "BridgedPachisi" "GREATEST_VALUE" "[I", Cond.instanceMethod yX2_remember, Cond.selects RX2 yX2_remember yX2_remember, Cond.code yX2_remember cX2_remember 3 none, Cond.methodLink RX2 29 Lib.Math.min.name]
def wsL_law_r5 : List Cond := [Cond.static Lib.Math.min.name, Cond.initialized "java/lang/Math", Cond.code Lib.Math.min.name Lib.Math.min.code 2 (some .int), Cond.instanceMethod yX1_copyFrom, Cond.selects RX1 yX1_copyFrom yX1_copyFrom, Cond.code yX1_copyFrom cX1_copyFrom 2 none, Cond.instanceMethod yX0_copyFrom, Cond.selects RX0 yX0_copyFrom yX0_copyFrom, Cond.code yX0_copyFrom cX0_copyFrom 2 none, Cond.methodLink RX0 28 arraycopyName, Cond.methodLink RL 17 yX6_set, Cond.instanceMethod yX6_set, Cond.selects RX6 yX6_set yX6_set, Cond.code yX6_set cX6_set 4 (some .int), Cond.methodLink RX6 32 yX6_in, Cond.static yX6_in, Cond.code yX6_in cX6_in 3 (some .boolean), Cond.methodLink RX6 108 yX6_least, Cond.static yX6_least, Cond.code yX6_least cX6_least 1 (some .int), Cond.methodLink RX6 111 yX6_most, Cond.static yX6_most, Cond.code yX6_most cX6_most 1 (some .int), Cond.methodLink RX6 68 yX6_record]
def wsL_law_r6 : List Cond := [Cond.instanceMethod yX6_record, Cond.selects RX6 yX6_record yX6_record, Cond.code yX6_record cX6_record 2 none, Cond.fieldLink RX6 64 "BridgedPachisiModel" "states" "I", Cond.methodLink RL 18 yX5_seed, Cond.instanceMethod yX5_seed, Cond.selects RX5 yX5_seed yX5_seed, Cond.code yX5_seed cX5_seed 3 (some .int), Cond.methodLink RL 22 yX6_seed, Cond.instanceMethod yX6_seed, Cond.selects RX6 yX6_seed yX6_seed, Cond.code yX6_seed cX6_seed 3 (some .int), Cond.methodLink RL 23 yX5_cast, Cond.instanceMethod yX5_cast, Cond.selects RX5 yX5_cast yX5_cast, Cond.code yX5_cast cX5_cast 1 (some .int), Cond.instanceMethod yX1_isOver, Cond.selects RX1 yX1_isOver yX1_isOver, Cond.code yX1_isOver cX1_isOver 1 (some .boolean), Cond.instanceMethod yX0_winner, Cond.selects RX0 yX0_winner yX0_winner, Cond.code yX0_winner cX0_winner 2 (some .int), Cond.methodLink RX0 55 yX0_homeOf, Cond.instanceMethod yX0_homeOf]
def wsL_law_r7 : List Cond := [Cond.selects RX0 yX0_homeOf yX0_homeOf, Cond.code yX0_homeOf cX0_homeOf 4 (some .int), Cond.instanceMethod yX1_hasThrow, Cond.selects RX1 yX1_hasThrow yX1_hasThrow, Cond.code yX1_hasThrow cX1_hasThrow 1 (some .boolean), Cond.instanceMethod yX1_throwByX, Cond.selects RX1 yX1_throwByX yX1_throwByX, Cond.code yX1_throwByX cX1_throwByX 1 none, Cond.static yX5_nextX, Cond.code yX5_nextX cX5_nextX 1 (some .int), Cond.constantLong RX5 214 (1103515245), Cond.constantLong RX5 216 (12345), Cond.constantLong RX5 218 (2147483648), Cond.static yX5_castOf, Cond.code yX5_castOf cX5_castOf 1 (some .int), Cond.constant RX5 220 (65536), Cond.methodLink RX1 100 yX1_takeThrow, Cond.instanceMethod yX1_takeThrow, Cond.selects RX1 yX1_takeThrow yX1_takeThrow, Cond.code yX1_takeThrow cX1_takeThrow 2 none, Cond.methodLink RL 27 yX6_cast, Cond.instanceMethod yX6_cast, Cond.selects RX6 yX6_cast yX6_cast, Cond.code yX6_cast cX6_cast 1 (some .int)]
def wsL_law_r8 : List Cond := [Cond.methodLink RX6 97 yX6_isOver, Cond.instanceMethod yX6_isOver, Cond.selects RX6 yX6_isOver yX6_isOver, Cond.code yX6_isOver cX6_isOver 1 (some .boolean), Cond.methodLink RX6 54 yX6_winner, Cond.instanceMethod yX6_winner, Cond.selects RX6 yX6_winner yX6_winner, Cond.code yX6_winner cX6_winner 3 (some .int), Cond.methodLink RX6 51 yX6_atHome, Cond.instanceMethod yX6_atHome, Cond.selects RX6 yX6_atHome yX6_atHome, Cond.code yX6_atHome cX6_atHome 4 (some .int), Cond.methodLink RX6 114 yX6_hasCast, Cond.instanceMethod yX6_hasCast, Cond.selects RX6 yX6_hasCast yX6_hasCast, Cond.code yX6_hasCast cX6_hasCast 1 (some .boolean), Cond.methodLink RX6 117 yX6_draw, Cond.instanceMethod yX6_draw, Cond.selects RX6 yX6_draw yX6_draw, Cond.code yX6_draw cX6_draw 1 (some .int), Cond.constantLong RX6 101 (1103515245), Cond.constantLong RX6 103 (12345), Cond.constantLong RX6 105 (2147483648), Cond.constant RX6 107 (65536)]
def wsL_law_r9 : List Cond := [Cond.methodLink RX6 120 yX6_doCast, Cond.instanceMethod yX6_doCast, Cond.selects RX6 yX6_doCast yX6_doCast, Cond.code yX6_doCast cX6_doCast 2 none, Cond.methodLink RL 28 yX5_move, Cond.instanceMethod yX5_move, Cond.selects RX5 yX5_move yX5_move, Cond.code yX5_move cX5_move 3 (some .int), Cond.instanceMethod yX1_reason, Cond.selects RX1 yX1_reason yX1_reason, Cond.code yX1_reason cX1_reason 6 (some .int), Cond.instanceMethod yX0_target, Cond.selects RX0 yX0_target yX0_target, Cond.code yX0_target cX0_target 6 (some .int), Cond.methodLink RX0 52 yX0_isFallenAt, Cond.instanceMethod yX0_isFallenAt, Cond.selects RX0 yX0_isFallenAt yX0_isFallenAt, Cond.code yX0_isFallenAt cX0_isFallenAt 4 (some .boolean), Cond.static yX5_ringField, Cond.code yX5_ringField cX5_ringField 2 (some .int), Cond.static yX5_bridgeOn, Cond.code yX5_bridgeOn cX5_bridgeOn 1 (some .int), Cond.instanceMethod yX0_isBlockedOnWay, Cond.selects RX0 yX0_isBlockedOnWay yX0_isBlockedOnWay]
def wsL_law_r10 : List Cond := [Cond.code yX0_isBlockedOnWay cX0_isBlockedOnWay 6 (some .boolean), Cond.methodLink RX0 45 yX0_rivalsAt, Cond.instanceMethod yX0_rivalsAt, Cond.selects RX0 yX0_rivalsAt yX0_rivalsAt, Cond.code yX0_rivalsAt cX0_rivalsAt 6 (some .int), Cond.instanceMethod yX0_isFullFor, Cond.selects RX0 yX0_isFullFor yX0_isFullFor, Cond.code yX0_isFullFor cX0_isFullFor 3 (some .boolean), Cond.methodLink RX0 42 yX0_matesAt, Cond.instanceMethod yX0_matesAt, Cond.selects RX0 yX0_matesAt yX0_matesAt, Cond.code yX0_matesAt cX0_matesAt 6 (some .int), Cond.static yX5_isSafe, Cond.code yX5_isSafe cX5_isSafe 1 (some .boolean), Cond.instanceMethod yX1_moveByThrow, Cond.selects RX1 yX1_moveByThrow yX1_moveByThrow, Cond.code yX1_moveByThrow cX1_moveByThrow 3 (some .int), Cond.instanceMethod yX0_sendRivalsBack, Cond.selects RX0 yX0_sendRivalsBack yX0_sendRivalsBack, Cond.code yX0_sendRivalsBack cX0_sendRivalsBack 5 none, Cond.instanceMethod yX0_place, Cond.selects RX0 yX0_place yX0_place, Cond.code yX0_place cX0_place 4 none, Cond.methodLink RX0 62 yX0_strainAndFall]
def wsL_law_r11 : List Cond := [Cond.instanceMethod yX0_strainAndFall, Cond.selects RX0 yX0_strainAndFall yX0_strainAndFall, Cond.code yX0_strainAndFall cX0_strainAndFall 4 none, Cond.methodLink RX0 66 yX0_piecesOn, Cond.instanceMethod yX0_piecesOn, Cond.selects RX0 yX0_piecesOn yX0_piecesOn, Cond.code yX0_piecesOn cX0_piecesOn 4 (some .int), Cond.methodLink RX1 112 yX1_endThrow, Cond.instanceMethod yX1_endThrow, Cond.selects RX1 yX1_endThrow yX1_endThrow, Cond.code yX1_endThrow cX1_endThrow 2 none, Cond.methodLink RX1 115 yX1_isOver, Cond.methodLink RX1 119 yX1_beginTurn, Cond.instanceMethod yX1_beginTurn, Cond.selects RX1 yX1_beginTurn yX1_beginTurn, Cond.code yX1_beginTurn cX1_beginTurn 1 none, Cond.instanceMethod yX0_mend, Cond.selects RX0 yX0_mend yX0_mend, Cond.code yX0_mend cX0_mend 4 none, Cond.methodLink RL 31 yX6_move, Cond.instanceMethod yX6_move, Cond.selects RX6 yX6_move yX6_move, Cond.code yX6_move cX6_move 3 (some .int), Cond.methodLink RX6 88 yX6_whyNot]
def wsL_law_r12 : List Cond := [Cond.instanceMethod yX6_whyNot, Cond.selects RX6 yX6_whyNot yX6_whyNot, Cond.code yX6_whyNot cX6_whyNot 7 (some .int), Cond.fieldLink RX6 78 "BridgedPachisiModel" "goal" "I", Cond.methodLink RX6 74 yX6_stepOn, Cond.instanceMethod yX6_stepOn, Cond.selects RX6 yX6_stepOn yX6_stepOn, Cond.code yX6_stepOn cX6_stepOn 8 (some .int), Cond.methodLink RX6 36 yX6_fieldAt, Cond.static yX6_fieldAt, Cond.code yX6_fieldAt cX6_fieldAt 2 (some .int), Cond.methodLink RX6 71 yX6_isFallen, Cond.instanceMethod yX6_isFallen, Cond.selects RX6 yX6_isFallen yX6_isFallen, Cond.code yX6_isFallen cX6_isFallen 2 (some .boolean), Cond.methodLink RX6 40 yX6_isBridge, Cond.static yX6_isBridge, Cond.code yX6_isBridge cX6_isBridge 1 (some .boolean), Cond.methodLink RX6 81 yX6_isBlocked, Cond.instanceMethod yX6_isBlocked, Cond.selects RX6 yX6_isBlocked yX6_isBlocked, Cond.code yX6_isBlocked cX6_isBlocked 5 (some .boolean), Cond.methodLink RX6 48 yX6_piecesOn, Cond.instanceMethod yX6_piecesOn]
def wsL_law_r13 : List Cond := [Cond.selects RX6 yX6_piecesOn yX6_piecesOn, Cond.code yX6_piecesOn cX6_piecesOn 5 (some .int), Cond.methodLink RX6 44 yX6_fieldOf, Cond.instanceMethod yX6_fieldOf, Cond.selects RX6 yX6_fieldOf yX6_fieldOf, Cond.code yX6_fieldOf cX6_fieldOf 2 (some .int), Cond.methodLink RX6 85 yX6_isSafe, Cond.static yX6_isSafe, Cond.code yX6_isSafe cX6_isSafe 1 (some .boolean), Cond.methodLink RX6 61 yX6_allOn, Cond.instanceMethod yX6_allOn, Cond.selects RX6 yX6_allOn yX6_allOn, Cond.code yX6_allOn cX6_allOn 4 (some .int), Cond.methodLink RX6 124 yX6_doMove, Cond.instanceMethod yX6_doMove, Cond.selects RX6 yX6_doMove yX6_doMove, Cond.code yX6_doMove cX6_doMove 4 none, Cond.methodLink RX6 91 yX6_otherOn, Cond.instanceMethod yX6_otherOn, Cond.selects RX6 yX6_otherOn yX6_otherOn, Cond.code yX6_otherOn cX6_otherOn 5 (some .int), Cond.methodLink RX6 94 yX6_lookAtBridges, Cond.instanceMethod yX6_lookAtBridges, Cond.selects RX6 yX6_lookAtBridges yX6_lookAtBridges]
def wsL_law_r14 : List Cond := [Cond.code yX6_lookAtBridges cX6_lookAtBridges 3 none, Cond.methodLink RX6 58 yX6_isPairOn, Cond.instanceMethod yX6_isPairOn, Cond.selects RX6 yX6_isPairOn yX6_isPairOn, Cond.code yX6_isPairOn cX6_isPairOn 4 (some .boolean), Cond.methodLink RX6 128 yX6_goOn, Cond.instanceMethod yX6_goOn, Cond.selects RX6 yX6_goOn yX6_goOn, Cond.code yX6_goOn cX6_goOn 3 none, Cond.methodLink RL 32 yX5_skip, Cond.instanceMethod yX5_skip, Cond.selects RX5 yX5_skip yX5_skip, Cond.code yX5_skip cX5_skip 1 (some .int), Cond.instanceMethod yX1_canMoveBy, Cond.selects RX1 yX1_canMoveBy yX1_canMoveBy, Cond.code yX1_canMoveBy cX1_canMoveBy 3 (some .boolean), Cond.methodLink RX1 81 yX1_reason, Cond.methodLink RL 35 yX6_skip, Cond.instanceMethod yX6_skip, Cond.selects RX6 yX6_skip yX6_skip, Cond.code yX6_skip cX6_skip 1 (some .int), Cond.methodLink RX6 131 yX6_canMove, Cond.instanceMethod yX6_canMove, Cond.selects RX6 yX6_canMove yX6_canMove]
def wsL_law_r15 : List Cond := [Cond.code yX6_canMove cX6_canMove 4 (some .boolean), Cond.methodLink RL 36 yX5_play, Cond.instanceMethod yX5_play, Cond.selects RX5 yX5_play yX5_play, Cond.code yX5_play cX5_play 2 (some .int), Cond.instanceMethod yX1_playOn, Cond.selects RX1 yX1_playOn yX1_playOn, Cond.code yX1_playOn cX1_playOn 4 (some .int), Cond.methodLink RX1 125 yX1_throwByX, Cond.methodLink RX1 128 yX1_bestPiece, Cond.instanceMethod yX1_bestPiece, Cond.selects RX1 yX1_bestPiece yX1_bestPiece, Cond.code yX1_bestPiece cX1_bestPiece 5 (some .int), Cond.methodLink RX1 84 yX1_worthOfMove, Cond.instanceMethod yX1_worthOfMove, Cond.selects RX1 yX1_worthOfMove yX1_worthOfMove, Cond.code yX1_worthOfMove cX1_worthOfMove 5 (some .int), Cond.static yX5_isOnRing, Cond.code yX5_isOnRing cX5_isOnRing 1 (some .boolean), Cond.methodLink RX1 131 yX1_moveByThrow, Cond.methodLink RL 39 yX6_play, Cond.instanceMethod yX6_play, Cond.selects RX6 yX6_play yX6_play, Cond.code yX6_play cX6_play 2 (some .int)]
def wsL_law_r16 : List Cond := [Cond.methodLink RX6 137 yX6_doPlay, Cond.instanceMethod yX6_doPlay, Cond.selects RX6 yX6_doPlay yX6_doPlay, Cond.code yX6_doPlay cX6_doPlay 4 (some .int), Cond.methodLink RX6 134 yX6_bestPiece, Cond.instanceMethod yX6_bestPiece, Cond.selects RX6 yX6_bestPiece yX6_bestPiece, Cond.code yX6_bestPiece cX6_bestPiece 6 (some .int), Cond.methodLink RX6 161 yX6_kindOf, Cond.instanceMethod yX6_kindOf, Cond.selects RX6 yX6_kindOf yX6_kindOf, Cond.code yX6_kindOf cX6_kindOf 6 (some .int), Cond.methodLink RL 40 yX5_read, Cond.instanceMethod yX5_read, Cond.selects RX5 yX5_read yX5_read, Cond.code yX5_read cX5_read 2 (some .int), Cond.instanceMethod yX3_faultIndex, Cond.selects RX3 yX3_faultIndex yX3_faultIndex, Cond.code yX3_faultIndex cX3_faultIndex 2 (some .int), Cond.methodLink RX3 21 yX3_isCast, Cond.static yX3_isCast, Cond.code yX3_isCast cX3_isCast 1 (some .boolean), Cond.methodLink RX3 25 yX3_isPieceOrPass, Cond.static yX3_isPieceOrPass]
def wsL_law_r17 : List Cond := [Cond.code yX3_isPieceOrPass cX3_isPieceOrPass 1 (some .boolean), Cond.instanceMethod yX3_moves, Cond.selects RX3 yX3_moves yX3_moves, Cond.code yX3_moves cX3_moves 1 (some .int), Cond.instanceMethod yX3_castOfMove, Cond.selects RX3 yX3_castOfMove yX3_castOfMove, Cond.code yX3_castOfMove cX3_castOfMove 2 (some .int), Cond.instanceMethod yX3_pieceOfMove, Cond.selects RX3 yX3_pieceOfMove yX3_pieceOfMove, Cond.code yX3_pieceOfMove cX3_pieceOfMove 3 (some .int), Cond.instanceMethod yX1_makeMove, Cond.selects RX1 yX1_makeMove yX1_makeMove, Cond.code yX1_makeMove cX1_makeMove 4 (some .boolean), Cond.methodLink RX1 134 yX1_canMoveBy, Cond.methodLink RL 43 yX6_read, Cond.instanceMethod yX6_read, Cond.selects RX6 yX6_read yX6_read, Cond.code yX6_read cX6_read 6 (some .int), Cond.fieldLink RX6 143 "BridgedPachisiModel" "length" "I", Cond.methodLink RX6 140 yX6_findFault, Cond.instanceMethod yX6_findFault, Cond.selects RX6 yX6_findFault yX6_findFault, Cond.code yX6_findFault cX6_findFault 3 (some .int), Cond.methodLink RL 44 yX5_lay]
def wsL_law_r18 : List Cond := [Cond.instanceMethod yX5_lay, Cond.selects RX5 yX5_lay yX5_lay, Cond.code yX5_lay cX5_lay 4 (some .int), Cond.methodLink RX5 116 yX5_isNoPiece, Cond.static yX5_isNoPiece, Cond.code yX5_isNoPiece cX5_isNoPiece 1 (some .boolean), Cond.instanceMethod yX0_hasRoomFor, Cond.selects RX0 yX0_hasRoomFor yX0_hasRoomFor, Cond.code yX0_hasRoomFor cX0_hasRoomFor 4 (some .boolean), Cond.methodLink RX0 48 yX0_isFullFor, Cond.methodLink RL 47 yX6_lay, Cond.instanceMethod yX6_lay, Cond.selects RX6 yX6_lay yX6_lay, Cond.code yX6_lay cX6_lay 7 (some .int), Cond.methodLink RX6 146 yX6_isPiece, Cond.static yX6_isPiece, Cond.code yX6_isPiece cX6_isPiece 1 (some .boolean), Cond.methodLink RL 48 yX5_piece, Cond.instanceMethod yX5_piece, Cond.selects RX5 yX5_piece yX5_piece, Cond.code yX5_piece cX5_piece 3 (some .int), Cond.instanceMethod yX0_fieldOf, Cond.selects RX0 yX0_fieldOf yX0_fieldOf, Cond.code yX0_fieldOf cX0_fieldOf 2 (some .int)]
def wsL_law_r19 : List Cond := [Cond.instanceMethod yX0_isInPair, Cond.selects RX0 yX0_isInPair yX0_isInPair, Cond.code yX0_isInPair cX0_isInPair 2 (some .boolean), Cond.methodLink RL 51 yX6_piece, Cond.instanceMethod yX6_piece, Cond.selects RX6 yX6_piece yX6_piece, Cond.code yX6_piece cX6_piece 3 (some .int), Cond.methodLink RL 52 yX5_field, Cond.instanceMethod yX5_field, Cond.selects RX5 yX5_field yX5_field, Cond.code yX5_field cX5_field 3 (some .int), Cond.instanceMethod yX0_lowestOn, Cond.selects RX0 yX0_lowestOn yX0_lowestOn, Cond.code yX0_lowestOn cX0_lowestOn 3 (some .int), Cond.methodLink RX5 153 yX5_isSafe, Cond.instanceMethod yX0_bridgeState, Cond.selects RX0 yX0_bridgeState yX0_bridgeState, Cond.code yX0_bridgeState cX0_bridgeState 3 (some .int), Cond.instanceMethod yX1_turnsUntilMended, Cond.selects RX1 yX1_turnsUntilMended yX1_turnsUntilMended, Cond.code yX1_turnsUntilMended cX1_turnsUntilMended 3 (some .int), Cond.methodLink RX1 146 Lib.Math.max.name, Cond.static Lib.Math.max.name, Cond.code Lib.Math.max.name Lib.Math.max.code 2 (some .int)]
def wsL_law_r20 : List Cond := [Cond.methodLink RL 55 yX6_field, Cond.instanceMethod yX6_field, Cond.selects RX6 yX6_field yX6_field, Cond.code yX6_field cX6_field 3 (some .int), Cond.methodLink RX6 149 yX6_lowestOn, Cond.instanceMethod yX6_lowestOn, Cond.selects RX6 yX6_lowestOn yX6_lowestOn, Cond.code yX6_lowestOn cX6_lowestOn 4 (some .int), Cond.methodLink RX6 152 yX6_bridgeOn, Cond.instanceMethod yX6_bridgeOn, Cond.selects RX6 yX6_bridgeOn yX6_bridgeOn, Cond.code yX6_bridgeOn cX6_bridgeOn 3 (some .int), Cond.methodLink RX6 155 yX6_mendedIn, Cond.instanceMethod yX6_mendedIn, Cond.selects RX6 yX6_mendedIn yX6_mendedIn, Cond.code yX6_mendedIn cX6_mendedIn 3 (some .int), Cond.methodLink RL 56 yX5_why, Cond.instanceMethod yX5_why, Cond.selects RX5 yX5_why yX5_why, Cond.code yX5_why cX5_why 3 (some .int), Cond.methodLink RL 59 yX6_why, Cond.instanceMethod yX6_why, Cond.selects RX6 yX6_why yX6_why, Cond.code yX6_why cX6_why 3 (some .int)]
def wsL_law_r21 : List Cond := [Cond.methodLink RL 60 yX5_count, Cond.instanceMethod yX5_count, Cond.selects RX5 yX5_count yX5_count, Cond.code yX5_count cX5_count 2 (some .int), Cond.instanceMethod yX0_sentBackInAll, Cond.selects RX0 yX0_sentBackInAll yX0_sentBackInAll, Cond.code yX0_sentBackInAll cX0_sentBackInAll 3 (some .int), Cond.instanceMethod yX0_fallenSet, Cond.selects RX0 yX0_fallenSet yX0_fallenSet, Cond.code yX0_fallenSet cX0_fallenSet 3 (some .int), Cond.methodLink RL 63 yX6_count, Cond.instanceMethod yX6_count, Cond.selects RX6 yX6_count yX6_count, Cond.code yX6_count cX6_count 2 (some .int), Cond.methodLink RX6 158 yX6_fallenBridges, Cond.instanceMethod yX6_fallenBridges, Cond.selects RX6 yX6_fallenBridges yX6_fallenBridges, Cond.code yX6_fallenBridges cX6_fallenBridges 3 (some .int), Cond.methodLink RL 64 yX5_best, Cond.instanceMethod yX5_best, Cond.selects RX5 yX5_best yX5_best, Cond.code yX5_best cX5_best 2 (some .int), Cond.methodLink RL 67 yX6_best, Cond.instanceMethod yX6_best]
def wsL_law_r22 : List Cond := [Cond.selects RX6 yX6_best yX6_best, Cond.code yX6_best cX6_best 1 (some .int), Cond.methodLink RL 68 yX5_needs, Cond.instanceMethod yX5_needs, Cond.selects RX5 yX5_needs yX5_needs, Cond.code yX5_needs cX5_needs 7 (some .int), Cond.instanceMethod yX4_fromHomeOn, Cond.selects RX4 yX4_fromHomeOn yX4_fromHomeOn, Cond.code yX4_fromHomeOn cX4_fromHomeOn 8 (some .int), Cond.methodLink RX4 21 Lib.Math.min.name, Cond.instanceMethod yX4_goingWide, Cond.selects RX4 yX4_goingWide yX4_goingWide, Cond.code yX4_goingWide cX4_goingWide 5 (some .int), Cond.methodLink RX4 27 yX4_widen, Cond.instanceMethod yX4_widen, Cond.selects RX4 yX4_widen yX4_widen, Cond.code yX4_widen cX4_widen 7 none, Cond.methodLink RL 71 yX6_needs, Cond.instanceMethod yX6_needs, Cond.selects RX6 yX6_needs yX6_needs, Cond.code yX6_needs cX6_needs 3 (some .int), Cond.methodLink RX6 164 yX6_throwsNeeded, Cond.instanceMethod yX6_throwsNeeded, Cond.selects RX6 yX6_throwsNeeded yX6_throwsNeeded]
def wsL_law_r23 : List Cond := [Cond.code yX6_throwsNeeded cX6_throwsNeeded 6 (some .int), Cond.methodLink RL 72 yX5_nextCast, Cond.instanceMethod yX5_nextCast, Cond.selects RX5 yX5_nextCast yX5_nextCast, Cond.code yX5_nextCast cX5_nextCast 4 (some .int), Cond.methodLink RX5 193 yX5_nextX, Cond.methodLink RX5 196 yX5_castOf, Cond.methodLink RL 75 yX6_nextCast, Cond.instanceMethod yX6_nextCast, Cond.selects RX6 yX6_nextCast yX6_nextCast, Cond.code yX6_nextCast cX6_nextCast 5 (some .int), Cond.methodLink RL 76 yX5_untilOver, Cond.instanceMethod yX5_untilOver, Cond.selects RX5 yX5_untilOver yX5_untilOver, Cond.code yX5_untilOver cX5_untilOver 2 (some .int), Cond.methodLink RL 79 yX6_untilOver, Cond.instanceMethod yX6_untilOver, Cond.selects RX6 yX6_untilOver yX6_untilOver, Cond.code yX6_untilOver cX6_untilOver 3 (some .int), Cond.methodLink RX6 167 yX6_putAside, Cond.instanceMethod yX6_putAside, Cond.selects RX6 yX6_putAside yX6_putAside, Cond.code yX6_putAside cX6_putAside 2 none, Cond.methodLink RX6 170 yX6_putBack]
def wsL_law_r24 : List Cond := [Cond.instanceMethod yX6_putBack, Cond.selects RX6 yX6_putBack yX6_putBack, Cond.code yX6_putBack cX6_putBack 2 none, Cond.methodLink RL 82 yX5_put, Cond.instanceMethod yX5_put, Cond.selects RX5 yX5_put yX5_put, Cond.code yX5_put cX5_put 4 (some .int), Cond.methodLink RX5 202 yX5_lengthOf, Cond.static yX5_lengthOf, Cond.code yX5_lengthOf cX5_lengthOf 7 (some .int), Cond.constantLong RX5 221 (255), Cond.constantLong RX5 223 (33), Cond.constantLong RX5 225 (126), Cond.instanceMethod yX3_append, Cond.selects RX3 yX3_append yX3_append, Cond.code yX3_append cX3_append 5 none, Cond.constantLong RX3 19 (255), Cond.methodLink RL 86 yX6_put, Cond.instanceMethod yX6_put, Cond.selects RX6 yX6_put yX6_put, Cond.code yX6_put cX6_put 8 (some .int), Cond.constantLong RX6 173 (255), Cond.methodLink RL 87 yX5_wipe, Cond.instanceMethod yX5_wipe]
def wsL_law_r25 : List Cond := [Cond.selects RX5 yX5_wipe yX5_wipe, Cond.code yX5_wipe cX5_wipe 2 (some .int), Cond.methodLink RL 90 yX6_wipe, Cond.instanceMethod yX6_wipe, Cond.selects RX6 yX6_wipe yX6_wipe, Cond.code yX6_wipe cX6_wipe 2 (some .int), Cond.methodLink RL 91 yX5_fault, Cond.instanceMethod yX5_fault, Cond.selects RX5 yX5_fault yX5_fault, Cond.code yX5_fault cX5_fault 1 (some .int), Cond.methodLink RL 94 yX6_fault, Cond.instanceMethod yX6_fault, Cond.selects RX6 yX6_fault yX6_fault, Cond.code yX6_fault cX6_fault 1 (some .int), Cond.methodLink RL 95 yX5_undo, Cond.instanceMethod yX5_undo, Cond.selects RX5 yX5_undo yX5_undo, Cond.code yX5_undo cX5_undo 1 (some .int), Cond.instanceMethod yX2_takeBack, Cond.selects RX2 yX2_takeBack yX2_takeBack, Cond.code yX2_takeBack cX2_takeBack 4 (some .boolean), Cond.methodLink RL 98 yX6_undo, Cond.instanceMethod yX6_undo, Cond.selects RX6 yX6_undo yX6_undo]
def wsL_law_r26 : List Cond := [Cond.code yX6_undo cX6_undo 2 (some .int), Cond.methodLink RL 99 yX5_save, Cond.instanceMethod yX5_save, Cond.selects RX5 yX5_save yX5_save, Cond.code yX5_save cX5_save 3 (some .int), Cond.methodLink RL 102 yX6_save, Cond.instanceMethod yX6_save, Cond.selects RX6 yX6_save yX6_save, Cond.code yX6_save cX6_save 3 (some .int), Cond.methodLink RL 103 yX5_restore, Cond.instanceMethod yX5_restore, Cond.selects RX5 yX5_restore yX5_restore, Cond.code yX5_restore cX5_restore 3 (some .int), Cond.methodLink RL 106 yX6_restore, Cond.instanceMethod yX6_restore, Cond.selects RX6 yX6_restore yX6_restore, Cond.code yX6_restore cX6_restore 3 (some .int)]
def wsL_law : List Cond := (wsL_law_r1 ++ (wsL_law_r2 ++ (wsL_law_r3 ++ (wsL_law_r4 ++ (wsL_law_r5 ++ (wsL_law_r6 ++ (wsL_law_r7 ++ (wsL_law_r8 ++ (wsL_law_r9 ++ (wsL_law_r10 ++ (wsL_law_r11 ++ (wsL_law_r12 ++ (wsL_law_r13 ++ (wsL_law_r14 ++ (wsL_law_r15 ++ (wsL_law_r16 ++ (wsL_law_r17 ++ (wsL_law_r18 ++ (wsL_law_r19 ++ (wsL_law_r20 ++ (wsL_law_r21 ++ (wsL_law_r22 ++ (wsL_law_r23 ++ (wsL_law_r24 ++ (wsL_law_r25 ++ wsL_law_r26))))))))))))))))))))))))) ++ wsX50 ++ wsX60 ++ wsX10 ++ wsX40 ++ wsX30 ++ wsX20 ++ wsX00 ++ ([] : List Cond)
set_option maxRecDepth 20000 in
theorem wsL_law_r1_in : GoodIn lw_tbl wsL_law_r1 := goodIn_r _ [87, 88, 78, 572, 573, 85, 848, 89, 90, 91, 92, 93, 94, 95, 96, 79, 208, 209, 164, 165, 82, 210, 174, 175] (by decide +kernel) (by decide +kernel)
set_option maxRecDepth 20000 in
theorem wsL_law_r2_in : GoodIn lw_tbl wsL_law_r2 := goodIn_r _ [83, 211, 189, 190, 84, 212, 213, 98, 99, 100, 101, 102, 80, 135, 129, 137, 139, 141, 143, 145, 147, 132, 134, 133] (by decide +kernel) (by decide +kernel)
set_option maxRecDepth 20000 in
theorem wsL_law_r3_in : GoodIn lw_tbl wsL_law_r3 := goodIn_r _ [81, 104, 105, 106, 107, 110, 112, 114, 116, 167, 168, 169, 170, 177, 178, 179, 188, 180, 181, 192, 193, 194, 195, 197] (by decide +kernel) (by decide +kernel)
set_option maxRecDepth 20000 in
theorem wsL_law_r4_in : GoodIn lw_tbl wsL_law_r4 := goodIn_r _ [198, 199, 574, 575, 576, 577, 578, 579, 580, 582, 609, 583, 584, 587, 227, 228, 229, 230, 231, 233, 237, 0, 238, 249] (by decide +kernel) (by decide +kernel)
set_option maxRecDepth 20000 in
theorem wsL_law_r5_in : GoodIn lw_tbl wsL_law_r5 := goodIn_r _ [250, 86, 251, 242, 1, 243, 246, 2, 247, 248, 629, 630, 631, 632, 618, 619, 620, 633, 634, 635, 636, 637, 638, 625] (by decide +kernel) (by decide +kernel)
set_option maxRecDepth 20000 in
theorem wsL_law_r6_in : GoodIn lw_tbl wsL_law_r6 := goodIn_r _ [627, 46, 628, 581, 252, 253, 254, 255, 639, 640, 641, 642, 256, 257, 258, 259, 262, 3, 263, 266, 4, 267, 268, 270] (by decide +kernel) (by decide +kernel)
set_option maxRecDepth 20000 in
theorem wsL_law_r7_in : GoodIn lw_tbl wsL_law_r7 := goodIn_r _ [5, 271, 274, 6, 275, 278, 7, 279, 281, 282, 283, 284, 285, 287, 288, 289, 290, 292, 8, 293, 643, 644, 645, 646] (by decide +kernel) (by decide +kernel)
set_option maxRecDepth 20000 in
theorem wsL_law_r8_in : GoodIn lw_tbl wsL_law_r8 := goodIn_r _ [647, 649, 47, 650, 651, 653, 48, 654, 655, 657, 49, 658, 659, 661, 50, 662, 663, 665, 51, 666, 667, 668, 669, 670] (by decide +kernel) (by decide +kernel)
set_option maxRecDepth 20000 in
theorem wsL_law_r9_in : GoodIn lw_tbl wsL_law_r9 := goodIn_r _ [671, 673, 52, 674, 294, 295, 296, 297, 300, 9, 301, 304, 10, 305, 306, 308, 11, 309, 311, 312, 314, 315, 318, 12] (by decide +kernel) (by decide +kernel)
set_option maxRecDepth 20000 in
theorem wsL_law_r10_in : GoodIn lw_tbl wsL_law_r10 := goodIn_r _ [319, 320, 322, 13, 323, 326, 14, 327, 328, 330, 15, 331, 334, 335, 339, 16, 340, 343, 17, 344, 347, 18, 348, 349] (by decide +kernel) (by decide +kernel)
set_option maxRecDepth 20000 in
theorem wsL_law_r11_in : GoodIn lw_tbl wsL_law_r11 := goodIn_r _ [351, 19, 352, 353, 355, 20, 356, 357, 359, 21, 360, 361, 362, 364, 22, 365, 368, 23, 369, 675, 676, 677, 678, 679] (by decide +kernel) (by decide +kernel)
set_option maxRecDepth 20000 in
theorem wsL_law_r12_in : GoodIn lw_tbl wsL_law_r12 := goodIn_r _ [681, 53, 682, 586, 683, 685, 54, 686, 687, 688, 689, 690, 692, 55, 693, 694, 695, 696, 697, 699, 56, 700, 701, 703] (by decide +kernel) (by decide +kernel)
set_option maxRecDepth 20000 in
theorem wsL_law_r13_in : GoodIn lw_tbl wsL_law_r13 := goodIn_r _ [57, 704, 705, 707, 58, 708, 709, 710, 711, 712, 714, 59, 715, 716, 718, 60, 719, 720, 722, 61, 723, 724, 726, 62] (by decide +kernel) (by decide +kernel)
set_option maxRecDepth 20000 in
theorem wsL_law_r14_in : GoodIn lw_tbl wsL_law_r14 := goodIn_r _ [727, 728, 730, 63, 731, 732, 734, 64, 735, 370, 371, 372, 373, 376, 24, 377, 378, 736, 737, 738, 739, 740, 742, 65] (by decide +kernel) (by decide +kernel)
set_option maxRecDepth 20000 in
theorem wsL_law_r15_in : GoodIn lw_tbl wsL_law_r15 := goodIn_r _ [743, 380, 381, 382, 383, 386, 25, 387, 388, 389, 391, 26, 392, 393, 395, 27, 396, 398, 399, 401, 744, 745, 746, 747] (by decide +kernel) (by decide +kernel)
set_option maxRecDepth 20000 in
theorem wsL_law_r16_in : GoodIn lw_tbl wsL_law_r16 := goodIn_r _ [748, 750, 66, 751, 752, 754, 67, 755, 756, 758, 68, 759, 402, 403, 404, 405, 408, 28, 409, 410, 411, 412, 413, 414] (by decide +kernel) (by decide +kernel)
set_option maxRecDepth 20000 in
theorem wsL_law_r17_in : GoodIn lw_tbl wsL_law_r17 := goodIn_r _ [415, 418, 29, 419, 422, 30, 423, 426, 31, 427, 430, 32, 431, 432, 760, 761, 762, 763, 585, 764, 766, 69, 767, 433] (by decide +kernel) (by decide +kernel)
set_option maxRecDepth 20000 in
theorem wsL_law_r18_in : GoodIn lw_tbl wsL_law_r18 := goodIn_r _ [434, 435, 436, 437, 438, 439, 442, 33, 443, 444, 768, 769, 770, 771, 772, 773, 774, 446, 447, 448, 449, 452, 34, 453] (by decide +kernel) (by decide +kernel)
set_option maxRecDepth 20000 in
theorem wsL_law_r19_in : GoodIn lw_tbl wsL_law_r19 := goodIn_r _ [456, 35, 457, 775, 776, 777, 778, 459, 460, 461, 462, 466, 36, 467, 468, 471, 37, 472, 475, 38, 476, 478, 479, 480] (by decide +kernel) (by decide +kernel)
set_option maxRecDepth 20000 in
theorem wsL_law_r20_in : GoodIn lw_tbl wsL_law_r20 := goodIn_r _ [779, 780, 781, 782, 783, 785, 70, 786, 787, 789, 71, 790, 791, 793, 72, 794, 481, 482, 483, 484, 795, 796, 797, 798] (by decide +kernel) (by decide +kernel)
set_option maxRecDepth 20000 in
theorem wsL_law_r21_in : GoodIn lw_tbl wsL_law_r21 := goodIn_r _ [485, 486, 487, 488, 493, 39, 494, 497, 40, 498, 799, 800, 801, 802, 803, 805, 73, 806, 499, 500, 501, 502, 807, 808] (by decide +kernel) (by decide +kernel)
set_option maxRecDepth 20000 in
theorem wsL_law_r22_in : GoodIn lw_tbl wsL_law_r22 := goodIn_r _ [809, 810, 504, 505, 506, 507, 510, 41, 511, 513, 516, 42, 517, 518, 520, 43, 521, 811, 812, 813, 814, 815, 817, 74] (by decide +kernel) (by decide +kernel)
set_option maxRecDepth 20000 in
theorem wsL_law_r23_in : GoodIn lw_tbl wsL_law_r23 := goodIn_r _ [818, 522, 523, 524, 525, 526, 527, 819, 820, 821, 822, 528, 529, 530, 531, 823, 824, 825, 826, 827, 829, 75, 830, 831] (by decide +kernel) (by decide +kernel)
set_option maxRecDepth 20000 in
theorem wsL_law_r24_in : GoodIn lw_tbl wsL_law_r24 := goodIn_r _ [833, 76, 834, 533, 534, 535, 536, 537, 538, 539, 540, 541, 542, 545, 44, 546, 547, 835, 836, 837, 838, 839, 548, 549] (by decide +kernel) (by decide +kernel)
set_option maxRecDepth 20000 in
theorem wsL_law_r25_in : GoodIn lw_tbl wsL_law_r25 := goodIn_r _ [550, 551, 840, 841, 842, 843, 552, 553, 554, 555, 844, 845, 846, 847, 556, 557, 558, 559, 562, 45, 563, 610, 611, 612] (by decide +kernel) (by decide +kernel)
set_option maxRecDepth 20000 in
theorem wsL_law_r26_in : GoodIn lw_tbl wsL_law_r26 := goodIn_r _ [613, 564, 565, 566, 567, 614, 615, 616, 617, 568, 569, 570, 571, 621, 622, 623, 624] (by decide +kernel) (by decide +kernel)
set_option maxRecDepth 20000 in
theorem wsX50_in : GoodIn lw_tbl wsX50 := goodIn_p _ [] rfl (by decide +kernel)
set_option maxRecDepth 20000 in
theorem wsX60_in : GoodIn lw_tbl wsX60 := goodIn_p _ [] rfl (by decide +kernel)
set_option maxRecDepth 20000 in
theorem wsX10_in : GoodIn lw_tbl wsX10 := goodIn_p _ [] rfl (by decide +kernel)
set_option maxRecDepth 20000 in
theorem wsX40_in : GoodIn lw_tbl wsX40 := goodIn_p _ [] rfl (by decide +kernel)
set_option maxRecDepth 20000 in
theorem wsX30_in : GoodIn lw_tbl wsX30 := goodIn_p _ [] rfl (by decide +kernel)
set_option maxRecDepth 20000 in
theorem wsX20_in : GoodIn lw_tbl wsX20 := goodIn_p _ [] rfl (by decide +kernel)
set_option maxRecDepth 20000 in
theorem wsX00_in : GoodIn lw_tbl wsX00 := goodIn_p _ [] rfl (by decide +kernel)
theorem wsL_law_in : ∀ w ∈ wsL_law, w ∈ lw_tbl := fun w h => ((goodIn_app (goodIn_app (goodIn_app (goodIn_app (goodIn_app (goodIn_app (goodIn_app (goodIn_app (goodIn_app wsL_law_r1_in (goodIn_app wsL_law_r2_in (goodIn_app wsL_law_r3_in (goodIn_app wsL_law_r4_in (goodIn_app wsL_law_r5_in (goodIn_app wsL_law_r6_in (goodIn_app wsL_law_r7_in (goodIn_app wsL_law_r8_in (goodIn_app wsL_law_r9_in (goodIn_app wsL_law_r10_in (goodIn_app wsL_law_r11_in (goodIn_app wsL_law_r12_in (goodIn_app wsL_law_r13_in (goodIn_app wsL_law_r14_in (goodIn_app wsL_law_r15_in (goodIn_app wsL_law_r16_in (goodIn_app wsL_law_r17_in (goodIn_app wsL_law_r18_in (goodIn_app wsL_law_r19_in (goodIn_app wsL_law_r20_in (goodIn_app wsL_law_r21_in (goodIn_app wsL_law_r22_in (goodIn_app wsL_law_r23_in (goodIn_app wsL_law_r24_in (goodIn_app wsL_law_r25_in wsL_law_r26_in))))))))))))))))))))))))) wsX50_in) wsX60_in) wsX10_in) wsX40_in) wsX30_in) wsX20_in) wsX00_in) (fun _ h => absurd h List.not_mem_nil)) w h).1
theorem inlX0 : ∀ w ∈ wsX00, w ∈ wsL_law := fun _ h => List.mem_append_left _ (List.mem_append_right _ h)
theorem inX0 : ∀ w ∈ wsX00, w ∈ lw_tbl := fun w h => wsL_law_in w (inlX0 w h)
theorem inlX1 : ∀ w ∈ wsX10, w ∈ wsL_law := fun _ h => List.mem_append_left _ (List.mem_append_left _ (List.mem_append_left _ (List.mem_append_left _ (List.mem_append_left _ (List.mem_append_right _ h)))))
theorem inX1 : ∀ w ∈ wsX10, w ∈ lw_tbl := fun w h => wsL_law_in w (inlX1 w h)
theorem inlX2 : ∀ w ∈ wsX20, w ∈ wsL_law := fun _ h => List.mem_append_left _ (List.mem_append_left _ (List.mem_append_right _ h))
theorem inX2 : ∀ w ∈ wsX20, w ∈ lw_tbl := fun w h => wsL_law_in w (inlX2 w h)
theorem inlX3 : ∀ w ∈ wsX30, w ∈ wsL_law := fun _ h => List.mem_append_left _ (List.mem_append_left _ (List.mem_append_left _ (List.mem_append_right _ h)))
theorem inX3 : ∀ w ∈ wsX30, w ∈ lw_tbl := fun w h => wsL_law_in w (inlX3 w h)
theorem inlX4 : ∀ w ∈ wsX40, w ∈ wsL_law := fun _ h => List.mem_append_left _ (List.mem_append_left _ (List.mem_append_left _ (List.mem_append_left _ (List.mem_append_right _ h))))
theorem inX4 : ∀ w ∈ wsX40, w ∈ lw_tbl := fun w h => wsL_law_in w (inlX4 w h)
theorem inlX5 : ∀ w ∈ wsX50, w ∈ wsL_law := fun _ h => List.mem_append_left _ (List.mem_append_left _ (List.mem_append_left _ (List.mem_append_left _ (List.mem_append_left _ (List.mem_append_left _ (List.mem_append_left _ (List.mem_append_right _ h)))))))
theorem inX5 : ∀ w ∈ wsX50, w ∈ lw_tbl := fun w h => wsL_law_in w (inlX5 w h)
theorem inlX6 : ∀ w ∈ wsX60, w ∈ wsL_law := fun _ h => List.mem_append_left _ (List.mem_append_left _ (List.mem_append_left _ (List.mem_append_left _ (List.mem_append_left _ (List.mem_append_left _ (List.mem_append_right _ h))))))
theorem inX6 : ∀ w ∈ wsX60, w ∈ lw_tbl := fun w h => wsL_law_in w (inlX6 w h)
theorem inJ9 : ∀ w ∈ wsJ90, w ∈ lw_tbl := by decide +kernel
theorem inJ10 : ∀ w ∈ wsJ100, w ∈ lw_tbl := by decide +kernel
abbrev vwCl : List vw_C := [(RX0, TX0, 5), (RX1, TX1, 7), (RX2, TX2, 3), (RX3, TX3, 2), (RX4, TX4, 1), (RX5, TX5, 6), (RX6, TX6, 10)]
