/-! Names: objects, methods, their blocks, the words of the tables. Written by wip/gen/names.py. -/
abbrev AV : Type := Int ⊕ (Int64 ⊕ Nat)
abbrev AL : Type := List (Option AV)
abbrev Hp : Type := (Nat → Int → Int) × (Nat → Int → Int64)
/-- instruction, length, two numbers that the linking gives, a constant -/
abbrev CE : Type := Instr × Nat × Nat × Nat × Int
abbrev SR : Type := (Prop × List AV × AL × Hp) ⊕ ((Prop × Prop × Int × List AV) ⊕ ((Prop × List (Prop × Int) × List AV) ⊕ ((Prop × Nat × List AV × List AV) ⊕ (Prop × Option AV))))
def hostN : String := "MateArbiter"
def nC : Nat := 6
def nM : Nat := 131
def cnL : List String := ["MateArbiter", "MateArbiter$Position", "MateArbiter$Board", "MateArbiter$MoveRow", "MateArbiter$History", "MateArbiterModel", "MateArbiter$MoveFinder", "MateArbiter$StartRules", "java/util/Arrays", "MateArbiterLaw"]
def cn (c : Nat) : String := cnL.getD c ""
def FT0 : u_T := fun k => match k with
  | 0 => ("MateArbiter", "position", "LMateArbiter$Position;", true)
  | 1 => ("MateArbiter", "legalMoves", "LMateArbiter$MoveRow;", true)
  | 2 => ("MateArbiter", "scratch", "LMateArbiter$MoveRow;", true)
  | 3 => ("MateArbiter", "history", "LMateArbiter$History;", true)
  | _ => ("MateArbiter", "on", "Z", false)
def FT1 : u_T := fun k => match k with
  | 0 => ("MateArbiter$Position", "board", "LMateArbiter$Board;", true)
  | 1 => ("MateArbiter$Position", "kings", "[I", true)
  | 2 => ("MateArbiter$Position", "side", "I", false)
  | 3 => ("MateArbiter$Position", "rights", "I", false)
  | 4 => ("MateArbiter$Position", "passant", "I", false)
  | _ => ("MateArbiter$Position", "clock", "I", false)
def FT2 : u_T := fun k => match k with
  | _ => ("MateArbiter$Board", "cells", "[I", true)
def FT3 : u_T := fun k => match k with
  | 0 => ("MateArbiter$MoveRow", "codes", "[I", true)
  | _ => ("MateArbiter$MoveRow", "size", "I", false)
def FT4 : u_T := fun k => match k with
  | 0 => ("MateArbiter$History", "codes", "[I", true)
  | 1 => ("MateArbiter$History", "undos", "[I", true)
  | 2 => ("MateArbiter$History", "quarters", "[J", true)
  | 3 => ("MateArbiter$History", "marks", "[I", true)
  | _ => ("MateArbiter$History", "plies", "I", false)
def FT5 : u_T := fun k => match k with
  | 0 => ("MateArbiterModel", "board", "[I", true)
  | 1 => ("MateArbiterModel", "turn", "[I", true)
  | 2 => ("MateArbiterModel", "right", "[I", true)
  | 3 => ("MateArbiterModel", "pass", "[I", true)
  | 4 => ("MateArbiterModel", "on", "Z", false)
  | 5 => ("MateArbiterModel", "last", "I", false)
  | 6 => ("MateArbiterModel", "kept", "[J", true)
  | 7 => ("MateArbiterModel", "keptRight", "[B", true)
  | 8 => ("MateArbiterModel", "keptPass", "[B", true)
  | 9 => ("MateArbiterModel", "keptTake", "[B", true)
  | 10 => ("MateArbiterModel", "keptClock", "[S", true)
  | 11 => ("MateArbiterModel", "firstTurn", "I", false)
  | _ => ("MateArbiterModel", "still", "I", false)
def FT : Nat → u_T := fun c => match c with
  | 0 => FT0
  | 1 => FT1
  | 2 => FT2
  | 3 => FT3
  | 4 => FT4
  | _ => FT5
def nflL : List Nat := [5, 6, 1, 2, 5, 13]
def nfl (c : Nat) : Nat := nflL.getD c 0
def ftyL : List (List FieldType) := [[.object "MateArbiter$Position", .object "MateArbiter$MoveRow", .object "MateArbiter$MoveRow", .object "MateArbiter$History", .boolean], [.object "MateArbiter$Board", .array .int, .int, .int, .int, .int], [.array .int], [.array .int, .int], [.array .int, .array .int, .array .long, .array .int, .int], [.array .int, .array .int, .array .int, .array .int, .boolean, .int, .array .long, .array .byte, .array .byte, .array .byte, .array .short, .int, .int]]
def fty (c k : Nat) : FieldType := (ftyL.getD c []).getD k .int
def isZL : List (List Bool) := [[false, false, false, false, true], [false, false, false, false, false, false], [false], [false, false], [false, false, false, false, false], [false, false, false, false, true, false, false, false, false, false, false, false, false]]
def isZ (c k : Nat) : Bool := (isZL.getD c []).getD k false
def cls : List vw_C := [(cn 0, FT 0, nfl 0), (cn 1, FT 1, nfl 1), (cn 2, FT 2, nfl 2), (cn 3, FT 3, nfl 3), (cn 4, FT 4, nfl 4), (cn 5, FT 5, nfl 5)]
theorem f_cls : ∀ c, c < nC → cls[c]? = some (cn c, FT c, nfl c)
  | 0, _ => rfl
  | 1, _ => rfl
  | 2, _ => rfl
  | 3, _ => rfl
  | 4, _ => rfl
  | 5, _ => rfl
  | n + 6, h => absurd h (by unfold nC; omega)
/-- the objects by number: their kind (1 an object, 2 int[], 3 byte[], 4 short[], 5 long[], 6 a constant table, 7 the script), which of the made kinds or how long, its references (0: a number) -/
def objT : List (Nat × Nat × List Nat) := [(1, 0, [2, 6, 8, 10, 0]), (1, 1, [3, 5, 0, 0, 0, 0]), (1, 2, [4]), (2, 64, []), (2, 2, []), (1, 3, [7, 0]), (2, 415, []), (1, 3, [9, 0]), (2, 415, []), (1, 4, [11, 12, 13, 14, 0]), (2, 512, []), (2, 512, []), (5, 2052, []), (2, 513, []), (1, 5, [16, 17, 18, 19, 0, 0, 20, 21, 22, 23, 24, 0, 0]), (2, 192, []), (2, 3, []), (2, 3, []), (2, 3, []), (5, 2052, []), (3, 513, []), (3, 513, []), (3, 513, []), (4, 513, []), (6, 4, []), (6, 4, []), (6, 8, []), (6, 8, []), (6, 8, []), (6, 8, []), (6, 8, []), (6, 8, []), (0, 0, []), (0, 0, []), (0, 0, []), (0, 0, []), (0, 0, []), (0, 0, []), (0, 0, []), (0, 0, []), (7, 0, [])]
def okd (o : Nat) : Nat := (objT.getD o (0, 0, [])).1
def ocl (o : Nat) : Nat := (objT.getD o (0, 0, [])).2.1
def oln (o : Nat) : Nat := (objT.getD o (0, 0, [])).2.1
def fld (o k : Nat) : Nat := (objT.getD o (0, 0, [])).2.2.getD k 0
def tbL : List (List Int) := [[4, 4, 60, 60], [7, 0, 63, 56], [-1, 0, 1, -1, 1, -1, 0, 1], [-1, -1, -1, 0, 0, 1, 1, 1], [-1, 1, -2, 2, -2, 2, -1, 1], [-2, -2, -1, -1, 1, 1, 2, 2], [4, 2, 3, 5, 6, 3, 2, 4], [0, 1, 3, 3, 5, 9, 0, 0]]
def tbl (o : Nat) (i : Int) : Int := (tbL.getD (o - 24) []).getD i.toNat 0
def stiL : List String := ["KING_HOME", "ROOK_HOME", "WAY_FILE", "WAY_RANK", "LEAP_FILE", "LEAP_RANK", "FIRST_RANK", "WORTH"]
def sti (o : Nat) : String × String × String := ("MateArbiter", stiL.getD (o - 24) "", "[I")
def staL : List (String × String × String × Nat) := [((sti 24).1, (sti 24).2.1, (sti 24).2.2, 24), ((sti 25).1, (sti 25).2.1, (sti 25).2.2, 25), ((sti 26).1, (sti 26).2.1, (sti 26).2.2, 26), ((sti 27).1, (sti 27).2.1, (sti 27).2.2, 27), ((sti 28).1, (sti 28).2.1, (sti 28).2.2, 28), ((sti 29).1, (sti 29).2.1, (sti 29).2.2, 29), ((sti 30).1, (sti 30).2.1, (sti 30).2.2, 30), ((sti 31).1, (sti 31).2.1, (sti 31).2.2, 31)]
def myL : List MethodName := [⟨"MateArbiter", "pieceOf", "(II)I"⟩, ⟨"MateArbiter", "beginGame", "(III)V"⟩, ⟨"MateArbiter", "findLegalMoves", "()V"⟩, ⟨"MateArbiter", "isOf", "(II)Z"⟩, ⟨"MateArbiter", "kindOf", "(I)I"⟩, ⟨"MateArbiter", "aheadOf", "(I)I"⟩, ⟨"MateArbiter", "isSquare", "(I)Z"⟩, ⟨"MateArbiter", "codeOf", "(III)I"⟩, ⟨"MateArbiter", "isOnBoard", "(II)Z"⟩, ⟨"MateArbiter", "fromOf", "(I)I"⟩, ⟨"MateArbiter", "toOf", "(I)I"⟩, ⟨"MateArbiter", "promotionOf", "(I)I"⟩, ⟨"MateArbiter", "passantThatCanBeTaken", "()I"⟩, ⟨"MateArbiter", "standard", "()V"⟩, ⟨"MateArbiter", "clear", "()V"⟩, ⟨"MateArbiter", "put", "(II)Z"⟩, ⟨"MateArbiter", "isPieceOrNone", "(I)Z"⟩, ⟨"MateArbiter", "start", "(III)I"⟩, ⟨"MateArbiter", "isSide", "(I)Z"⟩, ⟨"MateArbiter", "move", "(III)I"⟩, ⟨"MateArbiter", "verdict", "()I"⟩, ⟨"MateArbiter", "back", "()Z"⟩, ⟨"MateArbiter", "piece", "(I)I"⟩, ⟨"MateArbiter", "side", "()I"⟩, ⟨"MateArbiter", "rights", "()I"⟩, ⟨"MateArbiter", "passant", "()I"⟩, ⟨"MateArbiter", "moves", "()I"⟩, ⟨"MateArbiter", "legal", "(I)I"⟩, ⟨"MateArbiter", "attackers", "(II)I"⟩, ⟨"MateArbiter", "check", "()Z"⟩, ⟨"MateArbiter", "claims", "()I"⟩, ⟨"MateArbiter", "clock", "()I"⟩, ⟨"MateArbiter", "plies", "()I"⟩, ⟨"MateArbiter", "search", "(I)I"⟩, ⟨"MateArbiter", "lookOneAhead", "()I"⟩, ⟨"MateArbiter", "valueWithoutMove", "()I"⟩, ⟨"MateArbiter", "lookTwoAhead", "()I"⟩, ⟨"MateArbiter$Position", "begin", "(III)V"⟩, ⟨"MateArbiter$Position", "isLegal", "(I)Z"⟩, ⟨"MateArbiter$Position", "make", "(I)I"⟩, ⟨"MateArbiter$Position", "takenSquare", "(II)I"⟩, ⟨"MateArbiter$Position", "isCastling", "(II)Z"⟩, ⟨"MateArbiter$Position", "rookBeforeCastling", "(II)I"⟩, ⟨"MateArbiter$Position", "shiftPiece", "(II)V"⟩, ⟨"MateArbiter$Position", "loseRights", "(II)V"⟩, ⟨"MateArbiter$Position", "unmake", "(II)V"⟩, ⟨"MateArbiter$Position", "isInCheck", "()Z"⟩, ⟨"MateArbiter$Position", "gainOf", "(I)I"⟩, ⟨"MateArbiter$Board", "fillStandard", "()V"⟩, ⟨"MateArbiter$Board", "wipe", "()V"⟩, ⟨"MateArbiter$Board", "findKing", "(I)I"⟩, ⟨"MateArbiter$Board", "countAttackers", "(II)I"⟩, ⟨"MateArbiter$Board", "firstPieceFrom", "(II)I"⟩, ⟨"MateArbiter$Board", "strikesBack", "(III)Z"⟩, ⟨"MateArbiter$Board", "isKnightThere", "(III)Z"⟩, ⟨"MateArbiter$Board", "isDead", "()Z"⟩, ⟨"MateArbiter$Board", "balanceFor", "(I)I"⟩, ⟨"MateArbiter$MoveRow", "append", "(I)V"⟩, ⟨"MateArbiter$MoveRow", "insert", "(I)V"⟩, ⟨"MateArbiter$MoveRow", "holds", "(I)Z"⟩, ⟨"MateArbiter$History", "note", "(LMateArbiter$Position;I)V"⟩, ⟨"MateArbiter$History", "timesThere", "()I"⟩, ⟨"MateArbiter$History", "isAlikeToPresent", "(I)Z"⟩, ⟨"MateArbiter$History", "isFull", "()Z"⟩, ⟨"MateArbiter$History", "push", "(II)V"⟩, ⟨"MateArbiter$History", "latestMove", "()I"⟩, ⟨"MateArbiter$History", "latestUndo", "()I"⟩, ⟨"MateArbiter$History", "pop", "()V"⟩, ⟨"MateArbiterModel", "standard", "()V"⟩, ⟨"MateArbiterModel", "wipe", "()V"⟩, ⟨"MateArbiterModel", "begin", "(III)V"⟩, ⟨"MateArbiterModel", "note", "()V"⟩, ⟨"MateArbiterModel", "takes", "()Z"⟩, ⟨"MateArbiterModel", "kindOf", "(I)I"⟩, ⟨"MateArbiterModel", "lawful", "(IIII)Z"⟩, ⟨"MateArbiterModel", "goes", "(IIII)Z"⟩, ⟨"MateArbiterModel", "isOf", "(II)Z"⟩, ⟨"MateArbiterModel", "pawn", "(IIII)Z"⟩, ⟨"MateArbiterModel", "hits", "(III)Z"⟩, ⟨"MateArbiterModel", "size", "(I)I"⟩, ⟨"MateArbiterModel", "open", "(III)Z"⟩, ⟨"MateArbiterModel", "castles", "(III)Z"⟩, ⟨"MateArbiterModel", "inCheck", "(II)Z"⟩, ⟨"MateArbiterModel", "many", "(III)I"⟩, ⟨"MateArbiterModel", "play", "(IIII)V"⟩, ⟨"MateArbiterModel", "keep", "(II)I"⟩, ⟨"MateArbiterModel", "clear", "()V"⟩, ⟨"MateArbiterModel", "put", "(II)Z"⟩, ⟨"MateArbiterModel", "start", "(III)I"⟩, ⟨"MateArbiterModel", "manned", "(I)Z"⟩, ⟨"MateArbiterModel", "pawnsWell", "()Z"⟩, ⟨"MateArbiterModel", "rightsWell", "(I)Z"⟩, ⟨"MateArbiterModel", "passantWell", "(II)Z"⟩, ⟨"MateArbiterModel", "move", "(III)I"⟩, ⟨"MateArbiterModel", "verdict", "()I"⟩, ⟨"MateArbiterModel", "count", "(II)I"⟩, ⟨"MateArbiterModel", "next", "(I)I"⟩, ⟨"MateArbiterModel", "dead", "()Z"⟩, ⟨"MateArbiterModel", "times", "()I"⟩, ⟨"MateArbiterModel", "back", "()Z"⟩, ⟨"MateArbiterModel", "recall", "()V"⟩, ⟨"MateArbiterModel", "piece", "(I)I"⟩, ⟨"MateArbiterModel", "side", "()I"⟩, ⟨"MateArbiterModel", "rights", "()I"⟩, ⟨"MateArbiterModel", "passant", "()I"⟩, ⟨"MateArbiterModel", "moves", "()I"⟩, ⟨"MateArbiterModel", "legal", "(I)I"⟩, ⟨"MateArbiterModel", "attackers", "(II)I"⟩, ⟨"MateArbiterModel", "check", "()Z"⟩, ⟨"MateArbiterModel", "claims", "()I"⟩, ⟨"MateArbiterModel", "clock", "()I"⟩, ⟨"MateArbiterModel", "plies", "()I"⟩, ⟨"MateArbiterModel", "search", "(I)I"⟩, ⟨"MateArbiterModel", "worth", "(I)I"⟩, ⟨"MateArbiterModel", "one", "(I)I"⟩, ⟨"MateArbiterModel", "none", "(I)I"⟩, ⟨"MateArbiterModel", "two", "()I"⟩, ⟨"MateArbiter$MoveFinder", "addPieceMoves", "(LMateArbiter$Position;LMateArbiter$MoveRow;)V"⟩, ⟨"MateArbiter$MoveFinder", "addPawnSteps", "(LMateArbiter$Position;ILMateArbiter$MoveRow;)V"⟩, ⟨"MateArbiter$MoveFinder", "addPawnMove", "(IILMateArbiter$MoveRow;)V"⟩, ⟨"MateArbiter$MoveFinder", "addPawnTakings", "(LMateArbiter$Position;ILMateArbiter$MoveRow;)V"⟩, ⟨"MateArbiter$MoveFinder", "addRides", "(LMateArbiter$Position;ILMateArbiter$MoveRow;)V"⟩, ⟨"MateArbiter$MoveFinder", "addRide", "(LMateArbiter$Position;IIIILMateArbiter$MoveRow;)V"⟩, ⟨"MateArbiter$MoveFinder", "addCastlings", "(LMateArbiter$Position;LMateArbiter$MoveRow;)V"⟩, ⟨"MateArbiter$MoveFinder", "areEmpty", "(LMateArbiter$Board;II)Z"⟩, ⟨"MateArbiter$StartRules", "faultOf", "(LMateArbiter$Board;III)I"⟩, ⟨"MateArbiter$StartRules", "areMenRight", "(LMateArbiter$Board;I)Z"⟩, ⟨"MateArbiter$StartRules", "isPawnOnOuterRank", "(LMateArbiter$Board;)Z"⟩, ⟨"MateArbiter$StartRules", "areRightsBacked", "(LMateArbiter$Board;I)Z"⟩, ⟨"MateArbiter$StartRules", "isPassantRight", "(LMateArbiter$Board;II)Z"⟩, ⟨"java/util/Arrays", "fill", "([II)V"⟩, ⟨"MateArbiterLaw", "law", "([I)Z"⟩]
def my (m : Nat) : MethodName := myL.getD m ⟨"", "", ""⟩
def mbyL : List ByteArray := [prog_1_method_33_code, prog_1_method_21_code, prog_1_method_22_code, prog_1_method_32_code, prog_1_method_31_code, prog_1_method_34_code, prog_1_method_27_code, prog_1_method_35_code, prog_1_method_28_code, prog_1_method_36_code, prog_1_method_37_code, prog_1_method_38_code, prog_1_method_23_code, prog_1_method_2_code, prog_1_method_3_code, prog_1_method_4_code, prog_1_method_30_code, prog_1_method_5_code, prog_1_method_29_code, prog_1_method_6_code, prog_1_method_16_code, prog_1_method_7_code, prog_1_method_8_code, prog_1_method_9_code, prog_1_method_10_code, prog_1_method_11_code, prog_1_method_12_code, prog_1_method_13_code, prog_1_method_14_code, prog_1_method_15_code, prog_1_method_17_code, prog_1_method_18_code, prog_1_method_19_code, prog_1_method_20_code, prog_1_method_24_code, prog_1_method_26_code, prog_1_method_25_code, prog_6_method_2_code, prog_6_method_4_code, prog_6_method_6_code, prog_6_method_8_code, prog_6_method_9_code, prog_6_method_10_code, prog_6_method_11_code, prog_6_method_12_code, prog_6_method_7_code, prog_6_method_3_code, prog_6_method_5_code, prog_2_method_3_code, prog_2_method_2_code, prog_2_method_4_code, prog_2_method_5_code, prog_2_method_6_code, prog_2_method_7_code, prog_2_method_8_code, prog_2_method_10_code, prog_2_method_9_code, prog_5_method_2_code, prog_5_method_3_code, prog_5_method_4_code, prog_3_method_7_code, prog_3_method_8_code, prog_3_method_9_code, prog_3_method_2_code, prog_3_method_3_code, prog_3_method_5_code, prog_3_method_6_code, prog_3_method_4_code, prog_9_method_18_code, prog_9_method_17_code, prog_9_method_19_code, prog_9_method_21_code, prog_9_method_20_code, prog_9_method_2_code, prog_9_method_14_code, prog_9_method_11_code, prog_9_method_3_code, prog_9_method_9_code, prog_9_method_6_code, prog_9_method_4_code, prog_9_method_5_code, prog_9_method_10_code, prog_9_method_8_code, prog_9_method_7_code, prog_9_method_13_code, prog_9_method_12_code, prog_9_method_23_code, prog_9_method_24_code, prog_9_method_29_code, prog_9_method_25_code, prog_9_method_26_code, prog_9_method_27_code, prog_9_method_28_code, prog_9_method_30_code, prog_9_method_42_code, prog_9_method_16_code, prog_9_method_15_code, prog_9_method_40_code, prog_9_method_41_code, prog_9_method_31_code, prog_9_method_22_code, prog_9_method_32_code, prog_9_method_33_code, prog_9_method_34_code, prog_9_method_35_code, prog_9_method_36_code, prog_9_method_37_code, prog_9_method_38_code, prog_9_method_39_code, prog_9_method_43_code, prog_9_method_44_code, prog_9_method_45_code, prog_9_method_50_code, prog_9_method_46_code, prog_9_method_48_code, prog_9_method_47_code, prog_9_method_49_code, prog_4_method_2_code, prog_4_method_5_code, prog_4_method_7_code, prog_4_method_6_code, prog_4_method_3_code, prog_4_method_4_code, prog_4_method_8_code, prog_4_method_9_code, prog_7_method_2_code, prog_7_method_3_code, prog_7_method_4_code, prog_7_method_5_code, prog_7_method_6_code, prog_11_method_103_code, code]
def mby (m : Nat) : ByteArray := mbyL.getD m ⟨#[]⟩
def mmlL : List Nat := [2, 4, 3, 2, 1, 1, 1, 3, 2, 1, 1, 1, 4, 1, 1, 3, 3, 5, 1, 5, 1, 1, 2, 1, 1, 1, 1, 3, 3, 1, 2, 1, 1, 2, 5, 1, 5, 4, 5, 10, 3, 2, 2, 3, 6, 6, 1, 6, 2, 1, 4, 6, 6, 7, 6, 7, 5, 2, 3, 3, 7, 3, 3, 1, 3, 1, 1, 1, 3, 2, 4, 5, 3, 1, 5, 6, 2, 9, 9, 1, 9, 11, 4, 6, 11, 3, 1, 3, 4, 5, 3, 8, 4, 6, 1, 7, 2, 8, 5, 1, 2, 2, 1, 1, 1, 1, 6, 3, 1, 1, 1, 1, 2, 7, 7, 2, 6, 4, 7, 4, 6, 6, 10, 8, 4, 4, 6, 2, 5, 5, 4, 4]
def mml (m : Nat) : Nat := mmlL.getD m 0
def mrkL : List Nat := [1, 0, 0, 2, 1, 1, 2, 1, 2, 1, 1, 1, 1, 0, 0, 2, 2, 1, 2, 1, 1, 2, 1, 1, 1, 1, 1, 1, 1, 2, 1, 1, 1, 1, 1, 1, 1, 0, 2, 1, 1, 2, 1, 0, 0, 0, 2, 1, 0, 0, 1, 1, 1, 2, 2, 2, 1, 0, 0, 2, 0, 1, 2, 2, 0, 1, 1, 0, 0, 0, 0, 0, 2, 1, 2, 2, 2, 2, 2, 1, 2, 2, 2, 1, 0, 1, 0, 2, 1, 2, 2, 2, 2, 1, 1, 1, 1, 2, 1, 2, 0, 1, 1, 1, 1, 1, 1, 1, 2, 1, 1, 1, 1, 1, 1, 1, 1, 0, 0, 0, 0, 0, 0, 0, 2, 1, 2, 2, 2, 2, 0, 2]
def mrk (m : Nat) : Nat := mrkL.getD m 0
def mret (m : Nat) : Option FieldType := match mrk m with | 0 => none | k + 1 => some (if k = 0 then .int else .boolean)
def mclL : List Nat := [0, 0, 0, 0, 0, 0, 0, 0, 0, 0, 0, 0, 0, 0, 0, 0, 0, 0, 0, 0, 0, 0, 0, 0, 0, 0, 0, 0, 0, 0, 0, 0, 0, 0, 0, 0, 0, 1, 1, 1, 1, 1, 1, 1, 1, 1, 1, 1, 2, 2, 2, 2, 2, 2, 2, 2, 2, 3, 3, 3, 4, 4, 4, 4, 4, 4, 4, 4, 5, 5, 5, 5, 5, 5, 5, 5, 5, 5, 5, 5, 5, 5, 5, 5, 5, 5, 5, 5, 5, 5, 5, 5, 5, 5, 5, 5, 5, 5, 5, 5, 5, 5, 5, 5, 5, 5, 5, 5, 5, 5, 5, 5, 5, 5, 5, 5, 5, 6, 6, 6, 6, 6, 6, 6, 6, 7, 7, 7, 7, 7, 8, 9]
def mcl (m : Nat) : Nat := mclL.getD m 0
def mstL : List Bool := [true, false, false, true, true, true, true, true, true, true, true, true, false, false, false, false, true, false, true, false, false, false, false, false, false, false, false, false, false, false, false, false, false, false, false, false, false, false, false, false, false, true, true, false, false, false, false, false, false, false, false, false, false, false, false, false, false, false, false, false, false, false, false, false, false, false, false, false, false, false, false, false, false, true, false, false, true, false, false, true, false, false, false, false, false, true, false, false, false, false, false, false, false, false, false, false, false, false, false, false, false, false, false, false, false, false, false, false, false, false, false, false, false, false, false, false, false, true, true, true, true, true, true, true, true, true, true, true, true, true, true]
def mst (m : Nat) : Bool := mstL.getD m false
def npL : List Nat := [2, 3, 0, 2, 1, 1, 1, 3, 2, 1, 1, 1, 0, 0, 0, 2, 1, 3, 1, 3, 0, 0, 1, 0, 0, 0, 0, 1, 2, 0, 0, 0, 0, 1, 0, 0, 0, 3, 1, 1, 2, 2, 2, 2, 2, 2, 0, 1, 0, 0, 1, 2, 2, 3, 3, 0, 1, 1, 1, 1, 2, 0, 1, 0, 2, 0, 0, 0, 0, 0, 3, 0, 0, 1, 4, 4, 2, 4, 3, 1, 3, 3, 2, 3, 4, 2, 0, 2, 3, 1, 0, 1, 2, 3, 0, 2, 1, 0, 0, 0, 0, 1, 0, 0, 0, 0, 1, 2, 0, 0, 0, 0, 1, 1, 1, 1, 0, 2, 3, 3, 3, 3, 6, 2, 3, 4, 2, 1, 2, 3, 2]
def npar (m : Nat) : Nat := npL.getD m 0
def mna (m : Nat) : Nat := if mst m = true then npar m else npar m + 1
def bl0 : List (Nat × List CE) := [(0, [(.iload_n 0, 1, 0, 0, 0), (.bipush 8, 2, 0, 0, 0), (.iload_n 1, 1, 0, 0, 0), (.imul, 1, 0, 0, 0), (.iadd, 1, 0, 0, 0), (.ireturn, 1, 0, 0, 0)])]
def bl1 : List (Nat × List CE) := [(0, [(.aload_n 0, 1, 0, 0, 0), (.getfield 12, 3, 0, 0, 0), (.iload_n 1, 1, 0, 0, 0), (.iload_n 2, 1, 0, 0, 0), (.iload_n 3, 1, 0, 0, 0), (.invokevirtual 171, 3, 39, 4, 0), (.aload_n 0, 1, 0, 0, 0), (.iconst 1, 1, 0, 0, 0), (.putfield 46, 3, 0, 4, 0), (.aload_n 0, 1, 0, 0, 0), (.getfield 29, 3, 0, 3, 0), (.iconst 0, 1, 0, 0, 0), (.putfield 106, 3, 4, 4, 0), (.aload_n 0, 1, 0, 0, 0), (.invokevirtual 96, 3, 4, 1, 0), (.aload_n 0, 1, 0, 0, 0), (.getfield 29, 3, 0, 3, 0), (.aload_n 0, 1, 0, 0, 0), (.getfield 12, 3, 0, 0, 0), (.aload_n 0, 1, 0, 0, 0), (.invokevirtual 99, 3, 14, 1, 0), (.invokevirtual 102, 3, 62, 3, 0), (.return_, 1, 0, 0, 0)])]
def bl2 : List (Nat × List CE) := [(0, [(.aload_n 0, 1, 0, 0, 0), (.getfield 23, 3, 0, 2, 0), (.iconst 0, 1, 0, 0, 0), (.putfield 131, 3, 3, 1, 0), (.aload_n 0, 1, 0, 0, 0), (.getfield 12, 3, 0, 0, 0), (.aload_n 0, 1, 0, 0, 0), (.getfield 23, 3, 0, 2, 0), (.invokestatic 174, 3, 119, 2, 0), (.aload_n 0, 1, 0, 0, 0), (.getfield 12, 3, 0, 0, 0), (.aload_n 0, 1, 0, 0, 0), (.getfield 23, 3, 0, 2, 0), (.invokestatic 180, 3, 125, 2, 0), (.aload_n 0, 1, 0, 0, 0), (.getfield 19, 3, 0, 1, 0), (.iconst 0, 1, 0, 0, 0), (.putfield 131, 3, 3, 1, 0), (.iconst 0, 1, 0, 0, 0), (.istore_n 1, 1, 0, 0, 0)]),
  (40, [(.iload_n 1, 1, 0, 0, 0), (.aload_n 0, 1, 0, 0, 0), (.getfield 23, 3, 0, 2, 0), (.getfield 131, 3, 3, 1, 0), (.if_icmp .ge (38), 3, 0, 0, 0), (.aload_n 0, 1, 0, 0, 0), (.getfield 23, 3, 0, 2, 0), (.getfield 134, 3, 3, 0, 0), (.iload_n 1, 1, 0, 0, 0), (.iaload, 1, 0, 0, 0), (.istore_n 2, 1, 0, 0, 0), (.aload_n 0, 1, 0, 0, 0), (.getfield 12, 3, 0, 0, 0), (.iload_n 2, 1, 0, 0, 0), (.invokevirtual 183, 3, 40, 2, 0), (.ifCond .eq (11), 3, 0, 0, 0), (.aload_n 0, 1, 0, 0, 0), (.getfield 19, 3, 0, 1, 0), (.iload_n 2, 1, 0, 0, 0), (.invokevirtual 186, 3, 60, 2, 0)]),
  (80, [(.iinc 1 (1), 3, 0, 0, 0), (.goto (-43), 3, 0, 0, 0)]),
  (86, [(.return_, 1, 0, 0, 0)])]
def bl3 : List (Nat × List CE) := [(0, [(.iload_n 0, 1, 0, 0, 0), (.ifCond .eq (14), 3, 0, 0, 0), (.iload_n 0, 1, 0, 0, 0), (.iconst 3, 1, 0, 0, 0), (.ishr, 1, 0, 0, 0), (.iload_n 1, 1, 0, 0, 0), (.if_icmp .ne (7), 3, 0, 0, 0), (.iconst 1, 1, 0, 0, 0), (.goto (4), 3, 0, 0, 0)]),
  (15, [(.iconst 0, 1, 0, 0, 0)]),
  (16, [(.ireturn, 1, 0, 0, 0)])]
def bl4 : List (Nat × List CE) := [(0, [(.iload_n 0, 1, 0, 0, 0), (.bipush 7, 2, 0, 0, 0), (.iand, 1, 0, 0, 0), (.ireturn, 1, 0, 0, 0)])]
def bl5 : List (Nat × List CE) := [(0, [(.iload_n 0, 1, 0, 0, 0), (.ifCond .ne (8), 3, 0, 0, 0), (.bipush 8, 2, 0, 0, 0), (.goto (5), 3, 0, 0, 0)]),
  (9, [(.bipush (-8), 2, 0, 0, 0)]),
  (11, [(.ireturn, 1, 0, 0, 0)])]
def bl6 : List (Nat × List CE) := [(0, [(.iload_n 0, 1, 0, 0, 0), (.ifCond .lt (13), 3, 0, 0, 0), (.iload_n 0, 1, 0, 0, 0), (.bipush 64, 2, 0, 0, 0), (.if_icmp .ge (7), 3, 0, 0, 0), (.iconst 1, 1, 0, 0, 0), (.goto (4), 3, 0, 0, 0)]),
  (14, [(.iconst 0, 1, 0, 0, 0)]),
  (15, [(.ireturn, 1, 0, 0, 0)])]
def bl7 : List (Nat × List CE) := [(0, [(.iload_n 0, 1, 0, 0, 0), (.bipush 9, 2, 0, 0, 0), (.ishl, 1, 0, 0, 0), (.iload_n 1, 1, 0, 0, 0), (.iconst 3, 1, 0, 0, 0), (.ishl, 1, 0, 0, 0), (.ior, 1, 0, 0, 0), (.iload_n 2, 1, 0, 0, 0), (.ior, 1, 0, 0, 0), (.ireturn, 1, 0, 0, 0)])]
def bl8 : List (Nat × List CE) := [(0, [(.iload_n 0, 1, 0, 0, 0), (.ifCond .lt (23), 3, 0, 0, 0), (.iload_n 0, 1, 0, 0, 0), (.bipush 8, 2, 0, 0, 0), (.if_icmp .ge (17), 3, 0, 0, 0), (.iload_n 1, 1, 0, 0, 0), (.ifCond .lt (13), 3, 0, 0, 0), (.iload_n 1, 1, 0, 0, 0), (.bipush 8, 2, 0, 0, 0), (.if_icmp .ge (7), 3, 0, 0, 0), (.iconst 1, 1, 0, 0, 0), (.goto (4), 3, 0, 0, 0)]),
  (24, [(.iconst 0, 1, 0, 0, 0)]),
  (25, [(.ireturn, 1, 0, 0, 0)])]
def bl9 : List (Nat × List CE) := [(0, [(.iload_n 0, 1, 0, 0, 0), (.bipush 9, 2, 0, 0, 0), (.ishr, 1, 0, 0, 0), (.bipush 63, 2, 0, 0, 0), (.iand, 1, 0, 0, 0), (.ireturn, 1, 0, 0, 0)])]
def bl10 : List (Nat × List CE) := [(0, [(.iload_n 0, 1, 0, 0, 0), (.iconst 3, 1, 0, 0, 0), (.ishr, 1, 0, 0, 0), (.bipush 63, 2, 0, 0, 0), (.iand, 1, 0, 0, 0), (.ireturn, 1, 0, 0, 0)])]
def bl11 : List (Nat × List CE) := [(0, [(.iload_n 0, 1, 0, 0, 0), (.bipush 7, 2, 0, 0, 0), (.iand, 1, 0, 0, 0), (.ireturn, 1, 0, 0, 0)])]
def bl12 : List (Nat × List CE) := [(0, [(.aload_n 0, 1, 0, 0, 0), (.getfield 12, 3, 0, 0, 0), (.getfield 128, 3, 1, 4, 0), (.iconst (-1), 1, 0, 0, 0), (.if_icmp .ne (5), 3, 0, 0, 0), (.iconst (-1), 1, 0, 0, 0), (.ireturn, 1, 0, 0, 0)]),
  (13, [(.iconst 0, 1, 0, 0, 0), (.istore_n 1, 1, 0, 0, 0)]),
  (15, [(.iload_n 1, 1, 0, 0, 0), (.aload_n 0, 1, 0, 0, 0), (.getfield 19, 3, 0, 1, 0), (.getfield 131, 3, 3, 1, 0), (.if_icmp .ge (65), 3, 0, 0, 0), (.aload_n 0, 1, 0, 0, 0), (.getfield 19, 3, 0, 1, 0), (.getfield 134, 3, 3, 0, 0), (.iload_n 1, 1, 0, 0, 0), (.iaload, 1, 0, 0, 0), (.istore_n 2, 1, 0, 0, 0), (.aload_n 0, 1, 0, 0, 0), (.getfield 12, 3, 0, 0, 0), (.getfield 33, 3, 1, 0, 0), (.getfield 60, 3, 2, 0, 0), (.iload_n 2, 1, 0, 0, 0), (.invokestatic 137, 3, 11, 1, 0), (.iaload, 1, 0, 0, 0), (.invokestatic 190, 3, 6, 1, 0), (.istore_n 3, 1, 0, 0, 0), (.iload_n 3, 1, 0, 0, 0), (.iconst 1, 1, 0, 0, 0), (.if_icmp .ne (25), 3, 0, 0, 0), (.iload_n 2, 1, 0, 0, 0), (.invokestatic 140, 3, 12, 1, 0), (.aload_n 0, 1, 0, 0, 0), (.getfield 12, 3, 0, 0, 0), (.getfield 128, 3, 1, 4, 0), (.if_icmp .ne (11), 3, 0, 0, 0), (.aload_n 0, 1, 0, 0, 0), (.getfield 12, 3, 0, 0, 0), (.getfield 128, 3, 1, 4, 0), (.ireturn, 1, 0, 0, 0)]),
  (82, [(.iinc 1 (1), 3, 0, 0, 0), (.goto (-70), 3, 0, 0, 0)]),
  (88, [(.iconst (-1), 1, 0, 0, 0), (.ireturn, 1, 0, 0, 0)])]
def bl13 : List (Nat × List CE) := [(0, [(.aload_n 0, 1, 0, 0, 0), (.getfield 12, 3, 0, 0, 0), (.getfield 33, 3, 1, 0, 0), (.invokevirtual 37, 3, 50, 1, 0), (.aload_n 0, 1, 0, 0, 0), (.iconst 0, 1, 0, 0, 0), (.bipush 15, 2, 0, 0, 0), (.iconst (-1), 1, 0, 0, 0), (.invokevirtual 42, 3, 3, 4, 0), (.return_, 1, 0, 0, 0)])]
def bl14 : List (Nat × List CE) := [(0, [(.aload_n 0, 1, 0, 0, 0), (.iconst 0, 1, 0, 0, 0), (.putfield 46, 3, 0, 4, 0), (.aload_n 0, 1, 0, 0, 0), (.getfield 12, 3, 0, 0, 0), (.getfield 33, 3, 1, 0, 0), (.invokevirtual 50, 3, 51, 1, 0), (.return_, 1, 0, 0, 0)])]
def bl15 : List (Nat × List CE) := [(0, [(.aload_n 0, 1, 0, 0, 0), (.getfield 46, 3, 0, 4, 0), (.ifCond .ne (17), 3, 0, 0, 0), (.iload_n 1, 1, 0, 0, 0), (.invokestatic 53, 3, 8, 1, 0), (.ifCond .eq (10), 3, 0, 0, 0), (.iload_n 2, 1, 0, 0, 0), (.invokestatic 57, 3, 18, 1, 0), (.ifCond .ne (5), 3, 0, 0, 0)]),
  (21, [(.iconst 0, 1, 0, 0, 0), (.ireturn, 1, 0, 0, 0)]),
  (23, [(.aload_n 0, 1, 0, 0, 0), (.getfield 12, 3, 0, 0, 0), (.getfield 33, 3, 1, 0, 0), (.getfield 60, 3, 2, 0, 0), (.iload_n 1, 1, 0, 0, 0), (.iload_n 2, 1, 0, 0, 0), (.iastore, 1, 0, 0, 0), (.iconst 1, 1, 0, 0, 0), (.ireturn, 1, 0, 0, 0)])]
def bl16 : List (Nat × List CE) := [(0, [(.iload_n 0, 1, 0, 0, 0), (.iconst 1, 1, 0, 0, 0), (.if_icmp .lt (13), 3, 0, 0, 0), (.iload_n 0, 1, 0, 0, 0), (.bipush 6, 2, 0, 0, 0), (.if_icmp .gt (7), 3, 0, 0, 0), (.iconst 1, 1, 0, 0, 0), (.goto (4), 3, 0, 0, 0)]),
  (15, [(.iconst 0, 1, 0, 0, 0)]),
  (16, [(.istore_n 1, 1, 0, 0, 0), (.iload_n 0, 1, 0, 0, 0), (.bipush 9, 2, 0, 0, 0), (.if_icmp .lt (13), 3, 0, 0, 0), (.iload_n 0, 1, 0, 0, 0), (.bipush 14, 2, 0, 0, 0), (.if_icmp .gt (7), 3, 0, 0, 0), (.iconst 1, 1, 0, 0, 0), (.goto (4), 3, 0, 0, 0)]),
  (33, [(.iconst 0, 1, 0, 0, 0)]),
  (34, [(.istore_n 2, 1, 0, 0, 0), (.iload_n 0, 1, 0, 0, 0), (.ifCond .eq (11), 3, 0, 0, 0), (.iload_n 1, 1, 0, 0, 0), (.ifCond .ne (7), 3, 0, 0, 0), (.iload_n 2, 1, 0, 0, 0), (.ifCond .eq (7), 3, 0, 0, 0)]),
  (47, [(.iconst 1, 1, 0, 0, 0), (.goto (4), 3, 0, 0, 0)]),
  (51, [(.iconst 0, 1, 0, 0, 0)]),
  (52, [(.ireturn, 1, 0, 0, 0)])]
def bl17 : List (Nat × List CE) := [(0, [(.aload_n 0, 1, 0, 0, 0), (.getfield 46, 3, 0, 4, 0), (.ifCond .ne (20), 3, 0, 0, 0), (.iload_n 1, 1, 0, 0, 0), (.invokestatic 64, 3, 20, 1, 0), (.ifCond .eq (13), 3, 0, 0, 0), (.iload_n 2, 1, 0, 0, 0), (.ifCond .lt (9), 3, 0, 0, 0), (.iload_n 2, 1, 0, 0, 0), (.bipush 15, 2, 0, 0, 0), (.if_icmp .le (5), 3, 0, 0, 0)]),
  (24, [(.iconst (-1), 1, 0, 0, 0), (.ireturn, 1, 0, 0, 0)]),
  (26, [(.iload_n 3, 1, 0, 0, 0), (.iconst (-1), 1, 0, 0, 0), (.if_icmp .eq (12), 3, 0, 0, 0), (.iload_n 3, 1, 0, 0, 0), (.invokestatic 53, 3, 8, 1, 0), (.ifCond .ne (5), 3, 0, 0, 0), (.iconst (-1), 1, 0, 0, 0), (.ireturn, 1, 0, 0, 0)]),
  (40, [(.aload_n 0, 1, 0, 0, 0), (.getfield 12, 3, 0, 0, 0), (.getfield 33, 3, 1, 0, 0), (.iload_n 1, 1, 0, 0, 0), (.iload_n 2, 1, 0, 0, 0), (.iload_n 3, 1, 0, 0, 0), (.invokestatic 67, 3, 127, 4, 0), (.istore 4, 2, 0, 0, 0), (.iload 4, 2, 0, 0, 0), (.ifCond .eq (6), 3, 0, 0, 0), (.iload 4, 2, 0, 0, 0), (.ireturn, 1, 0, 0, 0)]),
  (63, [(.aload_n 0, 1, 0, 0, 0), (.iload_n 1, 1, 0, 0, 0), (.iload_n 2, 1, 0, 0, 0), (.iload_n 3, 1, 0, 0, 0), (.invokevirtual 42, 3, 3, 4, 0), (.iconst 0, 1, 0, 0, 0), (.ireturn, 1, 0, 0, 0)])]
def bl18 : List (Nat × List CE) := [(0, [(.iload_n 0, 1, 0, 0, 0), (.ifCond .eq (8), 3, 0, 0, 0), (.iload_n 0, 1, 0, 0, 0), (.iconst 1, 1, 0, 0, 0), (.if_icmp .ne (7), 3, 0, 0, 0)]),
  (9, [(.iconst 1, 1, 0, 0, 0), (.goto (4), 3, 0, 0, 0)]),
  (13, [(.iconst 0, 1, 0, 0, 0)]),
  (14, [(.ireturn, 1, 0, 0, 0)])]
def bl19 : List (Nat × List CE) := [(0, [(.aload_n 0, 1, 0, 0, 0), (.getfield 46, 3, 0, 4, 0), (.ifCond .ne (5), 3, 0, 0, 0), (.iconst (-1), 1, 0, 0, 0), (.ireturn, 1, 0, 0, 0)]),
  (9, [(.aload_n 0, 1, 0, 0, 0), (.invokevirtual 73, 3, 22, 1, 0), (.ifCond .eq (6), 3, 0, 0, 0), (.bipush (-7), 2, 0, 0, 0), (.ireturn, 1, 0, 0, 0)]),
  (19, [(.iload_n 1, 1, 0, 0, 0), (.invokestatic 53, 3, 8, 1, 0), (.ifCond .eq (19), 3, 0, 0, 0), (.iload_n 2, 1, 0, 0, 0), (.invokestatic 53, 3, 8, 1, 0), (.ifCond .eq (12), 3, 0, 0, 0), (.iload_n 3, 1, 0, 0, 0), (.ifCond .lt (8), 3, 0, 0, 0), (.iload_n 3, 1, 0, 0, 0), (.iconst 5, 1, 0, 0, 0), (.if_icmp .le (5), 3, 0, 0, 0)]),
  (42, [(.iconst (-1), 1, 0, 0, 0), (.ireturn, 1, 0, 0, 0)]),
  (44, [(.iload_n 1, 1, 0, 0, 0), (.iload_n 2, 1, 0, 0, 0), (.iload_n 3, 1, 0, 0, 0), (.invokestatic 77, 3, 9, 3, 0), (.istore 4, 2, 0, 0, 0), (.aload_n 0, 1, 0, 0, 0), (.getfield 29, 3, 0, 3, 0), (.invokevirtual 81, 3, 65, 1, 0), (.ifCond .ne (15), 3, 0, 0, 0), (.aload_n 0, 1, 0, 0, 0), (.getfield 19, 3, 0, 1, 0), (.iload 4, 2, 0, 0, 0), (.invokevirtual 85, 3, 61, 2, 0), (.ifCond .ne (5), 3, 0, 0, 0)]),
  (74, [(.iconst (-1), 1, 0, 0, 0), (.ireturn, 1, 0, 0, 0)]),
  (76, [(.aload_n 0, 1, 0, 0, 0), (.getfield 29, 3, 0, 3, 0), (.iload 4, 2, 0, 0, 0), (.aload_n 0, 1, 0, 0, 0), (.getfield 12, 3, 0, 0, 0), (.iload 4, 2, 0, 0, 0), (.invokevirtual 88, 3, 41, 2, 0), (.invokevirtual 92, 3, 66, 3, 0), (.aload_n 0, 1, 0, 0, 0), (.invokevirtual 96, 3, 4, 1, 0), (.aload_n 0, 1, 0, 0, 0), (.getfield 29, 3, 0, 3, 0), (.aload_n 0, 1, 0, 0, 0), (.getfield 12, 3, 0, 0, 0), (.aload_n 0, 1, 0, 0, 0), (.invokevirtual 99, 3, 14, 1, 0), (.invokevirtual 102, 3, 62, 3, 0), (.iconst 0, 1, 0, 0, 0), (.ireturn, 1, 0, 0, 0)])]
def bl20 : List (Nat × List CE) := [(0, [(.aload_n 0, 1, 0, 0, 0), (.getfield 46, 3, 0, 4, 0), (.ifCond .ne (5), 3, 0, 0, 0), (.iconst 0, 1, 0, 0, 0), (.ireturn, 1, 0, 0, 0)]),
  (9, [(.aload_n 0, 1, 0, 0, 0), (.getfield 19, 3, 0, 1, 0), (.getfield 131, 3, 3, 1, 0), (.ifCond .ne (19), 3, 0, 0, 0), (.aload_n 0, 1, 0, 0, 0), (.getfield 12, 3, 0, 0, 0), (.invokevirtual 150, 3, 48, 1, 0), (.ifCond .eq (7), 3, 0, 0, 0), (.iconst 1, 1, 0, 0, 0), (.goto (4), 3, 0, 0, 0)]),
  (33, [(.iconst 2, 1, 0, 0, 0)]),
  (34, [(.ireturn, 1, 0, 0, 0)]),
  (35, [(.aload_n 0, 1, 0, 0, 0), (.getfield 12, 3, 0, 0, 0), (.getfield 33, 3, 1, 0, 0), (.invokevirtual 153, 3, 57, 1, 0), (.ifCond .eq (5), 3, 0, 0, 0), (.iconst 3, 1, 0, 0, 0), (.ireturn, 1, 0, 0, 0)]),
  (50, [(.aload_n 0, 1, 0, 0, 0), (.getfield 29, 3, 0, 3, 0), (.invokevirtual 156, 3, 63, 1, 0), (.iconst 5, 1, 0, 0, 0), (.if_icmp .lt (5), 3, 0, 0, 0), (.iconst 4, 1, 0, 0, 0), (.ireturn, 1, 0, 0, 0)]),
  (63, [(.aload_n 0, 1, 0, 0, 0), (.getfield 12, 3, 0, 0, 0), (.getfield 159, 3, 1, 5, 0), (.sipush 150, 3, 0, 0, 0), (.if_icmp .lt (7), 3, 0, 0, 0), (.iconst 5, 1, 0, 0, 0), (.goto (4), 3, 0, 0, 0)]),
  (80, [(.iconst 0, 1, 0, 0, 0)]),
  (81, [(.ireturn, 1, 0, 0, 0)])]
def bl21 : List (Nat × List CE) := [(0, [(.aload_n 0, 1, 0, 0, 0), (.getfield 46, 3, 0, 4, 0), (.ifCond .eq (13), 3, 0, 0, 0), (.aload_n 0, 1, 0, 0, 0), (.getfield 29, 3, 0, 3, 0), (.getfield 106, 3, 4, 4, 0), (.ifCond .ne (5), 3, 0, 0, 0)]),
  (17, [(.iconst 0, 1, 0, 0, 0), (.ireturn, 1, 0, 0, 0)]),
  (19, [(.aload_n 0, 1, 0, 0, 0), (.getfield 12, 3, 0, 0, 0), (.aload_n 0, 1, 0, 0, 0), (.getfield 29, 3, 0, 3, 0), (.invokevirtual 110, 3, 67, 1, 0), (.aload_n 0, 1, 0, 0, 0), (.getfield 29, 3, 0, 3, 0), (.invokevirtual 113, 3, 68, 1, 0), (.invokevirtual 116, 3, 47, 3, 0), (.aload_n 0, 1, 0, 0, 0), (.getfield 29, 3, 0, 3, 0), (.invokevirtual 119, 3, 69, 1, 0), (.aload_n 0, 1, 0, 0, 0), (.invokevirtual 96, 3, 4, 1, 0), (.iconst 1, 1, 0, 0, 0), (.ireturn, 1, 0, 0, 0)])]
def bl22 : List (Nat × List CE) := [(0, [(.iload_n 1, 1, 0, 0, 0), (.invokestatic 53, 3, 8, 1, 0), (.ifCond .eq (18), 3, 0, 0, 0), (.aload_n 0, 1, 0, 0, 0), (.getfield 12, 3, 0, 0, 0), (.getfield 33, 3, 1, 0, 0), (.getfield 60, 3, 2, 0, 0), (.iload_n 1, 1, 0, 0, 0), (.iaload, 1, 0, 0, 0), (.goto (4), 3, 0, 0, 0)]),
  (22, [(.iconst (-1), 1, 0, 0, 0)]),
  (23, [(.ireturn, 1, 0, 0, 0)])]
def bl23 : List (Nat × List CE) := [(0, [(.aload_n 0, 1, 0, 0, 0), (.getfield 46, 3, 0, 4, 0), (.ifCond .eq (13), 3, 0, 0, 0), (.aload_n 0, 1, 0, 0, 0), (.getfield 12, 3, 0, 0, 0), (.getfield 122, 3, 1, 2, 0), (.goto (4), 3, 0, 0, 0)]),
  (17, [(.iconst (-1), 1, 0, 0, 0)]),
  (18, [(.ireturn, 1, 0, 0, 0)])]
def bl24 : List (Nat × List CE) := [(0, [(.aload_n 0, 1, 0, 0, 0), (.getfield 46, 3, 0, 4, 0), (.ifCond .eq (13), 3, 0, 0, 0), (.aload_n 0, 1, 0, 0, 0), (.getfield 12, 3, 0, 0, 0), (.getfield 125, 3, 1, 3, 0), (.goto (4), 3, 0, 0, 0)]),
  (17, [(.iconst (-1), 1, 0, 0, 0)]),
  (18, [(.ireturn, 1, 0, 0, 0)])]
def bl25 : List (Nat × List CE) := [(0, [(.aload_n 0, 1, 0, 0, 0), (.getfield 46, 3, 0, 4, 0), (.ifCond .eq (24), 3, 0, 0, 0), (.aload_n 0, 1, 0, 0, 0), (.getfield 12, 3, 0, 0, 0), (.getfield 128, 3, 1, 4, 0), (.iconst (-1), 1, 0, 0, 0), (.if_icmp .eq (13), 3, 0, 0, 0), (.aload_n 0, 1, 0, 0, 0), (.getfield 12, 3, 0, 0, 0), (.getfield 128, 3, 1, 4, 0), (.goto (4), 3, 0, 0, 0)]),
  (28, [(.iconst (-1), 1, 0, 0, 0)]),
  (29, [(.ireturn, 1, 0, 0, 0)])]
def bl26 : List (Nat × List CE) := [(0, [(.aload_n 0, 1, 0, 0, 0), (.getfield 46, 3, 0, 4, 0), (.ifCond .eq (13), 3, 0, 0, 0), (.aload_n 0, 1, 0, 0, 0), (.getfield 19, 3, 0, 1, 0), (.getfield 131, 3, 3, 1, 0), (.goto (4), 3, 0, 0, 0)]),
  (17, [(.iconst 0, 1, 0, 0, 0)]),
  (18, [(.ireturn, 1, 0, 0, 0)])]
def bl27 : List (Nat × List CE) := [(0, [(.aload_n 0, 1, 0, 0, 0), (.getfield 46, 3, 0, 4, 0), (.ifCond .eq (18), 3, 0, 0, 0), (.iload_n 1, 1, 0, 0, 0), (.ifCond .lt (14), 3, 0, 0, 0), (.iload_n 1, 1, 0, 0, 0), (.aload_n 0, 1, 0, 0, 0), (.getfield 19, 3, 0, 1, 0), (.getfield 131, 3, 3, 1, 0), (.if_icmp .lt (5), 3, 0, 0, 0)]),
  (22, [(.iconst (-1), 1, 0, 0, 0), (.ireturn, 1, 0, 0, 0)]),
  (24, [(.aload_n 0, 1, 0, 0, 0), (.getfield 19, 3, 0, 1, 0), (.getfield 134, 3, 3, 0, 0), (.iload_n 1, 1, 0, 0, 0), (.iaload, 1, 0, 0, 0), (.istore_n 2, 1, 0, 0, 0), (.iload_n 2, 1, 0, 0, 0), (.invokestatic 137, 3, 11, 1, 0), (.bipush 64, 2, 0, 0, 0), (.iload_n 2, 1, 0, 0, 0), (.invokestatic 140, 3, 12, 1, 0), (.imul, 1, 0, 0, 0), (.iadd, 1, 0, 0, 0), (.sipush 4096, 3, 0, 0, 0), (.iload_n 2, 1, 0, 0, 0), (.invokestatic 143, 3, 13, 1, 0), (.imul, 1, 0, 0, 0), (.iadd, 1, 0, 0, 0), (.ireturn, 1, 0, 0, 0)])]
def bl28 : List (Nat × List CE) := [(0, [(.iload_n 1, 1, 0, 0, 0), (.invokestatic 53, 3, 8, 1, 0), (.ifCond .eq (10), 3, 0, 0, 0), (.iload_n 2, 1, 0, 0, 0), (.invokestatic 64, 3, 20, 1, 0), (.ifCond .ne (5), 3, 0, 0, 0)]),
  (14, [(.iconst (-1), 1, 0, 0, 0), (.ireturn, 1, 0, 0, 0)]),
  (16, [(.aload_n 0, 1, 0, 0, 0), (.getfield 12, 3, 0, 0, 0), (.getfield 33, 3, 1, 0, 0), (.iload_n 1, 1, 0, 0, 0), (.iload_n 2, 1, 0, 0, 0), (.invokevirtual 146, 3, 53, 3, 0), (.ireturn, 1, 0, 0, 0)])]
def bl29 : List (Nat × List CE) := [(0, [(.aload_n 0, 1, 0, 0, 0), (.getfield 46, 3, 0, 4, 0), (.ifCond .eq (17), 3, 0, 0, 0), (.aload_n 0, 1, 0, 0, 0), (.getfield 12, 3, 0, 0, 0), (.invokevirtual 150, 3, 48, 1, 0), (.ifCond .eq (7), 3, 0, 0, 0), (.iconst 1, 1, 0, 0, 0), (.goto (4), 3, 0, 0, 0)]),
  (21, [(.iconst 0, 1, 0, 0, 0)]),
  (22, [(.ireturn, 1, 0, 0, 0)])]
def bl30 : List (Nat × List CE) := [(0, [(.aload_n 0, 1, 0, 0, 0), (.getfield 46, 3, 0, 4, 0), (.ifCond .ne (5), 3, 0, 0, 0), (.iconst 0, 1, 0, 0, 0), (.ireturn, 1, 0, 0, 0)]),
  (9, [(.aload_n 0, 1, 0, 0, 0), (.getfield 29, 3, 0, 3, 0), (.invokevirtual 156, 3, 63, 1, 0), (.iconst 3, 1, 0, 0, 0), (.if_icmp .lt (7), 3, 0, 0, 0), (.iconst 1, 1, 0, 0, 0), (.goto (4), 3, 0, 0, 0)]),
  (24, [(.iconst 0, 1, 0, 0, 0)]),
  (25, [(.istore_n 1, 1, 0, 0, 0), (.aload_n 0, 1, 0, 0, 0), (.getfield 12, 3, 0, 0, 0), (.getfield 159, 3, 1, 5, 0), (.bipush 100, 2, 0, 0, 0), (.if_icmp .lt (9), 3, 0, 0, 0), (.iload_n 1, 1, 0, 0, 0), (.iconst 2, 1, 0, 0, 0), (.iadd, 1, 0, 0, 0), (.goto (4), 3, 0, 0, 0)]),
  (44, [(.iload_n 1, 1, 0, 0, 0)]),
  (45, [(.ireturn, 1, 0, 0, 0)])]
def bl31 : List (Nat × List CE) := [(0, [(.aload_n 0, 1, 0, 0, 0), (.getfield 46, 3, 0, 4, 0), (.ifCond .eq (13), 3, 0, 0, 0), (.aload_n 0, 1, 0, 0, 0), (.getfield 12, 3, 0, 0, 0), (.getfield 159, 3, 1, 5, 0), (.goto (4), 3, 0, 0, 0)]),
  (17, [(.iconst 0, 1, 0, 0, 0)]),
  (18, [(.ireturn, 1, 0, 0, 0)])]
def bl32 : List (Nat × List CE) := [(0, [(.aload_n 0, 1, 0, 0, 0), (.getfield 46, 3, 0, 4, 0), (.ifCond .eq (13), 3, 0, 0, 0), (.aload_n 0, 1, 0, 0, 0), (.getfield 29, 3, 0, 3, 0), (.getfield 106, 3, 4, 4, 0), (.goto (4), 3, 0, 0, 0)]),
  (17, [(.iconst 0, 1, 0, 0, 0)]),
  (18, [(.ireturn, 1, 0, 0, 0)])]
def bl33 : List (Nat × List CE) := [(0, [(.aload_n 0, 1, 0, 0, 0), (.getfield 46, 3, 0, 4, 0), (.ifCond .eq (12), 3, 0, 0, 0), (.iload_n 1, 1, 0, 0, 0), (.ifCond .lt (8), 3, 0, 0, 0), (.iload_n 1, 1, 0, 0, 0), (.iconst 2, 1, 0, 0, 0), (.if_icmp .le (7), 3, 0, 0, 0)]),
  (16, [(.sipush (-10000), 3, 0, 0, 0), (.ireturn, 1, 0, 0, 0)]),
  (20, [(.iload_n 1, 1, 0, 0, 0), (.ifCond .ne (21), 3, 0, 0, 0), (.aload_n 0, 1, 0, 0, 0), (.getfield 12, 3, 0, 0, 0), (.getfield 33, 3, 1, 0, 0), (.aload_n 0, 1, 0, 0, 0), (.getfield 12, 3, 0, 0, 0), (.getfield 122, 3, 1, 2, 0), (.invokevirtual 162, 3, 58, 2, 0), (.ireturn, 1, 0, 0, 0)]),
  (42, [(.iload_n 1, 1, 0, 0, 0), (.iconst 1, 1, 0, 0, 0), (.if_icmp .ne (10), 3, 0, 0, 0), (.aload_n 0, 1, 0, 0, 0), (.invokevirtual 165, 3, 36, 1, 0), (.goto (7), 3, 0, 0, 0)]),
  (54, [(.aload_n 0, 1, 0, 0, 0), (.invokevirtual 168, 3, 38, 1, 0)]),
  (58, [(.ireturn, 1, 0, 0, 0)])]
def bl34 : List (Nat × List CE) := [(0, [(.aload_n 0, 1, 0, 0, 0), (.getfield 23, 3, 0, 2, 0), (.iconst 0, 1, 0, 0, 0), (.putfield 131, 3, 3, 1, 0), (.aload_n 0, 1, 0, 0, 0), (.getfield 12, 3, 0, 0, 0), (.aload_n 0, 1, 0, 0, 0), (.getfield 23, 3, 0, 2, 0), (.invokestatic 174, 3, 119, 2, 0), (.aload_n 0, 1, 0, 0, 0), (.getfield 12, 3, 0, 0, 0), (.aload_n 0, 1, 0, 0, 0), (.getfield 23, 3, 0, 2, 0), (.invokestatic 180, 3, 125, 2, 0), (.iconst (-1), 1, 0, 0, 0), (.istore_n 1, 1, 0, 0, 0), (.iconst 0, 1, 0, 0, 0), (.istore_n 2, 1, 0, 0, 0)]),
  (34, [(.iload_n 2, 1, 0, 0, 0), (.aload_n 0, 1, 0, 0, 0), (.getfield 23, 3, 0, 2, 0), (.getfield 131, 3, 3, 1, 0), (.if_icmp .ge (49), 3, 0, 0, 0), (.aload_n 0, 1, 0, 0, 0), (.getfield 23, 3, 0, 2, 0), (.getfield 134, 3, 3, 0, 0), (.iload_n 2, 1, 0, 0, 0), (.iaload, 1, 0, 0, 0), (.istore_n 3, 1, 0, 0, 0), (.aload_n 0, 1, 0, 0, 0), (.getfield 12, 3, 0, 0, 0), (.iload_n 3, 1, 0, 0, 0), (.invokevirtual 193, 3, 49, 2, 0), (.istore 4, 2, 0, 0, 0), (.iload 4, 2, 0, 0, 0), (.iload_n 1, 1, 0, 0, 0), (.if_icmp .le (17), 3, 0, 0, 0), (.aload_n 0, 1, 0, 0, 0), (.getfield 12, 3, 0, 0, 0), (.iload_n 3, 1, 0, 0, 0), (.invokevirtual 183, 3, 40, 2, 0), (.ifCond .eq (6), 3, 0, 0, 0), (.iload 4, 2, 0, 0, 0), (.istore_n 1, 1, 0, 0, 0)]),
  (85, [(.iinc 2 (1), 3, 0, 0, 0), (.goto (-54), 3, 0, 0, 0)]),
  (91, [(.iload_n 1, 1, 0, 0, 0), (.ifCond .ge (8), 3, 0, 0, 0), (.aload_n 0, 1, 0, 0, 0), (.invokevirtual 196, 3, 37, 1, 0), (.ireturn, 1, 0, 0, 0)]),
  (100, [(.aload_n 0, 1, 0, 0, 0), (.getfield 12, 3, 0, 0, 0), (.getfield 33, 3, 1, 0, 0), (.aload_n 0, 1, 0, 0, 0), (.getfield 12, 3, 0, 0, 0), (.getfield 122, 3, 1, 2, 0), (.invokevirtual 162, 3, 58, 2, 0), (.iload_n 1, 1, 0, 0, 0), (.iadd, 1, 0, 0, 0), (.ireturn, 1, 0, 0, 0)])]
def bl35 : List (Nat × List CE) := [(0, [(.aload_n 0, 1, 0, 0, 0), (.getfield 12, 3, 0, 0, 0), (.invokevirtual 150, 3, 48, 1, 0), (.ifCond .eq (9), 3, 0, 0, 0), (.sipush (-1000), 3, 0, 0, 0), (.goto (4), 3, 0, 0, 0)]),
  (16, [(.iconst 0, 1, 0, 0, 0)]),
  (17, [(.ireturn, 1, 0, 0, 0)])]
def bl36 : List (Nat × List CE) := [(0, [(.aload_n 0, 1, 0, 0, 0), (.getfield 19, 3, 0, 1, 0), (.getfield 131, 3, 3, 1, 0), (.ifCond .ne (8), 3, 0, 0, 0), (.aload_n 0, 1, 0, 0, 0), (.invokevirtual 196, 3, 37, 1, 0), (.ireturn, 1, 0, 0, 0)]),
  (15, [(.sipush (-1000), 3, 0, 0, 0), (.istore_n 1, 1, 0, 0, 0), (.iconst 0, 1, 0, 0, 0), (.istore_n 2, 1, 0, 0, 0)]),
  (21, [(.iload_n 2, 1, 0, 0, 0), (.aload_n 0, 1, 0, 0, 0), (.getfield 19, 3, 0, 1, 0), (.getfield 131, 3, 3, 1, 0), (.if_icmp .ge (49), 3, 0, 0, 0), (.aload_n 0, 1, 0, 0, 0), (.getfield 19, 3, 0, 1, 0), (.getfield 134, 3, 3, 0, 0), (.iload_n 2, 1, 0, 0, 0), (.iaload, 1, 0, 0, 0), (.istore_n 3, 1, 0, 0, 0), (.aload_n 0, 1, 0, 0, 0), (.getfield 12, 3, 0, 0, 0), (.iload_n 3, 1, 0, 0, 0), (.invokevirtual 88, 3, 41, 2, 0), (.istore 4, 2, 0, 0, 0), (.iload_n 1, 1, 0, 0, 0), (.aload_n 0, 1, 0, 0, 0), (.invokevirtual 165, 3, 36, 1, 0), (.ineg, 1, 0, 0, 0), (.invokestatic 199, 3, 1, 2, 0), (.istore_n 1, 1, 0, 0, 0), (.aload_n 0, 1, 0, 0, 0), (.getfield 12, 3, 0, 0, 0), (.iload_n 3, 1, 0, 0, 0), (.iload 4, 2, 0, 0, 0), (.invokevirtual 116, 3, 47, 3, 0), (.iinc 2 (1), 3, 0, 0, 0), (.goto (-54), 3, 0, 0, 0)]),
  (78, [(.iload_n 1, 1, 0, 0, 0), (.ireturn, 1, 0, 0, 0)])]
def bl37 : List (Nat × List CE) := [(0, [(.aload_n 0, 1, 0, 0, 0), (.iload_n 1, 1, 0, 0, 0), (.putfield 22, 3, 1, 2, 0), (.aload_n 0, 1, 0, 0, 0), (.iload_n 2, 1, 0, 0, 0), (.putfield 26, 3, 1, 3, 0), (.aload_n 0, 1, 0, 0, 0), (.iload_n 3, 1, 0, 0, 0), (.putfield 29, 3, 1, 4, 0), (.aload_n 0, 1, 0, 0, 0), (.iconst 0, 1, 0, 0, 0), (.putfield 32, 3, 1, 5, 0), (.aload_n 0, 1, 0, 0, 0), (.getfield 18, 3, 1, 1, 0), (.iconst 0, 1, 0, 0, 0), (.aload_n 0, 1, 0, 0, 0), (.getfield 12, 3, 1, 0, 0), (.iconst 0, 1, 0, 0, 0), (.invokevirtual 35, 3, 52, 2, 0), (.iastore, 1, 0, 0, 0), (.aload_n 0, 1, 0, 0, 0), (.getfield 18, 3, 1, 1, 0), (.iconst 1, 1, 0, 0, 0), (.aload_n 0, 1, 0, 0, 0), (.getfield 12, 3, 1, 0, 0), (.iconst 1, 1, 0, 0, 0), (.invokevirtual 35, 3, 52, 2, 0), (.iastore, 1, 0, 0, 0), (.return_, 1, 0, 0, 0)])]
def bl38 : List (Nat × List CE) := [(0, [(.aload_n 0, 1, 0, 0, 0), (.getfield 22, 3, 1, 2, 0), (.istore_n 2, 1, 0, 0, 0), (.aload_n 0, 1, 0, 0, 0), (.iload_n 1, 1, 0, 0, 0), (.invokevirtual 43, 3, 41, 2, 0), (.istore_n 3, 1, 0, 0, 0), (.aload_n 0, 1, 0, 0, 0), (.getfield 12, 3, 1, 0, 0), (.aload_n 0, 1, 0, 0, 0), (.getfield 18, 3, 1, 1, 0), (.iload_n 2, 1, 0, 0, 0), (.iaload, 1, 0, 0, 0), (.iconst 1, 1, 0, 0, 0), (.iload_n 2, 1, 0, 0, 0), (.isub, 1, 0, 0, 0), (.invokevirtual 39, 3, 53, 3, 0), (.ifCond .ne (7), 3, 0, 0, 0), (.iconst 1, 1, 0, 0, 0), (.goto (4), 3, 0, 0, 0)]),
  (34, [(.iconst 0, 1, 0, 0, 0)]),
  (35, [(.istore 4, 2, 0, 0, 0), (.aload_n 0, 1, 0, 0, 0), (.iload_n 1, 1, 0, 0, 0), (.iload_n 3, 1, 0, 0, 0), (.invokevirtual 46, 3, 47, 3, 0), (.iload 4, 2, 0, 0, 0), (.ireturn, 1, 0, 0, 0)])]
def bl39 : List (Nat × List CE) := [(0, [(.iload_n 1, 1, 0, 0, 0), (.invokestatic 53, 3, 11, 1, 0), (.istore_n 2, 1, 0, 0, 0), (.iload_n 1, 1, 0, 0, 0), (.invokestatic 56, 3, 12, 1, 0), (.istore_n 3, 1, 0, 0, 0), (.aload_n 0, 1, 0, 0, 0), (.getfield 12, 3, 1, 0, 0), (.getfield 50, 3, 2, 0, 0), (.iload_n 2, 1, 0, 0, 0), (.iaload, 1, 0, 0, 0), (.istore 4, 2, 0, 0, 0), (.iload 4, 2, 0, 0, 0), (.invokestatic 68, 3, 6, 1, 0), (.istore 5, 2, 0, 0, 0), (.aload_n 0, 1, 0, 0, 0), (.iload 4, 2, 0, 0, 0), (.iload_n 3, 1, 0, 0, 0), (.invokevirtual 59, 3, 42, 3, 0), (.istore 6, 2, 0, 0, 0), (.aload_n 0, 1, 0, 0, 0), (.getfield 12, 3, 1, 0, 0), (.getfield 50, 3, 2, 0, 0), (.iload 6, 2, 0, 0, 0), (.iaload, 1, 0, 0, 0), (.istore 7, 2, 0, 0, 0), (.iload 7, 2, 0, 0, 0), (.aload_n 0, 1, 0, 0, 0), (.getfield 26, 3, 1, 3, 0), (.iconst 4, 1, 0, 0, 0), (.ishl, 1, 0, 0, 0), (.ior, 1, 0, 0, 0), (.aload_n 0, 1, 0, 0, 0), (.getfield 29, 3, 1, 4, 0), (.iconst 1, 1, 0, 0, 0), (.iadd, 1, 0, 0, 0), (.bipush 8, 2, 0, 0, 0), (.ishl, 1, 0, 0, 0), (.ior, 1, 0, 0, 0), (.aload_n 0, 1, 0, 0, 0), (.getfield 32, 3, 1, 5, 0), (.bipush 16, 2, 0, 0, 0), (.ishl, 1, 0, 0, 0), (.ior, 1, 0, 0, 0), (.istore 8, 2, 0, 0, 0), (.aload_n 0, 1, 0, 0, 0), (.getfield 12, 3, 1, 0, 0), (.getfield 50, 3, 2, 0, 0), (.iload 6, 2, 0, 0, 0), (.iconst 0, 1, 0, 0, 0), (.iastore, 1, 0, 0, 0), (.aload_n 0, 1, 0, 0, 0), (.getfield 12, 3, 1, 0, 0), (.getfield 50, 3, 2, 0, 0), (.iload_n 2, 1, 0, 0, 0), (.iconst 0, 1, 0, 0, 0), (.iastore, 1, 0, 0, 0), (.aload_n 0, 1, 0, 0, 0), (.getfield 12, 3, 1, 0, 0), (.getfield 50, 3, 2, 0, 0), (.iload_n 3, 1, 0, 0, 0), (.iload_n 1, 1, 0, 0, 0), (.invokestatic 62, 3, 13, 1, 0), (.ifCond .ne (8), 3, 0, 0, 0), (.iload 4, 2, 0, 0, 0), (.goto (14), 3, 0, 0, 0)]),
  (119, [(.iload_n 1, 1, 0, 0, 0), (.invokestatic 62, 3, 13, 1, 0), (.aload_n 0, 1, 0, 0, 0), (.getfield 22, 3, 1, 2, 0), (.invokestatic 71, 3, 2, 2, 0)]),
  (130, [(.iastore, 1, 0, 0, 0), (.iload 5, 2, 0, 0, 0), (.bipush 6, 2, 0, 0, 0), (.if_icmp .ne (35), 3, 0, 0, 0), (.aload_n 0, 1, 0, 0, 0), (.getfield 18, 3, 1, 1, 0), (.aload_n 0, 1, 0, 0, 0), (.getfield 22, 3, 1, 2, 0), (.iload_n 3, 1, 0, 0, 0), (.iastore, 1, 0, 0, 0), (.iload_n 2, 1, 0, 0, 0), (.iload_n 3, 1, 0, 0, 0), (.invokestatic 74, 3, 43, 2, 0), (.ifCond .eq (17), 3, 0, 0, 0), (.aload_n 0, 1, 0, 0, 0), (.iload_n 2, 1, 0, 0, 0), (.iload_n 3, 1, 0, 0, 0), (.invokestatic 78, 3, 44, 2, 0), (.iload_n 2, 1, 0, 0, 0), (.iload_n 3, 1, 0, 0, 0), (.iadd, 1, 0, 0, 0), (.iconst 2, 1, 0, 0, 0), (.idiv, 1, 0, 0, 0), (.invokevirtual 81, 3, 45, 3, 0)]),
  (170, [(.iload 5, 2, 0, 0, 0), (.iconst 1, 1, 0, 0, 0), (.if_icmp .ne (18), 3, 0, 0, 0), (.iload_n 3, 1, 0, 0, 0), (.iload_n 2, 1, 0, 0, 0), (.isub, 1, 0, 0, 0), (.invokestatic 84, 3, 0, 1, 0), (.bipush 16, 2, 0, 0, 0), (.if_icmp .ne (7), 3, 0, 0, 0), (.iconst 1, 1, 0, 0, 0), (.goto (4), 3, 0, 0, 0)]),
  (191, [(.iconst 0, 1, 0, 0, 0)]),
  (192, [(.istore 9, 2, 0, 0, 0), (.aload_n 0, 1, 0, 0, 0), (.iload 9, 2, 0, 0, 0), (.ifCond .eq (11), 3, 0, 0, 0), (.iload_n 2, 1, 0, 0, 0), (.iload_n 3, 1, 0, 0, 0), (.iadd, 1, 0, 0, 0), (.iconst 2, 1, 0, 0, 0), (.idiv, 1, 0, 0, 0), (.goto (4), 3, 0, 0, 0)]),
  (208, [(.iconst (-1), 1, 0, 0, 0)]),
  (209, [(.putfield 29, 3, 1, 4, 0), (.aload_n 0, 1, 0, 0, 0), (.iload 5, 2, 0, 0, 0), (.iconst 1, 1, 0, 0, 0), (.if_icmp .eq (8), 3, 0, 0, 0), (.iload 7, 2, 0, 0, 0), (.ifCond .eq (7), 3, 0, 0, 0)]),
  (224, [(.iconst 0, 1, 0, 0, 0), (.goto (9), 3, 0, 0, 0)]),
  (228, [(.aload_n 0, 1, 0, 0, 0), (.getfield 32, 3, 1, 5, 0), (.iconst 1, 1, 0, 0, 0), (.iadd, 1, 0, 0, 0)]),
  (234, [(.putfield 32, 3, 1, 5, 0), (.aload_n 0, 1, 0, 0, 0), (.iload_n 2, 1, 0, 0, 0), (.iload_n 3, 1, 0, 0, 0), (.invokevirtual 89, 3, 46, 3, 0), (.aload_n 0, 1, 0, 0, 0), (.iconst 1, 1, 0, 0, 0), (.aload_n 0, 1, 0, 0, 0), (.getfield 22, 3, 1, 2, 0), (.isub, 1, 0, 0, 0), (.putfield 22, 3, 1, 2, 0), (.iload 8, 2, 0, 0, 0), (.ireturn, 1, 0, 0, 0)])]
def bl40 : List (Nat × List CE) := [(0, [(.iload_n 1, 1, 0, 0, 0), (.invokestatic 68, 3, 6, 1, 0), (.iconst 1, 1, 0, 0, 0), (.if_icmp .ne (23), 3, 0, 0, 0), (.iload_n 2, 1, 0, 0, 0), (.aload_n 0, 1, 0, 0, 0), (.getfield 29, 3, 1, 4, 0), (.if_icmp .ne (15), 3, 0, 0, 0), (.iload_n 2, 1, 0, 0, 0), (.aload_n 0, 1, 0, 0, 0), (.getfield 22, 3, 1, 2, 0), (.invokestatic 92, 3, 7, 1, 0), (.isub, 1, 0, 0, 0), (.goto (4), 3, 0, 0, 0)]),
  (28, [(.iload_n 2, 1, 0, 0, 0)]),
  (29, [(.ireturn, 1, 0, 0, 0)])]
def bl41 : List (Nat × List CE) := [(0, [(.iload_n 1, 1, 0, 0, 0), (.iload_n 0, 1, 0, 0, 0), (.isub, 1, 0, 0, 0), (.invokestatic 84, 3, 0, 1, 0), (.iconst 2, 1, 0, 0, 0), (.if_icmp .ne (7), 3, 0, 0, 0), (.iconst 1, 1, 0, 0, 0), (.goto (4), 3, 0, 0, 0)]),
  (14, [(.iconst 0, 1, 0, 0, 0)]),
  (15, [(.ireturn, 1, 0, 0, 0)])]
def bl42 : List (Nat × List CE) := [(0, [(.iload_n 1, 1, 0, 0, 0), (.iload_n 0, 1, 0, 0, 0), (.if_icmp .le (9), 3, 0, 0, 0), (.iload_n 0, 1, 0, 0, 0), (.iconst 3, 1, 0, 0, 0), (.iadd, 1, 0, 0, 0), (.goto (6), 3, 0, 0, 0)]),
  (11, [(.iload_n 0, 1, 0, 0, 0), (.iconst 4, 1, 0, 0, 0), (.isub, 1, 0, 0, 0)]),
  (14, [(.ireturn, 1, 0, 0, 0)])]
def bl43 : List (Nat × List CE) := [(0, [(.aload_n 0, 1, 0, 0, 0), (.getfield 12, 3, 1, 0, 0), (.getfield 50, 3, 2, 0, 0), (.iload_n 2, 1, 0, 0, 0), (.aload_n 0, 1, 0, 0, 0), (.getfield 12, 3, 1, 0, 0), (.getfield 50, 3, 2, 0, 0), (.iload_n 1, 1, 0, 0, 0), (.iaload, 1, 0, 0, 0), (.iastore, 1, 0, 0, 0), (.aload_n 0, 1, 0, 0, 0), (.getfield 12, 3, 1, 0, 0), (.getfield 50, 3, 2, 0, 0), (.iload_n 1, 1, 0, 0, 0), (.iconst 0, 1, 0, 0, 0), (.iastore, 1, 0, 0, 0), (.return_, 1, 0, 0, 0)])]
def bl44 : List (Nat × List CE) := [(0, [(.aload_n 0, 1, 0, 0, 0), (.getfield 26, 3, 1, 3, 0), (.ifCond .ne (4), 3, 0, 0, 0), (.return_, 1, 0, 0, 0)]),
  (8, [(.iconst 0, 1, 0, 0, 0), (.istore_n 3, 1, 0, 0, 0)]),
  (10, [(.iload_n 3, 1, 0, 0, 0), (.iconst 4, 1, 0, 0, 0), (.if_icmp .ge (83), 3, 0, 0, 0), (.iload_n 1, 1, 0, 0, 0), (.getstatic 95, 3, 24, 0, 0), (.iload_n 3, 1, 0, 0, 0), (.iaload, 1, 0, 0, 0), (.if_icmp .eq (12), 3, 0, 0, 0), (.iload_n 2, 1, 0, 0, 0), (.getstatic 95, 3, 24, 0, 0), (.iload_n 3, 1, 0, 0, 0), (.iaload, 1, 0, 0, 0), (.if_icmp .ne (7), 3, 0, 0, 0)]),
  (33, [(.iconst 1, 1, 0, 0, 0), (.goto (4), 3, 0, 0, 0)]),
  (37, [(.iconst 0, 1, 0, 0, 0)]),
  (38, [(.istore 4, 2, 0, 0, 0), (.iload_n 1, 1, 0, 0, 0), (.getstatic 98, 3, 25, 0, 0), (.iload_n 3, 1, 0, 0, 0), (.iaload, 1, 0, 0, 0), (.if_icmp .eq (12), 3, 0, 0, 0), (.iload_n 2, 1, 0, 0, 0), (.getstatic 98, 3, 25, 0, 0), (.iload_n 3, 1, 0, 0, 0), (.iaload, 1, 0, 0, 0), (.if_icmp .ne (7), 3, 0, 0, 0)]),
  (58, [(.iconst 1, 1, 0, 0, 0), (.goto (4), 3, 0, 0, 0)]),
  (62, [(.iconst 0, 1, 0, 0, 0)]),
  (63, [(.istore 5, 2, 0, 0, 0), (.iload 4, 2, 0, 0, 0), (.ifCond .ne (8), 3, 0, 0, 0), (.iload 5, 2, 0, 0, 0), (.ifCond .eq (17), 3, 0, 0, 0)]),
  (75, [(.aload_n 0, 1, 0, 0, 0), (.dup, 1, 0, 0, 0), (.getfield 26, 3, 1, 3, 0), (.iconst 1, 1, 0, 0, 0), (.iload_n 3, 1, 0, 0, 0), (.ishl, 1, 0, 0, 0), (.iconst (-1), 1, 0, 0, 0), (.ixor, 1, 0, 0, 0), (.iand, 1, 0, 0, 0), (.putfield 26, 3, 1, 3, 0)]),
  (89, [(.iinc 3 (1), 3, 0, 0, 0), (.goto (-82), 3, 0, 0, 0)]),
  (95, [(.return_, 1, 0, 0, 0)])]
def bl45 : List (Nat × List CE) := [(0, [(.iload_n 1, 1, 0, 0, 0), (.invokestatic 53, 3, 11, 1, 0), (.istore_n 3, 1, 0, 0, 0), (.iload_n 1, 1, 0, 0, 0), (.invokestatic 56, 3, 12, 1, 0), (.istore 4, 2, 0, 0, 0), (.aload_n 0, 1, 0, 0, 0), (.iconst 1, 1, 0, 0, 0), (.aload_n 0, 1, 0, 0, 0), (.getfield 22, 3, 1, 2, 0), (.isub, 1, 0, 0, 0), (.putfield 22, 3, 1, 2, 0), (.aload_n 0, 1, 0, 0, 0), (.iload_n 2, 1, 0, 0, 0), (.iconst 4, 1, 0, 0, 0), (.ishr, 1, 0, 0, 0), (.bipush 15, 2, 0, 0, 0), (.iand, 1, 0, 0, 0), (.putfield 26, 3, 1, 3, 0), (.aload_n 0, 1, 0, 0, 0), (.iload_n 2, 1, 0, 0, 0), (.bipush 8, 2, 0, 0, 0), (.ishr, 1, 0, 0, 0), (.bipush 127, 2, 0, 0, 0), (.iand, 1, 0, 0, 0), (.iconst 1, 1, 0, 0, 0), (.isub, 1, 0, 0, 0), (.putfield 29, 3, 1, 4, 0), (.aload_n 0, 1, 0, 0, 0), (.iload_n 2, 1, 0, 0, 0), (.bipush 16, 2, 0, 0, 0), (.ishr, 1, 0, 0, 0), (.putfield 32, 3, 1, 5, 0), (.iload_n 1, 1, 0, 0, 0), (.invokestatic 62, 3, 13, 1, 0), (.ifCond .ne (16), 3, 0, 0, 0), (.aload_n 0, 1, 0, 0, 0), (.getfield 12, 3, 1, 0, 0), (.getfield 50, 3, 2, 0, 0), (.iload 4, 2, 0, 0, 0), (.iaload, 1, 0, 0, 0), (.goto (11), 3, 0, 0, 0)]),
  (72, [(.iconst 1, 1, 0, 0, 0), (.aload_n 0, 1, 0, 0, 0), (.getfield 22, 3, 1, 2, 0), (.invokestatic 71, 3, 2, 2, 0)]),
  (80, [(.istore 5, 2, 0, 0, 0), (.aload_n 0, 1, 0, 0, 0), (.getfield 12, 3, 1, 0, 0), (.getfield 50, 3, 2, 0, 0), (.iload 4, 2, 0, 0, 0), (.iconst 0, 1, 0, 0, 0), (.iastore, 1, 0, 0, 0), (.aload_n 0, 1, 0, 0, 0), (.getfield 12, 3, 1, 0, 0), (.getfield 50, 3, 2, 0, 0), (.iload_n 3, 1, 0, 0, 0), (.iload 5, 2, 0, 0, 0), (.iastore, 1, 0, 0, 0), (.aload_n 0, 1, 0, 0, 0), (.getfield 12, 3, 1, 0, 0), (.getfield 50, 3, 2, 0, 0), (.aload_n 0, 1, 0, 0, 0), (.iload 5, 2, 0, 0, 0), (.iload 4, 2, 0, 0, 0), (.invokevirtual 59, 3, 42, 3, 0), (.iload_n 2, 1, 0, 0, 0), (.bipush 15, 2, 0, 0, 0), (.iand, 1, 0, 0, 0), (.iastore, 1, 0, 0, 0), (.iload 5, 2, 0, 0, 0), (.invokestatic 68, 3, 6, 1, 0), (.bipush 6, 2, 0, 0, 0), (.if_icmp .ne (38), 3, 0, 0, 0), (.aload_n 0, 1, 0, 0, 0), (.getfield 18, 3, 1, 1, 0), (.aload_n 0, 1, 0, 0, 0), (.getfield 22, 3, 1, 2, 0), (.iload_n 3, 1, 0, 0, 0), (.iastore, 1, 0, 0, 0), (.iload_n 3, 1, 0, 0, 0), (.iload 4, 2, 0, 0, 0), (.invokestatic 74, 3, 43, 2, 0), (.ifCond .eq (19), 3, 0, 0, 0), (.aload_n 0, 1, 0, 0, 0), (.iload_n 3, 1, 0, 0, 0), (.iload 4, 2, 0, 0, 0), (.iadd, 1, 0, 0, 0), (.iconst 2, 1, 0, 0, 0), (.idiv, 1, 0, 0, 0), (.iload_n 3, 1, 0, 0, 0), (.iload 4, 2, 0, 0, 0), (.invokestatic 78, 3, 44, 2, 0), (.invokevirtual 81, 3, 45, 3, 0)]),
  (169, [(.return_, 1, 0, 0, 0)])]
def bl46 : List (Nat × List CE) := [(0, [(.aload_n 0, 1, 0, 0, 0), (.getfield 12, 3, 1, 0, 0), (.aload_n 0, 1, 0, 0, 0), (.getfield 18, 3, 1, 1, 0), (.aload_n 0, 1, 0, 0, 0), (.getfield 22, 3, 1, 2, 0), (.iaload, 1, 0, 0, 0), (.iconst 1, 1, 0, 0, 0), (.aload_n 0, 1, 0, 0, 0), (.getfield 22, 3, 1, 2, 0), (.isub, 1, 0, 0, 0), (.invokevirtual 39, 3, 53, 3, 0), (.ifCond .le (7), 3, 0, 0, 0), (.iconst 1, 1, 0, 0, 0), (.goto (4), 3, 0, 0, 0)]),
  (29, [(.iconst 0, 1, 0, 0, 0)]),
  (30, [(.ireturn, 1, 0, 0, 0)])]
def bl47 : List (Nat × List CE) := [(0, [(.aload_n 0, 1, 0, 0, 0), (.getfield 12, 3, 1, 0, 0), (.getfield 50, 3, 2, 0, 0), (.iload_n 1, 1, 0, 0, 0), (.invokestatic 53, 3, 11, 1, 0), (.iaload, 1, 0, 0, 0), (.istore_n 2, 1, 0, 0, 0), (.aload_n 0, 1, 0, 0, 0), (.getfield 12, 3, 1, 0, 0), (.getfield 50, 3, 2, 0, 0), (.aload_n 0, 1, 0, 0, 0), (.iload_n 2, 1, 0, 0, 0), (.iload_n 1, 1, 0, 0, 0), (.invokestatic 56, 3, 12, 1, 0), (.invokevirtual 59, 3, 42, 3, 0), (.iaload, 1, 0, 0, 0), (.istore_n 3, 1, 0, 0, 0), (.iload_n 1, 1, 0, 0, 0), (.invokestatic 62, 3, 13, 1, 0), (.istore 4, 2, 0, 0, 0), (.iload 4, 2, 0, 0, 0), (.ifCond .ne (7), 3, 0, 0, 0), (.iconst 0, 1, 0, 0, 0), (.goto (15), 3, 0, 0, 0)]),
  (46, [(.getstatic 65, 3, 31, 0, 0), (.iload 4, 2, 0, 0, 0), (.iaload, 1, 0, 0, 0), (.getstatic 65, 3, 31, 0, 0), (.iconst 1, 1, 0, 0, 0), (.iaload, 1, 0, 0, 0), (.isub, 1, 0, 0, 0)]),
  (58, [(.istore 5, 2, 0, 0, 0), (.getstatic 65, 3, 31, 0, 0), (.iload_n 3, 1, 0, 0, 0), (.invokestatic 68, 3, 6, 1, 0), (.iaload, 1, 0, 0, 0), (.iload 5, 2, 0, 0, 0), (.iadd, 1, 0, 0, 0), (.ireturn, 1, 0, 0, 0)])]
def bl48 : List (Nat × List CE) := [(0, [(.aload_n 0, 1, 0, 0, 0), (.invokevirtual 21, 3, 51, 1, 0), (.iconst 0, 1, 0, 0, 0), (.istore_n 1, 1, 0, 0, 0)]),
  (6, [(.iload_n 1, 1, 0, 0, 0), (.bipush 8, 2, 0, 0, 0), (.if_icmp .ge (70), 3, 0, 0, 0), (.aload_n 0, 1, 0, 0, 0), (.getfield 9, 3, 2, 0, 0), (.iload_n 1, 1, 0, 0, 0), (.getstatic 24, 3, 30, 0, 0), (.iload_n 1, 1, 0, 0, 0), (.iaload, 1, 0, 0, 0), (.iconst 0, 1, 0, 0, 0), (.invokestatic 27, 3, 2, 2, 0), (.iastore, 1, 0, 0, 0), (.aload_n 0, 1, 0, 0, 0), (.getfield 9, 3, 2, 0, 0), (.bipush 8, 2, 0, 0, 0), (.iload_n 1, 1, 0, 0, 0), (.iadd, 1, 0, 0, 0), (.iconst 1, 1, 0, 0, 0), (.iconst 0, 1, 0, 0, 0), (.invokestatic 27, 3, 2, 2, 0), (.iastore, 1, 0, 0, 0), (.aload_n 0, 1, 0, 0, 0), (.getfield 9, 3, 2, 0, 0), (.bipush 48, 2, 0, 0, 0), (.iload_n 1, 1, 0, 0, 0), (.iadd, 1, 0, 0, 0), (.iconst 1, 1, 0, 0, 0), (.iconst 1, 1, 0, 0, 0), (.invokestatic 27, 3, 2, 2, 0), (.iastore, 1, 0, 0, 0), (.aload_n 0, 1, 0, 0, 0), (.getfield 9, 3, 2, 0, 0), (.bipush 56, 2, 0, 0, 0), (.iload_n 1, 1, 0, 0, 0), (.iadd, 1, 0, 0, 0), (.getstatic 24, 3, 30, 0, 0), (.iload_n 1, 1, 0, 0, 0), (.iaload, 1, 0, 0, 0), (.iconst 1, 1, 0, 0, 0), (.invokestatic 27, 3, 2, 2, 0), (.iastore, 1, 0, 0, 0), (.iinc 1 (1), 3, 0, 0, 0), (.goto (-70), 3, 0, 0, 0)]),
  (79, [(.return_, 1, 0, 0, 0)])]
def bl49 : List (Nat × List CE) := [(0, [(.aload_n 0, 1, 0, 0, 0), (.getfield 9, 3, 2, 0, 0), (.iconst 0, 1, 0, 0, 0), (.invokestatic 15, 3, 132, 2, 0), (.return_, 1, 0, 0, 0)])]
def bl50 : List (Nat × List CE) := [(0, [(.bipush 6, 2, 0, 0, 0), (.iload_n 1, 1, 0, 0, 0), (.invokestatic 27, 3, 2, 2, 0), (.istore_n 2, 1, 0, 0, 0), (.iconst 0, 1, 0, 0, 0), (.istore_n 3, 1, 0, 0, 0)]),
  (9, [(.iload_n 3, 1, 0, 0, 0), (.bipush 64, 2, 0, 0, 0), (.if_icmp .ge (21), 3, 0, 0, 0), (.aload_n 0, 1, 0, 0, 0), (.getfield 9, 3, 2, 0, 0), (.iload_n 3, 1, 0, 0, 0), (.iaload, 1, 0, 0, 0), (.iload_n 2, 1, 0, 0, 0), (.if_icmp .ne (5), 3, 0, 0, 0), (.iload_n 3, 1, 0, 0, 0), (.ireturn, 1, 0, 0, 0)]),
  (27, [(.iinc 3 (1), 3, 0, 0, 0), (.goto (-21), 3, 0, 0, 0)]),
  (33, [(.iconst (-1), 1, 0, 0, 0), (.ireturn, 1, 0, 0, 0)])]
def bl51 : List (Nat × List CE) := [(0, [(.iconst 0, 1, 0, 0, 0), (.istore_n 3, 1, 0, 0, 0), (.iconst 0, 1, 0, 0, 0), (.istore 4, 2, 0, 0, 0)]),
  (5, [(.iload 4, 2, 0, 0, 0), (.bipush 8, 2, 0, 0, 0), (.if_icmp .ge (67), 3, 0, 0, 0), (.aload_n 0, 1, 0, 0, 0), (.iload_n 1, 1, 0, 0, 0), (.iload 4, 2, 0, 0, 0), (.invokevirtual 31, 3, 54, 3, 0), (.istore 5, 2, 0, 0, 0), (.iload 5, 2, 0, 0, 0), (.iconst (-1), 1, 0, 0, 0), (.if_icmp .eq (32), 3, 0, 0, 0), (.aload_n 0, 1, 0, 0, 0), (.getfield 9, 3, 2, 0, 0), (.iload 5, 2, 0, 0, 0), (.iaload, 1, 0, 0, 0), (.iload_n 2, 1, 0, 0, 0), (.invokestatic 34, 3, 5, 2, 0), (.ifCond .eq (18), 3, 0, 0, 0), (.aload_n 0, 1, 0, 0, 0), (.iload 5, 2, 0, 0, 0), (.iload_n 1, 1, 0, 0, 0), (.iload 4, 2, 0, 0, 0), (.invokevirtual 38, 3, 55, 4, 0), (.ifCond .eq (6), 3, 0, 0, 0), (.iinc 3 (1), 3, 0, 0, 0)]),
  (56, [(.aload_n 0, 1, 0, 0, 0), (.iload_n 1, 1, 0, 0, 0), (.iload 4, 2, 0, 0, 0), (.iload_n 2, 1, 0, 0, 0), (.invokevirtual 42, 3, 56, 4, 0), (.ifCond .eq (6), 3, 0, 0, 0), (.iinc 3 (1), 3, 0, 0, 0)]),
  (70, [(.iinc 4 (1), 3, 0, 0, 0), (.goto (-68), 3, 0, 0, 0)]),
  (76, [(.iload_n 3, 1, 0, 0, 0), (.ireturn, 1, 0, 0, 0)])]
def bl52 : List (Nat × List CE) := [(0, [(.iload_n 1, 1, 0, 0, 0), (.bipush 8, 2, 0, 0, 0), (.irem, 1, 0, 0, 0), (.istore_n 3, 1, 0, 0, 0), (.iload_n 1, 1, 0, 0, 0), (.bipush 8, 2, 0, 0, 0), (.idiv, 1, 0, 0, 0), (.istore 4, 2, 0, 0, 0), (.iconst 1, 1, 0, 0, 0), (.istore 5, 2, 0, 0, 0)]),
  (14, [(.iload 5, 2, 0, 0, 0), (.bipush 8, 2, 0, 0, 0), (.if_icmp .ge (61), 3, 0, 0, 0), (.iload_n 3, 1, 0, 0, 0), (.getstatic 45, 3, 26, 0, 0), (.iload_n 2, 1, 0, 0, 0), (.iaload, 1, 0, 0, 0), (.iadd, 1, 0, 0, 0), (.istore_n 3, 1, 0, 0, 0), (.iload 4, 2, 0, 0, 0), (.getstatic 48, 3, 27, 0, 0), (.iload_n 2, 1, 0, 0, 0), (.iaload, 1, 0, 0, 0), (.iadd, 1, 0, 0, 0), (.istore 4, 2, 0, 0, 0), (.iload_n 3, 1, 0, 0, 0), (.iload 4, 2, 0, 0, 0), (.invokestatic 51, 3, 10, 2, 0), (.ifCond .ne (5), 3, 0, 0, 0), (.iconst (-1), 1, 0, 0, 0), (.ireturn, 1, 0, 0, 0)]),
  (50, [(.aload_n 0, 1, 0, 0, 0), (.getfield 9, 3, 2, 0, 0), (.bipush 8, 2, 0, 0, 0), (.iload 4, 2, 0, 0, 0), (.imul, 1, 0, 0, 0), (.iload_n 3, 1, 0, 0, 0), (.iadd, 1, 0, 0, 0), (.iaload, 1, 0, 0, 0), (.ifCond .eq (11), 3, 0, 0, 0), (.bipush 8, 2, 0, 0, 0), (.iload 4, 2, 0, 0, 0), (.imul, 1, 0, 0, 0), (.iload_n 3, 1, 0, 0, 0), (.iadd, 1, 0, 0, 0), (.ireturn, 1, 0, 0, 0)]),
  (73, [(.iinc 5 (1), 3, 0, 0, 0), (.goto (-62), 3, 0, 0, 0)]),
  (79, [(.iconst (-1), 1, 0, 0, 0), (.ireturn, 1, 0, 0, 0)])]
def bl53 : List (Nat × List CE) := [(0, [(.aload_n 0, 1, 0, 0, 0), (.getfield 9, 3, 2, 0, 0), (.iload_n 1, 1, 0, 0, 0), (.iaload, 1, 0, 0, 0), (.istore 4, 2, 0, 0, 0), (.iload_n 1, 1, 0, 0, 0), (.iload_n 2, 1, 0, 0, 0), (.isub, 1, 0, 0, 0), (.bipush 8, 2, 0, 0, 0), (.getstatic 48, 3, 27, 0, 0), (.iload_n 3, 1, 0, 0, 0), (.iaload, 1, 0, 0, 0), (.imul, 1, 0, 0, 0), (.getstatic 45, 3, 26, 0, 0), (.iload_n 3, 1, 0, 0, 0), (.iaload, 1, 0, 0, 0), (.iadd, 1, 0, 0, 0), (.if_icmp .ne (7), 3, 0, 0, 0), (.iconst 1, 1, 0, 0, 0), (.goto (4), 3, 0, 0, 0)]),
  (32, [(.iconst 0, 1, 0, 0, 0)]),
  (33, [(.istore 5, 2, 0, 0, 0), (.getstatic 45, 3, 26, 0, 0), (.iload_n 3, 1, 0, 0, 0), (.iaload, 1, 0, 0, 0), (.ifCond .eq (15), 3, 0, 0, 0), (.getstatic 48, 3, 27, 0, 0), (.iload_n 3, 1, 0, 0, 0), (.iaload, 1, 0, 0, 0), (.ifCond .eq (7), 3, 0, 0, 0), (.iconst 1, 1, 0, 0, 0), (.goto (4), 3, 0, 0, 0)]),
  (55, [(.iconst 0, 1, 0, 0, 0)]),
  (56, [(.istore 6, 2, 0, 0, 0), (.iload 4, 2, 0, 0, 0), (.invokestatic 54, 3, 6, 1, 0), (.tableswitch 91 1 6 #[37, 91, 72, 75, 86, 88], 37, 0, 0, 0)]),
  (100, [(.iload 5, 2, 0, 0, 0), (.ifCond .eq (31), 3, 0, 0, 0), (.iload 6, 2, 0, 0, 0), (.ifCond .eq (26), 3, 0, 0, 0), (.bipush 8, 2, 0, 0, 0), (.getstatic 48, 3, 27, 0, 0), (.iload_n 3, 1, 0, 0, 0), (.iaload, 1, 0, 0, 0), (.imul, 1, 0, 0, 0), (.iload 4, 2, 0, 0, 0), (.iconst 3, 1, 0, 0, 0), (.ishr, 1, 0, 0, 0), (.invokestatic 58, 3, 7, 1, 0), (.ineg, 1, 0, 0, 0), (.if_icmp .ne (7), 3, 0, 0, 0), (.iconst 1, 1, 0, 0, 0), (.goto (4), 3, 0, 0, 0)]),
  (133, [(.iconst 0, 1, 0, 0, 0)]),
  (134, [(.ireturn, 1, 0, 0, 0)]),
  (135, [(.iload 6, 2, 0, 0, 0), (.ireturn, 1, 0, 0, 0)]),
  (138, [(.iload 6, 2, 0, 0, 0), (.ifCond .ne (7), 3, 0, 0, 0), (.iconst 1, 1, 0, 0, 0), (.goto (4), 3, 0, 0, 0)]),
  (147, [(.iconst 0, 1, 0, 0, 0)]),
  (148, [(.ireturn, 1, 0, 0, 0)]),
  (149, [(.iconst 1, 1, 0, 0, 0), (.ireturn, 1, 0, 0, 0)]),
  (151, [(.iload 5, 2, 0, 0, 0), (.ireturn, 1, 0, 0, 0)]),
  (154, [(.iconst 0, 1, 0, 0, 0), (.ireturn, 1, 0, 0, 0)])]
def bl54 : List (Nat × List CE) := [(0, [(.iload_n 1, 1, 0, 0, 0), (.bipush 8, 2, 0, 0, 0), (.irem, 1, 0, 0, 0), (.getstatic 61, 3, 28, 0, 0), (.iload_n 2, 1, 0, 0, 0), (.iaload, 1, 0, 0, 0), (.iadd, 1, 0, 0, 0), (.istore 4, 2, 0, 0, 0), (.iload_n 1, 1, 0, 0, 0), (.bipush 8, 2, 0, 0, 0), (.idiv, 1, 0, 0, 0), (.getstatic 64, 3, 29, 0, 0), (.iload_n 2, 1, 0, 0, 0), (.iaload, 1, 0, 0, 0), (.iadd, 1, 0, 0, 0), (.istore 5, 2, 0, 0, 0), (.iload 4, 2, 0, 0, 0), (.iload 5, 2, 0, 0, 0), (.invokestatic 51, 3, 10, 2, 0), (.ifCond .eq (28), 3, 0, 0, 0), (.aload_n 0, 1, 0, 0, 0), (.getfield 9, 3, 2, 0, 0), (.bipush 8, 2, 0, 0, 0), (.iload 5, 2, 0, 0, 0), (.imul, 1, 0, 0, 0), (.iload 4, 2, 0, 0, 0), (.iadd, 1, 0, 0, 0), (.iaload, 1, 0, 0, 0), (.iconst 2, 1, 0, 0, 0), (.iload_n 3, 1, 0, 0, 0), (.invokestatic 27, 3, 2, 2, 0), (.if_icmp .ne (7), 3, 0, 0, 0), (.iconst 1, 1, 0, 0, 0), (.goto (4), 3, 0, 0, 0)]),
  (59, [(.iconst 0, 1, 0, 0, 0)]),
  (60, [(.ireturn, 1, 0, 0, 0)])]
def bl55 : List (Nat × List CE) := [(0, [(.iconst 0, 1, 0, 0, 0), (.istore_n 1, 1, 0, 0, 0), (.iconst 0, 1, 0, 0, 0), (.istore_n 2, 1, 0, 0, 0), (.iconst 0, 1, 0, 0, 0), (.istore_n 3, 1, 0, 0, 0), (.iconst 0, 1, 0, 0, 0), (.istore 4, 2, 0, 0, 0), (.iconst 0, 1, 0, 0, 0), (.istore 5, 2, 0, 0, 0)]),
  (12, [(.iload 5, 2, 0, 0, 0), (.bipush 64, 2, 0, 0, 0), (.if_icmp .ge (118), 3, 0, 0, 0), (.aload_n 0, 1, 0, 0, 0), (.getfield 9, 3, 2, 0, 0), (.iload 5, 2, 0, 0, 0), (.iaload, 1, 0, 0, 0), (.invokestatic 54, 3, 6, 1, 0), (.istore 6, 2, 0, 0, 0), (.iload 6, 2, 0, 0, 0), (.iconst 1, 1, 0, 0, 0), (.if_icmp .eq (15), 3, 0, 0, 0), (.iload 6, 2, 0, 0, 0), (.iconst 4, 1, 0, 0, 0), (.if_icmp .eq (9), 3, 0, 0, 0), (.iload 6, 2, 0, 0, 0), (.iconst 5, 1, 0, 0, 0), (.if_icmp .ne (5), 3, 0, 0, 0)]),
  (49, [(.iconst 0, 1, 0, 0, 0), (.ireturn, 1, 0, 0, 0)]),
  (51, [(.iload 6, 2, 0, 0, 0), (.iconst 2, 1, 0, 0, 0), (.if_icmp .ne (6), 3, 0, 0, 0), (.iinc 1 (1), 3, 0, 0, 0)]),
  (60, [(.iload 6, 2, 0, 0, 0), (.iconst 3, 1, 0, 0, 0), (.if_icmp .ne (65), 3, 0, 0, 0), (.iload_n 2, 1, 0, 0, 0), (.aload_n 0, 1, 0, 0, 0), (.getfield 9, 3, 2, 0, 0), (.iload 5, 2, 0, 0, 0), (.iaload, 1, 0, 0, 0), (.iconst 0, 1, 0, 0, 0), (.invokestatic 34, 3, 5, 2, 0), (.ifCond .eq (7), 3, 0, 0, 0), (.iconst 1, 1, 0, 0, 0), (.goto (4), 3, 0, 0, 0)]),
  (85, [(.iconst 0, 1, 0, 0, 0)]),
  (86, [(.iadd, 1, 0, 0, 0), (.istore_n 2, 1, 0, 0, 0), (.iload_n 3, 1, 0, 0, 0), (.aload_n 0, 1, 0, 0, 0), (.getfield 9, 3, 2, 0, 0), (.iload 5, 2, 0, 0, 0), (.iaload, 1, 0, 0, 0), (.iconst 1, 1, 0, 0, 0), (.invokestatic 34, 3, 5, 2, 0), (.ifCond .eq (7), 3, 0, 0, 0), (.iconst 1, 1, 0, 0, 0), (.goto (4), 3, 0, 0, 0)]),
  (107, [(.iconst 0, 1, 0, 0, 0)]),
  (108, [(.iadd, 1, 0, 0, 0), (.istore_n 3, 1, 0, 0, 0), (.iload 4, 2, 0, 0, 0), (.iload 5, 2, 0, 0, 0), (.bipush 8, 2, 0, 0, 0), (.irem, 1, 0, 0, 0), (.iload 5, 2, 0, 0, 0), (.bipush 8, 2, 0, 0, 0), (.idiv, 1, 0, 0, 0), (.iadd, 1, 0, 0, 0), (.iconst 2, 1, 0, 0, 0), (.irem, 1, 0, 0, 0), (.iadd, 1, 0, 0, 0), (.istore 4, 2, 0, 0, 0)]),
  (128, [(.iinc 5 (1), 3, 0, 0, 0), (.goto (-119), 3, 0, 0, 0)]),
  (134, [(.iload_n 1, 1, 0, 0, 0), (.iload_n 2, 1, 0, 0, 0), (.iadd, 1, 0, 0, 0), (.iload_n 3, 1, 0, 0, 0), (.iadd, 1, 0, 0, 0), (.iconst 1, 1, 0, 0, 0), (.if_icmp .gt (5), 3, 0, 0, 0), (.iconst 1, 1, 0, 0, 0), (.ireturn, 1, 0, 0, 0)]),
  (145, [(.iload_n 1, 1, 0, 0, 0), (.ifCond .ne (23), 3, 0, 0, 0), (.iload_n 2, 1, 0, 0, 0), (.iconst 1, 1, 0, 0, 0), (.if_icmp .ne (18), 3, 0, 0, 0), (.iload_n 3, 1, 0, 0, 0), (.iconst 1, 1, 0, 0, 0), (.if_icmp .ne (13), 3, 0, 0, 0), (.iload 4, 2, 0, 0, 0), (.iconst 1, 1, 0, 0, 0), (.if_icmp .eq (7), 3, 0, 0, 0), (.iconst 1, 1, 0, 0, 0), (.goto (4), 3, 0, 0, 0)]),
  (169, [(.iconst 0, 1, 0, 0, 0)]),
  (170, [(.ireturn, 1, 0, 0, 0)])]
def bl56 : List (Nat × List CE) := [(0, [(.iconst 0, 1, 0, 0, 0), (.istore_n 2, 1, 0, 0, 0), (.iconst 0, 1, 0, 0, 0), (.istore_n 3, 1, 0, 0, 0)]),
  (4, [(.iload_n 3, 1, 0, 0, 0), (.bipush 64, 2, 0, 0, 0), (.if_icmp .ge (48), 3, 0, 0, 0), (.getstatic 67, 3, 31, 0, 0), (.aload_n 0, 1, 0, 0, 0), (.getfield 9, 3, 2, 0, 0), (.iload_n 3, 1, 0, 0, 0), (.iaload, 1, 0, 0, 0), (.invokestatic 54, 3, 6, 1, 0), (.iaload, 1, 0, 0, 0), (.istore 4, 2, 0, 0, 0), (.iload_n 2, 1, 0, 0, 0), (.aload_n 0, 1, 0, 0, 0), (.getfield 9, 3, 2, 0, 0), (.iload_n 3, 1, 0, 0, 0), (.iaload, 1, 0, 0, 0), (.iload_n 1, 1, 0, 0, 0), (.invokestatic 34, 3, 5, 2, 0), (.ifCond .eq (8), 3, 0, 0, 0), (.iload 4, 2, 0, 0, 0), (.goto (6), 3, 0, 0, 0)]),
  (44, [(.iload 4, 2, 0, 0, 0), (.ineg, 1, 0, 0, 0)]),
  (47, [(.iadd, 1, 0, 0, 0), (.istore_n 2, 1, 0, 0, 0), (.iinc 3 (1), 3, 0, 0, 0), (.goto (-48), 3, 0, 0, 0)]),
  (55, [(.iload_n 2, 1, 0, 0, 0), (.ireturn, 1, 0, 0, 0)])]
def bl57 : List (Nat × List CE) := [(0, [(.aload_n 0, 1, 0, 0, 0), (.getfield 15, 3, 3, 1, 0), (.sipush 415, 3, 0, 0, 0), (.if_icmp .ge (23), 3, 0, 0, 0), (.aload_n 0, 1, 0, 0, 0), (.getfield 9, 3, 3, 0, 0), (.aload_n 0, 1, 0, 0, 0), (.getfield 15, 3, 3, 1, 0), (.iload_n 1, 1, 0, 0, 0), (.iastore, 1, 0, 0, 0), (.aload_n 0, 1, 0, 0, 0), (.dup, 1, 0, 0, 0), (.getfield 15, 3, 3, 1, 0), (.iconst 1, 1, 0, 0, 0), (.iadd, 1, 0, 0, 0), (.putfield 15, 3, 3, 1, 0)]),
  (30, [(.return_, 1, 0, 0, 0)])]
def bl58 : List (Nat × List CE) := [(0, [(.aload_n 0, 1, 0, 0, 0), (.getfield 15, 3, 3, 1, 0), (.sipush 415, 3, 0, 0, 0), (.if_icmp .lt (4), 3, 0, 0, 0), (.return_, 1, 0, 0, 0)]),
  (11, [(.aload_n 0, 1, 0, 0, 0), (.getfield 15, 3, 3, 1, 0), (.istore_n 2, 1, 0, 0, 0)]),
  (16, [(.iload_n 2, 1, 0, 0, 0), (.ifCond .le (35), 3, 0, 0, 0), (.aload_n 0, 1, 0, 0, 0), (.getfield 9, 3, 3, 0, 0), (.iload_n 2, 1, 0, 0, 0), (.iconst 1, 1, 0, 0, 0), (.isub, 1, 0, 0, 0), (.iaload, 1, 0, 0, 0), (.iload_n 1, 1, 0, 0, 0), (.if_icmp .le (23), 3, 0, 0, 0), (.aload_n 0, 1, 0, 0, 0), (.getfield 9, 3, 3, 0, 0), (.iload_n 2, 1, 0, 0, 0), (.aload_n 0, 1, 0, 0, 0), (.getfield 9, 3, 3, 0, 0), (.iload_n 2, 1, 0, 0, 0), (.iconst 1, 1, 0, 0, 0), (.isub, 1, 0, 0, 0), (.iaload, 1, 0, 0, 0), (.iastore, 1, 0, 0, 0), (.iinc 2 (-1), 3, 0, 0, 0), (.goto (-33), 3, 0, 0, 0)]),
  (52, [(.aload_n 0, 1, 0, 0, 0), (.getfield 9, 3, 3, 0, 0), (.iload_n 2, 1, 0, 0, 0), (.iload_n 1, 1, 0, 0, 0), (.iastore, 1, 0, 0, 0), (.aload_n 0, 1, 0, 0, 0), (.dup, 1, 0, 0, 0), (.getfield 15, 3, 3, 1, 0), (.iconst 1, 1, 0, 0, 0), (.iadd, 1, 0, 0, 0), (.putfield 15, 3, 3, 1, 0), (.return_, 1, 0, 0, 0)])]
def bl59 : List (Nat × List CE) := [(0, [(.iconst 0, 1, 0, 0, 0), (.istore_n 2, 1, 0, 0, 0)]),
  (2, [(.iload_n 2, 1, 0, 0, 0), (.aload_n 0, 1, 0, 0, 0), (.getfield 15, 3, 3, 1, 0), (.if_icmp .ge (21), 3, 0, 0, 0), (.aload_n 0, 1, 0, 0, 0), (.getfield 9, 3, 3, 0, 0), (.iload_n 2, 1, 0, 0, 0), (.iaload, 1, 0, 0, 0), (.iload_n 1, 1, 0, 0, 0), (.if_icmp .ne (5), 3, 0, 0, 0), (.iconst 1, 1, 0, 0, 0), (.ireturn, 1, 0, 0, 0)]),
  (22, [(.iinc 2 (1), 3, 0, 0, 0), (.goto (-23), 3, 0, 0, 0)]),
  (28, [(.iconst 0, 1, 0, 0, 0), (.ireturn, 1, 0, 0, 0)])]
def bl60 : List (Nat × List CE) := [(0, [(.iconst 0, 1, 0, 0, 0), (.istore_n 3, 1, 0, 0, 0)]),
  (2, [(.iload_n 3, 1, 0, 0, 0), (.iconst 4, 1, 0, 0, 0), (.if_icmp .ge (69), 3, 0, 0, 0), (.lconst 0, 1, 0, 0, 0), (.lstore 4, 2, 0, 0, 0), (.bipush 16, 2, 0, 0, 0), (.iload_n 3, 1, 0, 0, 0), (.imul, 1, 0, 0, 0), (.istore 6, 2, 0, 0, 0)]),
  (16, [(.iload 6, 2, 0, 0, 0), (.bipush 16, 2, 0, 0, 0), (.iload_n 3, 1, 0, 0, 0), (.imul, 1, 0, 0, 0), (.bipush 16, 2, 0, 0, 0), (.iadd, 1, 0, 0, 0), (.if_icmp .ge (27), 3, 0, 0, 0), (.lload 4, 2, 0, 0, 0), (.iconst 4, 1, 0, 0, 0), (.lshl, 1, 0, 0, 0), (.aload_n 1, 1, 0, 0, 0), (.getfield 29, 3, 1, 0, 0), (.getfield 35, 3, 2, 0, 0), (.iload 6, 2, 0, 0, 0), (.iaload, 1, 0, 0, 0), (.i2l, 1, 0, 0, 0), (.lor, 1, 0, 0, 0), (.lstore 4, 2, 0, 0, 0), (.iinc 6 (1), 3, 0, 0, 0), (.goto (-33), 3, 0, 0, 0)]),
  (52, [(.aload_n 0, 1, 0, 0, 0), (.getfield 18, 3, 4, 2, 0), (.iconst 4, 1, 0, 0, 0), (.aload_n 0, 1, 0, 0, 0), (.getfield 25, 3, 4, 4, 0), (.imul, 1, 0, 0, 0), (.iload_n 3, 1, 0, 0, 0), (.iadd, 1, 0, 0, 0), (.lload 4, 2, 0, 0, 0), (.lastore, 1, 0, 0, 0), (.iinc 3 (1), 3, 0, 0, 0), (.goto (-68), 3, 0, 0, 0)]),
  (73, [(.aload_n 0, 1, 0, 0, 0), (.getfield 22, 3, 4, 3, 0), (.aload_n 0, 1, 0, 0, 0), (.getfield 25, 3, 4, 4, 0), (.aload_n 1, 1, 0, 0, 0), (.getfield 40, 3, 1, 2, 0), (.aload_n 1, 1, 0, 0, 0), (.getfield 43, 3, 1, 3, 0), (.iconst 1, 1, 0, 0, 0), (.ishl, 1, 0, 0, 0), (.ior, 1, 0, 0, 0), (.iload_n 2, 1, 0, 0, 0), (.iconst 1, 1, 0, 0, 0), (.iadd, 1, 0, 0, 0), (.iconst 5, 1, 0, 0, 0), (.ishl, 1, 0, 0, 0), (.ior, 1, 0, 0, 0), (.iastore, 1, 0, 0, 0), (.return_, 1, 0, 0, 0)])]
def bl61 : List (Nat × List CE) := [(0, [(.iconst 0, 1, 0, 0, 0), (.istore_n 1, 1, 0, 0, 0), (.iconst 0, 1, 0, 0, 0), (.istore_n 2, 1, 0, 0, 0)]),
  (4, [(.iload_n 2, 1, 0, 0, 0), (.aload_n 0, 1, 0, 0, 0), (.getfield 25, 3, 4, 4, 0), (.if_icmp .gt (20), 3, 0, 0, 0), (.aload_n 0, 1, 0, 0, 0), (.iload_n 2, 1, 0, 0, 0), (.invokevirtual 46, 3, 64, 2, 0), (.ifCond .eq (6), 3, 0, 0, 0), (.iinc 1 (1), 3, 0, 0, 0)]),
  (23, [(.iinc 2 (1), 3, 0, 0, 0), (.goto (-22), 3, 0, 0, 0)]),
  (29, [(.iload_n 1, 1, 0, 0, 0), (.ireturn, 1, 0, 0, 0)])]
def bl62 : List (Nat × List CE) := [(0, [(.aload_n 0, 1, 0, 0, 0), (.getfield 22, 3, 4, 3, 0), (.iload_n 1, 1, 0, 0, 0), (.iaload, 1, 0, 0, 0), (.aload_n 0, 1, 0, 0, 0), (.getfield 22, 3, 4, 3, 0), (.aload_n 0, 1, 0, 0, 0), (.getfield 25, 3, 4, 4, 0), (.iaload, 1, 0, 0, 0), (.if_icmp .eq (5), 3, 0, 0, 0), (.iconst 0, 1, 0, 0, 0), (.ireturn, 1, 0, 0, 0)]),
  (20, [(.iconst 0, 1, 0, 0, 0), (.istore_n 2, 1, 0, 0, 0)]),
  (22, [(.iload_n 2, 1, 0, 0, 0), (.iconst 4, 1, 0, 0, 0), (.if_icmp .ge (38), 3, 0, 0, 0), (.aload_n 0, 1, 0, 0, 0), (.getfield 18, 3, 4, 2, 0), (.iconst 4, 1, 0, 0, 0), (.iload_n 1, 1, 0, 0, 0), (.imul, 1, 0, 0, 0), (.iload_n 2, 1, 0, 0, 0), (.iadd, 1, 0, 0, 0), (.laload, 1, 0, 0, 0), (.aload_n 0, 1, 0, 0, 0), (.getfield 18, 3, 4, 2, 0), (.iconst 4, 1, 0, 0, 0), (.aload_n 0, 1, 0, 0, 0), (.getfield 25, 3, 4, 4, 0), (.imul, 1, 0, 0, 0), (.iload_n 2, 1, 0, 0, 0), (.iadd, 1, 0, 0, 0), (.laload, 1, 0, 0, 0), (.lcmp, 1, 0, 0, 0), (.ifCond .eq (5), 3, 0, 0, 0), (.iconst 0, 1, 0, 0, 0), (.ireturn, 1, 0, 0, 0)]),
  (56, [(.iinc 2 (1), 3, 0, 0, 0), (.goto (-37), 3, 0, 0, 0)]),
  (62, [(.iconst 1, 1, 0, 0, 0), (.ireturn, 1, 0, 0, 0)])]
def bl63 : List (Nat × List CE) := [(0, [(.aload_n 0, 1, 0, 0, 0), (.getfield 25, 3, 4, 4, 0), (.sipush 512, 3, 0, 0, 0), (.if_icmp .lt (7), 3, 0, 0, 0), (.iconst 1, 1, 0, 0, 0), (.goto (4), 3, 0, 0, 0)]),
  (14, [(.iconst 0, 1, 0, 0, 0)]),
  (15, [(.ireturn, 1, 0, 0, 0)])]
def bl64 : List (Nat × List CE) := [(0, [(.aload_n 0, 1, 0, 0, 0), (.getfield 25, 3, 4, 4, 0), (.sipush 512, 3, 0, 0, 0), (.if_icmp .ge (33), 3, 0, 0, 0), (.aload_n 0, 1, 0, 0, 0), (.getfield 9, 3, 4, 0, 0), (.aload_n 0, 1, 0, 0, 0), (.getfield 25, 3, 4, 4, 0), (.iload_n 1, 1, 0, 0, 0), (.iastore, 1, 0, 0, 0), (.aload_n 0, 1, 0, 0, 0), (.getfield 15, 3, 4, 1, 0), (.aload_n 0, 1, 0, 0, 0), (.getfield 25, 3, 4, 4, 0), (.iload_n 2, 1, 0, 0, 0), (.iastore, 1, 0, 0, 0), (.aload_n 0, 1, 0, 0, 0), (.dup, 1, 0, 0, 0), (.getfield 25, 3, 4, 4, 0), (.iconst 1, 1, 0, 0, 0), (.iadd, 1, 0, 0, 0), (.putfield 25, 3, 4, 4, 0)]),
  (40, [(.return_, 1, 0, 0, 0)])]
def bl65 : List (Nat × List CE) := [(0, [(.aload_n 0, 1, 0, 0, 0), (.getfield 25, 3, 4, 4, 0), (.ifCond .le (17), 3, 0, 0, 0), (.aload_n 0, 1, 0, 0, 0), (.getfield 9, 3, 4, 0, 0), (.aload_n 0, 1, 0, 0, 0), (.getfield 25, 3, 4, 4, 0), (.iconst 1, 1, 0, 0, 0), (.isub, 1, 0, 0, 0), (.iaload, 1, 0, 0, 0), (.goto (4), 3, 0, 0, 0)]),
  (21, [(.iconst 0, 1, 0, 0, 0)]),
  (22, [(.ireturn, 1, 0, 0, 0)])]
def bl66 : List (Nat × List CE) := [(0, [(.aload_n 0, 1, 0, 0, 0), (.getfield 25, 3, 4, 4, 0), (.ifCond .le (17), 3, 0, 0, 0), (.aload_n 0, 1, 0, 0, 0), (.getfield 15, 3, 4, 1, 0), (.aload_n 0, 1, 0, 0, 0), (.getfield 25, 3, 4, 4, 0), (.iconst 1, 1, 0, 0, 0), (.isub, 1, 0, 0, 0), (.iaload, 1, 0, 0, 0), (.goto (4), 3, 0, 0, 0)]),
  (21, [(.iconst 0, 1, 0, 0, 0)]),
  (22, [(.ireturn, 1, 0, 0, 0)])]
def bl67 : List (Nat × List CE) := [(0, [(.aload_n 0, 1, 0, 0, 0), (.getfield 25, 3, 4, 4, 0), (.ifCond .le (13), 3, 0, 0, 0), (.aload_n 0, 1, 0, 0, 0), (.dup, 1, 0, 0, 0), (.getfield 25, 3, 4, 4, 0), (.iconst 1, 1, 0, 0, 0), (.isub, 1, 0, 0, 0), (.putfield 25, 3, 4, 4, 0)]),
  (17, [(.return_, 1, 0, 0, 0)])]
def bl68 : List (Nat × List CE) := [(0, [(.aload_n 0, 1, 0, 0, 0), (.invokevirtual 96, 3, 71, 1, 0), (.iconst 0, 1, 0, 0, 0), (.istore_n 1, 1, 0, 0, 0)]),
  (6, [(.iload_n 1, 1, 0, 0, 0), (.bipush 8, 2, 0, 0, 0), (.if_icmp .ge (105), 3, 0, 0, 0), (.iload_n 1, 1, 0, 0, 0), (.ifCond .eq (9), 3, 0, 0, 0), (.iload_n 1, 1, 0, 0, 0), (.bipush 7, 2, 0, 0, 0), (.if_icmp .ne (7), 3, 0, 0, 0)]),
  (22, [(.iconst 4, 1, 0, 0, 0), (.goto (43), 3, 0, 0, 0)]),
  (26, [(.iload_n 1, 1, 0, 0, 0), (.iconst 1, 1, 0, 0, 0), (.if_icmp .eq (9), 3, 0, 0, 0), (.iload_n 1, 1, 0, 0, 0), (.bipush 6, 2, 0, 0, 0), (.if_icmp .ne (7), 3, 0, 0, 0)]),
  (37, [(.iconst 2, 1, 0, 0, 0), (.goto (28), 3, 0, 0, 0)]),
  (41, [(.iload_n 1, 1, 0, 0, 0), (.iconst 2, 1, 0, 0, 0), (.if_icmp .eq (8), 3, 0, 0, 0), (.iload_n 1, 1, 0, 0, 0), (.iconst 5, 1, 0, 0, 0), (.if_icmp .ne (7), 3, 0, 0, 0)]),
  (51, [(.iconst 3, 1, 0, 0, 0), (.goto (14), 3, 0, 0, 0)]),
  (55, [(.iload_n 1, 1, 0, 0, 0), (.iconst 3, 1, 0, 0, 0), (.if_icmp .ne (7), 3, 0, 0, 0), (.iconst 5, 1, 0, 0, 0), (.goto (5), 3, 0, 0, 0)]),
  (64, [(.bipush 6, 2, 0, 0, 0)]),
  (66, [(.istore_n 2, 1, 0, 0, 0), (.aload_n 0, 1, 0, 0, 0), (.getfield 7, 3, 5, 0, 0), (.iload_n 1, 1, 0, 0, 0), (.iload_n 2, 1, 0, 0, 0), (.iastore, 1, 0, 0, 0), (.aload_n 0, 1, 0, 0, 0), (.getfield 7, 3, 5, 0, 0), (.bipush 8, 2, 0, 0, 0), (.iload_n 1, 1, 0, 0, 0), (.iadd, 1, 0, 0, 0), (.iconst 1, 1, 0, 0, 0), (.iastore, 1, 0, 0, 0), (.aload_n 0, 1, 0, 0, 0), (.getfield 7, 3, 5, 0, 0), (.bipush 48, 2, 0, 0, 0), (.iload_n 1, 1, 0, 0, 0), (.iadd, 1, 0, 0, 0), (.bipush 9, 2, 0, 0, 0), (.iastore, 1, 0, 0, 0), (.aload_n 0, 1, 0, 0, 0), (.getfield 7, 3, 5, 0, 0), (.bipush 56, 2, 0, 0, 0), (.iload_n 1, 1, 0, 0, 0), (.iadd, 1, 0, 0, 0), (.iload_n 2, 1, 0, 0, 0), (.bipush 8, 2, 0, 0, 0), (.iadd, 1, 0, 0, 0), (.iastore, 1, 0, 0, 0), (.iinc 1 (1), 3, 0, 0, 0), (.goto (-105), 3, 0, 0, 0)]),
  (114, [(.aload_n 0, 1, 0, 0, 0), (.iconst 0, 1, 0, 0, 0), (.bipush 15, 2, 0, 0, 0), (.iconst (-1), 1, 0, 0, 0), (.invokevirtual 99, 3, 72, 4, 0), (.return_, 1, 0, 0, 0)])]
def bl69 : List (Nat × List CE) := [(0, [(.iconst 0, 1, 0, 0, 0), (.istore_n 1, 1, 0, 0, 0)]),
  (2, [(.iload_n 1, 1, 0, 0, 0), (.bipush 64, 2, 0, 0, 0), (.if_icmp .ge (16), 3, 0, 0, 0), (.aload_n 0, 1, 0, 0, 0), (.getfield 7, 3, 5, 0, 0), (.iload_n 1, 1, 0, 0, 0), (.iconst 0, 1, 0, 0, 0), (.iastore, 1, 0, 0, 0), (.iinc 1 (1), 3, 0, 0, 0), (.goto (-16), 3, 0, 0, 0)]),
  (21, [(.aload_n 0, 1, 0, 0, 0), (.iconst 0, 1, 0, 0, 0), (.putfield 92, 3, 5, 4, 0), (.return_, 1, 0, 0, 0)])]
def bl70 : List (Nat × List CE) := [(0, [(.aload_n 0, 1, 0, 0, 0), (.iconst 1, 1, 0, 0, 0), (.putfield 92, 3, 5, 4, 0), (.aload_n 0, 1, 0, 0, 0), (.getfield 13, 3, 5, 1, 0), (.iconst 0, 1, 0, 0, 0), (.iload_n 1, 1, 0, 0, 0), (.iastore, 1, 0, 0, 0), (.aload_n 0, 1, 0, 0, 0), (.iload_n 1, 1, 0, 0, 0), (.putfield 103, 3, 5, 11, 0), (.aload_n 0, 1, 0, 0, 0), (.getfield 16, 3, 5, 2, 0), (.iconst 0, 1, 0, 0, 0), (.iload_n 2, 1, 0, 0, 0), (.iastore, 1, 0, 0, 0), (.aload_n 0, 1, 0, 0, 0), (.getfield 19, 3, 5, 3, 0), (.iconst 0, 1, 0, 0, 0), (.iload_n 3, 1, 0, 0, 0), (.iastore, 1, 0, 0, 0), (.aload_n 0, 1, 0, 0, 0), (.iconst 0, 1, 0, 0, 0), (.putfield 107, 3, 5, 12, 0), (.aload_n 0, 1, 0, 0, 0), (.iconst 0, 1, 0, 0, 0), (.putfield 110, 3, 5, 5, 0), (.aload_n 0, 1, 0, 0, 0), (.invokevirtual 113, 3, 73, 1, 0), (.return_, 1, 0, 0, 0)])]
def bl71 : List (Nat × List CE) := [(0, [(.iconst 0, 1, 0, 0, 0), (.istore_n 1, 1, 0, 0, 0)]),
  (2, [(.iload_n 1, 1, 0, 0, 0), (.iconst 4, 1, 0, 0, 0), (.if_icmp .ge (62), 3, 0, 0, 0), (.lconst 0, 1, 0, 0, 0), (.lstore_n 2, 1, 0, 0, 0), (.iconst 0, 1, 0, 0, 0), (.istore 4, 2, 0, 0, 0)]),
  (12, [(.iload 4, 2, 0, 0, 0), (.bipush 16, 2, 0, 0, 0), (.if_icmp .ge (30), 3, 0, 0, 0), (.lload_n 2, 1, 0, 0, 0), (.aload_n 0, 1, 0, 0, 0), (.getfield 7, 3, 5, 0, 0), (.bipush 16, 2, 0, 0, 0), (.iload_n 1, 1, 0, 0, 0), (.imul, 1, 0, 0, 0), (.iload 4, 2, 0, 0, 0), (.iadd, 1, 0, 0, 0), (.iaload, 1, 0, 0, 0), (.i2l, 1, 0, 0, 0), (.iconst 4, 1, 0, 0, 0), (.iload 4, 2, 0, 0, 0), (.imul, 1, 0, 0, 0), (.lshl, 1, 0, 0, 0), (.lor, 1, 0, 0, 0), (.lstore_n 2, 1, 0, 0, 0), (.iinc 4 (1), 3, 0, 0, 0), (.goto (-31), 3, 0, 0, 0)]),
  (46, [(.aload_n 0, 1, 0, 0, 0), (.getfield 22, 3, 5, 6, 0), (.iconst 4, 1, 0, 0, 0), (.aload_n 0, 1, 0, 0, 0), (.getfield 110, 3, 5, 5, 0), (.imul, 1, 0, 0, 0), (.iload_n 1, 1, 0, 0, 0), (.iadd, 1, 0, 0, 0), (.lload_n 2, 1, 0, 0, 0), (.lastore, 1, 0, 0, 0), (.iinc 1 (1), 3, 0, 0, 0), (.goto (-61), 3, 0, 0, 0)]),
  (66, [(.aload_n 0, 1, 0, 0, 0), (.getfield 26, 3, 5, 7, 0), (.aload_n 0, 1, 0, 0, 0), (.getfield 110, 3, 5, 5, 0), (.aload_n 0, 1, 0, 0, 0), (.getfield 16, 3, 5, 2, 0), (.iconst 0, 1, 0, 0, 0), (.iaload, 1, 0, 0, 0), (.i2b, 1, 0, 0, 0), (.bastore, 1, 0, 0, 0), (.aload_n 0, 1, 0, 0, 0), (.getfield 30, 3, 5, 8, 0), (.aload_n 0, 1, 0, 0, 0), (.getfield 110, 3, 5, 5, 0), (.aload_n 0, 1, 0, 0, 0), (.getfield 19, 3, 5, 3, 0), (.iconst 0, 1, 0, 0, 0), (.iaload, 1, 0, 0, 0), (.i2b, 1, 0, 0, 0), (.bastore, 1, 0, 0, 0), (.aload_n 0, 1, 0, 0, 0), (.getfield 33, 3, 5, 9, 0), (.aload_n 0, 1, 0, 0, 0), (.getfield 110, 3, 5, 5, 0), (.aload_n 0, 1, 0, 0, 0), (.invokevirtual 116, 3, 74, 1, 0), (.ifCond .eq (12), 3, 0, 0, 0), (.aload_n 0, 1, 0, 0, 0), (.getfield 19, 3, 5, 3, 0), (.iconst 0, 1, 0, 0, 0), (.iaload, 1, 0, 0, 0), (.goto (4), 3, 0, 0, 0)]),
  (122, [(.iconst (-1), 1, 0, 0, 0)]),
  (123, [(.i2b, 1, 0, 0, 0), (.bastore, 1, 0, 0, 0), (.aload_n 0, 1, 0, 0, 0), (.getfield 36, 3, 5, 10, 0), (.aload_n 0, 1, 0, 0, 0), (.getfield 110, 3, 5, 5, 0), (.aload_n 0, 1, 0, 0, 0), (.getfield 107, 3, 5, 12, 0), (.i2s, 1, 0, 0, 0), (.sastore, 1, 0, 0, 0), (.return_, 1, 0, 0, 0)])]
def bl72 : List (Nat × List CE) := [(0, [(.aload_n 0, 1, 0, 0, 0), (.getfield 19, 3, 5, 3, 0), (.iconst 0, 1, 0, 0, 0), (.iaload, 1, 0, 0, 0), (.ifCond .ge (5), 3, 0, 0, 0), (.iconst 0, 1, 0, 0, 0), (.ireturn, 1, 0, 0, 0)]),
  (11, [(.iconst 0, 1, 0, 0, 0), (.istore_n 1, 1, 0, 0, 0), (.iconst 0, 1, 0, 0, 0), (.istore_n 2, 1, 0, 0, 0)]),
  (15, [(.iload_n 2, 1, 0, 0, 0), (.bipush 64, 2, 0, 0, 0), (.if_icmp .ge (48), 3, 0, 0, 0), (.iload_n 1, 1, 0, 0, 0), (.ifCond .ne (32), 3, 0, 0, 0), (.aload_n 0, 1, 0, 0, 0), (.getfield 7, 3, 5, 0, 0), (.iload_n 2, 1, 0, 0, 0), (.iaload, 1, 0, 0, 0), (.invokestatic 47, 3, 75, 1, 0), (.iconst 1, 1, 0, 0, 0), (.if_icmp .ne (23), 3, 0, 0, 0), (.aload_n 0, 1, 0, 0, 0), (.iconst 0, 1, 0, 0, 0), (.iload_n 2, 1, 0, 0, 0), (.aload_n 0, 1, 0, 0, 0), (.getfield 19, 3, 5, 3, 0), (.iconst 0, 1, 0, 0, 0), (.iaload, 1, 0, 0, 0), (.iconst 0, 1, 0, 0, 0), (.invokevirtual 86, 3, 76, 5, 0), (.ifCond .eq (7), 3, 0, 0, 0)]),
  (54, [(.iconst 1, 1, 0, 0, 0), (.goto (4), 3, 0, 0, 0)]),
  (58, [(.iconst 0, 1, 0, 0, 0)]),
  (59, [(.istore_n 1, 1, 0, 0, 0), (.iinc 2 (1), 3, 0, 0, 0), (.goto (-48), 3, 0, 0, 0)]),
  (66, [(.iload_n 1, 1, 0, 0, 0), (.ireturn, 1, 0, 0, 0)])]
def bl73 : List (Nat × List CE) := [(0, [(.iload_n 0, 1, 0, 0, 0), (.bipush 7, 2, 0, 0, 0), (.iand, 1, 0, 0, 0), (.ireturn, 1, 0, 0, 0)])]
def bl74 : List (Nat × List CE) := [(0, [(.aload_n 0, 1, 0, 0, 0), (.iload_n 1, 1, 0, 0, 0), (.iload_n 2, 1, 0, 0, 0), (.iload_n 3, 1, 0, 0, 0), (.iload 4, 2, 0, 0, 0), (.invokevirtual 79, 3, 77, 5, 0), (.ifCond .ne (5), 3, 0, 0, 0), (.iconst 0, 1, 0, 0, 0), (.ireturn, 1, 0, 0, 0)]),
  (14, [(.aload_n 0, 1, 0, 0, 0), (.iload_n 1, 1, 0, 0, 0), (.iload_n 2, 1, 0, 0, 0), (.iload_n 3, 1, 0, 0, 0), (.iload 4, 2, 0, 0, 0), (.invokevirtual 82, 3, 86, 5, 0), (.aload_n 0, 1, 0, 0, 0), (.iload_n 1, 1, 0, 0, 0), (.iconst 1, 1, 0, 0, 0), (.iadd, 1, 0, 0, 0), (.aload_n 0, 1, 0, 0, 0), (.getfield 13, 3, 5, 1, 0), (.iload_n 1, 1, 0, 0, 0), (.iaload, 1, 0, 0, 0), (.invokevirtual 65, 3, 84, 3, 0), (.ifCond .ne (7), 3, 0, 0, 0), (.iconst 1, 1, 0, 0, 0), (.goto (4), 3, 0, 0, 0)]),
  (43, [(.iconst 0, 1, 0, 0, 0)]),
  (44, [(.ireturn, 1, 0, 0, 0)])]
def bl75 : List (Nat × List CE) := [(0, [(.aload_n 0, 1, 0, 0, 0), (.getfield 7, 3, 5, 0, 0), (.bipush 64, 2, 0, 0, 0), (.iload_n 1, 1, 0, 0, 0), (.imul, 1, 0, 0, 0), (.iload_n 2, 1, 0, 0, 0), (.iadd, 1, 0, 0, 0), (.iaload, 1, 0, 0, 0), (.istore 5, 2, 0, 0, 0), (.iload 5, 2, 0, 0, 0), (.aload_n 0, 1, 0, 0, 0), (.getfield 13, 3, 5, 1, 0), (.iload_n 1, 1, 0, 0, 0), (.iaload, 1, 0, 0, 0), (.invokestatic 54, 3, 78, 2, 0), (.ifCond .eq (26), 3, 0, 0, 0), (.aload_n 0, 1, 0, 0, 0), (.getfield 7, 3, 5, 0, 0), (.bipush 64, 2, 0, 0, 0), (.iload_n 1, 1, 0, 0, 0), (.imul, 1, 0, 0, 0), (.iload_n 3, 1, 0, 0, 0), (.iadd, 1, 0, 0, 0), (.iaload, 1, 0, 0, 0), (.aload_n 0, 1, 0, 0, 0), (.getfield 13, 3, 5, 1, 0), (.iload_n 1, 1, 0, 0, 0), (.iaload, 1, 0, 0, 0), (.invokestatic 54, 3, 78, 2, 0), (.ifCond .eq (5), 3, 0, 0, 0)]),
  (50, [(.iconst 0, 1, 0, 0, 0), (.ireturn, 1, 0, 0, 0)]),
  (52, [(.iload 5, 2, 0, 0, 0), (.invokestatic 47, 3, 75, 1, 0), (.iconst 1, 1, 0, 0, 0), (.if_icmp .ne (13), 3, 0, 0, 0), (.aload_n 0, 1, 0, 0, 0), (.iload_n 1, 1, 0, 0, 0), (.iload_n 2, 1, 0, 0, 0), (.iload_n 3, 1, 0, 0, 0), (.iload 4, 2, 0, 0, 0), (.invokevirtual 68, 3, 79, 5, 0), (.ireturn, 1, 0, 0, 0)]),
  (71, [(.iload 4, 2, 0, 0, 0), (.ifCond .ne (37), 3, 0, 0, 0), (.aload_n 0, 1, 0, 0, 0), (.iload_n 1, 1, 0, 0, 0), (.iload_n 2, 1, 0, 0, 0), (.iload_n 3, 1, 0, 0, 0), (.invokevirtual 58, 3, 80, 4, 0), (.ifCond .ne (23), 3, 0, 0, 0), (.iload 5, 2, 0, 0, 0), (.invokestatic 47, 3, 75, 1, 0), (.bipush 6, 2, 0, 0, 0), (.if_icmp .ne (17), 3, 0, 0, 0), (.aload_n 0, 1, 0, 0, 0), (.iload_n 1, 1, 0, 0, 0), (.iload_n 2, 1, 0, 0, 0), (.iload_n 3, 1, 0, 0, 0), (.invokevirtual 72, 3, 83, 4, 0), (.ifCond .eq (7), 3, 0, 0, 0)]),
  (106, [(.iconst 1, 1, 0, 0, 0), (.goto (4), 3, 0, 0, 0)]),
  (110, [(.iconst 0, 1, 0, 0, 0)]),
  (111, [(.ireturn, 1, 0, 0, 0)])]
def bl76 : List (Nat × List CE) := [(0, [(.iload_n 0, 1, 0, 0, 0), (.ifCond .eq (14), 3, 0, 0, 0), (.iload_n 0, 1, 0, 0, 0), (.iconst 3, 1, 0, 0, 0), (.ishr, 1, 0, 0, 0), (.iload_n 1, 1, 0, 0, 0), (.if_icmp .ne (7), 3, 0, 0, 0), (.iconst 1, 1, 0, 0, 0), (.goto (4), 3, 0, 0, 0)]),
  (15, [(.iconst 0, 1, 0, 0, 0)]),
  (16, [(.ireturn, 1, 0, 0, 0)])]
def bl77 : List (Nat × List CE) := [(0, [(.aload_n 0, 1, 0, 0, 0), (.getfield 13, 3, 5, 1, 0), (.iload_n 1, 1, 0, 0, 0), (.iaload, 1, 0, 0, 0), (.istore 5, 2, 0, 0, 0), (.iload 5, 2, 0, 0, 0), (.ifCond .ne (8), 3, 0, 0, 0), (.bipush 8, 2, 0, 0, 0), (.goto (5), 3, 0, 0, 0)]),
  (18, [(.bipush (-8), 2, 0, 0, 0)]),
  (20, [(.istore 6, 2, 0, 0, 0), (.iload_n 3, 1, 0, 0, 0), (.bipush 8, 2, 0, 0, 0), (.idiv, 1, 0, 0, 0), (.iload 5, 2, 0, 0, 0), (.ifCond .ne (8), 3, 0, 0, 0), (.bipush 7, 2, 0, 0, 0), (.goto (4), 3, 0, 0, 0)]),
  (36, [(.iconst 0, 1, 0, 0, 0)]),
  (37, [(.if_icmp .ne (7), 3, 0, 0, 0), (.iconst 1, 1, 0, 0, 0), (.goto (4), 3, 0, 0, 0)]),
  (44, [(.iconst 0, 1, 0, 0, 0)]),
  (45, [(.istore 7, 2, 0, 0, 0), (.iload 7, 2, 0, 0, 0), (.ifCond .eq (18), 3, 0, 0, 0), (.iload 4, 2, 0, 0, 0), (.iconst 2, 1, 0, 0, 0), (.if_icmp .lt (17), 3, 0, 0, 0), (.iload 4, 2, 0, 0, 0), (.iconst 5, 1, 0, 0, 0), (.if_icmp .le (13), 3, 0, 0, 0), (.goto (8), 3, 0, 0, 0)]),
  (67, [(.iload 4, 2, 0, 0, 0), (.ifCond .eq (5), 3, 0, 0, 0)]),
  (72, [(.iconst 0, 1, 0, 0, 0), (.ireturn, 1, 0, 0, 0)]),
  (74, [(.aload_n 0, 1, 0, 0, 0), (.getfield 7, 3, 5, 0, 0), (.bipush 64, 2, 0, 0, 0), (.iload_n 1, 1, 0, 0, 0), (.imul, 1, 0, 0, 0), (.iload_n 3, 1, 0, 0, 0), (.iadd, 1, 0, 0, 0), (.iaload, 1, 0, 0, 0), (.istore 8, 2, 0, 0, 0), (.iload_n 3, 1, 0, 0, 0), (.iload_n 2, 1, 0, 0, 0), (.iload 6, 2, 0, 0, 0), (.iadd, 1, 0, 0, 0), (.if_icmp .ne (14), 3, 0, 0, 0), (.iload 8, 2, 0, 0, 0), (.ifCond .ne (7), 3, 0, 0, 0), (.iconst 1, 1, 0, 0, 0), (.goto (4), 3, 0, 0, 0)]),
  (104, [(.iconst 0, 1, 0, 0, 0)]),
  (105, [(.ireturn, 1, 0, 0, 0)]),
  (106, [(.iload_n 3, 1, 0, 0, 0), (.iload_n 2, 1, 0, 0, 0), (.iconst 2, 1, 0, 0, 0), (.iload 6, 2, 0, 0, 0), (.imul, 1, 0, 0, 0), (.iadd, 1, 0, 0, 0), (.if_icmp .ne (49), 3, 0, 0, 0), (.iload_n 2, 1, 0, 0, 0), (.bipush 8, 2, 0, 0, 0), (.idiv, 1, 0, 0, 0), (.iload 5, 2, 0, 0, 0), (.ifCond .ne (7), 3, 0, 0, 0), (.iconst 1, 1, 0, 0, 0), (.goto (5), 3, 0, 0, 0)]),
  (129, [(.bipush 6, 2, 0, 0, 0)]),
  (131, [(.if_icmp .ne (29), 3, 0, 0, 0), (.iload 8, 2, 0, 0, 0), (.ifCond .ne (24), 3, 0, 0, 0), (.aload_n 0, 1, 0, 0, 0), (.getfield 7, 3, 5, 0, 0), (.bipush 64, 2, 0, 0, 0), (.iload_n 1, 1, 0, 0, 0), (.imul, 1, 0, 0, 0), (.iload_n 2, 1, 0, 0, 0), (.iadd, 1, 0, 0, 0), (.iload 6, 2, 0, 0, 0), (.iadd, 1, 0, 0, 0), (.iaload, 1, 0, 0, 0), (.ifCond .ne (7), 3, 0, 0, 0), (.iconst 1, 1, 0, 0, 0), (.goto (4), 3, 0, 0, 0)]),
  (160, [(.iconst 0, 1, 0, 0, 0)]),
  (161, [(.ireturn, 1, 0, 0, 0)]),
  (162, [(.aload_n 0, 1, 0, 0, 0), (.iload_n 1, 1, 0, 0, 0), (.iload_n 2, 1, 0, 0, 0), (.iload_n 3, 1, 0, 0, 0), (.invokevirtual 58, 3, 80, 4, 0), (.ifCond .eq (29), 3, 0, 0, 0), (.iload 8, 2, 0, 0, 0), (.iconst 1, 1, 0, 0, 0), (.iload 5, 2, 0, 0, 0), (.isub, 1, 0, 0, 0), (.invokestatic 54, 3, 78, 2, 0), (.ifCond .ne (13), 3, 0, 0, 0), (.iload_n 3, 1, 0, 0, 0), (.aload_n 0, 1, 0, 0, 0), (.getfield 19, 3, 5, 3, 0), (.iload_n 1, 1, 0, 0, 0), (.iaload, 1, 0, 0, 0), (.if_icmp .ne (7), 3, 0, 0, 0)]),
  (194, [(.iconst 1, 1, 0, 0, 0), (.goto (4), 3, 0, 0, 0)]),
  (198, [(.iconst 0, 1, 0, 0, 0)]),
  (199, [(.ireturn, 1, 0, 0, 0)])]
def bl78 : List (Nat × List CE) := [(0, [(.aload_n 0, 1, 0, 0, 0), (.getfield 7, 3, 5, 0, 0), (.bipush 64, 2, 0, 0, 0), (.iload_n 1, 1, 0, 0, 0), (.imul, 1, 0, 0, 0), (.iload_n 2, 1, 0, 0, 0), (.iadd, 1, 0, 0, 0), (.iaload, 1, 0, 0, 0), (.istore 4, 2, 0, 0, 0), (.iload_n 3, 1, 0, 0, 0), (.bipush 8, 2, 0, 0, 0), (.irem, 1, 0, 0, 0), (.iload_n 2, 1, 0, 0, 0), (.bipush 8, 2, 0, 0, 0), (.irem, 1, 0, 0, 0), (.isub, 1, 0, 0, 0), (.invokestatic 43, 3, 81, 1, 0), (.istore 5, 2, 0, 0, 0), (.iload_n 3, 1, 0, 0, 0), (.bipush 8, 2, 0, 0, 0), (.idiv, 1, 0, 0, 0), (.iload_n 2, 1, 0, 0, 0), (.bipush 8, 2, 0, 0, 0), (.idiv, 1, 0, 0, 0), (.isub, 1, 0, 0, 0), (.istore 6, 2, 0, 0, 0), (.iload 5, 2, 0, 0, 0), (.iload 6, 2, 0, 0, 0), (.invokestatic 43, 3, 81, 1, 0), (.if_icmp .ne (12), 3, 0, 0, 0), (.iload 5, 2, 0, 0, 0), (.ifCond .le (7), 3, 0, 0, 0), (.iconst 1, 1, 0, 0, 0), (.goto (4), 3, 0, 0, 0)]),
  (57, [(.iconst 0, 1, 0, 0, 0)]),
  (58, [(.istore 7, 2, 0, 0, 0), (.iload 5, 2, 0, 0, 0), (.ifCond .ne (7), 3, 0, 0, 0), (.iconst 1, 1, 0, 0, 0), (.goto (4), 3, 0, 0, 0)]),
  (69, [(.iconst 0, 1, 0, 0, 0)]),
  (70, [(.iload 6, 2, 0, 0, 0), (.ifCond .ne (7), 3, 0, 0, 0), (.iconst 1, 1, 0, 0, 0), (.goto (4), 3, 0, 0, 0)]),
  (79, [(.iconst 0, 1, 0, 0, 0)]),
  (80, [(.if_icmp .eq (7), 3, 0, 0, 0), (.iconst 1, 1, 0, 0, 0), (.goto (4), 3, 0, 0, 0)]),
  (87, [(.iconst 0, 1, 0, 0, 0)]),
  (88, [(.istore 8, 2, 0, 0, 0), (.iload 4, 2, 0, 0, 0), (.invokestatic 47, 3, 75, 1, 0), (.tableswitch 178 1 6 #[37, 66, 84, 105, 126, 152], 37, 0, 0, 0)]),
  (132, [(.iload 5, 2, 0, 0, 0), (.iconst 1, 1, 0, 0, 0), (.if_icmp .ne (24), 3, 0, 0, 0), (.iload 6, 2, 0, 0, 0), (.iload 4, 2, 0, 0, 0), (.bipush 8, 2, 0, 0, 0), (.if_icmp .ge (7), 3, 0, 0, 0), (.iconst 1, 1, 0, 0, 0), (.goto (4), 3, 0, 0, 0)]),
  (151, [(.iconst (-1), 1, 0, 0, 0)]),
  (152, [(.if_icmp .ne (7), 3, 0, 0, 0), (.iconst 1, 1, 0, 0, 0), (.goto (4), 3, 0, 0, 0)]),
  (159, [(.iconst 0, 1, 0, 0, 0)]),
  (160, [(.ireturn, 1, 0, 0, 0)]),
  (161, [(.iload 5, 2, 0, 0, 0), (.iload 6, 2, 0, 0, 0), (.invokestatic 43, 3, 81, 1, 0), (.imul, 1, 0, 0, 0), (.iconst 2, 1, 0, 0, 0), (.if_icmp .ne (7), 3, 0, 0, 0), (.iconst 1, 1, 0, 0, 0), (.goto (4), 3, 0, 0, 0)]),
  (177, [(.iconst 0, 1, 0, 0, 0)]),
  (178, [(.ireturn, 1, 0, 0, 0)]),
  (179, [(.iload 7, 2, 0, 0, 0), (.ifCond .eq (17), 3, 0, 0, 0), (.aload_n 0, 1, 0, 0, 0), (.iload_n 1, 1, 0, 0, 0), (.iload_n 2, 1, 0, 0, 0), (.iload_n 3, 1, 0, 0, 0), (.invokevirtual 50, 3, 82, 4, 0), (.ifCond .eq (7), 3, 0, 0, 0), (.iconst 1, 1, 0, 0, 0), (.goto (4), 3, 0, 0, 0)]),
  (198, [(.iconst 0, 1, 0, 0, 0)]),
  (199, [(.ireturn, 1, 0, 0, 0)]),
  (200, [(.iload 8, 2, 0, 0, 0), (.ifCond .eq (17), 3, 0, 0, 0), (.aload_n 0, 1, 0, 0, 0), (.iload_n 1, 1, 0, 0, 0), (.iload_n 2, 1, 0, 0, 0), (.iload_n 3, 1, 0, 0, 0), (.invokevirtual 50, 3, 82, 4, 0), (.ifCond .eq (7), 3, 0, 0, 0), (.iconst 1, 1, 0, 0, 0), (.goto (4), 3, 0, 0, 0)]),
  (219, [(.iconst 0, 1, 0, 0, 0)]),
  (220, [(.ireturn, 1, 0, 0, 0)]),
  (221, [(.iload 7, 2, 0, 0, 0), (.ifCond .ne (8), 3, 0, 0, 0), (.iload 8, 2, 0, 0, 0), (.ifCond .eq (17), 3, 0, 0, 0)]),
  (231, [(.aload_n 0, 1, 0, 0, 0), (.iload_n 1, 1, 0, 0, 0), (.iload_n 2, 1, 0, 0, 0), (.iload_n 3, 1, 0, 0, 0), (.invokevirtual 50, 3, 82, 4, 0), (.ifCond .eq (7), 3, 0, 0, 0), (.iconst 1, 1, 0, 0, 0), (.goto (4), 3, 0, 0, 0)]),
  (245, [(.iconst 0, 1, 0, 0, 0)]),
  (246, [(.ireturn, 1, 0, 0, 0)]),
  (247, [(.iload 5, 2, 0, 0, 0), (.iconst 1, 1, 0, 0, 0), (.if_icmp .gt (21), 3, 0, 0, 0), (.iload 6, 2, 0, 0, 0), (.invokestatic 43, 3, 81, 1, 0), (.iconst 1, 1, 0, 0, 0), (.if_icmp .gt (12), 3, 0, 0, 0), (.iload_n 2, 1, 0, 0, 0), (.iload_n 3, 1, 0, 0, 0), (.if_icmp .eq (7), 3, 0, 0, 0), (.iconst 1, 1, 0, 0, 0), (.goto (4), 3, 0, 0, 0)]),
  (271, [(.iconst 0, 1, 0, 0, 0)]),
  (272, [(.ireturn, 1, 0, 0, 0)]),
  (273, [(.iconst 0, 1, 0, 0, 0), (.ireturn, 1, 0, 0, 0)])]
def bl79 : List (Nat × List CE) := [(0, [(.iload_n 0, 1, 0, 0, 0), (.ifCond .ge (8), 3, 0, 0, 0), (.iload_n 0, 1, 0, 0, 0), (.ineg, 1, 0, 0, 0), (.goto (4), 3, 0, 0, 0)]),
  (9, [(.iload_n 0, 1, 0, 0, 0)]),
  (10, [(.ireturn, 1, 0, 0, 0)])]
def bl80 : List (Nat × List CE) := [(0, [(.iload_n 3, 1, 0, 0, 0), (.bipush 8, 2, 0, 0, 0), (.irem, 1, 0, 0, 0), (.iload_n 2, 1, 0, 0, 0), (.bipush 8, 2, 0, 0, 0), (.irem, 1, 0, 0, 0), (.isub, 1, 0, 0, 0), (.istore 4, 2, 0, 0, 0), (.iload_n 3, 1, 0, 0, 0), (.bipush 8, 2, 0, 0, 0), (.idiv, 1, 0, 0, 0), (.iload_n 2, 1, 0, 0, 0), (.bipush 8, 2, 0, 0, 0), (.idiv, 1, 0, 0, 0), (.isub, 1, 0, 0, 0), (.istore 5, 2, 0, 0, 0), (.iload 4, 2, 0, 0, 0), (.ifCond .le (7), 3, 0, 0, 0), (.iconst 1, 1, 0, 0, 0), (.goto (13), 3, 0, 0, 0)]),
  (31, [(.iload 4, 2, 0, 0, 0), (.ifCond .ge (7), 3, 0, 0, 0), (.iconst (-1), 1, 0, 0, 0), (.goto (4), 3, 0, 0, 0)]),
  (40, [(.iconst 0, 1, 0, 0, 0)]),
  (41, [(.iload 5, 2, 0, 0, 0), (.ifCond .le (8), 3, 0, 0, 0), (.bipush 8, 2, 0, 0, 0), (.goto (14), 3, 0, 0, 0)]),
  (51, [(.iload 5, 2, 0, 0, 0), (.ifCond .ge (8), 3, 0, 0, 0), (.bipush (-8), 2, 0, 0, 0), (.goto (4), 3, 0, 0, 0)]),
  (61, [(.iconst 0, 1, 0, 0, 0)]),
  (62, [(.iadd, 1, 0, 0, 0), (.istore 6, 2, 0, 0, 0), (.iload_n 2, 1, 0, 0, 0), (.iload 6, 2, 0, 0, 0), (.iadd, 1, 0, 0, 0), (.istore 7, 2, 0, 0, 0), (.iconst 0, 1, 0, 0, 0), (.istore 8, 2, 0, 0, 0)]),
  (74, [(.iload 8, 2, 0, 0, 0), (.bipush 8, 2, 0, 0, 0), (.if_icmp .ge (39), 3, 0, 0, 0), (.iload 7, 2, 0, 0, 0), (.iload_n 3, 1, 0, 0, 0), (.if_icmp .eq (33), 3, 0, 0, 0), (.aload_n 0, 1, 0, 0, 0), (.getfield 7, 3, 5, 0, 0), (.bipush 64, 2, 0, 0, 0), (.iload_n 1, 1, 0, 0, 0), (.imul, 1, 0, 0, 0), (.iload 7, 2, 0, 0, 0), (.iadd, 1, 0, 0, 0), (.iaload, 1, 0, 0, 0), (.ifCond .eq (5), 3, 0, 0, 0), (.iconst 0, 1, 0, 0, 0), (.ireturn, 1, 0, 0, 0)]),
  (104, [(.iload 7, 2, 0, 0, 0), (.iload 6, 2, 0, 0, 0), (.iadd, 1, 0, 0, 0), (.istore 7, 2, 0, 0, 0), (.iinc 8 (1), 3, 0, 0, 0), (.goto (-40), 3, 0, 0, 0)]),
  (117, [(.iconst 1, 1, 0, 0, 0), (.ireturn, 1, 0, 0, 0)])]
def bl81 : List (Nat × List CE) := [(0, [(.aload_n 0, 1, 0, 0, 0), (.getfield 13, 3, 5, 1, 0), (.iload_n 1, 1, 0, 0, 0), (.iaload, 1, 0, 0, 0), (.istore 4, 2, 0, 0, 0), (.iload 4, 2, 0, 0, 0), (.ifCond .ne (7), 3, 0, 0, 0), (.iconst 4, 1, 0, 0, 0), (.goto (5), 3, 0, 0, 0)]),
  (17, [(.bipush 60, 2, 0, 0, 0)]),
  (19, [(.istore 5, 2, 0, 0, 0), (.iload_n 3, 1, 0, 0, 0), (.iload 5, 2, 0, 0, 0), (.iconst 2, 1, 0, 0, 0), (.iadd, 1, 0, 0, 0), (.if_icmp .ne (7), 3, 0, 0, 0), (.iconst 1, 1, 0, 0, 0), (.goto (4), 3, 0, 0, 0)]),
  (33, [(.iconst 0, 1, 0, 0, 0)]),
  (34, [(.istore 6, 2, 0, 0, 0), (.iload 6, 2, 0, 0, 0), (.ifCond .eq (7), 3, 0, 0, 0), (.iconst 1, 1, 0, 0, 0), (.goto (4), 3, 0, 0, 0)]),
  (45, [(.iconst 2, 1, 0, 0, 0)]),
  (46, [(.iconst 2, 1, 0, 0, 0), (.iload 4, 2, 0, 0, 0), (.imul, 1, 0, 0, 0), (.ishl, 1, 0, 0, 0), (.istore 7, 2, 0, 0, 0), (.iload_n 2, 1, 0, 0, 0), (.iload 5, 2, 0, 0, 0), (.if_icmp .ne (31), 3, 0, 0, 0), (.iload_n 3, 1, 0, 0, 0), (.iload 5, 2, 0, 0, 0), (.iconst 2, 1, 0, 0, 0), (.iadd, 1, 0, 0, 0), (.if_icmp .eq (11), 3, 0, 0, 0), (.iload_n 3, 1, 0, 0, 0), (.iload 5, 2, 0, 0, 0), (.iconst 2, 1, 0, 0, 0), (.isub, 1, 0, 0, 0), (.if_icmp .ne (15), 3, 0, 0, 0)]),
  (75, [(.aload_n 0, 1, 0, 0, 0), (.getfield 16, 3, 5, 2, 0), (.iload_n 1, 1, 0, 0, 0), (.iaload, 1, 0, 0, 0), (.iload 7, 2, 0, 0, 0), (.iand, 1, 0, 0, 0), (.ifCond .ne (5), 3, 0, 0, 0)]),
  (87, [(.iconst 0, 1, 0, 0, 0), (.ireturn, 1, 0, 0, 0)]),
  (89, [(.iload 6, 2, 0, 0, 0), (.ifCond .eq (10), 3, 0, 0, 0), (.iload 5, 2, 0, 0, 0), (.iconst 1, 1, 0, 0, 0), (.iadd, 1, 0, 0, 0), (.goto (7), 3, 0, 0, 0)]),
  (101, [(.iload 5, 2, 0, 0, 0), (.iconst 3, 1, 0, 0, 0), (.isub, 1, 0, 0, 0)]),
  (105, [(.istore 8, 2, 0, 0, 0), (.iload 6, 2, 0, 0, 0), (.ifCond .eq (10), 3, 0, 0, 0), (.iload 5, 2, 0, 0, 0), (.iconst 2, 1, 0, 0, 0), (.iadd, 1, 0, 0, 0), (.goto (7), 3, 0, 0, 0)]),
  (119, [(.iload 5, 2, 0, 0, 0), (.iconst 1, 1, 0, 0, 0), (.isub, 1, 0, 0, 0)]),
  (123, [(.istore 9, 2, 0, 0, 0), (.iload 8, 2, 0, 0, 0), (.istore 10, 2, 0, 0, 0)]),
  (129, [(.iload 10, 2, 0, 0, 0), (.iload 9, 2, 0, 0, 0), (.if_icmp .gt (26), 3, 0, 0, 0), (.aload_n 0, 1, 0, 0, 0), (.getfield 7, 3, 5, 0, 0), (.bipush 64, 2, 0, 0, 0), (.iload_n 1, 1, 0, 0, 0), (.imul, 1, 0, 0, 0), (.iload 10, 2, 0, 0, 0), (.iadd, 1, 0, 0, 0), (.iaload, 1, 0, 0, 0), (.ifCond .eq (5), 3, 0, 0, 0), (.iconst 0, 1, 0, 0, 0), (.ireturn, 1, 0, 0, 0)]),
  (153, [(.iinc 10 (1), 3, 0, 0, 0), (.goto (-27), 3, 0, 0, 0)]),
  (159, [(.aload_n 0, 1, 0, 0, 0), (.iload_n 1, 1, 0, 0, 0), (.iload 4, 2, 0, 0, 0), (.invokevirtual 65, 3, 84, 3, 0), (.ifCond .ne (35), 3, 0, 0, 0), (.aload_n 0, 1, 0, 0, 0), (.iload_n 1, 1, 0, 0, 0), (.iload 6, 2, 0, 0, 0), (.ifCond .eq (10), 3, 0, 0, 0), (.iload 5, 2, 0, 0, 0), (.iconst 1, 1, 0, 0, 0), (.iadd, 1, 0, 0, 0), (.goto (7), 3, 0, 0, 0)]),
  (183, [(.iload 5, 2, 0, 0, 0), (.iconst 1, 1, 0, 0, 0), (.isub, 1, 0, 0, 0)]),
  (187, [(.iconst 1, 1, 0, 0, 0), (.iload 4, 2, 0, 0, 0), (.isub, 1, 0, 0, 0), (.invokevirtual 61, 3, 85, 4, 0), (.ifCond .ne (7), 3, 0, 0, 0), (.iconst 1, 1, 0, 0, 0), (.goto (4), 3, 0, 0, 0)]),
  (201, [(.iconst 0, 1, 0, 0, 0)]),
  (202, [(.ireturn, 1, 0, 0, 0)])]
def bl82 : List (Nat × List CE) := [(0, [(.iconst 0, 1, 0, 0, 0), (.istore_n 3, 1, 0, 0, 0)]),
  (2, [(.iload_n 3, 1, 0, 0, 0), (.bipush 64, 2, 0, 0, 0), (.if_icmp .ge (48), 3, 0, 0, 0), (.aload_n 0, 1, 0, 0, 0), (.getfield 7, 3, 5, 0, 0), (.bipush 64, 2, 0, 0, 0), (.iload_n 1, 1, 0, 0, 0), (.imul, 1, 0, 0, 0), (.iload_n 3, 1, 0, 0, 0), (.iadd, 1, 0, 0, 0), (.iaload, 1, 0, 0, 0), (.bipush 6, 2, 0, 0, 0), (.bipush 8, 2, 0, 0, 0), (.iload_n 2, 1, 0, 0, 0), (.imul, 1, 0, 0, 0), (.iadd, 1, 0, 0, 0), (.if_icmp .ne (21), 3, 0, 0, 0), (.aload_n 0, 1, 0, 0, 0), (.iload_n 1, 1, 0, 0, 0), (.iload_n 3, 1, 0, 0, 0), (.iconst 1, 1, 0, 0, 0), (.iload_n 2, 1, 0, 0, 0), (.isub, 1, 0, 0, 0), (.invokevirtual 61, 3, 85, 4, 0), (.ifCond .le (7), 3, 0, 0, 0), (.iconst 1, 1, 0, 0, 0), (.goto (4), 3, 0, 0, 0)]),
  (45, [(.iconst 0, 1, 0, 0, 0)]),
  (46, [(.ireturn, 1, 0, 0, 0)]),
  (47, [(.iinc 3 (1), 3, 0, 0, 0), (.goto (-48), 3, 0, 0, 0)]),
  (53, [(.iconst 0, 1, 0, 0, 0), (.ireturn, 1, 0, 0, 0)])]
def bl83 : List (Nat × List CE) := [(0, [(.iconst 0, 1, 0, 0, 0), (.istore 4, 2, 0, 0, 0), (.iconst 0, 1, 0, 0, 0), (.istore 5, 2, 0, 0, 0)]),
  (6, [(.iload 5, 2, 0, 0, 0), (.bipush 64, 2, 0, 0, 0), (.if_icmp .ge (42), 3, 0, 0, 0), (.aload_n 0, 1, 0, 0, 0), (.getfield 7, 3, 5, 0, 0), (.bipush 64, 2, 0, 0, 0), (.iload_n 1, 1, 0, 0, 0), (.imul, 1, 0, 0, 0), (.iload 5, 2, 0, 0, 0), (.iadd, 1, 0, 0, 0), (.iaload, 1, 0, 0, 0), (.iload_n 3, 1, 0, 0, 0), (.invokestatic 54, 3, 78, 2, 0), (.ifCond .eq (17), 3, 0, 0, 0), (.aload_n 0, 1, 0, 0, 0), (.iload_n 1, 1, 0, 0, 0), (.iload 5, 2, 0, 0, 0), (.iload_n 2, 1, 0, 0, 0), (.invokevirtual 58, 3, 80, 4, 0), (.ifCond .eq (6), 3, 0, 0, 0), (.iinc 4 (1), 3, 0, 0, 0)]),
  (46, [(.iinc 5 (1), 3, 0, 0, 0), (.goto (-43), 3, 0, 0, 0)]),
  (52, [(.iload 4, 2, 0, 0, 0), (.ireturn, 1, 0, 0, 0)])]
def bl84 : List (Nat × List CE) := [(0, [(.bipush 64, 2, 0, 0, 0), (.iload_n 1, 1, 0, 0, 0), (.imul, 1, 0, 0, 0), (.bipush 64, 2, 0, 0, 0), (.iadd, 1, 0, 0, 0), (.istore 5, 2, 0, 0, 0), (.iconst 0, 1, 0, 0, 0), (.istore 6, 2, 0, 0, 0)]),
  (12, [(.iload 6, 2, 0, 0, 0), (.bipush 64, 2, 0, 0, 0), (.if_icmp .ge (32), 3, 0, 0, 0), (.aload_n 0, 1, 0, 0, 0), (.getfield 7, 3, 5, 0, 0), (.iload 5, 2, 0, 0, 0), (.iload 6, 2, 0, 0, 0), (.iadd, 1, 0, 0, 0), (.aload_n 0, 1, 0, 0, 0), (.getfield 7, 3, 5, 0, 0), (.iload 5, 2, 0, 0, 0), (.bipush 64, 2, 0, 0, 0), (.isub, 1, 0, 0, 0), (.iload 6, 2, 0, 0, 0), (.iadd, 1, 0, 0, 0), (.iaload, 1, 0, 0, 0), (.iastore, 1, 0, 0, 0), (.iinc 6 (1), 3, 0, 0, 0), (.goto (-33), 3, 0, 0, 0)]),
  (48, [(.aload_n 0, 1, 0, 0, 0), (.getfield 13, 3, 5, 1, 0), (.iload_n 1, 1, 0, 0, 0), (.iaload, 1, 0, 0, 0), (.istore 6, 2, 0, 0, 0), (.aload_n 0, 1, 0, 0, 0), (.getfield 7, 3, 5, 0, 0), (.iload 5, 2, 0, 0, 0), (.iload_n 2, 1, 0, 0, 0), (.iadd, 1, 0, 0, 0), (.iaload, 1, 0, 0, 0), (.istore 7, 2, 0, 0, 0), (.iload 7, 2, 0, 0, 0), (.invokestatic 47, 3, 75, 1, 0), (.iconst 1, 1, 0, 0, 0), (.if_icmp .ne (7), 3, 0, 0, 0), (.iconst 1, 1, 0, 0, 0), (.goto (4), 3, 0, 0, 0)]),
  (80, [(.iconst 0, 1, 0, 0, 0)]),
  (81, [(.istore 8, 2, 0, 0, 0), (.iload 6, 2, 0, 0, 0), (.ifCond .ne (8), 3, 0, 0, 0), (.bipush 8, 2, 0, 0, 0), (.goto (5), 3, 0, 0, 0)]),
  (93, [(.bipush (-8), 2, 0, 0, 0)]),
  (95, [(.istore 9, 2, 0, 0, 0), (.iload 8, 2, 0, 0, 0), (.ifCond .eq (37), 3, 0, 0, 0), (.iload_n 3, 1, 0, 0, 0), (.aload_n 0, 1, 0, 0, 0), (.getfield 19, 3, 5, 3, 0), (.iload_n 1, 1, 0, 0, 0), (.iaload, 1, 0, 0, 0), (.if_icmp .ne (27), 3, 0, 0, 0), (.iload_n 3, 1, 0, 0, 0), (.bipush 8, 2, 0, 0, 0), (.irem, 1, 0, 0, 0), (.iload_n 2, 1, 0, 0, 0), (.bipush 8, 2, 0, 0, 0), (.irem, 1, 0, 0, 0), (.if_icmp .eq (16), 3, 0, 0, 0), (.aload_n 0, 1, 0, 0, 0), (.getfield 7, 3, 5, 0, 0), (.iload 5, 2, 0, 0, 0), (.iload_n 3, 1, 0, 0, 0), (.iadd, 1, 0, 0, 0), (.iload 9, 2, 0, 0, 0), (.isub, 1, 0, 0, 0), (.iconst 0, 1, 0, 0, 0), (.iastore, 1, 0, 0, 0)]),
  (136, [(.iload 7, 2, 0, 0, 0), (.invokestatic 47, 3, 75, 1, 0), (.bipush 6, 2, 0, 0, 0), (.if_icmp .ne (63), 3, 0, 0, 0), (.iload_n 3, 1, 0, 0, 0), (.iload_n 2, 1, 0, 0, 0), (.isub, 1, 0, 0, 0), (.invokestatic 43, 3, 81, 1, 0), (.iconst 2, 1, 0, 0, 0), (.if_icmp .ne (53), 3, 0, 0, 0), (.iload_n 3, 1, 0, 0, 0), (.iload_n 2, 1, 0, 0, 0), (.if_icmp .le (9), 3, 0, 0, 0), (.iload_n 2, 1, 0, 0, 0), (.iconst 3, 1, 0, 0, 0), (.iadd, 1, 0, 0, 0), (.goto (6), 3, 0, 0, 0)]),
  (167, [(.iload_n 2, 1, 0, 0, 0), (.iconst 4, 1, 0, 0, 0), (.isub, 1, 0, 0, 0)]),
  (170, [(.istore 10, 2, 0, 0, 0), (.aload_n 0, 1, 0, 0, 0), (.getfield 7, 3, 5, 0, 0), (.iload 5, 2, 0, 0, 0), (.iload_n 2, 1, 0, 0, 0), (.iload_n 3, 1, 0, 0, 0), (.iadd, 1, 0, 0, 0), (.iconst 2, 1, 0, 0, 0), (.idiv, 1, 0, 0, 0), (.iadd, 1, 0, 0, 0), (.aload_n 0, 1, 0, 0, 0), (.getfield 7, 3, 5, 0, 0), (.iload 5, 2, 0, 0, 0), (.iload 10, 2, 0, 0, 0), (.iadd, 1, 0, 0, 0), (.iaload, 1, 0, 0, 0), (.iastore, 1, 0, 0, 0), (.aload_n 0, 1, 0, 0, 0), (.getfield 7, 3, 5, 0, 0), (.iload 5, 2, 0, 0, 0), (.iload 10, 2, 0, 0, 0), (.iadd, 1, 0, 0, 0), (.iconst 0, 1, 0, 0, 0), (.iastore, 1, 0, 0, 0)]),
  (206, [(.aload_n 0, 1, 0, 0, 0), (.getfield 7, 3, 5, 0, 0), (.iload 5, 2, 0, 0, 0), (.iload_n 3, 1, 0, 0, 0), (.iadd, 1, 0, 0, 0), (.iload 4, 2, 0, 0, 0), (.ifCond .le (14), 3, 0, 0, 0), (.iload 4, 2, 0, 0, 0), (.bipush 8, 2, 0, 0, 0), (.iload 6, 2, 0, 0, 0), (.imul, 1, 0, 0, 0), (.iadd, 1, 0, 0, 0), (.goto (5), 3, 0, 0, 0)]),
  (230, [(.iload 7, 2, 0, 0, 0)]),
  (232, [(.iastore, 1, 0, 0, 0), (.aload_n 0, 1, 0, 0, 0), (.getfield 7, 3, 5, 0, 0), (.iload 5, 2, 0, 0, 0), (.iload_n 2, 1, 0, 0, 0), (.iadd, 1, 0, 0, 0), (.iconst 0, 1, 0, 0, 0), (.iastore, 1, 0, 0, 0), (.aload_n 0, 1, 0, 0, 0), (.getfield 13, 3, 5, 1, 0), (.iload_n 1, 1, 0, 0, 0), (.iconst 1, 1, 0, 0, 0), (.iadd, 1, 0, 0, 0), (.iconst 1, 1, 0, 0, 0), (.iload 6, 2, 0, 0, 0), (.isub, 1, 0, 0, 0), (.iastore, 1, 0, 0, 0), (.aload_n 0, 1, 0, 0, 0), (.getfield 19, 3, 5, 3, 0), (.iload_n 1, 1, 0, 0, 0), (.iconst 1, 1, 0, 0, 0), (.iadd, 1, 0, 0, 0), (.iload 8, 2, 0, 0, 0), (.ifCond .eq (21), 3, 0, 0, 0), (.iload_n 3, 1, 0, 0, 0), (.iload_n 2, 1, 0, 0, 0), (.isub, 1, 0, 0, 0), (.invokestatic 43, 3, 81, 1, 0), (.bipush 16, 2, 0, 0, 0), (.if_icmp .ne (10), 3, 0, 0, 0), (.iload_n 2, 1, 0, 0, 0), (.iload 9, 2, 0, 0, 0), (.iadd, 1, 0, 0, 0), (.goto (4), 3, 0, 0, 0)]),
  (285, [(.iconst (-1), 1, 0, 0, 0)]),
  (286, [(.iastore, 1, 0, 0, 0), (.aload_n 0, 1, 0, 0, 0), (.getfield 16, 3, 5, 2, 0), (.iload_n 1, 1, 0, 0, 0), (.iaload, 1, 0, 0, 0), (.iload_n 2, 1, 0, 0, 0), (.invokestatic 75, 3, 87, 2, 0), (.istore 10, 2, 0, 0, 0), (.aload_n 0, 1, 0, 0, 0), (.getfield 16, 3, 5, 2, 0), (.iload_n 1, 1, 0, 0, 0), (.iconst 1, 1, 0, 0, 0), (.iadd, 1, 0, 0, 0), (.iload 10, 2, 0, 0, 0), (.iload_n 3, 1, 0, 0, 0), (.invokestatic 75, 3, 87, 2, 0), (.iastore, 1, 0, 0, 0), (.return_, 1, 0, 0, 0)])]
def bl85 : List (Nat × List CE) := [(0, [(.iload_n 1, 1, 0, 0, 0), (.iconst 4, 1, 0, 0, 0), (.if_icmp .ne (7), 3, 0, 0, 0), (.iconst 3, 1, 0, 0, 0), (.goto (54), 3, 0, 0, 0)]),
  (9, [(.iload_n 1, 1, 0, 0, 0), (.bipush 7, 2, 0, 0, 0), (.if_icmp .ne (7), 3, 0, 0, 0), (.iconst 1, 1, 0, 0, 0), (.goto (44), 3, 0, 0, 0)]),
  (19, [(.iload_n 1, 1, 0, 0, 0), (.ifCond .ne (7), 3, 0, 0, 0), (.iconst 2, 1, 0, 0, 0), (.goto (36), 3, 0, 0, 0)]),
  (27, [(.iload_n 1, 1, 0, 0, 0), (.bipush 60, 2, 0, 0, 0), (.if_icmp .ne (8), 3, 0, 0, 0), (.bipush 12, 2, 0, 0, 0), (.goto (25), 3, 0, 0, 0)]),
  (38, [(.iload_n 1, 1, 0, 0, 0), (.bipush 63, 2, 0, 0, 0), (.if_icmp .ne (7), 3, 0, 0, 0), (.iconst 4, 1, 0, 0, 0), (.goto (15), 3, 0, 0, 0)]),
  (48, [(.iload_n 1, 1, 0, 0, 0), (.bipush 56, 2, 0, 0, 0), (.if_icmp .ne (8), 3, 0, 0, 0), (.bipush 8, 2, 0, 0, 0), (.goto (4), 3, 0, 0, 0)]),
  (59, [(.iconst 0, 1, 0, 0, 0)]),
  (60, [(.istore_n 2, 1, 0, 0, 0), (.iload_n 0, 1, 0, 0, 0), (.iload_n 2, 1, 0, 0, 0), (.iconst (-1), 1, 0, 0, 0), (.ixor, 1, 0, 0, 0), (.iand, 1, 0, 0, 0), (.ireturn, 1, 0, 0, 0)])]
def bl86 : List (Nat × List CE) := [(0, [(.aload_n 0, 1, 0, 0, 0), (.invokevirtual 96, 3, 71, 1, 0), (.return_, 1, 0, 0, 0)])]
def bl87 : List (Nat × List CE) := [(0, [(.aload_n 0, 1, 0, 0, 0), (.getfield 92, 3, 5, 4, 0), (.ifCond .ne (35), 3, 0, 0, 0), (.iload_n 1, 1, 0, 0, 0), (.ifCond .lt (31), 3, 0, 0, 0), (.iload_n 1, 1, 0, 0, 0), (.bipush 63, 2, 0, 0, 0), (.if_icmp .gt (25), 3, 0, 0, 0), (.iload_n 2, 1, 0, 0, 0), (.ifCond .lt (21), 3, 0, 0, 0), (.iload_n 2, 1, 0, 0, 0), (.bipush 14, 2, 0, 0, 0), (.if_icmp .gt (15), 3, 0, 0, 0), (.iload_n 2, 1, 0, 0, 0), (.bipush 7, 2, 0, 0, 0), (.if_icmp .eq (9), 3, 0, 0, 0), (.iload_n 2, 1, 0, 0, 0), (.bipush 8, 2, 0, 0, 0), (.if_icmp .ne (5), 3, 0, 0, 0)]),
  (39, [(.iconst 0, 1, 0, 0, 0), (.ireturn, 1, 0, 0, 0)]),
  (41, [(.aload_n 0, 1, 0, 0, 0), (.getfield 7, 3, 5, 0, 0), (.iload_n 1, 1, 0, 0, 0), (.iload_n 2, 1, 0, 0, 0), (.iastore, 1, 0, 0, 0), (.iconst 1, 1, 0, 0, 0), (.ireturn, 1, 0, 0, 0)])]
def bl88 : List (Nat × List CE) := [(0, [(.aload_n 0, 1, 0, 0, 0), (.getfield 92, 3, 5, 4, 0), (.ifCond .ne (33), 3, 0, 0, 0), (.iload_n 1, 1, 0, 0, 0), (.ifCond .lt (29), 3, 0, 0, 0), (.iload_n 1, 1, 0, 0, 0), (.iconst 1, 1, 0, 0, 0), (.if_icmp .gt (24), 3, 0, 0, 0), (.iload_n 2, 1, 0, 0, 0), (.ifCond .lt (20), 3, 0, 0, 0), (.iload_n 2, 1, 0, 0, 0), (.bipush 15, 2, 0, 0, 0), (.if_icmp .gt (14), 3, 0, 0, 0), (.iload_n 3, 1, 0, 0, 0), (.iconst (-1), 1, 0, 0, 0), (.if_icmp .lt (9), 3, 0, 0, 0), (.iload_n 3, 1, 0, 0, 0), (.bipush 63, 2, 0, 0, 0), (.if_icmp .le (5), 3, 0, 0, 0)]),
  (37, [(.iconst (-1), 1, 0, 0, 0), (.ireturn, 1, 0, 0, 0)]),
  (39, [(.aload_n 0, 1, 0, 0, 0), (.iconst 0, 1, 0, 0, 0), (.invokevirtual 122, 3, 91, 2, 0), (.ifCond .eq (11), 3, 0, 0, 0), (.aload_n 0, 1, 0, 0, 0), (.iconst 1, 1, 0, 0, 0), (.invokevirtual 122, 3, 91, 2, 0), (.ifCond .ne (6), 3, 0, 0, 0)]),
  (55, [(.bipush (-2), 2, 0, 0, 0), (.ireturn, 1, 0, 0, 0)]),
  (58, [(.aload_n 0, 1, 0, 0, 0), (.invokevirtual 126, 3, 92, 1, 0), (.ifCond .ne (6), 3, 0, 0, 0), (.bipush (-3), 2, 0, 0, 0), (.ireturn, 1, 0, 0, 0)]),
  (68, [(.aload_n 0, 1, 0, 0, 0), (.iconst 0, 1, 0, 0, 0), (.iconst 1, 1, 0, 0, 0), (.iload_n 1, 1, 0, 0, 0), (.isub, 1, 0, 0, 0), (.invokevirtual 65, 3, 84, 3, 0), (.ifCond .eq (6), 3, 0, 0, 0), (.bipush (-4), 2, 0, 0, 0), (.ireturn, 1, 0, 0, 0)]),
  (82, [(.aload_n 0, 1, 0, 0, 0), (.iload_n 2, 1, 0, 0, 0), (.invokevirtual 129, 3, 93, 2, 0), (.ifCond .ne (6), 3, 0, 0, 0), (.bipush (-5), 2, 0, 0, 0), (.ireturn, 1, 0, 0, 0)]),
  (93, [(.aload_n 0, 1, 0, 0, 0), (.iload_n 1, 1, 0, 0, 0), (.iload_n 3, 1, 0, 0, 0), (.invokevirtual 132, 3, 94, 3, 0), (.ifCond .ne (6), 3, 0, 0, 0), (.bipush (-6), 2, 0, 0, 0), (.ireturn, 1, 0, 0, 0)]),
  (105, [(.aload_n 0, 1, 0, 0, 0), (.iload_n 1, 1, 0, 0, 0), (.iload_n 2, 1, 0, 0, 0), (.iload_n 3, 1, 0, 0, 0), (.invokevirtual 99, 3, 72, 4, 0), (.iconst 0, 1, 0, 0, 0), (.ireturn, 1, 0, 0, 0)])]
def bl89 : List (Nat × List CE) := [(0, [(.iconst 0, 1, 0, 0, 0), (.istore_n 2, 1, 0, 0, 0), (.iconst 0, 1, 0, 0, 0), (.istore_n 3, 1, 0, 0, 0), (.iconst 0, 1, 0, 0, 0), (.istore 4, 2, 0, 0, 0)]),
  (7, [(.iload 4, 2, 0, 0, 0), (.bipush 64, 2, 0, 0, 0), (.if_icmp .ge (56), 3, 0, 0, 0), (.iload_n 2, 1, 0, 0, 0), (.aload_n 0, 1, 0, 0, 0), (.getfield 7, 3, 5, 0, 0), (.iload 4, 2, 0, 0, 0), (.iaload, 1, 0, 0, 0), (.iload_n 1, 1, 0, 0, 0), (.invokestatic 54, 3, 78, 2, 0), (.ifCond .eq (7), 3, 0, 0, 0), (.iconst 1, 1, 0, 0, 0), (.goto (4), 3, 0, 0, 0)]),
  (33, [(.iconst 0, 1, 0, 0, 0)]),
  (34, [(.iadd, 1, 0, 0, 0), (.istore_n 2, 1, 0, 0, 0), (.iload_n 3, 1, 0, 0, 0), (.aload_n 0, 1, 0, 0, 0), (.getfield 7, 3, 5, 0, 0), (.iload 4, 2, 0, 0, 0), (.iaload, 1, 0, 0, 0), (.bipush 6, 2, 0, 0, 0), (.bipush 8, 2, 0, 0, 0), (.iload_n 1, 1, 0, 0, 0), (.imul, 1, 0, 0, 0), (.iadd, 1, 0, 0, 0), (.if_icmp .ne (7), 3, 0, 0, 0), (.iconst 1, 1, 0, 0, 0), (.goto (4), 3, 0, 0, 0)]),
  (58, [(.iconst 0, 1, 0, 0, 0)]),
  (59, [(.iadd, 1, 0, 0, 0), (.istore_n 3, 1, 0, 0, 0), (.iinc 4 (1), 3, 0, 0, 0), (.goto (-57), 3, 0, 0, 0)]),
  (67, [(.iload_n 3, 1, 0, 0, 0), (.iconst 1, 1, 0, 0, 0), (.if_icmp .ne (13), 3, 0, 0, 0), (.iload_n 2, 1, 0, 0, 0), (.bipush 16, 2, 0, 0, 0), (.if_icmp .gt (7), 3, 0, 0, 0), (.iconst 1, 1, 0, 0, 0), (.goto (4), 3, 0, 0, 0)]),
  (82, [(.iconst 0, 1, 0, 0, 0)]),
  (83, [(.ireturn, 1, 0, 0, 0)])]
def bl90 : List (Nat × List CE) := [(0, [(.iconst 1, 1, 0, 0, 0), (.istore_n 1, 1, 0, 0, 0), (.iconst 0, 1, 0, 0, 0), (.istore_n 2, 1, 0, 0, 0)]),
  (4, [(.iload_n 2, 1, 0, 0, 0), (.bipush 8, 2, 0, 0, 0), (.if_icmp .ge (48), 3, 0, 0, 0), (.iload_n 1, 1, 0, 0, 0), (.ifCond .eq (36), 3, 0, 0, 0), (.aload_n 0, 1, 0, 0, 0), (.getfield 7, 3, 5, 0, 0), (.iload_n 2, 1, 0, 0, 0), (.iaload, 1, 0, 0, 0), (.invokestatic 47, 3, 75, 1, 0), (.iconst 1, 1, 0, 0, 0), (.if_icmp .eq (23), 3, 0, 0, 0), (.aload_n 0, 1, 0, 0, 0), (.getfield 7, 3, 5, 0, 0), (.bipush 56, 2, 0, 0, 0), (.iload_n 2, 1, 0, 0, 0), (.iadd, 1, 0, 0, 0), (.iaload, 1, 0, 0, 0), (.invokestatic 47, 3, 75, 1, 0), (.iconst 1, 1, 0, 0, 0), (.if_icmp .eq (7), 3, 0, 0, 0), (.iconst 1, 1, 0, 0, 0), (.goto (4), 3, 0, 0, 0)]),
  (47, [(.iconst 0, 1, 0, 0, 0)]),
  (48, [(.istore_n 1, 1, 0, 0, 0), (.iinc 2 (1), 3, 0, 0, 0), (.goto (-48), 3, 0, 0, 0)]),
  (55, [(.iload_n 1, 1, 0, 0, 0), (.ireturn, 1, 0, 0, 0)])]
def bl91 : List (Nat × List CE) := [(0, [(.iconst 1, 1, 0, 0, 0), (.istore_n 2, 1, 0, 0, 0), (.iconst 0, 1, 0, 0, 0), (.istore_n 3, 1, 0, 0, 0)]),
  (4, [(.iload_n 3, 1, 0, 0, 0), (.iconst 4, 1, 0, 0, 0), (.if_icmp .ge (113), 3, 0, 0, 0), (.iload_n 3, 1, 0, 0, 0), (.iconst 2, 1, 0, 0, 0), (.if_icmp .ge (7), 3, 0, 0, 0), (.iconst 4, 1, 0, 0, 0), (.goto (5), 3, 0, 0, 0)]),
  (18, [(.bipush 60, 2, 0, 0, 0)]),
  (20, [(.istore 4, 2, 0, 0, 0), (.iload_n 3, 1, 0, 0, 0), (.iconst 2, 1, 0, 0, 0), (.irem, 1, 0, 0, 0), (.ifCond .ne (10), 3, 0, 0, 0), (.iload 4, 2, 0, 0, 0), (.iconst 3, 1, 0, 0, 0), (.iadd, 1, 0, 0, 0), (.goto (7), 3, 0, 0, 0)]),
  (35, [(.iload 4, 2, 0, 0, 0), (.iconst 4, 1, 0, 0, 0), (.isub, 1, 0, 0, 0)]),
  (39, [(.istore 5, 2, 0, 0, 0), (.iload_n 3, 1, 0, 0, 0), (.iconst 2, 1, 0, 0, 0), (.if_icmp .ge (7), 3, 0, 0, 0), (.iconst 0, 1, 0, 0, 0), (.goto (5), 3, 0, 0, 0)]),
  (50, [(.bipush 8, 2, 0, 0, 0)]),
  (52, [(.istore 6, 2, 0, 0, 0), (.aload_n 0, 1, 0, 0, 0), (.getfield 7, 3, 5, 0, 0), (.iload 4, 2, 0, 0, 0), (.iaload, 1, 0, 0, 0), (.bipush 6, 2, 0, 0, 0), (.iload 6, 2, 0, 0, 0), (.iadd, 1, 0, 0, 0), (.if_icmp .ne (21), 3, 0, 0, 0), (.aload_n 0, 1, 0, 0, 0), (.getfield 7, 3, 5, 0, 0), (.iload 5, 2, 0, 0, 0), (.iaload, 1, 0, 0, 0), (.iconst 4, 1, 0, 0, 0), (.iload 6, 2, 0, 0, 0), (.iadd, 1, 0, 0, 0), (.if_icmp .ne (7), 3, 0, 0, 0), (.iconst 1, 1, 0, 0, 0), (.goto (4), 3, 0, 0, 0)]),
  (87, [(.iconst 0, 1, 0, 0, 0)]),
  (88, [(.istore 7, 2, 0, 0, 0), (.iload_n 2, 1, 0, 0, 0), (.ifCond .eq (20), 3, 0, 0, 0), (.iload_n 1, 1, 0, 0, 0), (.iload_n 3, 1, 0, 0, 0), (.ishr, 1, 0, 0, 0), (.iconst 1, 1, 0, 0, 0), (.iand, 1, 0, 0, 0), (.ifCond .eq (8), 3, 0, 0, 0), (.iload 7, 2, 0, 0, 0), (.ifCond .eq (7), 3, 0, 0, 0)]),
  (107, [(.iconst 1, 1, 0, 0, 0), (.goto (4), 3, 0, 0, 0)]),
  (111, [(.iconst 0, 1, 0, 0, 0)]),
  (112, [(.istore_n 2, 1, 0, 0, 0), (.iinc 3 (1), 3, 0, 0, 0), (.goto (-112), 3, 0, 0, 0)]),
  (119, [(.iload_n 2, 1, 0, 0, 0), (.ireturn, 1, 0, 0, 0)])]
def bl92 : List (Nat × List CE) := [(0, [(.iload_n 2, 1, 0, 0, 0), (.iconst (-1), 1, 0, 0, 0), (.if_icmp .ne (5), 3, 0, 0, 0), (.iconst 1, 1, 0, 0, 0), (.ireturn, 1, 0, 0, 0)]),
  (7, [(.iload_n 1, 1, 0, 0, 0), (.ifCond .ne (8), 3, 0, 0, 0), (.bipush 8, 2, 0, 0, 0), (.goto (5), 3, 0, 0, 0)]),
  (16, [(.bipush (-8), 2, 0, 0, 0)]),
  (18, [(.istore_n 3, 1, 0, 0, 0), (.iload_n 2, 1, 0, 0, 0), (.bipush 8, 2, 0, 0, 0), (.idiv, 1, 0, 0, 0), (.iload_n 1, 1, 0, 0, 0), (.ifCond .ne (7), 3, 0, 0, 0), (.iconst 5, 1, 0, 0, 0), (.goto (4), 3, 0, 0, 0)]),
  (31, [(.iconst 2, 1, 0, 0, 0)]),
  (32, [(.if_icmp .eq (5), 3, 0, 0, 0), (.iconst 0, 1, 0, 0, 0), (.ireturn, 1, 0, 0, 0)]),
  (37, [(.aload_n 0, 1, 0, 0, 0), (.getfield 7, 3, 5, 0, 0), (.iload_n 2, 1, 0, 0, 0), (.iaload, 1, 0, 0, 0), (.ifCond .ne (39), 3, 0, 0, 0), (.aload_n 0, 1, 0, 0, 0), (.getfield 7, 3, 5, 0, 0), (.iload_n 2, 1, 0, 0, 0), (.iload_n 3, 1, 0, 0, 0), (.iadd, 1, 0, 0, 0), (.iaload, 1, 0, 0, 0), (.ifCond .ne (28), 3, 0, 0, 0), (.aload_n 0, 1, 0, 0, 0), (.getfield 7, 3, 5, 0, 0), (.iload_n 2, 1, 0, 0, 0), (.iload_n 3, 1, 0, 0, 0), (.isub, 1, 0, 0, 0), (.iaload, 1, 0, 0, 0), (.iload_n 1, 1, 0, 0, 0), (.ifCond .ne (8), 3, 0, 0, 0), (.bipush 9, 2, 0, 0, 0), (.goto (4), 3, 0, 0, 0)]),
  (74, [(.iconst 1, 1, 0, 0, 0)]),
  (75, [(.if_icmp .ne (7), 3, 0, 0, 0), (.iconst 1, 1, 0, 0, 0), (.goto (4), 3, 0, 0, 0)]),
  (82, [(.iconst 0, 1, 0, 0, 0)]),
  (83, [(.ireturn, 1, 0, 0, 0)])]
def bl93 : List (Nat × List CE) := [(0, [(.aload_n 0, 1, 0, 0, 0), (.getfield 92, 3, 5, 4, 0), (.ifCond .ne (5), 3, 0, 0, 0), (.iconst (-1), 1, 0, 0, 0), (.ireturn, 1, 0, 0, 0)]),
  (9, [(.aload_n 0, 1, 0, 0, 0), (.invokevirtual 135, 3, 96, 1, 0), (.ifCond .eq (6), 3, 0, 0, 0), (.bipush (-7), 2, 0, 0, 0), (.ireturn, 1, 0, 0, 0)]),
  (19, [(.iload_n 1, 1, 0, 0, 0), (.ifCond .lt (30), 3, 0, 0, 0), (.iload_n 1, 1, 0, 0, 0), (.bipush 63, 2, 0, 0, 0), (.if_icmp .gt (24), 3, 0, 0, 0), (.iload_n 2, 1, 0, 0, 0), (.ifCond .lt (20), 3, 0, 0, 0), (.iload_n 2, 1, 0, 0, 0), (.bipush 63, 2, 0, 0, 0), (.if_icmp .gt (14), 3, 0, 0, 0), (.aload_n 0, 1, 0, 0, 0), (.iconst 0, 1, 0, 0, 0), (.iload_n 1, 1, 0, 0, 0), (.iload_n 2, 1, 0, 0, 0), (.iload_n 3, 1, 0, 0, 0), (.invokevirtual 86, 3, 76, 5, 0), (.ifCond .ne (5), 3, 0, 0, 0)]),
  (50, [(.iconst (-1), 1, 0, 0, 0), (.ireturn, 1, 0, 0, 0)]),
  (52, [(.aload_n 0, 1, 0, 0, 0), (.getfield 7, 3, 5, 0, 0), (.iload_n 1, 1, 0, 0, 0), (.iaload, 1, 0, 0, 0), (.invokestatic 47, 3, 75, 1, 0), (.iconst 1, 1, 0, 0, 0), (.if_icmp .eq (16), 3, 0, 0, 0), (.aload_n 0, 1, 0, 0, 0), (.getfield 7, 3, 5, 0, 0), (.iload_n 2, 1, 0, 0, 0), (.iaload, 1, 0, 0, 0), (.ifCond .ne (7), 3, 0, 0, 0), (.iconst 1, 1, 0, 0, 0), (.goto (4), 3, 0, 0, 0)]),
  (78, [(.iconst 0, 1, 0, 0, 0)]),
  (79, [(.istore 4, 2, 0, 0, 0), (.iconst 0, 1, 0, 0, 0), (.istore 5, 2, 0, 0, 0)]),
  (84, [(.iload 5, 2, 0, 0, 0), (.bipush 64, 2, 0, 0, 0), (.if_icmp .ge (26), 3, 0, 0, 0), (.aload_n 0, 1, 0, 0, 0), (.getfield 7, 3, 5, 0, 0), (.iload 5, 2, 0, 0, 0), (.aload_n 0, 1, 0, 0, 0), (.getfield 7, 3, 5, 0, 0), (.bipush 64, 2, 0, 0, 0), (.iload 5, 2, 0, 0, 0), (.iadd, 1, 0, 0, 0), (.iaload, 1, 0, 0, 0), (.iastore, 1, 0, 0, 0), (.iinc 5 (1), 3, 0, 0, 0), (.goto (-27), 3, 0, 0, 0)]),
  (114, [(.aload_n 0, 1, 0, 0, 0), (.getfield 13, 3, 5, 1, 0), (.iconst 0, 1, 0, 0, 0), (.aload_n 0, 1, 0, 0, 0), (.getfield 13, 3, 5, 1, 0), (.iconst 1, 1, 0, 0, 0), (.iaload, 1, 0, 0, 0), (.iastore, 1, 0, 0, 0), (.aload_n 0, 1, 0, 0, 0), (.getfield 16, 3, 5, 2, 0), (.iconst 0, 1, 0, 0, 0), (.aload_n 0, 1, 0, 0, 0), (.getfield 16, 3, 5, 2, 0), (.iconst 1, 1, 0, 0, 0), (.iaload, 1, 0, 0, 0), (.iastore, 1, 0, 0, 0), (.aload_n 0, 1, 0, 0, 0), (.getfield 19, 3, 5, 3, 0), (.iconst 0, 1, 0, 0, 0), (.aload_n 0, 1, 0, 0, 0), (.getfield 19, 3, 5, 3, 0), (.iconst 1, 1, 0, 0, 0), (.iaload, 1, 0, 0, 0), (.iastore, 1, 0, 0, 0), (.aload_n 0, 1, 0, 0, 0), (.iload 4, 2, 0, 0, 0), (.ifCond .eq (12), 3, 0, 0, 0), (.aload_n 0, 1, 0, 0, 0), (.getfield 107, 3, 5, 12, 0), (.iconst 1, 1, 0, 0, 0), (.iadd, 1, 0, 0, 0), (.goto (4), 3, 0, 0, 0)]),
  (165, [(.iconst 0, 1, 0, 0, 0)]),
  (166, [(.putfield 107, 3, 5, 12, 0), (.aload_n 0, 1, 0, 0, 0), (.dup, 1, 0, 0, 0), (.getfield 110, 3, 5, 5, 0), (.iconst 1, 1, 0, 0, 0), (.iadd, 1, 0, 0, 0), (.putfield 110, 3, 5, 5, 0), (.aload_n 0, 1, 0, 0, 0), (.invokevirtual 113, 3, 73, 1, 0), (.iconst 0, 1, 0, 0, 0), (.ireturn, 1, 0, 0, 0)])]
def bl94 : List (Nat × List CE) := [(0, [(.aload_n 0, 1, 0, 0, 0), (.getfield 92, 3, 5, 4, 0), (.ifCond .ne (5), 3, 0, 0, 0), (.iconst 0, 1, 0, 0, 0), (.ireturn, 1, 0, 0, 0)]),
  (9, [(.aload_n 0, 1, 0, 0, 0), (.iconst 0, 1, 0, 0, 0), (.iconst 1, 1, 0, 0, 0), (.invokevirtual 142, 3, 97, 3, 0), (.ifCond .ne (23), 3, 0, 0, 0), (.aload_n 0, 1, 0, 0, 0), (.iconst 0, 1, 0, 0, 0), (.aload_n 0, 1, 0, 0, 0), (.getfield 13, 3, 5, 1, 0), (.iconst 0, 1, 0, 0, 0), (.iaload, 1, 0, 0, 0), (.invokevirtual 65, 3, 84, 3, 0), (.ifCond .eq (7), 3, 0, 0, 0), (.iconst 1, 1, 0, 0, 0), (.goto (4), 3, 0, 0, 0)]),
  (36, [(.iconst 2, 1, 0, 0, 0)]),
  (37, [(.ireturn, 1, 0, 0, 0)]),
  (38, [(.aload_n 0, 1, 0, 0, 0), (.invokevirtual 145, 3, 99, 1, 0), (.ifCond .eq (7), 3, 0, 0, 0), (.iconst 3, 1, 0, 0, 0), (.goto (30), 3, 0, 0, 0)]),
  (49, [(.aload_n 0, 1, 0, 0, 0), (.invokevirtual 148, 3, 100, 1, 0), (.iconst 5, 1, 0, 0, 0), (.if_icmp .lt (7), 3, 0, 0, 0), (.iconst 4, 1, 0, 0, 0), (.goto (18), 3, 0, 0, 0)]),
  (61, [(.aload_n 0, 1, 0, 0, 0), (.getfield 107, 3, 5, 12, 0), (.sipush 150, 3, 0, 0, 0), (.if_icmp .lt (7), 3, 0, 0, 0), (.iconst 5, 1, 0, 0, 0), (.goto (4), 3, 0, 0, 0)]),
  (75, [(.iconst 0, 1, 0, 0, 0)]),
  (76, [(.ireturn, 1, 0, 0, 0)])]
def bl95 : List (Nat × List CE) := [(0, [(.iconst 0, 1, 0, 0, 0), (.istore_n 3, 1, 0, 0, 0), (.iconst 0, 1, 0, 0, 0), (.istore 4, 2, 0, 0, 0)]),
  (5, [(.iload 4, 2, 0, 0, 0), (.bipush 64, 2, 0, 0, 0), (.if_icmp .ge (92), 3, 0, 0, 0), (.iconst 0, 1, 0, 0, 0), (.istore 5, 2, 0, 0, 0)]),
  (15, [(.iload 5, 2, 0, 0, 0), (.bipush 64, 2, 0, 0, 0), (.if_icmp .ge (76), 3, 0, 0, 0), (.aload_n 0, 1, 0, 0, 0), (.getfield 7, 3, 5, 0, 0), (.bipush 64, 2, 0, 0, 0), (.iload_n 1, 1, 0, 0, 0), (.imul, 1, 0, 0, 0), (.iload 4, 2, 0, 0, 0), (.iadd, 1, 0, 0, 0), (.iaload, 1, 0, 0, 0), (.aload_n 0, 1, 0, 0, 0), (.getfield 13, 3, 5, 1, 0), (.iload_n 1, 1, 0, 0, 0), (.iaload, 1, 0, 0, 0), (.invokestatic 54, 3, 78, 2, 0), (.ifCond .eq (52), 3, 0, 0, 0), (.iconst 0, 1, 0, 0, 0), (.istore 6, 2, 0, 0, 0)]),
  (49, [(.iload 6, 2, 0, 0, 0), (.bipush 6, 2, 0, 0, 0), (.if_icmp .ge (36), 3, 0, 0, 0), (.iload_n 3, 1, 0, 0, 0), (.iload_n 2, 1, 0, 0, 0), (.if_icmp .ge (20), 3, 0, 0, 0), (.aload_n 0, 1, 0, 0, 0), (.iload_n 1, 1, 0, 0, 0), (.iload 4, 2, 0, 0, 0), (.iload 5, 2, 0, 0, 0), (.iload 6, 2, 0, 0, 0), (.invokevirtual 86, 3, 76, 5, 0), (.ifCond .eq (6), 3, 0, 0, 0), (.iinc 3 (1), 3, 0, 0, 0)]),
  (78, [(.aload_n 0, 1, 0, 0, 0), (.iload 6, 2, 0, 0, 0), (.invokevirtual 89, 3, 98, 2, 0), (.istore 6, 2, 0, 0, 0), (.goto (-37), 3, 0, 0, 0)]),
  (89, [(.iinc 5 (1), 3, 0, 0, 0), (.goto (-77), 3, 0, 0, 0)]),
  (95, [(.iinc 4 (1), 3, 0, 0, 0), (.goto (-93), 3, 0, 0, 0)]),
  (101, [(.iload_n 3, 1, 0, 0, 0), (.ireturn, 1, 0, 0, 0)])]
def bl96 : List (Nat × List CE) := [(0, [(.iload_n 1, 1, 0, 0, 0), (.ifCond .ne (7), 3, 0, 0, 0), (.iconst 2, 1, 0, 0, 0), (.goto (6), 3, 0, 0, 0)]),
  (8, [(.iload_n 1, 1, 0, 0, 0), (.iconst 1, 1, 0, 0, 0), (.iadd, 1, 0, 0, 0)]),
  (11, [(.ireturn, 1, 0, 0, 0)])]
def bl97 : List (Nat × List CE) := [(0, [(.iconst 0, 1, 0, 0, 0), (.istore_n 1, 1, 0, 0, 0), (.iconst 0, 1, 0, 0, 0), (.istore_n 2, 1, 0, 0, 0), (.iconst 0, 1, 0, 0, 0), (.istore_n 3, 1, 0, 0, 0), (.iconst 0, 1, 0, 0, 0), (.istore 4, 2, 0, 0, 0), (.iconst 0, 1, 0, 0, 0), (.istore 5, 2, 0, 0, 0), (.iconst 0, 1, 0, 0, 0), (.istore 6, 2, 0, 0, 0)]),
  (15, [(.iload 6, 2, 0, 0, 0), (.bipush 64, 2, 0, 0, 0), (.if_icmp .ge (115), 3, 0, 0, 0), (.aload_n 0, 1, 0, 0, 0), (.getfield 7, 3, 5, 0, 0), (.iload 6, 2, 0, 0, 0), (.iaload, 1, 0, 0, 0), (.invokestatic 47, 3, 75, 1, 0), (.istore 7, 2, 0, 0, 0), (.iload 7, 2, 0, 0, 0), (.ifCond .eq (92), 3, 0, 0, 0), (.iload 7, 2, 0, 0, 0), (.bipush 6, 2, 0, 0, 0), (.if_icmp .eq (85), 3, 0, 0, 0), (.iinc 1 (1), 3, 0, 0, 0), (.iload_n 2, 1, 0, 0, 0), (.iload 7, 2, 0, 0, 0), (.iconst 2, 1, 0, 0, 0), (.if_icmp .eq (9), 3, 0, 0, 0), (.iload 7, 2, 0, 0, 0), (.iconst 3, 1, 0, 0, 0), (.if_icmp .ne (7), 3, 0, 0, 0)]),
  (62, [(.iconst 1, 1, 0, 0, 0), (.goto (4), 3, 0, 0, 0)]),
  (66, [(.iconst 0, 1, 0, 0, 0)]),
  (67, [(.iadd, 1, 0, 0, 0), (.istore_n 2, 1, 0, 0, 0), (.iload_n 3, 1, 0, 0, 0), (.aload_n 0, 1, 0, 0, 0), (.getfield 7, 3, 5, 0, 0), (.iload 6, 2, 0, 0, 0), (.iaload, 1, 0, 0, 0), (.iconst 3, 1, 0, 0, 0), (.if_icmp .ne (7), 3, 0, 0, 0), (.iconst 1, 1, 0, 0, 0), (.goto (4), 3, 0, 0, 0)]),
  (85, [(.iconst 0, 1, 0, 0, 0)]),
  (86, [(.iadd, 1, 0, 0, 0), (.istore_n 3, 1, 0, 0, 0), (.iload 4, 2, 0, 0, 0), (.aload_n 0, 1, 0, 0, 0), (.getfield 7, 3, 5, 0, 0), (.iload 6, 2, 0, 0, 0), (.iaload, 1, 0, 0, 0), (.bipush 11, 2, 0, 0, 0), (.if_icmp .ne (7), 3, 0, 0, 0), (.iconst 1, 1, 0, 0, 0), (.goto (4), 3, 0, 0, 0)]),
  (106, [(.iconst 0, 1, 0, 0, 0)]),
  (107, [(.iadd, 1, 0, 0, 0), (.istore 4, 2, 0, 0, 0), (.iload 5, 2, 0, 0, 0), (.iload 6, 2, 0, 0, 0), (.bipush 8, 2, 0, 0, 0), (.irem, 1, 0, 0, 0), (.iload 6, 2, 0, 0, 0), (.bipush 8, 2, 0, 0, 0), (.idiv, 1, 0, 0, 0), (.iadd, 1, 0, 0, 0), (.iconst 2, 1, 0, 0, 0), (.irem, 1, 0, 0, 0), (.iadd, 1, 0, 0, 0), (.istore 5, 2, 0, 0, 0)]),
  (128, [(.iinc 6 (1), 3, 0, 0, 0), (.goto (-116), 3, 0, 0, 0)]),
  (134, [(.iload_n 1, 1, 0, 0, 0), (.ifCond .eq (35), 3, 0, 0, 0), (.iload_n 1, 1, 0, 0, 0), (.iconst 1, 1, 0, 0, 0), (.if_icmp .ne (8), 3, 0, 0, 0), (.iload_n 2, 1, 0, 0, 0), (.iconst 1, 1, 0, 0, 0), (.if_icmp .eq (25), 3, 0, 0, 0)]),
  (148, [(.iload_n 1, 1, 0, 0, 0), (.iconst 2, 1, 0, 0, 0), (.if_icmp .ne (24), 3, 0, 0, 0), (.iload_n 3, 1, 0, 0, 0), (.iconst 1, 1, 0, 0, 0), (.if_icmp .ne (19), 3, 0, 0, 0), (.iload 4, 2, 0, 0, 0), (.iconst 1, 1, 0, 0, 0), (.if_icmp .ne (13), 3, 0, 0, 0), (.iload 5, 2, 0, 0, 0), (.iconst 1, 1, 0, 0, 0), (.if_icmp .eq (7), 3, 0, 0, 0)]),
  (170, [(.iconst 1, 1, 0, 0, 0), (.goto (4), 3, 0, 0, 0)]),
  (174, [(.iconst 0, 1, 0, 0, 0)]),
  (175, [(.ireturn, 1, 0, 0, 0)])]
def bl98 : List (Nat × List CE) := [(0, [(.iconst 0, 1, 0, 0, 0), (.istore_n 1, 1, 0, 0, 0), (.iconst 0, 1, 0, 0, 0), (.istore_n 2, 1, 0, 0, 0)]),
  (4, [(.iload_n 2, 1, 0, 0, 0), (.aload_n 0, 1, 0, 0, 0), (.getfield 110, 3, 5, 5, 0), (.if_icmp .gt (128), 3, 0, 0, 0), (.aload_n 0, 1, 0, 0, 0), (.getfield 110, 3, 5, 5, 0), (.iload_n 2, 1, 0, 0, 0), (.isub, 1, 0, 0, 0), (.iconst 2, 1, 0, 0, 0), (.irem, 1, 0, 0, 0), (.ifCond .ne (43), 3, 0, 0, 0), (.aload_n 0, 1, 0, 0, 0), (.getfield 26, 3, 5, 7, 0), (.iload_n 2, 1, 0, 0, 0), (.baload, 1, 0, 0, 0), (.aload_n 0, 1, 0, 0, 0), (.getfield 26, 3, 5, 7, 0), (.aload_n 0, 1, 0, 0, 0), (.getfield 110, 3, 5, 5, 0), (.baload, 1, 0, 0, 0), (.if_icmp .ne (25), 3, 0, 0, 0), (.aload_n 0, 1, 0, 0, 0), (.getfield 33, 3, 5, 9, 0), (.iload_n 2, 1, 0, 0, 0), (.baload, 1, 0, 0, 0), (.aload_n 0, 1, 0, 0, 0), (.getfield 33, 3, 5, 9, 0), (.aload_n 0, 1, 0, 0, 0), (.getfield 110, 3, 5, 5, 0), (.baload, 1, 0, 0, 0), (.if_icmp .ne (7), 3, 0, 0, 0), (.iconst 1, 1, 0, 0, 0), (.goto (4), 3, 0, 0, 0)]),
  (63, [(.iconst 0, 1, 0, 0, 0)]),
  (64, [(.istore_n 3, 1, 0, 0, 0), (.iconst 0, 1, 0, 0, 0), (.istore 4, 2, 0, 0, 0)]),
  (68, [(.iload 4, 2, 0, 0, 0), (.iconst 4, 1, 0, 0, 0), (.if_icmp .ge (48), 3, 0, 0, 0), (.iload_n 3, 1, 0, 0, 0), (.ifCond .eq (36), 3, 0, 0, 0), (.aload_n 0, 1, 0, 0, 0), (.getfield 22, 3, 5, 6, 0), (.iconst 4, 1, 0, 0, 0), (.iload_n 2, 1, 0, 0, 0), (.imul, 1, 0, 0, 0), (.iload 4, 2, 0, 0, 0), (.iadd, 1, 0, 0, 0), (.laload, 1, 0, 0, 0), (.aload_n 0, 1, 0, 0, 0), (.getfield 22, 3, 5, 6, 0), (.iconst 4, 1, 0, 0, 0), (.aload_n 0, 1, 0, 0, 0), (.getfield 110, 3, 5, 5, 0), (.imul, 1, 0, 0, 0), (.iload 4, 2, 0, 0, 0), (.iadd, 1, 0, 0, 0), (.laload, 1, 0, 0, 0), (.lcmp, 1, 0, 0, 0), (.ifCond .ne (7), 3, 0, 0, 0), (.iconst 1, 1, 0, 0, 0), (.goto (4), 3, 0, 0, 0)]),
  (111, [(.iconst 0, 1, 0, 0, 0)]),
  (112, [(.istore_n 3, 1, 0, 0, 0), (.iinc 4 (1), 3, 0, 0, 0), (.goto (-48), 3, 0, 0, 0)]),
  (119, [(.iload_n 1, 1, 0, 0, 0), (.iload_n 3, 1, 0, 0, 0), (.ifCond .eq (7), 3, 0, 0, 0), (.iconst 1, 1, 0, 0, 0), (.goto (4), 3, 0, 0, 0)]),
  (128, [(.iconst 0, 1, 0, 0, 0)]),
  (129, [(.iadd, 1, 0, 0, 0), (.istore_n 1, 1, 0, 0, 0), (.iinc 2 (1), 3, 0, 0, 0), (.goto (-130), 3, 0, 0, 0)]),
  (137, [(.iload_n 1, 1, 0, 0, 0), (.ireturn, 1, 0, 0, 0)])]
def bl99 : List (Nat × List CE) := [(0, [(.aload_n 0, 1, 0, 0, 0), (.getfield 92, 3, 5, 4, 0), (.ifCond .eq (10), 3, 0, 0, 0), (.aload_n 0, 1, 0, 0, 0), (.getfield 110, 3, 5, 5, 0), (.ifCond .ne (5), 3, 0, 0, 0)]),
  (14, [(.iconst 0, 1, 0, 0, 0), (.ireturn, 1, 0, 0, 0)]),
  (16, [(.aload_n 0, 1, 0, 0, 0), (.dup, 1, 0, 0, 0), (.getfield 110, 3, 5, 5, 0), (.iconst 1, 1, 0, 0, 0), (.isub, 1, 0, 0, 0), (.putfield 110, 3, 5, 5, 0), (.aload_n 0, 1, 0, 0, 0), (.invokevirtual 139, 3, 102, 1, 0), (.iconst 1, 1, 0, 0, 0), (.ireturn, 1, 0, 0, 0)])]
def bl100 : List (Nat × List CE) := [(0, [(.iconst 0, 1, 0, 0, 0), (.istore_n 1, 1, 0, 0, 0)]),
  (2, [(.iload_n 1, 1, 0, 0, 0), (.bipush 64, 2, 0, 0, 0), (.if_icmp .ge (43), 3, 0, 0, 0), (.aload_n 0, 1, 0, 0, 0), (.getfield 7, 3, 5, 0, 0), (.iload_n 1, 1, 0, 0, 0), (.aload_n 0, 1, 0, 0, 0), (.getfield 22, 3, 5, 6, 0), (.iconst 4, 1, 0, 0, 0), (.aload_n 0, 1, 0, 0, 0), (.getfield 110, 3, 5, 5, 0), (.imul, 1, 0, 0, 0), (.iload_n 1, 1, 0, 0, 0), (.bipush 16, 2, 0, 0, 0), (.idiv, 1, 0, 0, 0), (.iadd, 1, 0, 0, 0), (.laload, 1, 0, 0, 0), (.iconst 4, 1, 0, 0, 0), (.iload_n 1, 1, 0, 0, 0), (.bipush 16, 2, 0, 0, 0), (.irem, 1, 0, 0, 0), (.imul, 1, 0, 0, 0), (.lshr, 1, 0, 0, 0), (.ldc2_w 120, 3, 0, 0, 15), (.land, 1, 0, 0, 0), (.l2i, 1, 0, 0, 0), (.iastore, 1, 0, 0, 0), (.iinc 1 (1), 3, 0, 0, 0), (.goto (-43), 3, 0, 0, 0)]),
  (48, [(.aload_n 0, 1, 0, 0, 0), (.getfield 13, 3, 5, 1, 0), (.iconst 0, 1, 0, 0, 0), (.aload_n 0, 1, 0, 0, 0), (.getfield 110, 3, 5, 5, 0), (.iconst 2, 1, 0, 0, 0), (.irem, 1, 0, 0, 0), (.ifCond .ne (10), 3, 0, 0, 0), (.aload_n 0, 1, 0, 0, 0), (.getfield 103, 3, 5, 11, 0), (.goto (9), 3, 0, 0, 0)]),
  (69, [(.iconst 1, 1, 0, 0, 0), (.aload_n 0, 1, 0, 0, 0), (.getfield 103, 3, 5, 11, 0), (.isub, 1, 0, 0, 0)]),
  (75, [(.iastore, 1, 0, 0, 0), (.aload_n 0, 1, 0, 0, 0), (.getfield 16, 3, 5, 2, 0), (.iconst 0, 1, 0, 0, 0), (.aload_n 0, 1, 0, 0, 0), (.getfield 26, 3, 5, 7, 0), (.aload_n 0, 1, 0, 0, 0), (.getfield 110, 3, 5, 5, 0), (.baload, 1, 0, 0, 0), (.iastore, 1, 0, 0, 0), (.aload_n 0, 1, 0, 0, 0), (.getfield 19, 3, 5, 3, 0), (.iconst 0, 1, 0, 0, 0), (.aload_n 0, 1, 0, 0, 0), (.getfield 30, 3, 5, 8, 0), (.aload_n 0, 1, 0, 0, 0), (.getfield 110, 3, 5, 5, 0), (.baload, 1, 0, 0, 0), (.iastore, 1, 0, 0, 0), (.aload_n 0, 1, 0, 0, 0), (.aload_n 0, 1, 0, 0, 0), (.getfield 36, 3, 5, 10, 0), (.aload_n 0, 1, 0, 0, 0), (.getfield 110, 3, 5, 5, 0), (.saload, 1, 0, 0, 0), (.putfield 107, 3, 5, 12, 0), (.return_, 1, 0, 0, 0)])]
def bl101 : List (Nat × List CE) := [(0, [(.iload_n 1, 1, 0, 0, 0), (.ifCond .lt (9), 3, 0, 0, 0), (.iload_n 1, 1, 0, 0, 0), (.bipush 63, 2, 0, 0, 0), (.if_icmp .le (7), 3, 0, 0, 0)]),
  (10, [(.iconst (-1), 1, 0, 0, 0), (.goto (9), 3, 0, 0, 0)]),
  (14, [(.aload_n 0, 1, 0, 0, 0), (.getfield 7, 3, 5, 0, 0), (.iload_n 1, 1, 0, 0, 0), (.iaload, 1, 0, 0, 0)]),
  (20, [(.ireturn, 1, 0, 0, 0)])]
def bl102 : List (Nat × List CE) := [(0, [(.aload_n 0, 1, 0, 0, 0), (.getfield 92, 3, 5, 4, 0), (.ifCond .eq (12), 3, 0, 0, 0), (.aload_n 0, 1, 0, 0, 0), (.getfield 13, 3, 5, 1, 0), (.iconst 0, 1, 0, 0, 0), (.iaload, 1, 0, 0, 0), (.goto (4), 3, 0, 0, 0)]),
  (16, [(.iconst (-1), 1, 0, 0, 0)]),
  (17, [(.ireturn, 1, 0, 0, 0)])]
def bl103 : List (Nat × List CE) := [(0, [(.aload_n 0, 1, 0, 0, 0), (.getfield 92, 3, 5, 4, 0), (.ifCond .eq (12), 3, 0, 0, 0), (.aload_n 0, 1, 0, 0, 0), (.getfield 16, 3, 5, 2, 0), (.iconst 0, 1, 0, 0, 0), (.iaload, 1, 0, 0, 0), (.goto (4), 3, 0, 0, 0)]),
  (16, [(.iconst (-1), 1, 0, 0, 0)]),
  (17, [(.ireturn, 1, 0, 0, 0)])]
def bl104 : List (Nat × List CE) := [(0, [(.aload_n 0, 1, 0, 0, 0), (.getfield 92, 3, 5, 4, 0), (.ifCond .eq (12), 3, 0, 0, 0), (.aload_n 0, 1, 0, 0, 0), (.getfield 19, 3, 5, 3, 0), (.iconst 0, 1, 0, 0, 0), (.iaload, 1, 0, 0, 0), (.goto (4), 3, 0, 0, 0)]),
  (16, [(.iconst (-1), 1, 0, 0, 0)]),
  (17, [(.ireturn, 1, 0, 0, 0)])]
def bl105 : List (Nat × List CE) := [(0, [(.aload_n 0, 1, 0, 0, 0), (.getfield 92, 3, 5, 4, 0), (.ifCond .eq (14), 3, 0, 0, 0), (.aload_n 0, 1, 0, 0, 0), (.iconst 0, 1, 0, 0, 0), (.sipush 10000, 3, 0, 0, 0), (.invokevirtual 142, 3, 97, 3, 0), (.goto (4), 3, 0, 0, 0)]),
  (18, [(.iconst 0, 1, 0, 0, 0)]),
  (19, [(.ireturn, 1, 0, 0, 0)])]
def bl106 : List (Nat × List CE) := [(0, [(.aload_n 0, 1, 0, 0, 0), (.getfield 92, 3, 5, 4, 0), (.ifCond .eq (7), 3, 0, 0, 0), (.iload_n 1, 1, 0, 0, 0), (.ifCond .ge (5), 3, 0, 0, 0)]),
  (11, [(.iconst (-1), 1, 0, 0, 0), (.ireturn, 1, 0, 0, 0)]),
  (13, [(.iload_n 1, 1, 0, 0, 0), (.istore_n 2, 1, 0, 0, 0), (.iconst 0, 1, 0, 0, 0), (.istore_n 3, 1, 0, 0, 0)]),
  (17, [(.iload_n 3, 1, 0, 0, 0), (.bipush 64, 2, 0, 0, 0), (.if_icmp .ge (99), 3, 0, 0, 0), (.iconst 0, 1, 0, 0, 0), (.istore 4, 2, 0, 0, 0)]),
  (26, [(.iload 4, 2, 0, 0, 0), (.bipush 64, 2, 0, 0, 0), (.if_icmp .ge (83), 3, 0, 0, 0), (.aload_n 0, 1, 0, 0, 0), (.getfield 7, 3, 5, 0, 0), (.iload_n 3, 1, 0, 0, 0), (.iaload, 1, 0, 0, 0), (.aload_n 0, 1, 0, 0, 0), (.getfield 13, 3, 5, 1, 0), (.iconst 0, 1, 0, 0, 0), (.iaload, 1, 0, 0, 0), (.invokestatic 54, 3, 78, 2, 0), (.ifCond .eq (65), 3, 0, 0, 0), (.iconst 0, 1, 0, 0, 0), (.istore 5, 2, 0, 0, 0)]),
  (54, [(.iload 5, 2, 0, 0, 0), (.bipush 6, 2, 0, 0, 0), (.if_icmp .ge (49), 3, 0, 0, 0), (.aload_n 0, 1, 0, 0, 0), (.iconst 0, 1, 0, 0, 0), (.iload_n 3, 1, 0, 0, 0), (.iload 4, 2, 0, 0, 0), (.iload 5, 2, 0, 0, 0), (.invokevirtual 86, 3, 76, 5, 0), (.ifCond .eq (25), 3, 0, 0, 0), (.iload_n 2, 1, 0, 0, 0), (.ifCond .ne (18), 3, 0, 0, 0), (.iload_n 3, 1, 0, 0, 0), (.bipush 64, 2, 0, 0, 0), (.iload 4, 2, 0, 0, 0), (.imul, 1, 0, 0, 0), (.iadd, 1, 0, 0, 0), (.sipush 4096, 3, 0, 0, 0), (.iload 5, 2, 0, 0, 0), (.imul, 1, 0, 0, 0), (.iadd, 1, 0, 0, 0), (.ireturn, 1, 0, 0, 0)]),
  (93, [(.iinc 2 (-1), 3, 0, 0, 0)]),
  (96, [(.aload_n 0, 1, 0, 0, 0), (.iload 5, 2, 0, 0, 0), (.invokevirtual 89, 3, 98, 2, 0), (.istore 5, 2, 0, 0, 0), (.goto (-50), 3, 0, 0, 0)]),
  (107, [(.iinc 4 (1), 3, 0, 0, 0), (.goto (-84), 3, 0, 0, 0)]),
  (113, [(.iinc 3 (1), 3, 0, 0, 0), (.goto (-99), 3, 0, 0, 0)]),
  (119, [(.iconst (-1), 1, 0, 0, 0), (.ireturn, 1, 0, 0, 0)])]
def bl107 : List (Nat × List CE) := [(0, [(.iload_n 1, 1, 0, 0, 0), (.ifCond .lt (18), 3, 0, 0, 0), (.iload_n 1, 1, 0, 0, 0), (.bipush 63, 2, 0, 0, 0), (.if_icmp .gt (12), 3, 0, 0, 0), (.iload_n 2, 1, 0, 0, 0), (.ifCond .lt (8), 3, 0, 0, 0), (.iload_n 2, 1, 0, 0, 0), (.iconst 1, 1, 0, 0, 0), (.if_icmp .le (7), 3, 0, 0, 0)]),
  (19, [(.iconst (-1), 1, 0, 0, 0), (.goto (10), 3, 0, 0, 0)]),
  (23, [(.aload_n 0, 1, 0, 0, 0), (.iconst 0, 1, 0, 0, 0), (.iload_n 1, 1, 0, 0, 0), (.iload_n 2, 1, 0, 0, 0), (.invokevirtual 61, 3, 85, 4, 0)]),
  (30, [(.ireturn, 1, 0, 0, 0)])]
def bl108 : List (Nat × List CE) := [(0, [(.aload_n 0, 1, 0, 0, 0), (.getfield 92, 3, 5, 4, 0), (.ifCond .eq (21), 3, 0, 0, 0), (.aload_n 0, 1, 0, 0, 0), (.iconst 0, 1, 0, 0, 0), (.aload_n 0, 1, 0, 0, 0), (.getfield 13, 3, 5, 1, 0), (.iconst 0, 1, 0, 0, 0), (.iaload, 1, 0, 0, 0), (.invokevirtual 65, 3, 84, 3, 0), (.ifCond .eq (7), 3, 0, 0, 0), (.iconst 1, 1, 0, 0, 0), (.goto (4), 3, 0, 0, 0)]),
  (25, [(.iconst 0, 1, 0, 0, 0)]),
  (26, [(.ireturn, 1, 0, 0, 0)])]
def bl109 : List (Nat × List CE) := [(0, [(.aload_n 0, 1, 0, 0, 0), (.getfield 92, 3, 5, 4, 0), (.ifCond .eq (34), 3, 0, 0, 0), (.aload_n 0, 1, 0, 0, 0), (.invokevirtual 148, 3, 100, 1, 0), (.iconst 3, 1, 0, 0, 0), (.if_icmp .lt (7), 3, 0, 0, 0), (.iconst 1, 1, 0, 0, 0), (.goto (4), 3, 0, 0, 0)]),
  (19, [(.iconst 0, 1, 0, 0, 0)]),
  (20, [(.aload_n 0, 1, 0, 0, 0), (.getfield 107, 3, 5, 12, 0), (.bipush 100, 2, 0, 0, 0), (.if_icmp .lt (7), 3, 0, 0, 0), (.iconst 2, 1, 0, 0, 0), (.goto (4), 3, 0, 0, 0)]),
  (33, [(.iconst 0, 1, 0, 0, 0)]),
  (34, [(.iadd, 1, 0, 0, 0), (.goto (4), 3, 0, 0, 0)]),
  (38, [(.iconst 0, 1, 0, 0, 0)]),
  (39, [(.ireturn, 1, 0, 0, 0)])]
def bl110 : List (Nat × List CE) := [(0, [(.aload_n 0, 1, 0, 0, 0), (.getfield 92, 3, 5, 4, 0), (.ifCond .eq (10), 3, 0, 0, 0), (.aload_n 0, 1, 0, 0, 0), (.getfield 107, 3, 5, 12, 0), (.goto (4), 3, 0, 0, 0)]),
  (14, [(.iconst 0, 1, 0, 0, 0)]),
  (15, [(.ireturn, 1, 0, 0, 0)])]
def bl111 : List (Nat × List CE) := [(0, [(.aload_n 0, 1, 0, 0, 0), (.getfield 92, 3, 5, 4, 0), (.ifCond .eq (10), 3, 0, 0, 0), (.aload_n 0, 1, 0, 0, 0), (.getfield 110, 3, 5, 5, 0), (.goto (4), 3, 0, 0, 0)]),
  (14, [(.iconst 0, 1, 0, 0, 0)]),
  (15, [(.ireturn, 1, 0, 0, 0)])]
def bl112 : List (Nat × List CE) := [(0, [(.aload_n 0, 1, 0, 0, 0), (.getfield 92, 3, 5, 4, 0), (.ifCond .eq (12), 3, 0, 0, 0), (.iload_n 1, 1, 0, 0, 0), (.ifCond .lt (8), 3, 0, 0, 0), (.iload_n 1, 1, 0, 0, 0), (.iconst 2, 1, 0, 0, 0), (.if_icmp .le (7), 3, 0, 0, 0)]),
  (16, [(.sipush (-10000), 3, 0, 0, 0), (.ireturn, 1, 0, 0, 0)]),
  (20, [(.iload_n 1, 1, 0, 0, 0), (.ifCond .ne (11), 3, 0, 0, 0), (.aload_n 0, 1, 0, 0, 0), (.iconst 0, 1, 0, 0, 0), (.invokevirtual 152, 3, 115, 2, 0), (.goto (20), 3, 0, 0, 0)]),
  (32, [(.iload_n 1, 1, 0, 0, 0), (.iconst 1, 1, 0, 0, 0), (.if_icmp .ne (11), 3, 0, 0, 0), (.aload_n 0, 1, 0, 0, 0), (.iconst 0, 1, 0, 0, 0), (.invokevirtual 158, 3, 116, 2, 0), (.goto (7), 3, 0, 0, 0)]),
  (45, [(.aload_n 0, 1, 0, 0, 0), (.invokevirtual 161, 3, 118, 1, 0)]),
  (49, [(.ireturn, 1, 0, 0, 0)])]
def bl113 : List (Nat × List CE) := [(0, [(.iconst 0, 1, 0, 0, 0), (.istore_n 2, 1, 0, 0, 0), (.iconst 0, 1, 0, 0, 0), (.istore_n 3, 1, 0, 0, 0)]),
  (4, [(.iload_n 3, 1, 0, 0, 0), (.bipush 64, 2, 0, 0, 0), (.if_icmp .ge (104), 3, 0, 0, 0), (.aload_n 0, 1, 0, 0, 0), (.getfield 7, 3, 5, 0, 0), (.bipush 64, 2, 0, 0, 0), (.iload_n 1, 1, 0, 0, 0), (.imul, 1, 0, 0, 0), (.iload_n 3, 1, 0, 0, 0), (.iadd, 1, 0, 0, 0), (.iaload, 1, 0, 0, 0), (.istore 4, 2, 0, 0, 0), (.iload 4, 2, 0, 0, 0), (.invokestatic 47, 3, 75, 1, 0), (.istore 5, 2, 0, 0, 0), (.iload 5, 2, 0, 0, 0), (.iconst 1, 1, 0, 0, 0), (.if_icmp .ne (7), 3, 0, 0, 0), (.iconst 1, 1, 0, 0, 0), (.goto (41), 3, 0, 0, 0)]),
  (40, [(.iload 5, 2, 0, 0, 0), (.iconst 2, 1, 0, 0, 0), (.if_icmp .eq (9), 3, 0, 0, 0), (.iload 5, 2, 0, 0, 0), (.iconst 3, 1, 0, 0, 0), (.if_icmp .ne (7), 3, 0, 0, 0)]),
  (52, [(.iconst 3, 1, 0, 0, 0), (.goto (25), 3, 0, 0, 0)]),
  (56, [(.iload 5, 2, 0, 0, 0), (.iconst 4, 1, 0, 0, 0), (.if_icmp .ne (7), 3, 0, 0, 0), (.iconst 5, 1, 0, 0, 0), (.goto (15), 3, 0, 0, 0)]),
  (66, [(.iload 5, 2, 0, 0, 0), (.iconst 5, 1, 0, 0, 0), (.if_icmp .ne (8), 3, 0, 0, 0), (.bipush 9, 2, 0, 0, 0), (.goto (4), 3, 0, 0, 0)]),
  (77, [(.iconst 0, 1, 0, 0, 0)]),
  (78, [(.istore 6, 2, 0, 0, 0), (.iload_n 2, 1, 0, 0, 0), (.iload 4, 2, 0, 0, 0), (.aload_n 0, 1, 0, 0, 0), (.getfield 13, 3, 5, 1, 0), (.iload_n 1, 1, 0, 0, 0), (.iaload, 1, 0, 0, 0), (.invokestatic 54, 3, 78, 2, 0), (.ifCond .eq (8), 3, 0, 0, 0), (.iload 6, 2, 0, 0, 0), (.goto (6), 3, 0, 0, 0)]),
  (100, [(.iload 6, 2, 0, 0, 0), (.ineg, 1, 0, 0, 0)]),
  (103, [(.iadd, 1, 0, 0, 0), (.istore_n 2, 1, 0, 0, 0), (.iinc 3 (1), 3, 0, 0, 0), (.goto (-104), 3, 0, 0, 0)]),
  (111, [(.iload_n 2, 1, 0, 0, 0), (.ireturn, 1, 0, 0, 0)])]
def bl114 : List (Nat × List CE) := [(0, [(.ldc 151, 2, 0, 0, (-100000)), (.istore_n 2, 1, 0, 0, 0), (.iconst 0, 1, 0, 0, 0), (.istore_n 3, 1, 0, 0, 0)]),
  (5, [(.iload_n 3, 1, 0, 0, 0), (.bipush 64, 2, 0, 0, 0), (.if_icmp .ge (105), 3, 0, 0, 0), (.iconst 0, 1, 0, 0, 0), (.istore 4, 2, 0, 0, 0)]),
  (14, [(.iload 4, 2, 0, 0, 0), (.bipush 64, 2, 0, 0, 0), (.if_icmp .ge (89), 3, 0, 0, 0), (.aload_n 0, 1, 0, 0, 0), (.getfield 7, 3, 5, 0, 0), (.bipush 64, 2, 0, 0, 0), (.iload_n 1, 1, 0, 0, 0), (.imul, 1, 0, 0, 0), (.iload_n 3, 1, 0, 0, 0), (.iadd, 1, 0, 0, 0), (.iaload, 1, 0, 0, 0), (.aload_n 0, 1, 0, 0, 0), (.getfield 13, 3, 5, 1, 0), (.iload_n 1, 1, 0, 0, 0), (.iaload, 1, 0, 0, 0), (.invokestatic 54, 3, 78, 2, 0), (.ifCond .eq (66), 3, 0, 0, 0), (.iconst 0, 1, 0, 0, 0), (.istore 5, 2, 0, 0, 0)]),
  (47, [(.iload 5, 2, 0, 0, 0), (.bipush 6, 2, 0, 0, 0), (.if_icmp .ge (50), 3, 0, 0, 0), (.aload_n 0, 1, 0, 0, 0), (.iload_n 1, 1, 0, 0, 0), (.iload_n 3, 1, 0, 0, 0), (.iload 4, 2, 0, 0, 0), (.iload 5, 2, 0, 0, 0), (.invokevirtual 86, 3, 76, 5, 0), (.ifCond .eq (26), 3, 0, 0, 0), (.aload_n 0, 1, 0, 0, 0), (.iload_n 1, 1, 0, 0, 0), (.iconst 1, 1, 0, 0, 0), (.iadd, 1, 0, 0, 0), (.invokevirtual 152, 3, 115, 2, 0), (.ineg, 1, 0, 0, 0), (.istore 6, 2, 0, 0, 0), (.iload 6, 2, 0, 0, 0), (.iload_n 2, 1, 0, 0, 0), (.if_icmp .le (8), 3, 0, 0, 0), (.iload 6, 2, 0, 0, 0), (.goto (4), 3, 0, 0, 0)]),
  (88, [(.iload_n 2, 1, 0, 0, 0)]),
  (89, [(.istore_n 2, 1, 0, 0, 0)]),
  (90, [(.aload_n 0, 1, 0, 0, 0), (.iload 5, 2, 0, 0, 0), (.invokevirtual 89, 3, 98, 2, 0), (.istore 5, 2, 0, 0, 0), (.goto (-51), 3, 0, 0, 0)]),
  (101, [(.iinc 4 (1), 3, 0, 0, 0), (.goto (-90), 3, 0, 0, 0)]),
  (107, [(.iinc 3 (1), 3, 0, 0, 0), (.goto (-105), 3, 0, 0, 0)]),
  (113, [(.iload_n 2, 1, 0, 0, 0), (.ldc 151, 2, 0, 0, (-100000)), (.if_icmp .ne (11), 3, 0, 0, 0), (.aload_n 0, 1, 0, 0, 0), (.iload_n 1, 1, 0, 0, 0), (.invokevirtual 155, 3, 117, 2, 0), (.goto (4), 3, 0, 0, 0)]),
  (127, [(.iload_n 2, 1, 0, 0, 0)]),
  (128, [(.ireturn, 1, 0, 0, 0)])]
def bl115 : List (Nat × List CE) := [(0, [(.aload_n 0, 1, 0, 0, 0), (.iload_n 1, 1, 0, 0, 0), (.aload_n 0, 1, 0, 0, 0), (.getfield 13, 3, 5, 1, 0), (.iload_n 1, 1, 0, 0, 0), (.iaload, 1, 0, 0, 0), (.invokevirtual 65, 3, 84, 3, 0), (.ifCond .eq (9), 3, 0, 0, 0), (.sipush (-1000), 3, 0, 0, 0), (.goto (4), 3, 0, 0, 0)]),
  (20, [(.iconst 0, 1, 0, 0, 0)]),
  (21, [(.ireturn, 1, 0, 0, 0)])]
def bl116 : List (Nat × List CE) := [(0, [(.ldc 151, 2, 0, 0, (-100000)), (.istore_n 1, 1, 0, 0, 0), (.iconst 0, 1, 0, 0, 0), (.istore_n 2, 1, 0, 0, 0)]),
  (5, [(.iload_n 2, 1, 0, 0, 0), (.bipush 64, 2, 0, 0, 0), (.if_icmp .ge (95), 3, 0, 0, 0), (.iconst 0, 1, 0, 0, 0), (.istore_n 3, 1, 0, 0, 0)]),
  (13, [(.iload_n 3, 1, 0, 0, 0), (.bipush 64, 2, 0, 0, 0), (.if_icmp .ge (81), 3, 0, 0, 0), (.aload_n 0, 1, 0, 0, 0), (.getfield 7, 3, 5, 0, 0), (.iload_n 2, 1, 0, 0, 0), (.iaload, 1, 0, 0, 0), (.aload_n 0, 1, 0, 0, 0), (.getfield 13, 3, 5, 1, 0), (.iconst 0, 1, 0, 0, 0), (.iaload, 1, 0, 0, 0), (.invokestatic 54, 3, 78, 2, 0), (.ifCond .eq (63), 3, 0, 0, 0), (.iconst 0, 1, 0, 0, 0), (.istore 4, 2, 0, 0, 0)]),
  (40, [(.iload 4, 2, 0, 0, 0), (.bipush 6, 2, 0, 0, 0), (.if_icmp .ge (47), 3, 0, 0, 0), (.aload_n 0, 1, 0, 0, 0), (.iconst 0, 1, 0, 0, 0), (.iload_n 2, 1, 0, 0, 0), (.iload_n 3, 1, 0, 0, 0), (.iload 4, 2, 0, 0, 0), (.invokevirtual 86, 3, 76, 5, 0), (.ifCond .eq (24), 3, 0, 0, 0), (.aload_n 0, 1, 0, 0, 0), (.iconst 1, 1, 0, 0, 0), (.invokevirtual 158, 3, 116, 2, 0), (.ineg, 1, 0, 0, 0), (.istore 5, 2, 0, 0, 0), (.iload 5, 2, 0, 0, 0), (.iload_n 1, 1, 0, 0, 0), (.if_icmp .le (8), 3, 0, 0, 0), (.iload 5, 2, 0, 0, 0), (.goto (4), 3, 0, 0, 0)]),
  (78, [(.iload_n 1, 1, 0, 0, 0)]),
  (79, [(.istore_n 1, 1, 0, 0, 0)]),
  (80, [(.aload_n 0, 1, 0, 0, 0), (.iload 4, 2, 0, 0, 0), (.invokevirtual 89, 3, 98, 2, 0), (.istore 4, 2, 0, 0, 0), (.goto (-48), 3, 0, 0, 0)]),
  (91, [(.iinc 3 (1), 3, 0, 0, 0), (.goto (-81), 3, 0, 0, 0)]),
  (97, [(.iinc 2 (1), 3, 0, 0, 0), (.goto (-95), 3, 0, 0, 0)]),
  (103, [(.iload_n 1, 1, 0, 0, 0), (.ldc 151, 2, 0, 0, (-100000)), (.if_icmp .ne (11), 3, 0, 0, 0), (.aload_n 0, 1, 0, 0, 0), (.iconst 0, 1, 0, 0, 0), (.invokevirtual 155, 3, 117, 2, 0), (.goto (4), 3, 0, 0, 0)]),
  (117, [(.iload_n 1, 1, 0, 0, 0)]),
  (118, [(.ireturn, 1, 0, 0, 0)])]
def bl117 : List (Nat × List CE) := [(0, [(.iconst 0, 1, 0, 0, 0), (.istore_n 2, 1, 0, 0, 0)]),
  (2, [(.iload_n 2, 1, 0, 0, 0), (.bipush 64, 2, 0, 0, 0), (.if_icmp .ge (62), 3, 0, 0, 0), (.aload_n 0, 1, 0, 0, 0), (.getfield 9, 3, 1, 0, 0), (.getfield 15, 3, 2, 0, 0), (.iload_n 2, 1, 0, 0, 0), (.iaload, 1, 0, 0, 0), (.istore_n 3, 1, 0, 0, 0), (.iload_n 3, 1, 0, 0, 0), (.aload_n 0, 1, 0, 0, 0), (.getfield 21, 3, 1, 2, 0), (.invokestatic 25, 3, 5, 2, 0), (.ifCond .ne (6), 3, 0, 0, 0), (.goto (32), 3, 0, 0, 0)]),
  (32, [(.iload_n 3, 1, 0, 0, 0), (.invokestatic 29, 3, 6, 1, 0), (.iconst 1, 1, 0, 0, 0), (.if_icmp .ne (18), 3, 0, 0, 0), (.aload_n 0, 1, 0, 0, 0), (.iload_n 2, 1, 0, 0, 0), (.aload_n 1, 1, 0, 0, 0), (.invokestatic 33, 3, 120, 3, 0), (.aload_n 0, 1, 0, 0, 0), (.iload_n 2, 1, 0, 0, 0), (.aload_n 1, 1, 0, 0, 0), (.invokestatic 39, 3, 122, 3, 0), (.goto (9), 3, 0, 0, 0)]),
  (55, [(.aload_n 0, 1, 0, 0, 0), (.iload_n 2, 1, 0, 0, 0), (.aload_n 1, 1, 0, 0, 0), (.invokestatic 42, 3, 123, 3, 0)]),
  (61, [(.iinc 2 (1), 3, 0, 0, 0), (.goto (-62), 3, 0, 0, 0)]),
  (67, [(.return_, 1, 0, 0, 0)])]
def bl118 : List (Nat × List CE) := [(0, [(.aload_n 0, 1, 0, 0, 0), (.getfield 9, 3, 1, 0, 0), (.getfield 15, 3, 2, 0, 0), (.astore_n 3, 1, 0, 0, 0), (.aload_n 0, 1, 0, 0, 0), (.getfield 21, 3, 1, 2, 0), (.invokestatic 74, 3, 7, 1, 0), (.istore 4, 2, 0, 0, 0), (.iload_n 1, 1, 0, 0, 0), (.iload 4, 2, 0, 0, 0), (.iadd, 1, 0, 0, 0), (.istore 5, 2, 0, 0, 0), (.iload 5, 2, 0, 0, 0), (.invokestatic 77, 3, 8, 1, 0), (.ifCond .eq (10), 3, 0, 0, 0), (.aload_n 3, 1, 0, 0, 0), (.iload 5, 2, 0, 0, 0), (.iaload, 1, 0, 0, 0), (.ifCond .eq (4), 3, 0, 0, 0)]),
  (38, [(.return_, 1, 0, 0, 0)]),
  (39, [(.iload_n 1, 1, 0, 0, 0), (.iload 5, 2, 0, 0, 0), (.aload_n 2, 1, 0, 0, 0), (.invokestatic 81, 3, 121, 3, 0), (.iload_n 1, 1, 0, 0, 0), (.bipush 8, 2, 0, 0, 0), (.idiv, 1, 0, 0, 0), (.aload_n 0, 1, 0, 0, 0), (.getfield 21, 3, 1, 2, 0), (.ifCond .ne (7), 3, 0, 0, 0), (.iconst 1, 1, 0, 0, 0), (.goto (5), 3, 0, 0, 0)]),
  (61, [(.bipush 6, 2, 0, 0, 0)]),
  (63, [(.if_icmp .ne (7), 3, 0, 0, 0), (.iconst 1, 1, 0, 0, 0), (.goto (4), 3, 0, 0, 0)]),
  (70, [(.iconst 0, 1, 0, 0, 0)]),
  (71, [(.istore 6, 2, 0, 0, 0), (.iload 6, 2, 0, 0, 0), (.ifCond .eq (23), 3, 0, 0, 0), (.aload_n 3, 1, 0, 0, 0), (.iload 5, 2, 0, 0, 0), (.iload 4, 2, 0, 0, 0), (.iadd, 1, 0, 0, 0), (.iaload, 1, 0, 0, 0), (.ifCond .ne (13), 3, 0, 0, 0), (.iload_n 1, 1, 0, 0, 0), (.iload 5, 2, 0, 0, 0), (.iload 4, 2, 0, 0, 0), (.iadd, 1, 0, 0, 0), (.aload_n 2, 1, 0, 0, 0), (.invokestatic 81, 3, 121, 3, 0)]),
  (98, [(.return_, 1, 0, 0, 0)])]
def bl119 : List (Nat × List CE) := [(0, [(.iload_n 1, 1, 0, 0, 0), (.bipush 8, 2, 0, 0, 0), (.idiv, 1, 0, 0, 0), (.ifCond .eq (23), 3, 0, 0, 0), (.iload_n 1, 1, 0, 0, 0), (.bipush 8, 2, 0, 0, 0), (.idiv, 1, 0, 0, 0), (.bipush 7, 2, 0, 0, 0), (.if_icmp .eq (14), 3, 0, 0, 0), (.aload_n 2, 1, 0, 0, 0), (.iload_n 0, 1, 0, 0, 0), (.iload_n 1, 1, 0, 0, 0), (.iconst 0, 1, 0, 0, 0), (.invokestatic 64, 3, 9, 3, 0), (.invokevirtual 68, 3, 59, 2, 0), (.return_, 1, 0, 0, 0)]),
  (27, [(.iconst 2, 1, 0, 0, 0), (.istore_n 3, 1, 0, 0, 0)]),
  (29, [(.iload_n 3, 1, 0, 0, 0), (.iconst 5, 1, 0, 0, 0), (.if_icmp .gt (19), 3, 0, 0, 0), (.aload_n 2, 1, 0, 0, 0), (.iload_n 0, 1, 0, 0, 0), (.iload_n 1, 1, 0, 0, 0), (.iload_n 3, 1, 0, 0, 0), (.invokestatic 64, 3, 9, 3, 0), (.invokevirtual 68, 3, 59, 2, 0), (.iinc 3 (1), 3, 0, 0, 0), (.goto (-18), 3, 0, 0, 0)]),
  (50, [(.return_, 1, 0, 0, 0)])]
def bl120 : List (Nat × List CE) := [(0, [(.iload_n 1, 1, 0, 0, 0), (.bipush 8, 2, 0, 0, 0), (.idiv, 1, 0, 0, 0), (.aload_n 0, 1, 0, 0, 0), (.getfield 21, 3, 1, 2, 0), (.ifCond .ne (7), 3, 0, 0, 0), (.iconst 1, 1, 0, 0, 0), (.goto (4), 3, 0, 0, 0)]),
  (15, [(.iconst (-1), 1, 0, 0, 0)]),
  (16, [(.iadd, 1, 0, 0, 0), (.istore_n 3, 1, 0, 0, 0), (.iload_n 1, 1, 0, 0, 0), (.bipush 8, 2, 0, 0, 0), (.irem, 1, 0, 0, 0), (.iconst 1, 1, 0, 0, 0), (.isub, 1, 0, 0, 0), (.istore 4, 2, 0, 0, 0)]),
  (26, [(.iload 4, 2, 0, 0, 0), (.iload_n 1, 1, 0, 0, 0), (.bipush 8, 2, 0, 0, 0), (.irem, 1, 0, 0, 0), (.iconst 1, 1, 0, 0, 0), (.iadd, 1, 0, 0, 0), (.if_icmp .gt (68), 3, 0, 0, 0), (.iload 4, 2, 0, 0, 0), (.iload_n 3, 1, 0, 0, 0), (.invokestatic 61, 3, 10, 2, 0), (.ifCond .ne (6), 3, 0, 0, 0), (.goto (50), 3, 0, 0, 0)]),
  (49, [(.bipush 8, 2, 0, 0, 0), (.iload_n 3, 1, 0, 0, 0), (.imul, 1, 0, 0, 0), (.iload 4, 2, 0, 0, 0), (.iadd, 1, 0, 0, 0), (.istore 5, 2, 0, 0, 0), (.iload 5, 2, 0, 0, 0), (.aload_n 0, 1, 0, 0, 0), (.getfield 85, 3, 1, 4, 0), (.if_icmp .eq (25), 3, 0, 0, 0), (.aload_n 0, 1, 0, 0, 0), (.getfield 9, 3, 1, 0, 0), (.getfield 15, 3, 2, 0, 0), (.iload 5, 2, 0, 0, 0), (.iaload, 1, 0, 0, 0), (.iconst 1, 1, 0, 0, 0), (.aload_n 0, 1, 0, 0, 0), (.getfield 21, 3, 1, 2, 0), (.isub, 1, 0, 0, 0), (.invokestatic 25, 3, 5, 2, 0), (.ifCond .eq (10), 3, 0, 0, 0)]),
  (89, [(.iload_n 1, 1, 0, 0, 0), (.iload 5, 2, 0, 0, 0), (.aload_n 2, 1, 0, 0, 0), (.invokestatic 81, 3, 121, 3, 0)]),
  (96, [(.iinc 4 (2), 3, 0, 0, 0), (.goto (-73), 3, 0, 0, 0)]),
  (102, [(.return_, 1, 0, 0, 0)])]
def bl121 : List (Nat × List CE) := [(0, [(.aload_n 0, 1, 0, 0, 0), (.getfield 9, 3, 1, 0, 0), (.getfield 15, 3, 2, 0, 0), (.iload_n 1, 1, 0, 0, 0), (.iaload, 1, 0, 0, 0), (.invokestatic 29, 3, 6, 1, 0), (.istore_n 3, 1, 0, 0, 0), (.iconst 0, 1, 0, 0, 0), (.istore 4, 2, 0, 0, 0)]),
  (16, [(.iload 4, 2, 0, 0, 0), (.bipush 8, 2, 0, 0, 0), (.if_icmp .ge (129), 3, 0, 0, 0), (.getstatic 45, 3, 26, 0, 0), (.iload 4, 2, 0, 0, 0), (.iaload, 1, 0, 0, 0), (.ifCond .eq (16), 3, 0, 0, 0), (.getstatic 48, 3, 27, 0, 0), (.iload 4, 2, 0, 0, 0), (.iaload, 1, 0, 0, 0), (.ifCond .eq (7), 3, 0, 0, 0), (.iconst 1, 1, 0, 0, 0), (.goto (4), 3, 0, 0, 0)]),
  (45, [(.iconst 0, 1, 0, 0, 0)]),
  (46, [(.istore 5, 2, 0, 0, 0), (.iload_n 3, 1, 0, 0, 0), (.iconst 2, 1, 0, 0, 0), (.if_icmp .ne (25), 3, 0, 0, 0), (.aload_n 0, 1, 0, 0, 0), (.iload_n 1, 1, 0, 0, 0), (.getstatic 51, 3, 28, 0, 0), (.iload 4, 2, 0, 0, 0), (.iaload, 1, 0, 0, 0), (.getstatic 54, 3, 29, 0, 0), (.iload 4, 2, 0, 0, 0), (.iaload, 1, 0, 0, 0), (.iconst 1, 1, 0, 0, 0), (.aload_n 2, 1, 0, 0, 0), (.invokestatic 57, 3, 124, 6, 0), (.goto (71), 3, 0, 0, 0)]),
  (75, [(.iload_n 3, 1, 0, 0, 0), (.bipush 6, 2, 0, 0, 0), (.if_icmp .ne (25), 3, 0, 0, 0), (.aload_n 0, 1, 0, 0, 0), (.iload_n 1, 1, 0, 0, 0), (.getstatic 45, 3, 26, 0, 0), (.iload 4, 2, 0, 0, 0), (.iaload, 1, 0, 0, 0), (.getstatic 48, 3, 27, 0, 0), (.iload 4, 2, 0, 0, 0), (.iaload, 1, 0, 0, 0), (.iconst 1, 1, 0, 0, 0), (.aload_n 2, 1, 0, 0, 0), (.invokestatic 57, 3, 124, 6, 0), (.goto (43), 3, 0, 0, 0)]),
  (103, [(.iload_n 3, 1, 0, 0, 0), (.iconst 5, 1, 0, 0, 0), (.if_icmp .eq (18), 3, 0, 0, 0), (.iload 5, 2, 0, 0, 0), (.iload_n 3, 1, 0, 0, 0), (.iconst 3, 1, 0, 0, 0), (.if_icmp .ne (7), 3, 0, 0, 0), (.iconst 1, 1, 0, 0, 0), (.goto (4), 3, 0, 0, 0)]),
  (119, [(.iconst 0, 1, 0, 0, 0)]),
  (120, [(.if_icmp .ne (23), 3, 0, 0, 0)]),
  (123, [(.aload_n 0, 1, 0, 0, 0), (.iload_n 1, 1, 0, 0, 0), (.getstatic 45, 3, 26, 0, 0), (.iload 4, 2, 0, 0, 0), (.iaload, 1, 0, 0, 0), (.getstatic 48, 3, 27, 0, 0), (.iload 4, 2, 0, 0, 0), (.iaload, 1, 0, 0, 0), (.bipush 7, 2, 0, 0, 0), (.aload_n 2, 1, 0, 0, 0), (.invokestatic 57, 3, 124, 6, 0)]),
  (143, [(.iinc 4 (1), 3, 0, 0, 0), (.goto (-130), 3, 0, 0, 0)]),
  (149, [(.return_, 1, 0, 0, 0)])]
def bl122 : List (Nat × List CE) := [(0, [(.iload_n 1, 1, 0, 0, 0), (.bipush 8, 2, 0, 0, 0), (.irem, 1, 0, 0, 0), (.istore 6, 2, 0, 0, 0), (.iload_n 1, 1, 0, 0, 0), (.bipush 8, 2, 0, 0, 0), (.idiv, 1, 0, 0, 0), (.istore 7, 2, 0, 0, 0), (.iconst 1, 1, 0, 0, 0), (.istore 8, 2, 0, 0, 0)]),
  (15, [(.iload 8, 2, 0, 0, 0), (.iload 4, 2, 0, 0, 0), (.if_icmp .gt (86), 3, 0, 0, 0), (.iload 6, 2, 0, 0, 0), (.iload_n 2, 1, 0, 0, 0), (.iadd, 1, 0, 0, 0), (.istore 6, 2, 0, 0, 0), (.iload 7, 2, 0, 0, 0), (.iload_n 3, 1, 0, 0, 0), (.iadd, 1, 0, 0, 0), (.istore 7, 2, 0, 0, 0), (.iload 6, 2, 0, 0, 0), (.iload 7, 2, 0, 0, 0), (.invokestatic 61, 3, 10, 2, 0), (.ifCond .ne (4), 3, 0, 0, 0), (.return_, 1, 0, 0, 0)]),
  (45, [(.aload_n 0, 1, 0, 0, 0), (.getfield 9, 3, 1, 0, 0), (.getfield 15, 3, 2, 0, 0), (.bipush 8, 2, 0, 0, 0), (.iload 7, 2, 0, 0, 0), (.imul, 1, 0, 0, 0), (.iload 6, 2, 0, 0, 0), (.iadd, 1, 0, 0, 0), (.iaload, 1, 0, 0, 0), (.istore 9, 2, 0, 0, 0), (.iload 9, 2, 0, 0, 0), (.aload_n 0, 1, 0, 0, 0), (.getfield 21, 3, 1, 2, 0), (.invokestatic 25, 3, 5, 2, 0), (.ifCond .ne (21), 3, 0, 0, 0), (.aload 5, 2, 0, 0, 0), (.iload_n 1, 1, 0, 0, 0), (.bipush 8, 2, 0, 0, 0), (.iload 7, 2, 0, 0, 0), (.imul, 1, 0, 0, 0), (.iload 6, 2, 0, 0, 0), (.iadd, 1, 0, 0, 0), (.iconst 0, 1, 0, 0, 0), (.invokestatic 64, 3, 9, 3, 0), (.invokevirtual 68, 3, 59, 2, 0)]),
  (93, [(.iload 9, 2, 0, 0, 0), (.ifCond .eq (4), 3, 0, 0, 0), (.return_, 1, 0, 0, 0)]),
  (99, [(.iinc 8 (1), 3, 0, 0, 0), (.goto (-87), 3, 0, 0, 0)]),
  (105, [(.return_, 1, 0, 0, 0)])]
def bl123 : List (Nat × List CE) := [(0, [(.aload_n 0, 1, 0, 0, 0), (.getfield 9, 3, 1, 0, 0), (.astore_n 2, 1, 0, 0, 0), (.iconst 1, 1, 0, 0, 0), (.aload_n 0, 1, 0, 0, 0), (.getfield 21, 3, 1, 2, 0), (.isub, 1, 0, 0, 0), (.istore_n 3, 1, 0, 0, 0), (.getstatic 88, 3, 24, 0, 0), (.iconst 2, 1, 0, 0, 0), (.aload_n 0, 1, 0, 0, 0), (.getfield 21, 3, 1, 2, 0), (.imul, 1, 0, 0, 0), (.iaload, 1, 0, 0, 0), (.istore 4, 2, 0, 0, 0), (.aload_n 0, 1, 0, 0, 0), (.getfield 91, 3, 1, 3, 0), (.iconst 2, 1, 0, 0, 0), (.aload_n 0, 1, 0, 0, 0), (.getfield 21, 3, 1, 2, 0), (.imul, 1, 0, 0, 0), (.ishr, 1, 0, 0, 0), (.istore 5, 2, 0, 0, 0), (.iload 5, 2, 0, 0, 0), (.iconst 1, 1, 0, 0, 0), (.iand, 1, 0, 0, 0), (.ifCond .eq (22), 3, 0, 0, 0), (.aload_n 2, 1, 0, 0, 0), (.iload 4, 2, 0, 0, 0), (.iconst 1, 1, 0, 0, 0), (.iadd, 1, 0, 0, 0), (.iload 4, 2, 0, 0, 0), (.iconst 2, 1, 0, 0, 0), (.iadd, 1, 0, 0, 0), (.invokestatic 94, 3, 126, 3, 0), (.ifCond .eq (7), 3, 0, 0, 0), (.iconst 1, 1, 0, 0, 0), (.goto (4), 3, 0, 0, 0)]),
  (63, [(.iconst 0, 1, 0, 0, 0)]),
  (64, [(.istore 6, 2, 0, 0, 0), (.iload 5, 2, 0, 0, 0), (.iconst 2, 1, 0, 0, 0), (.iand, 1, 0, 0, 0), (.ifCond .eq (22), 3, 0, 0, 0), (.aload_n 2, 1, 0, 0, 0), (.iload 4, 2, 0, 0, 0), (.iconst 3, 1, 0, 0, 0), (.isub, 1, 0, 0, 0), (.iload 4, 2, 0, 0, 0), (.iconst 1, 1, 0, 0, 0), (.isub, 1, 0, 0, 0), (.invokestatic 94, 3, 126, 3, 0), (.ifCond .eq (7), 3, 0, 0, 0), (.iconst 1, 1, 0, 0, 0), (.goto (4), 3, 0, 0, 0)]),
  (92, [(.iconst 0, 1, 0, 0, 0)]),
  (93, [(.istore 7, 2, 0, 0, 0), (.iload 6, 2, 0, 0, 0), (.ifCond .ne (8), 3, 0, 0, 0), (.iload 7, 2, 0, 0, 0), (.ifCond .eq (13), 3, 0, 0, 0)]),
  (105, [(.aload_n 2, 1, 0, 0, 0), (.iload 4, 2, 0, 0, 0), (.iload_n 3, 1, 0, 0, 0), (.invokevirtual 98, 3, 53, 3, 0), (.ifCond .le (4), 3, 0, 0, 0)]),
  (115, [(.return_, 1, 0, 0, 0)]),
  (116, [(.iload 6, 2, 0, 0, 0), (.ifCond .eq (29), 3, 0, 0, 0), (.aload_n 2, 1, 0, 0, 0), (.iload 4, 2, 0, 0, 0), (.iconst 1, 1, 0, 0, 0), (.iadd, 1, 0, 0, 0), (.iload_n 3, 1, 0, 0, 0), (.invokevirtual 98, 3, 53, 3, 0), (.ifCond .ne (17), 3, 0, 0, 0), (.aload_n 1, 1, 0, 0, 0), (.iload 4, 2, 0, 0, 0), (.iload 4, 2, 0, 0, 0), (.iconst 2, 1, 0, 0, 0), (.iadd, 1, 0, 0, 0), (.iconst 0, 1, 0, 0, 0), (.invokestatic 64, 3, 9, 3, 0), (.invokevirtual 68, 3, 59, 2, 0)]),
  (147, [(.iload 7, 2, 0, 0, 0), (.ifCond .eq (29), 3, 0, 0, 0), (.aload_n 2, 1, 0, 0, 0), (.iload 4, 2, 0, 0, 0), (.iconst 1, 1, 0, 0, 0), (.isub, 1, 0, 0, 0), (.iload_n 3, 1, 0, 0, 0), (.invokevirtual 98, 3, 53, 3, 0), (.ifCond .ne (17), 3, 0, 0, 0), (.aload_n 1, 1, 0, 0, 0), (.iload 4, 2, 0, 0, 0), (.iload 4, 2, 0, 0, 0), (.iconst 2, 1, 0, 0, 0), (.isub, 1, 0, 0, 0), (.iconst 0, 1, 0, 0, 0), (.invokestatic 64, 3, 9, 3, 0), (.invokevirtual 68, 3, 59, 2, 0)]),
  (178, [(.return_, 1, 0, 0, 0)])]
def bl124 : List (Nat × List CE) := [(0, [(.iload_n 1, 1, 0, 0, 0), (.istore_n 3, 1, 0, 0, 0)]),
  (2, [(.iload_n 3, 1, 0, 0, 0), (.iload_n 2, 1, 0, 0, 0), (.if_icmp .gt (20), 3, 0, 0, 0), (.aload_n 0, 1, 0, 0, 0), (.getfield 15, 3, 2, 0, 0), (.iload_n 3, 1, 0, 0, 0), (.iaload, 1, 0, 0, 0), (.ifCond .eq (5), 3, 0, 0, 0), (.iconst 0, 1, 0, 0, 0), (.ireturn, 1, 0, 0, 0)]),
  (18, [(.iinc 3 (1), 3, 0, 0, 0), (.goto (-19), 3, 0, 0, 0)]),
  (24, [(.iconst 1, 1, 0, 0, 0), (.ireturn, 1, 0, 0, 0)])]
def bl125 : List (Nat × List CE) := [(0, [(.aload_n 0, 1, 0, 0, 0), (.iconst 0, 1, 0, 0, 0), (.invokestatic 9, 3, 128, 2, 0), (.ifCond .eq (11), 3, 0, 0, 0), (.aload_n 0, 1, 0, 0, 0), (.iconst 1, 1, 0, 0, 0), (.invokestatic 9, 3, 128, 2, 0), (.ifCond .ne (6), 3, 0, 0, 0)]),
  (16, [(.bipush (-2), 2, 0, 0, 0), (.ireturn, 1, 0, 0, 0)]),
  (19, [(.aload_n 0, 1, 0, 0, 0), (.invokestatic 15, 3, 129, 1, 0), (.ifCond .eq (6), 3, 0, 0, 0), (.bipush (-3), 2, 0, 0, 0), (.ireturn, 1, 0, 0, 0)]),
  (29, [(.aload_n 0, 1, 0, 0, 0), (.aload_n 0, 1, 0, 0, 0), (.iconst 1, 1, 0, 0, 0), (.iload_n 1, 1, 0, 0, 0), (.isub, 1, 0, 0, 0), (.invokevirtual 19, 3, 52, 2, 0), (.iload_n 1, 1, 0, 0, 0), (.invokevirtual 25, 3, 53, 3, 0), (.ifCond .le (6), 3, 0, 0, 0), (.bipush (-4), 2, 0, 0, 0), (.ireturn, 1, 0, 0, 0)]),
  (47, [(.aload_n 0, 1, 0, 0, 0), (.iload_n 2, 1, 0, 0, 0), (.invokestatic 29, 3, 130, 2, 0), (.ifCond .ne (6), 3, 0, 0, 0), (.bipush (-5), 2, 0, 0, 0), (.ireturn, 1, 0, 0, 0)]),
  (58, [(.iload_n 3, 1, 0, 0, 0), (.iconst (-1), 1, 0, 0, 0), (.if_icmp .eq (15), 3, 0, 0, 0), (.aload_n 0, 1, 0, 0, 0), (.iload_n 1, 1, 0, 0, 0), (.iload_n 3, 1, 0, 0, 0), (.invokestatic 32, 3, 131, 3, 0), (.ifCond .ne (6), 3, 0, 0, 0), (.bipush (-6), 2, 0, 0, 0), (.ireturn, 1, 0, 0, 0)]),
  (75, [(.iconst 0, 1, 0, 0, 0), (.ireturn, 1, 0, 0, 0)])]
def bl126 : List (Nat × List CE) := [(0, [(.iconst 0, 1, 0, 0, 0), (.istore_n 2, 1, 0, 0, 0), (.iconst 0, 1, 0, 0, 0), (.istore_n 3, 1, 0, 0, 0), (.iconst 0, 1, 0, 0, 0), (.istore 4, 2, 0, 0, 0)]),
  (7, [(.iload 4, 2, 0, 0, 0), (.bipush 64, 2, 0, 0, 0), (.if_icmp .ge (48), 3, 0, 0, 0), (.aload_n 0, 1, 0, 0, 0), (.getfield 36, 3, 2, 0, 0), (.iload 4, 2, 0, 0, 0), (.iaload, 1, 0, 0, 0), (.istore 5, 2, 0, 0, 0), (.iload 5, 2, 0, 0, 0), (.iload_n 1, 1, 0, 0, 0), (.invokestatic 40, 3, 5, 2, 0), (.ifCond .eq (24), 3, 0, 0, 0), (.iinc 3 (1), 3, 0, 0, 0), (.iload_n 2, 1, 0, 0, 0), (.iload 5, 2, 0, 0, 0), (.invokestatic 44, 3, 6, 1, 0), (.bipush 6, 2, 0, 0, 0), (.if_icmp .ne (7), 3, 0, 0, 0), (.iconst 1, 1, 0, 0, 0), (.goto (4), 3, 0, 0, 0)]),
  (50, [(.iconst 0, 1, 0, 0, 0)]),
  (51, [(.iadd, 1, 0, 0, 0), (.istore_n 2, 1, 0, 0, 0)]),
  (53, [(.iinc 4 (1), 3, 0, 0, 0), (.goto (-49), 3, 0, 0, 0)]),
  (59, [(.iload_n 2, 1, 0, 0, 0), (.iconst 1, 1, 0, 0, 0), (.if_icmp .ne (13), 3, 0, 0, 0), (.iload_n 3, 1, 0, 0, 0), (.bipush 16, 2, 0, 0, 0), (.if_icmp .gt (7), 3, 0, 0, 0), (.iconst 1, 1, 0, 0, 0), (.goto (4), 3, 0, 0, 0)]),
  (74, [(.iconst 0, 1, 0, 0, 0)]),
  (75, [(.ireturn, 1, 0, 0, 0)])]
def bl127 : List (Nat × List CE) := [(0, [(.iconst 0, 1, 0, 0, 0), (.istore_n 1, 1, 0, 0, 0)]),
  (2, [(.iload_n 1, 1, 0, 0, 0), (.bipush 8, 2, 0, 0, 0), (.if_icmp .ge (40), 3, 0, 0, 0), (.aload_n 0, 1, 0, 0, 0), (.getfield 36, 3, 2, 0, 0), (.iload_n 1, 1, 0, 0, 0), (.iaload, 1, 0, 0, 0), (.invokestatic 44, 3, 6, 1, 0), (.iconst 1, 1, 0, 0, 0), (.if_icmp .eq (19), 3, 0, 0, 0), (.aload_n 0, 1, 0, 0, 0), (.getfield 36, 3, 2, 0, 0), (.bipush 56, 2, 0, 0, 0), (.iload_n 1, 1, 0, 0, 0), (.iadd, 1, 0, 0, 0), (.iaload, 1, 0, 0, 0), (.invokestatic 44, 3, 6, 1, 0), (.iconst 1, 1, 0, 0, 0), (.if_icmp .ne (5), 3, 0, 0, 0)]),
  (37, [(.iconst 1, 1, 0, 0, 0), (.ireturn, 1, 0, 0, 0)]),
  (39, [(.iinc 1 (1), 3, 0, 0, 0), (.goto (-40), 3, 0, 0, 0)]),
  (45, [(.iconst 0, 1, 0, 0, 0), (.ireturn, 1, 0, 0, 0)])]
def bl128 : List (Nat × List CE) := [(0, [(.iconst 0, 1, 0, 0, 0), (.istore_n 2, 1, 0, 0, 0)]),
  (2, [(.iload_n 2, 1, 0, 0, 0), (.iconst 4, 1, 0, 0, 0), (.if_icmp .ge (82), 3, 0, 0, 0), (.aload_n 0, 1, 0, 0, 0), (.getfield 36, 3, 2, 0, 0), (.getstatic 47, 3, 24, 0, 0), (.iload_n 2, 1, 0, 0, 0), (.iaload, 1, 0, 0, 0), (.iaload, 1, 0, 0, 0), (.bipush 6, 2, 0, 0, 0), (.iload_n 2, 1, 0, 0, 0), (.iconst 2, 1, 0, 0, 0), (.idiv, 1, 0, 0, 0), (.invokestatic 50, 3, 2, 2, 0), (.if_icmp .ne (7), 3, 0, 0, 0), (.iconst 1, 1, 0, 0, 0), (.goto (4), 3, 0, 0, 0)]),
  (32, [(.iconst 0, 1, 0, 0, 0)]),
  (33, [(.istore_n 3, 1, 0, 0, 0), (.aload_n 0, 1, 0, 0, 0), (.getfield 36, 3, 2, 0, 0), (.getstatic 53, 3, 25, 0, 0), (.iload_n 2, 1, 0, 0, 0), (.iaload, 1, 0, 0, 0), (.iaload, 1, 0, 0, 0), (.iconst 4, 1, 0, 0, 0), (.iload_n 2, 1, 0, 0, 0), (.iconst 2, 1, 0, 0, 0), (.idiv, 1, 0, 0, 0), (.invokestatic 50, 3, 2, 2, 0), (.if_icmp .ne (7), 3, 0, 0, 0), (.iconst 1, 1, 0, 0, 0), (.goto (4), 3, 0, 0, 0)]),
  (58, [(.iconst 0, 1, 0, 0, 0)]),
  (59, [(.istore 4, 2, 0, 0, 0), (.iload_n 1, 1, 0, 0, 0), (.iconst 1, 1, 0, 0, 0), (.iload_n 2, 1, 0, 0, 0), (.ishl, 1, 0, 0, 0), (.iand, 1, 0, 0, 0), (.ifCond .eq (14), 3, 0, 0, 0), (.iload_n 3, 1, 0, 0, 0), (.ifCond .eq (8), 3, 0, 0, 0), (.iload 4, 2, 0, 0, 0), (.ifCond .ne (5), 3, 0, 0, 0)]),
  (78, [(.iconst 0, 1, 0, 0, 0), (.ireturn, 1, 0, 0, 0)]),
  (80, [(.iinc 2 (1), 3, 0, 0, 0), (.goto (-81), 3, 0, 0, 0)]),
  (86, [(.iconst 1, 1, 0, 0, 0), (.ireturn, 1, 0, 0, 0)])]
def bl129 : List (Nat × List CE) := [(0, [(.iload_n 2, 1, 0, 0, 0), (.bipush 8, 2, 0, 0, 0), (.idiv, 1, 0, 0, 0), (.iload_n 1, 1, 0, 0, 0), (.ifCond .ne (7), 3, 0, 0, 0), (.iconst 5, 1, 0, 0, 0), (.goto (4), 3, 0, 0, 0)]),
  (12, [(.iconst 2, 1, 0, 0, 0)]),
  (13, [(.if_icmp .eq (5), 3, 0, 0, 0), (.iconst 0, 1, 0, 0, 0), (.ireturn, 1, 0, 0, 0)]),
  (18, [(.iload_n 1, 1, 0, 0, 0), (.invokestatic 56, 3, 7, 1, 0), (.istore_n 3, 1, 0, 0, 0), (.aload_n 0, 1, 0, 0, 0), (.getfield 36, 3, 2, 0, 0), (.iload_n 2, 1, 0, 0, 0), (.iaload, 1, 0, 0, 0), (.ifCond .ne (18), 3, 0, 0, 0), (.aload_n 0, 1, 0, 0, 0), (.getfield 36, 3, 2, 0, 0), (.iload_n 2, 1, 0, 0, 0), (.iload_n 3, 1, 0, 0, 0), (.iadd, 1, 0, 0, 0), (.iaload, 1, 0, 0, 0), (.ifCond .ne (7), 3, 0, 0, 0), (.iconst 1, 1, 0, 0, 0), (.goto (4), 3, 0, 0, 0)]),
  (47, [(.iconst 0, 1, 0, 0, 0)]),
  (48, [(.istore 4, 2, 0, 0, 0), (.iload 4, 2, 0, 0, 0), (.ifCond .eq (25), 3, 0, 0, 0), (.aload_n 0, 1, 0, 0, 0), (.getfield 36, 3, 2, 0, 0), (.iload_n 2, 1, 0, 0, 0), (.iload_n 3, 1, 0, 0, 0), (.isub, 1, 0, 0, 0), (.iaload, 1, 0, 0, 0), (.iconst 1, 1, 0, 0, 0), (.iconst 1, 1, 0, 0, 0), (.iload_n 1, 1, 0, 0, 0), (.isub, 1, 0, 0, 0), (.invokestatic 50, 3, 2, 2, 0), (.if_icmp .ne (7), 3, 0, 0, 0), (.iconst 1, 1, 0, 0, 0), (.goto (4), 3, 0, 0, 0)]),
  (77, [(.iconst 0, 1, 0, 0, 0)]),
  (78, [(.ireturn, 1, 0, 0, 0)])]
def bl130 : List (Nat × List CE) := [(0, [(.iconst 0, 1, 0, 0, 0), (.istore_n 2, 1, 0, 0, 0), (.aload_n 0, 1, 0, 0, 0), (.arraylength, 1, 0, 0, 0), (.istore_n 3, 1, 0, 0, 0)]),
  (5, [(.iload_n 2, 1, 0, 0, 0), (.iload_n 3, 1, 0, 0, 0), (.if_icmp .ge (13), 3, 0, 0, 0), (.aload_n 0, 1, 0, 0, 0), (.iload_n 2, 1, 0, 0, 0), (.iload_n 1, 1, 0, 0, 0), (.iastore, 1, 0, 0, 0), (.iinc 2 (1), 3, 0, 0, 0), (.goto (-12), 3, 0, 0, 0)]),
  (20, [(.return_, 1, 0, 0, 0)])]
def bl131 : List (Nat × List CE) := [(16, [(.iconst 0, 1, 0, 0, 0), (.istore_n 3, 1, 0, 0, 0)]),
  (18, [(.iload_n 3, 1, 0, 0, 0), (.aload_n 0, 1, 0, 0, 0), (.arraylength, 1, 0, 0, 0), (.iconst 4, 1, 0, 0, 0), (.isub, 1, 0, 0, 0), (.if_icmp .gt (480), 3, 0, 0, 0), (.aload_n 0, 1, 0, 0, 0), (.iload_n 3, 1, 0, 0, 0), (.iaload, 1, 0, 0, 0), (.bipush 31, 2, 0, 0, 0), (.iand, 1, 0, 0, 0), (.tableswitch 465 0 18 #[92, 103, 114, 147, 190, 233, 246, 269, 282, 295, 308, 321, 344, 377, 390, 403, 416, 429, 442], 92, 0, 0, 0)]),
  (124, [(.aload_n 1, 1, 0, 0, 0), (.invokevirtual 13, 3, 15, 1, 0), (.aload_n 2, 1, 0, 0, 0), (.invokevirtual 16, 3, 70, 1, 0), (.goto (365), 3, 0, 0, 0)]),
  (135, [(.aload_n 1, 1, 0, 0, 0), (.invokevirtual 17, 3, 16, 1, 0), (.aload_n 2, 1, 0, 0, 0), (.invokevirtual 20, 3, 88, 1, 0), (.goto (354), 3, 0, 0, 0)]),
  (146, [(.aload_n 1, 1, 0, 0, 0), (.aload_n 0, 1, 0, 0, 0), (.iload_n 3, 1, 0, 0, 0), (.iconst 1, 1, 0, 0, 0), (.iadd, 1, 0, 0, 0), (.iaload, 1, 0, 0, 0), (.aload_n 0, 1, 0, 0, 0), (.iload_n 3, 1, 0, 0, 0), (.iconst 2, 1, 0, 0, 0), (.iadd, 1, 0, 0, 0), (.iaload, 1, 0, 0, 0), (.invokevirtual 21, 3, 17, 3, 0), (.aload_n 2, 1, 0, 0, 0), (.aload_n 0, 1, 0, 0, 0), (.iload_n 3, 1, 0, 0, 0), (.iconst 1, 1, 0, 0, 0), (.iadd, 1, 0, 0, 0), (.iaload, 1, 0, 0, 0), (.aload_n 0, 1, 0, 0, 0), (.iload_n 3, 1, 0, 0, 0), (.iconst 2, 1, 0, 0, 0), (.iadd, 1, 0, 0, 0), (.iaload, 1, 0, 0, 0), (.invokevirtual 25, 3, 89, 3, 0), (.if_icmp .eq (323), 3, 0, 0, 0), (.iconst 0, 1, 0, 0, 0), (.ireturn, 1, 0, 0, 0)]),
  (179, [(.aload_n 1, 1, 0, 0, 0), (.aload_n 0, 1, 0, 0, 0), (.iload_n 3, 1, 0, 0, 0), (.iconst 1, 1, 0, 0, 0), (.iadd, 1, 0, 0, 0), (.iaload, 1, 0, 0, 0), (.aload_n 0, 1, 0, 0, 0), (.iload_n 3, 1, 0, 0, 0), (.iconst 2, 1, 0, 0, 0), (.iadd, 1, 0, 0, 0), (.iaload, 1, 0, 0, 0), (.aload_n 0, 1, 0, 0, 0), (.iload_n 3, 1, 0, 0, 0), (.iconst 3, 1, 0, 0, 0), (.iadd, 1, 0, 0, 0), (.iaload, 1, 0, 0, 0), (.invokevirtual 26, 3, 19, 4, 0), (.aload_n 2, 1, 0, 0, 0), (.aload_n 0, 1, 0, 0, 0), (.iload_n 3, 1, 0, 0, 0), (.iconst 1, 1, 0, 0, 0), (.iadd, 1, 0, 0, 0), (.iaload, 1, 0, 0, 0), (.aload_n 0, 1, 0, 0, 0), (.iload_n 3, 1, 0, 0, 0), (.iconst 2, 1, 0, 0, 0), (.iadd, 1, 0, 0, 0), (.iaload, 1, 0, 0, 0), (.aload_n 0, 1, 0, 0, 0), (.iload_n 3, 1, 0, 0, 0), (.iconst 3, 1, 0, 0, 0), (.iadd, 1, 0, 0, 0), (.iaload, 1, 0, 0, 0), (.invokevirtual 30, 3, 90, 4, 0), (.if_icmp .eq (280), 3, 0, 0, 0), (.iconst 0, 1, 0, 0, 0), (.ireturn, 1, 0, 0, 0)]),
  (222, [(.aload_n 1, 1, 0, 0, 0), (.aload_n 0, 1, 0, 0, 0), (.iload_n 3, 1, 0, 0, 0), (.iconst 1, 1, 0, 0, 0), (.iadd, 1, 0, 0, 0), (.iaload, 1, 0, 0, 0), (.aload_n 0, 1, 0, 0, 0), (.iload_n 3, 1, 0, 0, 0), (.iconst 2, 1, 0, 0, 0), (.iadd, 1, 0, 0, 0), (.iaload, 1, 0, 0, 0), (.aload_n 0, 1, 0, 0, 0), (.iload_n 3, 1, 0, 0, 0), (.iconst 3, 1, 0, 0, 0), (.iadd, 1, 0, 0, 0), (.iaload, 1, 0, 0, 0), (.invokevirtual 31, 3, 21, 4, 0), (.aload_n 2, 1, 0, 0, 0), (.aload_n 0, 1, 0, 0, 0), (.iload_n 3, 1, 0, 0, 0), (.iconst 1, 1, 0, 0, 0), (.iadd, 1, 0, 0, 0), (.iaload, 1, 0, 0, 0), (.aload_n 0, 1, 0, 0, 0), (.iload_n 3, 1, 0, 0, 0), (.iconst 2, 1, 0, 0, 0), (.iadd, 1, 0, 0, 0), (.iaload, 1, 0, 0, 0), (.aload_n 0, 1, 0, 0, 0), (.iload_n 3, 1, 0, 0, 0), (.iconst 3, 1, 0, 0, 0), (.iadd, 1, 0, 0, 0), (.iaload, 1, 0, 0, 0), (.invokevirtual 34, 3, 95, 4, 0), (.if_icmp .eq (237), 3, 0, 0, 0), (.iconst 0, 1, 0, 0, 0), (.ireturn, 1, 0, 0, 0)]),
  (265, [(.aload_n 1, 1, 0, 0, 0), (.invokevirtual 35, 3, 23, 1, 0), (.aload_n 2, 1, 0, 0, 0), (.invokevirtual 39, 3, 101, 1, 0), (.if_icmp .eq (224), 3, 0, 0, 0), (.iconst 0, 1, 0, 0, 0), (.ireturn, 1, 0, 0, 0)]),
  (278, [(.aload_n 1, 1, 0, 0, 0), (.aload_n 0, 1, 0, 0, 0), (.iload_n 3, 1, 0, 0, 0), (.iconst 1, 1, 0, 0, 0), (.iadd, 1, 0, 0, 0), (.iaload, 1, 0, 0, 0), (.invokevirtual 40, 3, 24, 2, 0), (.aload_n 2, 1, 0, 0, 0), (.aload_n 0, 1, 0, 0, 0), (.iload_n 3, 1, 0, 0, 0), (.iconst 1, 1, 0, 0, 0), (.iadd, 1, 0, 0, 0), (.iaload, 1, 0, 0, 0), (.invokevirtual 44, 3, 103, 2, 0), (.if_icmp .eq (201), 3, 0, 0, 0), (.iconst 0, 1, 0, 0, 0), (.ireturn, 1, 0, 0, 0)]),
  (301, [(.aload_n 1, 1, 0, 0, 0), (.invokevirtual 45, 3, 25, 1, 0), (.aload_n 2, 1, 0, 0, 0), (.invokevirtual 49, 3, 104, 1, 0), (.if_icmp .eq (188), 3, 0, 0, 0), (.iconst 0, 1, 0, 0, 0), (.ireturn, 1, 0, 0, 0)]),
  (314, [(.aload_n 1, 1, 0, 0, 0), (.invokevirtual 50, 3, 26, 1, 0), (.aload_n 2, 1, 0, 0, 0), (.invokevirtual 53, 3, 105, 1, 0), (.if_icmp .eq (175), 3, 0, 0, 0), (.iconst 0, 1, 0, 0, 0), (.ireturn, 1, 0, 0, 0)]),
  (327, [(.aload_n 1, 1, 0, 0, 0), (.invokevirtual 54, 3, 27, 1, 0), (.aload_n 2, 1, 0, 0, 0), (.invokevirtual 57, 3, 106, 1, 0), (.if_icmp .eq (162), 3, 0, 0, 0), (.iconst 0, 1, 0, 0, 0), (.ireturn, 1, 0, 0, 0)]),
  (340, [(.aload_n 1, 1, 0, 0, 0), (.invokevirtual 58, 3, 28, 1, 0), (.aload_n 2, 1, 0, 0, 0), (.invokevirtual 61, 3, 107, 1, 0), (.if_icmp .eq (149), 3, 0, 0, 0), (.iconst 0, 1, 0, 0, 0), (.ireturn, 1, 0, 0, 0)]),
  (353, [(.aload_n 1, 1, 0, 0, 0), (.aload_n 0, 1, 0, 0, 0), (.iload_n 3, 1, 0, 0, 0), (.iconst 1, 1, 0, 0, 0), (.iadd, 1, 0, 0, 0), (.iaload, 1, 0, 0, 0), (.invokevirtual 62, 3, 29, 2, 0), (.aload_n 2, 1, 0, 0, 0), (.aload_n 0, 1, 0, 0, 0), (.iload_n 3, 1, 0, 0, 0), (.iconst 1, 1, 0, 0, 0), (.iadd, 1, 0, 0, 0), (.iaload, 1, 0, 0, 0), (.invokevirtual 65, 3, 108, 2, 0), (.if_icmp .eq (126), 3, 0, 0, 0), (.iconst 0, 1, 0, 0, 0), (.ireturn, 1, 0, 0, 0)]),
  (376, [(.aload_n 1, 1, 0, 0, 0), (.aload_n 0, 1, 0, 0, 0), (.iload_n 3, 1, 0, 0, 0), (.iconst 1, 1, 0, 0, 0), (.iadd, 1, 0, 0, 0), (.iaload, 1, 0, 0, 0), (.aload_n 0, 1, 0, 0, 0), (.iload_n 3, 1, 0, 0, 0), (.iconst 2, 1, 0, 0, 0), (.iadd, 1, 0, 0, 0), (.iaload, 1, 0, 0, 0), (.invokevirtual 66, 3, 30, 3, 0), (.aload_n 2, 1, 0, 0, 0), (.aload_n 0, 1, 0, 0, 0), (.iload_n 3, 1, 0, 0, 0), (.iconst 1, 1, 0, 0, 0), (.iadd, 1, 0, 0, 0), (.iaload, 1, 0, 0, 0), (.aload_n 0, 1, 0, 0, 0), (.iload_n 3, 1, 0, 0, 0), (.iconst 2, 1, 0, 0, 0), (.iadd, 1, 0, 0, 0), (.iaload, 1, 0, 0, 0), (.invokevirtual 70, 3, 109, 3, 0), (.if_icmp .eq (93), 3, 0, 0, 0), (.iconst 0, 1, 0, 0, 0), (.ireturn, 1, 0, 0, 0)]),
  (409, [(.aload_n 1, 1, 0, 0, 0), (.invokevirtual 71, 3, 31, 1, 0), (.aload_n 2, 1, 0, 0, 0), (.invokevirtual 74, 3, 110, 1, 0), (.if_icmp .eq (80), 3, 0, 0, 0), (.iconst 0, 1, 0, 0, 0), (.ireturn, 1, 0, 0, 0)]),
  (422, [(.aload_n 1, 1, 0, 0, 0), (.invokevirtual 75, 3, 22, 1, 0), (.aload_n 2, 1, 0, 0, 0), (.invokevirtual 78, 3, 96, 1, 0), (.if_icmp .eq (67), 3, 0, 0, 0), (.iconst 0, 1, 0, 0, 0), (.ireturn, 1, 0, 0, 0)]),
  (435, [(.aload_n 1, 1, 0, 0, 0), (.invokevirtual 79, 3, 32, 1, 0), (.aload_n 2, 1, 0, 0, 0), (.invokevirtual 82, 3, 111, 1, 0), (.if_icmp .eq (54), 3, 0, 0, 0), (.iconst 0, 1, 0, 0, 0), (.ireturn, 1, 0, 0, 0)]),
  (448, [(.aload_n 1, 1, 0, 0, 0), (.invokevirtual 83, 3, 33, 1, 0), (.aload_n 2, 1, 0, 0, 0), (.invokevirtual 86, 3, 112, 1, 0), (.if_icmp .eq (41), 3, 0, 0, 0), (.iconst 0, 1, 0, 0, 0), (.ireturn, 1, 0, 0, 0)]),
  (461, [(.aload_n 1, 1, 0, 0, 0), (.invokevirtual 87, 3, 34, 1, 0), (.aload_n 2, 1, 0, 0, 0), (.invokevirtual 90, 3, 113, 1, 0), (.if_icmp .eq (28), 3, 0, 0, 0), (.iconst 0, 1, 0, 0, 0), (.ireturn, 1, 0, 0, 0)]),
  (474, [(.aload_n 1, 1, 0, 0, 0), (.aload_n 0, 1, 0, 0, 0), (.iload_n 3, 1, 0, 0, 0), (.iconst 1, 1, 0, 0, 0), (.iadd, 1, 0, 0, 0), (.iaload, 1, 0, 0, 0), (.invokevirtual 91, 3, 35, 2, 0), (.aload_n 2, 1, 0, 0, 0), (.aload_n 0, 1, 0, 0, 0), (.iload_n 3, 1, 0, 0, 0), (.iconst 1, 1, 0, 0, 0), (.iadd, 1, 0, 0, 0), (.iaload, 1, 0, 0, 0), (.invokevirtual 94, 3, 114, 2, 0), (.if_icmp .eq (5), 3, 0, 0, 0), (.iconst 0, 1, 0, 0, 0), (.ireturn, 1, 0, 0, 0)]),
  (497, [(.iinc 3 (4), 3, 0, 0, 0), (.goto (-482), 3, 0, 0, 0)]),
  (503, [(.iconst 1, 1, 0, 0, 0), (.ireturn, 1, 0, 0, 0)])]
def mblL : List (List (Nat × List CE)) := [bl0, bl1, bl2, bl3, bl4, bl5, bl6, bl7, bl8, bl9, bl10, bl11, bl12, bl13, bl14, bl15, bl16, bl17, bl18, bl19, bl20, bl21, bl22, bl23, bl24, bl25, bl26, bl27, bl28, bl29, bl30, bl31, bl32, bl33, bl34, bl35, bl36, bl37, bl38, bl39, bl40, bl41, bl42, bl43, bl44, bl45, bl46, bl47, bl48, bl49, bl50, bl51, bl52, bl53, bl54, bl55, bl56, bl57, bl58, bl59, bl60, bl61, bl62, bl63, bl64, bl65, bl66, bl67, bl68, bl69, bl70, bl71, bl72, bl73, bl74, bl75, bl76, bl77, bl78, bl79, bl80, bl81, bl82, bl83, bl84, bl85, bl86, bl87, bl88, bl89, bl90, bl91, bl92, bl93, bl94, bl95, bl96, bl97, bl98, bl99, bl100, bl101, bl102, bl103, bl104, bl105, bl106, bl107, bl108, bl109, bl110, bl111, bl112, bl113, bl114, bl115, bl116, bl117, bl118, bl119, bl120, bl121, bl122, bl123, bl124, bl125, bl126, bl127, bl128, bl129, bl130, bl131]
def mbl (m : Nat) : List (Nat × List CE) := mblL.getD m []
def lkB : List (Nat × List CE) → Nat → List CE
  | [], _ => []
  | q :: l, pc => match q.1 == pc with | true => q.2 | false => lkB l pc
def mbk (m pc : Nat) : List CE := lkB (mbl m) pc
def WS : List Cond := lw_tbl.filter (fun w => w.onTables && w.keeps)
/-- place i of the tables (the private methods' rows lie ahead of them) holds w -/
def atW (i : Nat) (w : Cond) : Bool := match tables_1[i]? with | some v => decide (v = w) && (w.onTables && w.keeps) | none => false
def atP (i : Nat) (w : Cond) : Bool := match (k2_sels lw_privs)[i]? with | some v => decide (v = w) && (w.onTables && w.keeps) | none => false
def atN (i : Nat) (w : Cond) : Bool := match tables_1[i]? with | some v => decide (v = w) && w.onTables | none => false
theorem atW_mem {i : Nat} {w : Cond} (h : atW i w = true) : w ∈ WS := by
  unfold atW at h
  cases hg : tables_1[i]? with
  | none => rw [hg] at h; cases h
  | some v =>
    rw [hg] at h
    have h : (decide (v = w) && (w.onTables && w.keeps)) = true := h
    rw [Bool.and_eq_true] at h
    have e := of_decide_eq_true h.1
    subst e
    exact List.mem_filter.mpr ⟨List.mem_append_right _ (List.mem_of_getElem? hg), h.2⟩
theorem atP_mem {i : Nat} {w : Cond} (h : atP i w = true) : w ∈ WS := by
  unfold atP at h
  cases hg : (k2_sels lw_privs)[i]? with
  | none => rw [hg] at h; cases h
  | some v =>
    rw [hg] at h
    have h : (decide (v = w) && (w.onTables && w.keeps)) = true := h
    rw [Bool.and_eq_true] at h
    have e := of_decide_eq_true h.1
    subst e
    exact List.mem_filter.mpr ⟨List.mem_append_left _ (List.mem_of_getElem? hg), h.2⟩
theorem atN_mem {i : Nat} {w : Cond} (h : atN i w = true) : w ∈ lw_tbl ∧ w.onTables = true := by
  unfold atN at h
  cases hg : tables_1[i]? with
  | none => rw [hg] at h; cases h
  | some v =>
    rw [hg] at h
    have h : (decide (v = w) && w.onTables) = true := h
    rw [Bool.and_eq_true] at h
    have e := of_decide_eq_true h.1
    subst e
    exact ⟨List.mem_append_right _ (List.mem_of_getElem? hg), h.2⟩
theorem f_good : ∀ w ∈ WS, (w.onTables && w.keeps) = true := fun w h => (List.mem_filter.mp h).2
def fldW (own idx a b : Nat) : Cond := .fieldLink (cn own) idx (FT a b).1 (FT a b).2.1 (FT a b).2.2.1
def mthW (own idx m : Nat) : Cond := .methodLink (cn own) idx (my m)
def staW (q : Nat × Nat × Nat) : Cond := .fieldLink (cn q.1) q.2.1 (sti q.2.2).1 (sti q.2.2).2.1 (sti q.2.2).2.2
def nestSw (q : Nat × Nat × Nat) : Cond := .fieldLinkNest (cn q.1) q.2.1 (sti q.2.2).1 (sti q.2.2).2.1 (sti q.2.2).2.2 hostN
def nestMw (q : Nat × Nat × Nat) : Cond := .methodLinkNest (cn q.1) q.2.1 (my q.2.2) hostN
def linkF : List (Nat × Nat × Nat × Nat × Nat) := [(0, 12, 0, 0, 287), (0, 46, 0, 4, 291), (0, 29, 0, 3, 290), (0, 106, 4, 4, 98), (0, 23, 0, 2, 289), (0, 131, 3, 1, 81), (0, 19, 0, 1, 288), (0, 134, 3, 0, 79), (0, 128, 1, 4, 56), (0, 33, 1, 0, 42), (0, 60, 2, 0, 34), (0, 159, 1, 5, 58), (0, 122, 1, 2, 49), (0, 125, 1, 3, 53), (1, 22, 1, 2, 46), (1, 26, 1, 3, 50), (1, 29, 1, 4, 54), (1, 32, 1, 5, 57), (1, 18, 1, 1, 45), (1, 12, 1, 0, 41), (1, 50, 2, 0, 35), (2, 9, 2, 0, 31), (3, 15, 3, 1, 80), (3, 9, 3, 0, 78), (4, 29, 1, 0, 44), (4, 35, 2, 0, 36), (4, 18, 4, 2, 95), (4, 25, 4, 4, 97), (4, 22, 4, 3, 96), (4, 40, 1, 2, 48), (4, 43, 1, 3, 51), (4, 9, 4, 0, 93), (4, 15, 4, 1, 94), (5, 7, 5, 0, 556), (5, 92, 5, 4, 560), (5, 13, 5, 1, 557), (5, 103, 5, 11, 567), (5, 16, 5, 2, 558), (5, 19, 5, 3, 559), (5, 107, 5, 12, 568), (5, 110, 5, 5, 561), (5, 22, 5, 6, 562), (5, 26, 5, 7, 563), (5, 30, 5, 8, 564), (5, 33, 5, 9, 565), (5, 36, 5, 10, 566), (6, 9, 1, 0, 43), (6, 15, 2, 0, 32), (6, 21, 1, 2, 47), (6, 85, 1, 4, 55), (6, 91, 1, 3, 52), (7, 36, 2, 0, 33)]
def linkM : List (Nat × Nat × Nat × Nat) := [(0, 171, 37, 131), (0, 96, 2, 139), (0, 99, 12, 276), (0, 102, 60, 283), (0, 174, 117, 143), (0, 180, 123, 191), (0, 183, 38, 223), (0, 186, 58, 272), (0, 137, 9, 280), (0, 190, 4, 281), (0, 140, 10, 282), (0, 37, 48, 111), (0, 42, 1, 127), (0, 50, 49, 311), (0, 53, 6, 316), (0, 57, 16, 317), (0, 64, 18, 324), (0, 67, 125, 327), (0, 73, 20, 354), (0, 77, 7, 374), (0, 81, 63, 375), (0, 85, 59, 379), (0, 88, 39, 383), (0, 92, 64, 384), (0, 150, 46, 358), (0, 153, 55, 362), (0, 156, 61, 366), (0, 110, 65, 392), (0, 113, 66, 396), (0, 116, 45, 400), (0, 119, 67, 401), (0, 143, 11, 429), (0, 146, 51, 434), (0, 162, 56, 456), (0, 165, 34, 462), (0, 168, 36, 475), (0, 193, 47, 466), (0, 196, 35, 471), (1, 35, 50, 135), (1, 43, 39, 227), (1, 39, 51, 267), (1, 46, 45, 268), (1, 59, 40, 238), (1, 74, 41, 247), (1, 78, 42, 253), (1, 81, 43, 256), (1, 89, 44, 260), (2, 21, 49, 115), (2, 15, 130, 119), (2, 31, 52, 203), (2, 38, 53, 211), (2, 42, 54, 217), (4, 46, 62, 370), (5, 96, 69, 492), (5, 99, 70, 496), (5, 113, 71, 500), (5, 116, 72, 504), (5, 47, 73, 508), (5, 86, 74, 511), (5, 79, 75, 515), (5, 82, 84, 549), (5, 65, 82, 541), (5, 54, 76, 519), (5, 68, 77, 522), (5, 58, 78, 526), (5, 72, 81, 537), (5, 43, 79, 530), (5, 50, 80, 533), (5, 61, 83, 545), (5, 75, 85, 553), (5, 122, 89, 611), (5, 126, 90, 615), (5, 129, 91, 619), (5, 132, 92, 623), (5, 135, 94, 631), (5, 142, 95, 635), (5, 145, 97, 643), (5, 148, 98, 647), (5, 89, 96, 639), (5, 139, 100, 655), (5, 152, 113, 709), (5, 158, 114, 713), (5, 161, 116, 722), (5, 155, 115, 718), (6, 33, 118, 152), (6, 39, 120, 171), (6, 42, 121, 177), (6, 81, 119, 161), (6, 68, 57, 167), (6, 57, 122, 188), (6, 94, 124, 196), (6, 98, 51, 199), (7, 9, 126, 330), (7, 15, 127, 335), (7, 19, 50, 338), (7, 25, 51, 339), (7, 29, 128, 340), (7, 32, 129, 346), (9, 13, 13, 303), (9, 16, 68, 598), (9, 17, 14, 307), (9, 20, 86, 599), (9, 21, 15, 312), (9, 25, 87, 603), (9, 26, 17, 320), (9, 30, 88, 607), (9, 31, 19, 350), (9, 34, 93, 627), (9, 35, 21, 388), (9, 39, 99, 651), (9, 40, 22, 405), (9, 44, 101, 660), (9, 45, 23, 409), (9, 49, 102, 664), (9, 50, 24, 413), (9, 53, 103, 668), (9, 54, 25, 417), (9, 57, 104, 672), (9, 58, 26, 421), (9, 61, 105, 676), (9, 62, 27, 425), (9, 65, 106, 680), (9, 66, 28, 430), (9, 70, 107, 684), (9, 71, 29, 435), (9, 74, 108, 688), (9, 75, 20, 439), (9, 78, 94, 692), (9, 79, 30, 440), (9, 82, 109, 693), (9, 83, 31, 444), (9, 86, 110, 697), (9, 87, 32, 448), (9, 90, 111, 701), (9, 91, 33, 452), (9, 94, 112, 705)]
def nestMp : List (Nat × Nat × Nat × Nat) := [(1, 53, 9, 231), (1, 56, 10, 234), (1, 68, 4, 237), (1, 62, 11, 243), (1, 71, 0, 246), (1, 92, 5, 242), (2, 27, 0, 124), (2, 34, 3, 210), (2, 51, 8, 209), (2, 54, 4, 215), (2, 58, 5, 216), (6, 25, 3, 146), (6, 29, 4, 149), (6, 74, 5, 155), (6, 77, 6, 158), (6, 64, 7, 164), (6, 61, 8, 174), (7, 40, 3, 333), (7, 44, 4, 334), (7, 50, 0, 344), (7, 56, 5, 349)]
def nestSp : List (Nat × Nat × Nat × Nat) := [(1, 95, 24, 264), (1, 98, 25, 265), (1, 65, 31, 470), (2, 24, 30, 122), (2, 45, 26, 207), (2, 48, 27, 208), (2, 61, 28, 221), (2, 64, 29, 222), (2, 67, 31, 460), (6, 45, 26, 180), (6, 48, 27, 182), (6, 51, 28, 184), (6, 54, 29, 186), (6, 88, 24, 194), (7, 47, 24, 343), (7, 53, 25, 345)]
def nestM : List (Nat × Nat × Nat) := [(1, 53, 9), (1, 56, 10), (1, 68, 4), (1, 62, 11), (1, 71, 0), (1, 92, 5), (2, 27, 0), (2, 34, 3), (2, 51, 8), (2, 54, 4), (2, 58, 5), (6, 25, 3), (6, 29, 4), (6, 74, 5), (6, 77, 6), (6, 64, 7), (6, 61, 8), (7, 40, 3), (7, 44, 4), (7, 50, 0), (7, 56, 5)]
def nestS : List (Nat × Nat × Nat) := [(1, 95, 24), (1, 98, 25), (1, 65, 31), (2, 24, 30), (2, 45, 26), (2, 48, 27), (2, 61, 28), (2, 64, 29), (2, 67, 31), (6, 45, 26), (6, 48, 27), (6, 51, 28), (6, 54, 29), (6, 88, 24), (7, 47, 24), (7, 53, 25)]
def statS : List (Nat × Nat × Nat × Nat) := []
def conI : List (Nat × Nat × Int × Nat) := [(5, 151, (-100000), 717)]
def conL : List (Nat × Nat × Int × Nat) := [(5, 120, 15, 659)]
def absL : List (Nat × Nat × Nat) := [(1, 84, 250)]
def maxL : List (Nat × Nat × Nat) := [(0, 199, 479)]
def cdP : List Nat := [126, 130, 142, 148, 151, 157, 160, 166, 176, 233, 236, 245, 279, 306, 310, 315, 319, 323, 326, 353, 357, 391, 408, 412, 416, 420, 424, 428, 433, 438, 443, 447, 451, 455, 465, 474, 478, 134, 226, 230, 241, 249, 255, 259, 263, 271, 361, 469, 114, 118, 138, 202, 206, 214, 220, 365, 459, 170, 275, 382, 286, 369, 373, 378, 387, 395, 399, 404, 491, 495, 499, 503, 507, 510, 514, 518, 521, 525, 529, 532, 536, 540, 544, 548, 552, 555, 602, 606, 610, 614, 618, 622, 626, 630, 634, 638, 642, 646, 650, 654, 658, 663, 667, 671, 675, 679, 683, 687, 691, 696, 700, 704, 708, 712, 716, 721, 725, 145, 154, 163, 173, 179, 190, 193, 198, 329, 332, 337, 342, 348, 121]
def stP : List Nat := [125, 129, 141, 147, 150, 156, 159, 165, 175, 232, 235, 244, 278, 304, 308, 313, 318, 321, 325, 351, 355, 389, 406, 410, 414, 418, 422, 426, 431, 436, 441, 445, 449, 453, 464, 473, 477, 132, 224, 228, 240, 248, 254, 258, 262, 269, 359, 467, 112, 116, 136, 200, 205, 213, 219, 363, 457, 168, 273, 380, 284, 367, 372, 376, 385, 393, 397, 402, 489, 494, 498, 502, 506, 509, 513, 517, 520, 524, 528, 531, 535, 539, 543, 547, 551, 554, 600, 604, 608, 613, 617, 621, 625, 628, 632, 637, 641, 645, 649, 652, 657, 661, 665, 669, 673, 677, 681, 685, 689, 694, 698, 702, 706, 711, 715, 720, 724, 144, 153, 162, 172, 178, 189, 192, 197, 328, 331, 336, 341, 347, 120]
def seP : List Int := [0, -1, -2, 0, 0, 0, 0, 0, 0, 0, 0, 0, -9, 305, 309, 314, 0, 322, 0, 352, 356, 390, 407, 411, 415, 419, 423, 427, 432, 437, 442, 446, 450, 454, -11, -12, -13, 133, 225, 229, -6, 0, 0, -7, -8, 270, 360, 468, 113, 117, 137, 201, -3, -4, -5, 364, 458, 169, 274, 381, 285, 368, -10, 377, 386, 394, 398, 403, 490, -14, -15, -16, -17, 0, -18, -19, 0, -20, -21, 0, -22, -23, -24, -25, -26, 0, 601, 605, 609, -27, -28, -29, -30, 629, 633, -31, -32, -33, -34, 653, -35, 662, 666, 670, 674, 678, 682, 686, 690, 695, 699, 703, 707, -36, -37, -38, -39, 0, 0, 0, 0, 0, 0, 0, 0, 0, 0, 0, 0, 0, 0]
def inP : List Nat := [1, 1, 1, 1, 1, 1, 1, 1, 1, 1, 1, 1, 1, 1, 1, 1, 1, 1, 1, 1, 1, 1, 1, 1, 1, 1, 1, 1, 1, 1, 1, 1, 1, 1, 1, 1, 1, 2, 2, 2, 2, 2, 2, 2, 2, 2, 2, 2, 3, 3, 3, 3, 3, 3, 3, 3, 3, 4, 4, 4, 5, 5, 5, 5, 5, 5, 5, 5, 9, 9, 9, 9, 9, 9, 9, 9, 9, 9, 9, 9, 9, 9, 9, 9, 9, 9, 9, 9, 9, 9, 9, 9, 9, 9, 9, 9, 9, 9, 9, 9, 9, 9, 9, 9, 9, 9, 9, 9, 9, 9, 9, 9, 9, 9, 9, 9, 9, 7, 7, 7, 7, 7, 7, 7, 7, 10, 10, 10, 10, 10, 6]
def uwP : List (List Nat) := [[292, 294, 296, 298, 300], [59, 61, 63, 65, 67, 69], [37], [82, 84], [99, 101, 103, 105, 107], [569, 571, 573, 575, 577, 579, 581, 583, 585, 587, 589, 591, 593]]
