/-! THE TABLES, printed by program (wip/whole/gen2.py) out of the Statement: classes, fields, methods, their instructions by blocks. 'aB k t': method k's instructions from pc t on, up to the first that doesn't go on. An entry: (pc, instruction, x, y): x the local, the number, the target, the class or the method, y the field or how many arguments. -/
abbrev aE : Type := Nat × Jvm.ClassFile.Instr × Nat × Nat
def cR0 : String := "PermitTree$Ballot"
def cT0 : u_T := fun k => match k with
  | 0 => ("PermitTree$Ballot", "holder", "I", false)
  | 1 => ("PermitTree$Ballot", "stored", "I", false)
  | 2 => ("PermitTree$Ballot", "waiting", "I", false)
  | _ => ("PermitTree$Ballot", "row", "[I", true)
def cY0 : Nat → FieldType := fun k => match k with
  | 0 => .int
  | 1 => .int
  | 2 => .int
  | _ => .array .int
def cR1 : String := "PermitTree$Bid"
def cT1 : u_T := fun k => match k with
  | 0 => ("PermitTree$Bid", "client", "I", true)
  | 1 => ("PermitTree$Bid", "crane", "I", true)
  | 2 => ("PermitTree$Bid", "state", "I", false)
  | 3 => ("PermitTree$Bid", "run", "I", false)
  | 4 => ("PermitTree$Bid", "number", "I", false)
  | 5 => ("PermitTree$Bid", "greatest", "I", false)
  | 6 => ("PermitTree$Bid", "silent", "I", false)
  | 7 => ("PermitTree$Bid", "route", "I", false)
  | 8 => ("PermitTree$Bid", "asked", "I", false)
  | 9 => ("PermitTree$Bid", "votes", "I", false)
  | _ => ("PermitTree$Bid", "stored", "I", false)
def cY1 : Nat → FieldType := fun k => match k with
  | 0 => .int
  | 1 => .int
  | 2 => .int
  | 3 => .int
  | 4 => .int
  | 5 => .int
  | 6 => .int
  | 7 => .int
  | 8 => .int
  | 9 => .int
  | _ => .int
def cR2 : String := "PermitTree$Log"
def cT2 : u_T := fun k => match k with
  | 0 => ("PermitTree$Log", "highest", "I", false)
  | 1 => ("PermitTree$Log", "highestBroken", "I", false)
  | 2 => ("PermitTree$Log", "count", "I", false)
  | 3 => ("PermitTree$Log", "numbers", "[I", true)
  | _ => ("PermitTree$Log", "codes", "[I", true)
def cY2 : Nat → FieldType := fun k => match k with
  | 0 => .int
  | 1 => .int
  | 2 => .int
  | 3 => .array .int
  | _ => .array .int
def cR3 : String := "PermitTree$Post"
def cT3 : u_T := fun k => match k with
  | 0 => ("PermitTree$Post", "cells", "[I", true)
  | _ => ("PermitTree$Post", "count", "I", false)
def cY3 : Nat → FieldType := fun k => match k with
  | 0 => .array .int
  | _ => .int
def cR4 : String := "PermitTree"
def cT4 : u_T := fun k => match k with
  | 0 => ("PermitTree", "post", "LPermitTree$Post;", true)
  | 1 => ("PermitTree", "bids", "[LPermitTree$Bid;", true)
  | 2 => ("PermitTree", "ballots", "[LPermitTree$Ballot;", true)
  | 3 => ("PermitTree", "logs", "[LPermitTree$Log;", true)
  | 4 => ("PermitTree", "lastRuns", "[I", true)
  | _ => ("PermitTree", "down", "I", false)
def cY4 : Nat → FieldType := fun k => match k with
  | 0 => .object "PermitTree$Post"
  | 1 => .array (.object "PermitTree$Bid")
  | 2 => .array (.object "PermitTree$Ballot")
  | 3 => .array (.object "PermitTree$Log")
  | 4 => .array .int
  | _ => .int
def cR5 : String := "PermitTreeModel"
def cT5 : u_T := fun k => match k with
  | 0 => ("PermitTreeModel", "thrown", "I", false)
  | 1 => ("PermitTreeModel", "down", "[Z", true)
  | 2 => ("PermitTreeModel", "runs", "[I", true)
  | 3 => ("PermitTreeModel", "state", "[I", true)
  | 4 => ("PermitTreeModel", "run", "[I", true)
  | 5 => ("PermitTreeModel", "silent", "[I", true)
  | 6 => ("PermitTreeModel", "asked", "[I", true)
  | 7 => ("PermitTreeModel", "votes", "[I", true)
  | 8 => ("PermitTreeModel", "quorum", "[I", true)
  | 9 => ("PermitTreeModel", "stored", "[I", true)
  | 10 => ("PermitTreeModel", "permit", "[I", true)
  | 11 => ("PermitTreeModel", "told", "[I", true)
  | 12 => ("PermitTreeModel", "rowClient", "[I", true)
  | 13 => ("PermitTreeModel", "rowRun", "[I", true)
  | 14 => ("PermitTreeModel", "many", "[I", true)
  | 15 => ("PermitTreeModel", "greatest", "[I", true)
  | 16 => ("PermitTreeModel", "highest", "[I", true)
  | 17 => ("PermitTreeModel", "broken", "[I", true)
  | 18 => ("PermitTreeModel", "orders", "[I", true)
  | 19 => ("PermitTreeModel", "doneNumber", "[I", true)
  | 20 => ("PermitTreeModel", "doneCode", "[I", true)
  | 21 => ("PermitTreeModel", "letters", "I", false)
  | 22 => ("PermitTreeModel", "post", "[I", true)
  | 23 => ("PermitTreeModel", "coming", "[I", true)
  | _ => ("PermitTreeModel", "route", "[I", true)
def cY5 : Nat → FieldType := fun k => match k with
  | 0 => .int
  | 1 => .array .boolean
  | 2 => .array .int
  | 3 => .array .int
  | 4 => .array .int
  | 5 => .array .int
  | 6 => .array .int
  | 7 => .array .int
  | 8 => .array .int
  | 9 => .array .int
  | 10 => .array .int
  | 11 => .array .int
  | 12 => .array .int
  | 13 => .array .int
  | 14 => .array .int
  | 15 => .array .int
  | 16 => .array .int
  | 17 => .array .int
  | 18 => .array .int
  | 19 => .array .int
  | 20 => .array .int
  | 21 => .int
  | 22 => .array .int
  | 23 => .array .int
  | _ => .array .int
abbrev aCl : List vw_C := [(cR0, cT0, 4), (cR1, cT1, 11), (cR2, cT2, 5), (cR3, cT3, 2), (cR4, cT4, 6), (cR5, cT5, 25)]
def oN (o : Nat) : String := match o with
  | 0 => "PermitTree$Ballot"
  | 1 => "PermitTree$Bid"
  | 2 => "PermitTree$Log"
  | 3 => "PermitTree$Post"
  | 4 => "PermitTree"
  | 5 => "PermitTreeModel"
  | 6 => "PermitTreeLaw"
  | _ => "java/lang/Math"
def mO (k : Nat) : Nat := match k with
  | 0 => 4
  | 1 => 4
  | 2 => 4
  | 3 => 4
  | 4 => 4
  | 5 => 1
  | 6 => 4
  | 7 => 4
  | 8 => 4
  | 9 => 4
  | 10 => 4
  | 11 => 3
  | 12 => 4
  | 13 => 4
  | 14 => 4
  | 15 => 4
  | 16 => 4
  | 17 => 1
  | 18 => 4
  | 19 => 4
  | 20 => 3
  | 21 => 4
  | 22 => 4
  | 23 => 4
  | 24 => 4
  | 25 => 3
  | 26 => 3
  | 27 => 4
  | 28 => 3
  | 29 => 4
  | 30 => 1
  | 31 => 4
  | 32 => 2
  | 33 => 7
  | 34 => 2
  | 35 => 0
  | 36 => 4
  | 37 => 4
  | 38 => 0
  | 39 => 0
  | 40 => 4
  | 41 => 0
  | 42 => 0
  | 43 => 7
  | 44 => 0
  | 45 => 0
  | 46 => 0
  | 47 => 4
  | 48 => 4
  | 49 => 3
  | 50 => 4
  | 51 => 4
  | 52 => 4
  | 53 => 4
  | 54 => 4
  | 55 => 4
  | 56 => 2
  | 57 => 2
  | 58 => 2
  | 59 => 4
  | 60 => 5
  | 61 => 5
  | 62 => 5
  | 63 => 5
  | 64 => 5
  | 65 => 5
  | 66 => 5
  | 67 => 5
  | 68 => 5
  | 69 => 5
  | 70 => 5
  | 71 => 5
  | 72 => 5
  | 73 => 5
  | 74 => 5
  | 75 => 5
  | 76 => 5
  | 77 => 5
  | 78 => 5
  | 79 => 5
  | 80 => 5
  | 81 => 5
  | 82 => 5
  | 83 => 5
  | 84 => 5
  | 85 => 5
  | 86 => 5
  | 87 => 5
  | 88 => 5
  | 89 => 5
  | 90 => 5
  | 91 => 5
  | 92 => 5
  | 93 => 5
  | 94 => 5
  | 95 => 5
  | 96 => 6
  | _ => 99
def mB (k : Nat) : ByteArray := match k with
  | 0 => prog_1_method_2_code
  | 1 => prog_1_method_27_code
  | 2 => prog_1_method_24_code
  | 3 => prog_1_method_22_code
  | 4 => prog_1_method_26_code
  | 5 => prog_3_method_2_code
  | 6 => prog_1_method_31_code
  | 7 => prog_1_method_29_code
  | 8 => prog_1_method_23_code
  | 9 => prog_1_method_25_code
  | 10 => prog_1_method_30_code
  | 11 => prog_5_method_4_code
  | 12 => prog_1_method_3_code
  | 13 => prog_1_method_32_code
  | 14 => prog_1_method_4_code
  | 15 => prog_1_method_33_code
  | 16 => prog_1_method_5_code
  | 17 => prog_3_method_4_code
  | 18 => prog_1_method_6_code
  | 19 => prog_1_method_7_code
  | 20 => prog_5_method_5_code
  | 21 => prog_1_method_8_code
  | 22 => prog_1_method_9_code
  | 23 => prog_1_method_10_code
  | 24 => prog_1_method_11_code
  | 25 => prog_5_method_2_code
  | 26 => prog_5_method_3_code
  | 27 => prog_1_method_12_code
  | 28 => prog_5_method_6_code
  | 29 => prog_1_method_34_code
  | 30 => prog_3_method_3_code
  | 31 => prog_1_method_35_code
  | 32 => prog_4_method_2_code
  | 33 => prog_8_method_50_code
  | 34 => prog_4_method_3_code
  | 35 => prog_2_method_2_code
  | 36 => prog_1_method_36_code
  | 37 => prog_1_method_28_code
  | 38 => prog_2_method_6_code
  | 39 => prog_2_method_8_code
  | 40 => prog_1_method_37_code
  | 41 => prog_2_method_3_code
  | 42 => prog_2_method_4_code
  | 43 => prog_8_method_47_code
  | 44 => prog_2_method_7_code
  | 45 => prog_2_method_9_code
  | 46 => prog_2_method_5_code
  | 47 => prog_1_method_13_code
  | 48 => prog_1_method_14_code
  | 49 => prog_5_method_7_code
  | 50 => prog_1_method_15_code
  | 51 => prog_1_method_16_code
  | 52 => prog_1_method_17_code
  | 53 => prog_1_method_18_code
  | 54 => prog_1_method_19_code
  | 55 => prog_1_method_20_code
  | 56 => prog_4_method_4_code
  | 57 => prog_4_method_5_code
  | 58 => prog_4_method_6_code
  | 59 => prog_1_method_21_code
  | 60 => prog_7_method_11_code
  | 61 => prog_7_method_3_code
  | 62 => prog_7_method_9_code
  | 63 => prog_7_method_5_code
  | 64 => prog_7_method_8_code
  | 65 => prog_7_method_6_code
  | 66 => prog_7_method_10_code
  | 67 => prog_7_method_12_code
  | 68 => prog_7_method_4_code
  | 69 => prog_7_method_14_code
  | 70 => prog_7_method_13_code
  | 71 => prog_7_method_15_code
  | 72 => prog_7_method_16_code
  | 73 => prog_7_method_17_code
  | 74 => prog_7_method_19_code
  | 75 => prog_7_method_20_code
  | 76 => prog_7_method_26_code
  | 77 => prog_7_method_28_code
  | 78 => prog_7_method_27_code
  | 79 => prog_7_method_29_code
  | 80 => prog_7_method_7_code
  | 81 => prog_7_method_18_code
  | 82 => prog_7_method_25_code
  | 83 => prog_7_method_24_code
  | 84 => prog_7_method_21_code
  | 85 => prog_7_method_22_code
  | 86 => prog_7_method_23_code
  | 87 => prog_7_method_30_code
  | 88 => prog_7_method_31_code
  | 89 => prog_7_method_32_code
  | 90 => prog_7_method_33_code
  | 91 => prog_7_method_34_code
  | 92 => prog_7_method_35_code
  | 93 => prog_7_method_36_code
  | 94 => prog_7_method_37_code
  | 95 => prog_7_method_38_code
  | 96 => code
  | _ => code
def mL (k : Nat) : Nat := match k with
  | 0 => 4
  | 1 => 3
  | 2 => 1
  | 3 => 1
  | 4 => 3
  | 5 => 2
  | 6 => 3
  | 7 => 6
  | 8 => 1
  | 9 => 2
  | 10 => 6
  | 11 => 8
  | 12 => 5
  | 13 => 2
  | 14 => 4
  | 15 => 2
  | 16 => 4
  | 17 => 1
  | 18 => 5
  | 19 => 5
  | 20 => 6
  | 21 => 2
  | 22 => 2
  | 23 => 1
  | 24 => 3
  | 25 => 2
  | 26 => 3
  | 27 => 9
  | 28 => 2
  | 29 => 5
  | 30 => 2
  | 31 => 4
  | 32 => 4
  | 33 => 3
  | 34 => 2
  | 35 => 2
  | 36 => 7
  | 37 => 3
  | 38 => 2
  | 39 => 3
  | 40 => 5
  | 41 => 1
  | 42 => 1
  | 43 => 3
  | 44 => 2
  | 45 => 2
  | 46 => 1
  | 47 => 2
  | 48 => 2
  | 49 => 2
  | 50 => 4
  | 51 => 4
  | 52 => 4
  | 53 => 5
  | 54 => 2
  | 55 => 4
  | 56 => 2
  | 57 => 2
  | 58 => 2
  | 59 => 2
  | 60 => 4
  | 61 => 2
  | 62 => 4
  | 63 => 6
  | 64 => 6
  | 65 => 9
  | 66 => 6
  | 67 => 5
  | 68 => 1
  | 69 => 3
  | 70 => 2
  | 71 => 3
  | 72 => 5
  | 73 => 5
  | 74 => 2
  | 75 => 2
  | 76 => 1
  | 77 => 3
  | 78 => 2
  | 79 => 5
  | 80 => 3
  | 81 => 7
  | 82 => 5
  | 83 => 7
  | 84 => 5
  | 85 => 2
  | 86 => 6
  | 87 => 2
  | 88 => 3
  | 89 => 3
  | 90 => 3
  | 91 => 5
  | 92 => 5
  | 93 => 2
  | 94 => 5
  | 95 => 2
  | 96 => 4
  | _ => 0
/-- a method's name as the Statement's own word 305 has it -/
def mY38 : MethodName := match tables_1[305]? with
  | some (Cond.instanceMethod y) => y
  | _ => ⟨"", "", ""⟩
def mY (k : Nat) : MethodName := match k with
  | 0 => ⟨"PermitTree", "want", "(II)I"⟩
  | 1 => ⟨"PermitTree", "bidIfAny", "(II)LPermitTree$Bid;"⟩
  | 2 => ⟨"PermitTree", "isClient", "(I)Z"⟩
  | 3 => ⟨"PermitTree", "isCrane", "(I)Z"⟩
  | 4 => ⟨"PermitTree", "bidOf", "(II)LPermitTree$Bid;"⟩
  | 5 => ⟨"PermitTree$Bid", "begin", "(I)V"⟩
  | 6 => ⟨"PermitTree", "askRoute", "(LPermitTree$Bid;)V"⟩
  | 7 => ⟨"PermitTree", "routeFrom", "(II)I"⟩
  | 8 => ⟨"PermitTree", "isArbiter", "(I)Z"⟩
  | 9 => ⟨"PermitTree", "hasBit", "(II)Z"⟩
  | 10 => ⟨"PermitTree", "sendToEach", "(IILPermitTree$Bid;I)V"⟩
  | 11 => ⟨"PermitTree$Post", "send", "(IIIIII)V"⟩
  | 12 => ⟨"PermitTree", "timeout", "(III)Z"⟩
  | 13 => ⟨"PermitTree", "writeIfVoted", "(LPermitTree$Bid;)V"⟩
  | 14 => ⟨"PermitTree", "giveUp", "(II)Z"⟩
  | 15 => ⟨"PermitTree", "endRun", "(LPermitTree$Bid;)V"⟩
  | 16 => ⟨"PermitTree", "release", "(II)Z"⟩
  | 17 => ⟨"PermitTree$Bid", "isHolding", "()Z"⟩
  | 18 => ⟨"PermitTree", "breakPermit", "(II)I"⟩
  | 19 => ⟨"PermitTree", "order", "(III)Z"⟩
  | 20 => ⟨"PermitTree$Post", "sendOrder", "(IIIII)V"⟩
  | 21 => ⟨"PermitTree", "stop", "(I)Z"⟩
  | 22 => ⟨"PermitTree", "start", "(I)Z"⟩
  | 23 => ⟨"PermitTree", "letters", "()I"⟩
  | 24 => ⟨"PermitTree", "letter", "(II)I"⟩
  | 25 => ⟨"PermitTree$Post", "has", "(I)Z"⟩
  | 26 => ⟨"PermitTree$Post", "read", "(II)I"⟩
  | 27 => ⟨"PermitTree", "deliver", "(I)Z"⟩
  | 28 => ⟨"PermitTree$Post", "remove", "(I)V"⟩
  | 29 => ⟨"PermitTree", "takeVote", "(LPermitTree$Bid;III)V"⟩
  | 30 => ⟨"PermitTree$Bid", "isIn", "(I)Z"⟩
  | 31 => ⟨"PermitTree", "takeStored", "(LPermitTree$Bid;II)V"⟩
  | 32 => ⟨"PermitTree$Log", "obey", "(II)V"⟩
  | 33 => ⟨"java/lang/Math", "floorMod", "(II)I"⟩
  | 34 => ⟨"PermitTree$Log", "hearBroken", "(I)V"⟩
  | 35 => ⟨"PermitTree$Ballot", "claimOf", "(II)I"⟩
  | 36 => ⟨"PermitTree", "reachArbiter", "(IIIII)V"⟩
  | 37 => ⟨"PermitTree", "ballotOf", "(II)LPermitTree$Ballot;"⟩
  | 38 => mY38
  | 39 => ⟨"PermitTree$Ballot", "placeOf", "(I)I"⟩
  | 40 => ⟨"PermitTree", "sendVote", "(II)V"⟩
  | 41 => ⟨"PermitTree$Ballot", "clientOf", "(I)I"⟩
  | 42 => ⟨"PermitTree$Ballot", "runOf", "(I)I"⟩
  | 43 => ⟨"java/lang/Math", "floorDiv", "(II)I"⟩
  | 44 => ⟨"PermitTree$Ballot", "withdraw", "(I)Z"⟩
  | 45 => ⟨"PermitTree$Ballot", "leaveRow", "(I)V"⟩
  | 46 => ⟨"PermitTree$Ballot", "firstWaiting", "()I"⟩
  | 47 => ⟨"PermitTree", "drop", "(I)Z"⟩
  | 48 => ⟨"PermitTree", "copy", "(I)Z"⟩
  | 49 => ⟨"PermitTree$Post", "repeat", "(I)Z"⟩
  | 50 => ⟨"PermitTree", "state", "(II)I"⟩
  | 51 => ⟨"PermitTree", "permit", "(II)I"⟩
  | 52 => ⟨"PermitTree", "quorumOf", "(II)I"⟩
  | 53 => ⟨"PermitTree", "vote", "(III)I"⟩
  | 54 => ⟨"PermitTree", "orders", "(I)I"⟩
  | 55 => ⟨"PermitTree", "done", "(III)I"⟩
  | 56 => ⟨"PermitTree$Log", "keeps", "(I)Z"⟩
  | 57 => ⟨"PermitTree$Log", "numberAt", "(I)I"⟩
  | 58 => ⟨"PermitTree$Log", "codeAt", "(I)I"⟩
  | 59 => ⟨"PermitTree", "highest", "(I)I"⟩
  | 60 => ⟨"PermitTreeModel", "want", "(II)I"⟩
  | 61 => ⟨"PermitTreeModel", "isPair", "(II)Z"⟩
  | 62 => ⟨"PermitTreeModel", "asks", "(I)V"⟩
  | 63 => ⟨"PermitTreeModel", "routeOf", "(I)I"⟩
  | 64 => ⟨"PermitTreeModel", "sendAll", "(IIII)V"⟩
  | 65 => ⟨"PermitTreeModel", "send", "(IIIIIII)V"⟩
  | 66 => ⟨"PermitTreeModel", "writes", "(I)V"⟩
  | 67 => ⟨"PermitTreeModel", "timeout", "(III)Z"⟩
  | 68 => ⟨"PermitTreeModel", "isArbiter", "(I)Z"⟩
  | 69 => ⟨"PermitTreeModel", "giveUp", "(II)Z"⟩
  | 70 => ⟨"PermitTreeModel", "ends", "(I)V"⟩
  | 71 => ⟨"PermitTreeModel", "release", "(II)Z"⟩
  | 72 => ⟨"PermitTreeModel", "breakPermit", "(II)I"⟩
  | 73 => ⟨"PermitTreeModel", "order", "(III)Z"⟩
  | 74 => ⟨"PermitTreeModel", "stop", "(I)Z"⟩
  | 75 => ⟨"PermitTreeModel", "start", "(I)Z"⟩
  | 76 => ⟨"PermitTreeModel", "letters", "()I"⟩
  | 77 => ⟨"PermitTreeModel", "letter", "(II)I"⟩
  | 78 => ⟨"PermitTreeModel", "isLetter", "(I)Z"⟩
  | 79 => ⟨"PermitTreeModel", "deliver", "(I)Z"⟩
  | 80 => ⟨"PermitTreeModel", "remove", "(I)V"⟩
  | 81 => ⟨"PermitTreeModel", "told", "(IIIII)V"⟩
  | 82 => ⟨"PermitTreeModel", "obeys", "(III)V"⟩
  | 83 => ⟨"PermitTreeModel", "comes", "(IIIII)V"⟩
  | 84 => ⟨"PermitTreeModel", "find", "(III)I"⟩
  | 85 => ⟨"PermitTreeModel", "votes", "(I)V"⟩
  | 86 => ⟨"PermitTreeModel", "leaves", "(III)V"⟩
  | 87 => ⟨"PermitTreeModel", "drop", "(I)Z"⟩
  | 88 => ⟨"PermitTreeModel", "copy", "(I)Z"⟩
  | 89 => ⟨"PermitTreeModel", "state", "(II)I"⟩
  | 90 => ⟨"PermitTreeModel", "permit", "(II)I"⟩
  | 91 => ⟨"PermitTreeModel", "quorumOf", "(II)I"⟩
  | 92 => ⟨"PermitTreeModel", "vote", "(III)I"⟩
  | 93 => ⟨"PermitTreeModel", "orders", "(I)I"⟩
  | 94 => ⟨"PermitTreeModel", "done", "(III)I"⟩
  | 95 => ⟨"PermitTreeModel", "highest", "(I)I"⟩
  | 96 => ⟨"PermitTreeLaw", "law", "([I)Z"⟩
  | _ => ⟨"", "", ""⟩
def mR (k : Nat) : Option FieldType := match k with
  | 0 => some .int
  | 1 => some (.object "PermitTree$Bid")
  | 2 => some .boolean
  | 3 => some .boolean
  | 4 => some (.object "PermitTree$Bid")
  | 5 => none
  | 6 => none
  | 7 => some .int
  | 8 => some .boolean
  | 9 => some .boolean
  | 10 => none
  | 11 => none
  | 12 => some .boolean
  | 13 => none
  | 14 => some .boolean
  | 15 => none
  | 16 => some .boolean
  | 17 => some .boolean
  | 18 => some .int
  | 19 => some .boolean
  | 20 => none
  | 21 => some .boolean
  | 22 => some .boolean
  | 23 => some .int
  | 24 => some .int
  | 25 => some .boolean
  | 26 => some .int
  | 27 => some .boolean
  | 28 => none
  | 29 => none
  | 30 => some .boolean
  | 31 => none
  | 32 => none
  | 33 => some .int
  | 34 => none
  | 35 => some .int
  | 36 => none
  | 37 => some (.object "PermitTree$Ballot")
  | 38 => some .boolean
  | 39 => some .int
  | 40 => none
  | 41 => some .int
  | 42 => some .int
  | 43 => some .int
  | 44 => some .boolean
  | 45 => none
  | 46 => some .int
  | 47 => some .boolean
  | 48 => some .boolean
  | 49 => some .boolean
  | 50 => some .int
  | 51 => some .int
  | 52 => some .int
  | 53 => some .int
  | 54 => some .int
  | 55 => some .int
  | 56 => some .boolean
  | 57 => some .int
  | 58 => some .int
  | 59 => some .int
  | 60 => some .int
  | 61 => some .boolean
  | 62 => none
  | 63 => some .int
  | 64 => none
  | 65 => none
  | 66 => none
  | 67 => some .boolean
  | 68 => some .boolean
  | 69 => some .boolean
  | 70 => none
  | 71 => some .boolean
  | 72 => some .int
  | 73 => some .boolean
  | 74 => some .boolean
  | 75 => some .boolean
  | 76 => some .int
  | 77 => some .int
  | 78 => some .boolean
  | 79 => some .boolean
  | 80 => none
  | 81 => none
  | 82 => none
  | 83 => none
  | 84 => some .int
  | 85 => none
  | 86 => none
  | 87 => some .boolean
  | 88 => some .boolean
  | 89 => some .int
  | 90 => some .int
  | 91 => some .int
  | 92 => some .int
  | 93 => some .int
  | 94 => some .int
  | 95 => some .int
  | 96 => some .boolean
  | _ => none
/-- how many arguments, the object among them -/
def mA (k : Nat) : Nat := match k with
  | 0 => 3
  | 1 => 3
  | 2 => 1
  | 3 => 1
  | 4 => 3
  | 5 => 2
  | 6 => 2
  | 7 => 2
  | 8 => 1
  | 9 => 2
  | 10 => 5
  | 11 => 7
  | 12 => 4
  | 13 => 2
  | 14 => 3
  | 15 => 2
  | 16 => 3
  | 17 => 1
  | 18 => 3
  | 19 => 4
  | 20 => 6
  | 21 => 2
  | 22 => 2
  | 23 => 1
  | 24 => 3
  | 25 => 2
  | 26 => 3
  | 27 => 2
  | 28 => 2
  | 29 => 5
  | 30 => 2
  | 31 => 4
  | 32 => 3
  | 33 => 2
  | 34 => 2
  | 35 => 2
  | 36 => 6
  | 37 => 3
  | 38 => 2
  | 39 => 2
  | 40 => 3
  | 41 => 1
  | 42 => 1
  | 43 => 2
  | 44 => 2
  | 45 => 2
  | 46 => 1
  | 47 => 2
  | 48 => 2
  | 49 => 2
  | 50 => 3
  | 51 => 3
  | 52 => 3
  | 53 => 4
  | 54 => 2
  | 55 => 4
  | 56 => 2
  | 57 => 2
  | 58 => 2
  | 59 => 2
  | 60 => 3
  | 61 => 2
  | 62 => 2
  | 63 => 2
  | 64 => 5
  | 65 => 8
  | 66 => 2
  | 67 => 4
  | 68 => 1
  | 69 => 3
  | 70 => 2
  | 71 => 3
  | 72 => 3
  | 73 => 4
  | 74 => 2
  | 75 => 2
  | 76 => 1
  | 77 => 3
  | 78 => 2
  | 79 => 2
  | 80 => 2
  | 81 => 6
  | 82 => 4
  | 83 => 6
  | 84 => 4
  | 85 => 2
  | 86 => 4
  | 87 => 2
  | 88 => 2
  | 89 => 3
  | 90 => 3
  | 91 => 3
  | 92 => 4
  | 93 => 2
  | 94 => 4
  | 95 => 2
  | 96 => 1
  | _ => 99
/-- 0: PermitTree.want -/
def aT_0 : List (Nat × List aE) := [
  (0, [(0, .aload_n 0, 0, 0), (1, .iload_n 1, 1, 0), (2, .iload_n 2, 2, 0), (3, .invokevirtual 47, 1, 3), (6, .astore_n 3, 3, 0), (7, .aload_n 3, 3, 0), (8, .ifnull 10, 18, 0), (11, .aload_n 3, 3, 0), (12, .getfield 51, 1, 2), (15, .ifCond .eq 5, 20, 0), (18, .iconst (-1), 0, 1), (19, .ireturn, 0, 0)]),
  (18, [(18, .iconst (-1), 0, 1), (19, .ireturn, 0, 0)]),
  (20, [(20, .aload_n 0, 0, 0), (21, .getfield 39, 4, 4), (24, .iload_n 1, 1, 0), (25, .dup2, 0, 0), (26, .iaload, 0, 0), (27, .iconst 1, 1, 0), (28, .iadd, 0, 0), (29, .iastore, 0, 0), (30, .aload_n 3, 3, 0), (31, .aload_n 0, 0, 0), (32, .getfield 39, 4, 4), (35, .iload_n 1, 1, 0), (36, .iaload, 0, 0), (37, .invokevirtual 54, 5, 2), (40, .aload_n 0, 0, 0), (41, .aload_n 3, 3, 0), (42, .invokevirtual 58, 6, 2), (45, .aload_n 3, 3, 0), (46, .getfield 62, 1, 3), (49, .ireturn, 0, 0)])]
/-- 1: PermitTree.bidIfAny -/
def aT_1 : List (Nat × List aE) := [
  (0, [(0, .iload_n 1, 1, 0), (1, .invokestatic 186, 2, 1), (4, .ifCond .eq 19, 23, 0), (7, .iload_n 2, 2, 0), (8, .invokestatic 86, 3, 1), (11, .ifCond .eq 12, 23, 0), (14, .aload_n 0, 0, 0), (15, .iload_n 1, 1, 0), (16, .iload_n 2, 2, 0), (17, .invokevirtual 89, 4, 3), (20, .goto 4, 24, 0)]),
  (23, [(23, .aconst_null, 0, 0), (24, .areturn, 0, 0)]),
  (24, [(24, .areturn, 0, 0)])]
/-- 2: PermitTree.isClient -/
def aT_2 : List (Nat × List aE) := [
  (0, [(0, .iload_n 0, 0, 0), (1, .ifCond .lt 13, 14, 0), (4, .iload_n 0, 0, 0), (5, .bipush 8, 8, 0), (7, .if_icmp .ge 7, 14, 0), (10, .iconst 1, 1, 0), (11, .goto 4, 15, 0)]),
  (14, [(14, .iconst 0, 0, 0), (15, .ireturn, 1, 0)]),
  (15, [(15, .ireturn, 1, 0)])]
/-- 3: PermitTree.isCrane -/
def aT_3 : List (Nat × List aE) := [
  (0, [(0, .iload_n 0, 0, 0), (1, .ifCond .lt 12, 13, 0), (4, .iload_n 0, 0, 0), (5, .iconst 4, 4, 0), (6, .if_icmp .ge 7, 13, 0), (9, .iconst 1, 1, 0), (10, .goto 4, 14, 0)]),
  (13, [(13, .iconst 0, 0, 0), (14, .ireturn, 1, 0)]),
  (14, [(14, .ireturn, 1, 0)])]
/-- 4: PermitTree.bidOf -/
def aT_4 : List (Nat × List aE) := [
  (0, [(0, .aload_n 0, 0, 0), (1, .getfield 18, 4, 1), (4, .iload_n 1, 1, 0), (5, .iconst 4, 4, 0), (6, .imul, 0, 0), (7, .iload_n 2, 2, 0), (8, .iadd, 0, 0), (9, .aaload, 0, 0), (10, .areturn, 0, 0)])]
/-- 5: PermitTree$Bid.begin -/
def aT_5 : List (Nat × List aE) := [
  (0, [(0, .aload_n 0, 0, 0), (1, .iconst 1, 1, 0), (2, .putfield 9, 1, 2), (5, .aload_n 0, 0, 0), (6, .iload_n 1, 1, 0), (7, .putfield 15, 1, 3), (10, .aload_n 0, 0, 0), (11, .iconst 0, 0, 0), (12, .putfield 18, 1, 4), (15, .aload_n 0, 0, 0), (16, .iconst 0, 0, 0), (17, .putfield 21, 1, 5), (20, .aload_n 0, 0, 0), (21, .iconst 0, 0, 0), (22, .putfield 24, 1, 6), (25, .aload_n 0, 0, 0), (26, .iconst 0, 0, 0), (27, .putfield 27, 1, 7), (30, .aload_n 0, 0, 0), (31, .iconst 0, 0, 0), (32, .putfield 30, 1, 8), (35, .aload_n 0, 0, 0), (36, .iconst 0, 0, 0), (37, .putfield 33, 1, 9), (40, .aload_n 0, 0, 0), (41, .iconst 0, 0, 0), (42, .putfield 36, 1, 10), (45, .return_, 0, 0)])]
/-- 6: PermitTree.askRoute -/
def aT_6 : List (Nat × List aE) := [
  (0, [(0, .aload_n 1, 1, 0), (1, .iconst 0, 0, 0), (2, .aload_n 1, 1, 0), (3, .getfield 69, 1, 6), (6, .invokestatic 189, 7, 2), (9, .putfield 143, 1, 7), (12, .aload_n 1, 1, 0), (13, .getfield 143, 1, 7), (16, .aload_n 1, 1, 0), (17, .getfield 198, 1, 8), (20, .iconst (-1), 0, 1), (21, .ixor, 0, 0), (22, .iand, 0, 0), (23, .istore_n 2, 2, 0), (24, .aload_n 1, 1, 0), (25, .dup, 0, 0), (26, .getfield 198, 1, 8), (29, .iload_n 2, 2, 0), (30, .ior, 0, 0), (31, .putfield 198, 1, 8), (34, .aload_n 0, 0, 0), (35, .iload_n 2, 2, 0), (36, .iconst 1, 1, 0), (37, .aload_n 1, 1, 0), (38, .iconst 0, 0, 0), (39, .invokevirtual 95, 10, 5), (42, .return_, 0, 0)])]
/-- 7: PermitTree.routeFrom -/
def aT_7 : List (Nat × List aE) := [
  (0, [(0, .iload_n 0, 0, 0), (1, .invokestatic 65, 8, 1), (4, .ifCond .ne 5, 9, 0), (7, .iconst 0, 0, 0), (8, .ireturn, 0, 0)]),
  (9, [(9, .iload_n 1, 1, 0), (10, .iload_n 0, 0, 0), (11, .invokestatic 72, 9, 2), (14, .istore_n 2, 2, 0), (15, .iload_n 0, 0, 0), (16, .bipush 7, 7, 0), (18, .if_icmp .lt 15, 33, 0), (21, .iload_n 2, 2, 0), (22, .ifCond .eq 7, 29, 0), (25, .iconst 0, 0, 0), (26, .goto 6, 32, 0)]),
  (29, [(29, .iconst 1, 1, 0), (30, .iload_n 0, 0, 0), (31, .ishl, 0, 0), (32, .ireturn, 0, 0)]),
  (32, [(32, .ireturn, 0, 0)]),
  (33, [(33, .iconst 2, 2, 0), (34, .iload_n 0, 0, 0), (35, .imul, 0, 0), (36, .iconst 1, 1, 0), (37, .iadd, 0, 0), (38, .iload_n 1, 1, 0), (39, .invokestatic 189, 7, 2), (42, .istore_n 3, 3, 0), (43, .iconst 2, 2, 0), (44, .iload_n 0, 0, 0), (45, .imul, 0, 0), (46, .iconst 2, 2, 0), (47, .iadd, 0, 0), (48, .iload_n 1, 1, 0), (49, .invokestatic 189, 7, 2), (52, .istore 4, 4, 0), (54, .iload_n 2, 2, 0), (55, .ifCond .eq 21, 76, 0), (58, .iload_n 3, 3, 0), (59, .ifCond .eq 8, 67, 0), (62, .iload 4, 4, 0), (64, .ifCond .ne 7, 71, 0), (67, .iconst 0, 0, 0), (68, .goto 7, 75, 0)]),
  (67, [(67, .iconst 0, 0, 0), (68, .goto 7, 75, 0)]),
  (71, [(71, .iload_n 3, 3, 0), (72, .iload 4, 4, 0), (74, .ior, 0, 0), (75, .ireturn, 0, 0)]),
  (75, [(75, .ireturn, 0, 0)]),
  (76, [(76, .iload_n 3, 3, 0), (77, .ifCond .eq 7, 84, 0), (80, .iload_n 3, 3, 0), (81, .goto 5, 86, 0)]),
  (84, [(84, .iload 4, 4, 0), (86, .istore 5, 5, 0), (88, .iload 5, 5, 0), (90, .ifCond .ne 7, 97, 0), (93, .iconst 0, 0, 0), (94, .goto 9, 103, 0)]),
  (86, [(86, .istore 5, 5, 0), (88, .iload 5, 5, 0), (90, .ifCond .ne 7, 97, 0), (93, .iconst 0, 0, 0), (94, .goto 9, 103, 0)]),
  (97, [(97, .iconst 1, 1, 0), (98, .iload_n 0, 0, 0), (99, .ishl, 0, 0), (100, .iload 5, 5, 0), (102, .ior, 0, 0), (103, .ireturn, 0, 0)]),
  (103, [(103, .ireturn, 0, 0)])]
/-- 8: PermitTree.isArbiter -/
def aT_8 : List (Nat × List aE) := [
  (0, [(0, .iload_n 0, 0, 0), (1, .ifCond .lt 13, 14, 0), (4, .iload_n 0, 0, 0), (5, .bipush 15, 15, 0), (7, .if_icmp .ge 7, 14, 0), (10, .iconst 1, 1, 0), (11, .goto 4, 15, 0)]),
  (14, [(14, .iconst 0, 0, 0), (15, .ireturn, 1, 0)]),
  (15, [(15, .ireturn, 1, 0)])]
/-- 9: PermitTree.hasBit -/
def aT_9 : List (Nat × List aE) := [
  (0, [(0, .iload_n 0, 0, 0), (1, .iload_n 1, 1, 0), (2, .ishr, 0, 0), (3, .iconst 1, 1, 0), (4, .iand, 0, 0), (5, .ifCond .eq 7, 12, 0), (8, .iconst 1, 1, 0), (9, .goto 4, 13, 0)]),
  (12, [(12, .iconst 0, 0, 0), (13, .ireturn, 1, 0)]),
  (13, [(13, .ireturn, 1, 0)])]
/-- 10: PermitTree.sendToEach -/
def aT_10 : List (Nat × List aE) := [
  (0, [(0, .iconst 0, 0, 0), (1, .istore 5, 5, 0), (3, .iload 5, 5, 0), (5, .bipush 15, 15, 0), (7, .if_icmp .ge 42, 49, 0), (10, .iload_n 1, 1, 0), (11, .iload 5, 5, 0), (13, .invokestatic 72, 9, 2), (16, .ifCond .eq 27, 43, 0), (19, .aload_n 0, 0, 0), (20, .getfield 12, 4, 0), (23, .iload_n 2, 2, 0), (24, .aload_n 3, 3, 0), (25, .getfield 192, 1, 0), (28, .aload_n 3, 3, 0), (29, .getfield 195, 1, 1), (32, .aload_n 3, 3, 0), (33, .getfield 62, 1, 3), (36, .iload 5, 5, 0), (38, .iload 4, 4, 0), (40, .invokevirtual 99, 11, 7), (43, .iinc 5 1, 5, 1), (46, .goto (-43), 3, 0)]),
  (3, [(3, .iload 5, 5, 0), (5, .bipush 15, 15, 0), (7, .if_icmp .ge 42, 49, 0), (10, .iload_n 1, 1, 0), (11, .iload 5, 5, 0), (13, .invokestatic 72, 9, 2), (16, .ifCond .eq 27, 43, 0), (19, .aload_n 0, 0, 0), (20, .getfield 12, 4, 0), (23, .iload_n 2, 2, 0), (24, .aload_n 3, 3, 0), (25, .getfield 192, 1, 0), (28, .aload_n 3, 3, 0), (29, .getfield 195, 1, 1), (32, .aload_n 3, 3, 0), (33, .getfield 62, 1, 3), (36, .iload 5, 5, 0), (38, .iload 4, 4, 0), (40, .invokevirtual 99, 11, 7), (43, .iinc 5 1, 5, 1), (46, .goto (-43), 3, 0)]),
  (43, [(43, .iinc 5 1, 5, 1), (46, .goto (-43), 3, 0)]),
  (49, [(49, .return_, 0, 0)])]
/-- 11: PermitTree$Post.send -/
def aT_11 : List (Nat × List aE) := [
  (0, [(0, .aload_n 0, 0, 0), (1, .getfield 15, 3, 1), (4, .sipush 240, 240, 0), (7, .if_icmp .ne 4, 11, 0), (10, .return_, 0, 0)]),
  (11, [(11, .aload_n 0, 0, 0), (12, .getfield 15, 3, 1), (15, .bipush 7, 7, 0), (17, .imul, 0, 0), (18, .istore 7, 7, 0), (20, .aload_n 0, 0, 0), (21, .getfield 11, 3, 0), (24, .iload 7, 7, 0), (26, .iconst 0, 0, 0), (27, .iadd, 0, 0), (28, .iload_n 1, 1, 0), (29, .iastore, 0, 0), (30, .aload_n 0, 0, 0), (31, .getfield 11, 3, 0), (34, .iload 7, 7, 0), (36, .iconst 1, 1, 0), (37, .iadd, 0, 0), (38, .iload_n 2, 2, 0), (39, .iastore, 0, 0), (40, .aload_n 0, 0, 0), (41, .getfield 11, 3, 0), (44, .iload 7, 7, 0), (46, .iconst 2, 2, 0), (47, .iadd, 0, 0), (48, .iload_n 3, 3, 0), (49, .iastore, 0, 0), (50, .aload_n 0, 0, 0), (51, .getfield 11, 3, 0), (54, .iload 7, 7, 0), (56, .iconst 3, 3, 0), (57, .iadd, 0, 0), (58, .iload 4, 4, 0), (60, .iastore, 0, 0), (61, .aload_n 0, 0, 0), (62, .getfield 11, 3, 0), (65, .iload 7, 7, 0), (67, .iconst 4, 4, 0), (68, .iadd, 0, 0), (69, .iload 5, 5, 0), (71, .iastore, 0, 0), (72, .aload_n 0, 0, 0), (73, .getfield 11, 3, 0), (76, .iload 7, 7, 0), (78, .iconst 5, 5, 0), (79, .iadd, 0, 0), (80, .iload 6, 6, 0), (82, .iastore, 0, 0), (83, .aload_n 0, 0, 0), (84, .getfield 11, 3, 0), (87, .iload 7, 7, 0), (89, .bipush 6, 6, 0), (91, .iadd, 0, 0), (92, .iconst 0, 0, 0), (93, .iastore, 0, 0), (94, .aload_n 0, 0, 0), (95, .dup, 0, 0), (96, .getfield 15, 3, 1), (99, .iconst 1, 1, 0), (100, .iadd, 0, 0), (101, .putfield 15, 3, 1), (104, .return_, 0, 0)])]
/-- 12: PermitTree.timeout -/
def aT_12 : List (Nat × List aE) := [
  (0, [(0, .aload_n 0, 0, 0), (1, .iload_n 1, 1, 0), (2, .iload_n 2, 2, 0), (3, .invokevirtual 47, 1, 3), (6, .astore 4, 4, 0), (8, .aload 4, 4, 0), (10, .ifnull 10, 20, 0), (13, .iload_n 3, 3, 0), (14, .invokestatic 65, 8, 1), (17, .ifCond .ne 5, 22, 0), (20, .iconst 0, 0, 0), (21, .ireturn, 1, 0)]),
  (20, [(20, .iconst 0, 0, 0), (21, .ireturn, 1, 0)]),
  (22, [(22, .aload 4, 4, 0), (24, .getfield 51, 1, 2), (27, .iconst 1, 1, 0), (28, .if_icmp .ne 15, 43, 0), (31, .aload 4, 4, 0), (33, .getfield 69, 1, 6), (36, .iload_n 3, 3, 0), (37, .invokestatic 72, 9, 2), (40, .ifCond .eq 5, 45, 0), (43, .iconst 0, 0, 0), (44, .ireturn, 1, 0)]),
  (43, [(43, .iconst 0, 0, 0), (44, .ireturn, 1, 0)]),
  (45, [(45, .aload 4, 4, 0), (47, .dup, 0, 0), (48, .getfield 69, 1, 6), (51, .iconst 1, 1, 0), (52, .iload_n 3, 3, 0), (53, .ishl, 0, 0), (54, .ior, 0, 0), (55, .putfield 69, 1, 6), (58, .aload_n 0, 0, 0), (59, .aload 4, 4, 0), (61, .invokevirtual 58, 6, 2), (64, .aload_n 0, 0, 0), (65, .aload 4, 4, 0), (67, .invokevirtual 76, 13, 2), (70, .iconst 1, 1, 0), (71, .ireturn, 1, 0)])]
/-- 13: PermitTree.writeIfVoted -/
def aT_13 : List (Nat × List aE) := [
  (0, [(0, .aload_n 1, 1, 0), (1, .getfield 143, 1, 7), (4, .ifCond .eq 17, 21, 0), (7, .aload_n 1, 1, 0), (8, .getfield 143, 1, 7), (11, .aload_n 1, 1, 0), (12, .getfield 146, 1, 9), (15, .iconst (-1), 0, 1), (16, .ixor, 0, 0), (17, .iand, 0, 0), (18, .ifCond .eq 4, 22, 0), (21, .return_, 0, 0)]),
  (21, [(21, .return_, 0, 0)]),
  (22, [(22, .aload_n 1, 1, 0), (23, .iconst 2, 2, 0), (24, .putfield 51, 1, 2), (27, .aload_n 1, 1, 0), (28, .aload_n 1, 1, 0), (29, .getfield 201, 1, 5), (32, .iconst 1, 1, 0), (33, .iadd, 0, 0), (34, .putfield 92, 1, 4), (37, .aload_n 0, 0, 0), (38, .aload_n 1, 1, 0), (39, .getfield 143, 1, 7), (42, .iconst 3, 3, 0), (43, .aload_n 1, 1, 0), (44, .aload_n 1, 1, 0), (45, .getfield 92, 1, 4), (48, .invokevirtual 95, 10, 5), (51, .return_, 0, 0)])]
/-- 14: PermitTree.giveUp -/
def aT_14 : List (Nat × List aE) := [
  (0, [(0, .aload_n 0, 0, 0), (1, .iload_n 1, 1, 0), (2, .iload_n 2, 2, 0), (3, .invokevirtual 47, 1, 3), (6, .astore_n 3, 3, 0), (7, .aload_n 3, 3, 0), (8, .ifnull 19, 27, 0), (11, .aload_n 3, 3, 0), (12, .getfield 51, 1, 2), (15, .iconst 1, 1, 0), (16, .if_icmp .eq 13, 29, 0), (19, .aload_n 3, 3, 0), (20, .getfield 51, 1, 2), (23, .iconst 2, 2, 0), (24, .if_icmp .eq 5, 29, 0), (27, .iconst 0, 0, 0), (28, .ireturn, 1, 0)]),
  (27, [(27, .iconst 0, 0, 0), (28, .ireturn, 1, 0)]),
  (29, [(29, .aload_n 0, 0, 0), (30, .aload_n 3, 3, 0), (31, .invokevirtual 79, 15, 2), (34, .iconst 1, 1, 0), (35, .ireturn, 1, 0)])]
/-- 15: PermitTree.endRun -/
def aT_15 : List (Nat × List aE) := [
  (0, [(0, .aload_n 0, 0, 0), (1, .aload_n 1, 1, 0), (2, .getfield 198, 1, 8), (5, .iconst 5, 5, 0), (6, .aload_n 1, 1, 0), (7, .iconst 0, 0, 0), (8, .invokevirtual 95, 10, 5), (11, .aload_n 1, 1, 0), (12, .iconst 0, 0, 0), (13, .putfield 51, 1, 2), (16, .return_, 0, 0)])]
/-- 16: PermitTree.release -/
def aT_16 : List (Nat × List aE) := [
  (0, [(0, .aload_n 0, 0, 0), (1, .iload_n 1, 1, 0), (2, .iload_n 2, 2, 0), (3, .invokevirtual 47, 1, 3), (6, .astore_n 3, 3, 0), (7, .aload_n 3, 3, 0), (8, .ifnull 10, 18, 0), (11, .aload_n 3, 3, 0), (12, .invokevirtual 82, 17, 1), (15, .ifCond .ne 5, 20, 0), (18, .iconst 0, 0, 0), (19, .ireturn, 1, 0)]),
  (18, [(18, .iconst 0, 0, 0), (19, .ireturn, 1, 0)]),
  (20, [(20, .aload_n 0, 0, 0), (21, .aload_n 3, 3, 0), (22, .invokevirtual 79, 15, 2), (25, .iconst 1, 1, 0), (26, .ireturn, 1, 0)])]
/-- 17: PermitTree$Bid.isHolding -/
def aT_17 : List (Nat × List aE) := [
  (0, [(0, .aload_n 0, 0, 0), (1, .getfield 9, 1, 2), (4, .iconst 3, 3, 0), (5, .if_icmp .eq 11, 16, 0), (8, .aload_n 0, 0, 0), (9, .getfield 9, 1, 2), (12, .iconst 4, 4, 0), (13, .if_icmp .ne 7, 20, 0), (16, .iconst 1, 1, 0), (17, .goto 4, 21, 0)]),
  (16, [(16, .iconst 1, 1, 0), (17, .goto 4, 21, 0)]),
  (20, [(20, .iconst 0, 0, 0), (21, .ireturn, 1, 0)]),
  (21, [(21, .ireturn, 1, 0)])]
/-- 18: PermitTree.breakPermit -/
def aT_18 : List (Nat × List aE) := [
  (0, [(0, .iload_n 1, 1, 0), (1, .invokestatic 86, 3, 1), (4, .ifCond .ne 5, 9, 0), (7, .iconst (-1), 0, 1), (8, .ireturn, 0, 0)]),
  (9, [(9, .iconst 0, 0, 0), (10, .istore_n 3, 3, 0), (11, .iload_n 3, 3, 0), (12, .bipush 8, 8, 0), (14, .if_icmp .ge 73, 87, 0), (17, .aload_n 0, 0, 0), (18, .iload_n 3, 3, 0), (19, .iload_n 1, 1, 0), (20, .invokevirtual 89, 4, 3), (23, .astore 4, 4, 0), (25, .aload 4, 4, 0), (27, .getfield 51, 1, 2), (30, .iconst 3, 3, 0), (31, .if_icmp .ne 50, 81, 0), (34, .aload 4, 4, 0), (36, .getfield 92, 1, 4), (39, .iload_n 2, 2, 0), (40, .if_icmp .ne 41, 81, 0), (43, .aload 4, 4, 0), (45, .iconst 4, 4, 0), (46, .putfield 51, 1, 2), (49, .aload_n 0, 0, 0), (50, .sipush 32767, 32767, 0), (53, .bipush 6, 6, 0), (55, .aload 4, 4, 0), (57, .iload_n 2, 2, 0), (58, .invokevirtual 95, 10, 5), (61, .aload_n 0, 0, 0), (62, .getfield 12, 4, 0), (65, .bipush 7, 7, 0), (67, .iload_n 3, 3, 0), (68, .iload_n 1, 1, 0), (69, .aload 4, 4, 0), (71, .getfield 62, 1, 3), (74, .iconst (-1), 0, 1), (75, .iload_n 2, 2, 0), (76, .invokevirtual 99, 11, 7), (79, .iload_n 3, 3, 0), (80, .ireturn, 0, 0)]),
  (11, [(11, .iload_n 3, 3, 0), (12, .bipush 8, 8, 0), (14, .if_icmp .ge 73, 87, 0), (17, .aload_n 0, 0, 0), (18, .iload_n 3, 3, 0), (19, .iload_n 1, 1, 0), (20, .invokevirtual 89, 4, 3), (23, .astore 4, 4, 0), (25, .aload 4, 4, 0), (27, .getfield 51, 1, 2), (30, .iconst 3, 3, 0), (31, .if_icmp .ne 50, 81, 0), (34, .aload 4, 4, 0), (36, .getfield 92, 1, 4), (39, .iload_n 2, 2, 0), (40, .if_icmp .ne 41, 81, 0), (43, .aload 4, 4, 0), (45, .iconst 4, 4, 0), (46, .putfield 51, 1, 2), (49, .aload_n 0, 0, 0), (50, .sipush 32767, 32767, 0), (53, .bipush 6, 6, 0), (55, .aload 4, 4, 0), (57, .iload_n 2, 2, 0), (58, .invokevirtual 95, 10, 5), (61, .aload_n 0, 0, 0), (62, .getfield 12, 4, 0), (65, .bipush 7, 7, 0), (67, .iload_n 3, 3, 0), (68, .iload_n 1, 1, 0), (69, .aload 4, 4, 0), (71, .getfield 62, 1, 3), (74, .iconst (-1), 0, 1), (75, .iload_n 2, 2, 0), (76, .invokevirtual 99, 11, 7), (79, .iload_n 3, 3, 0), (80, .ireturn, 0, 0)]),
  (81, [(81, .iinc 3 1, 3, 1), (84, .goto (-73), 11, 0)]),
  (87, [(87, .iconst (-1), 0, 1), (88, .ireturn, 0, 0)])]
/-- 19: PermitTree.order -/
def aT_19 : List (Nat × List aE) := [
  (0, [(0, .aload_n 0, 0, 0), (1, .iload_n 1, 1, 0), (2, .iload_n 2, 2, 0), (3, .invokevirtual 47, 1, 3), (6, .astore 4, 4, 0), (8, .aload 4, 4, 0), (10, .ifnull 11, 21, 0), (13, .aload 4, 4, 0), (15, .invokevirtual 82, 17, 1), (18, .ifCond .ne 5, 23, 0), (21, .iconst 0, 0, 0), (22, .ireturn, 1, 0)]),
  (21, [(21, .iconst 0, 0, 0), (22, .ireturn, 1, 0)]),
  (23, [(23, .aload_n 0, 0, 0), (24, .getfield 12, 4, 0), (27, .iload_n 1, 1, 0), (28, .iload_n 2, 2, 0), (29, .aload 4, 4, 0), (31, .getfield 62, 1, 3), (34, .aload 4, 4, 0), (36, .getfield 92, 1, 4), (39, .iload_n 3, 3, 0), (40, .invokevirtual 103, 20, 6), (43, .iconst 1, 1, 0), (44, .ireturn, 1, 0)])]
/-- 20: PermitTree$Post.sendOrder -/
def aT_20 : List (Nat × List aE) := [
  (0, [(0, .aload_n 0, 0, 0), (1, .getfield 15, 3, 1), (4, .sipush 240, 240, 0), (7, .if_icmp .ne 4, 11, 0), (10, .return_, 0, 0)]),
  (11, [(11, .aload_n 0, 0, 0), (12, .bipush 8, 8, 0), (14, .iload_n 1, 1, 0), (15, .iload_n 2, 2, 0), (16, .iload_n 3, 3, 0), (17, .iconst (-1), 0, 1), (18, .iload 4, 4, 0), (20, .invokevirtual 19, 11, 7), (23, .aload_n 0, 0, 0), (24, .getfield 11, 3, 0), (27, .aload_n 0, 0, 0), (28, .getfield 15, 3, 1), (31, .iconst 1, 1, 0), (32, .isub, 0, 0), (33, .bipush 7, 7, 0), (35, .imul, 0, 0), (36, .bipush 6, 6, 0), (38, .iadd, 0, 0), (39, .iload 5, 5, 0), (41, .iastore, 0, 0), (42, .return_, 0, 0)])]
/-- 21: PermitTree.stop -/
def aT_21 : List (Nat × List aE) := [
  (0, [(0, .iload_n 1, 1, 0), (1, .invokestatic 65, 8, 1), (4, .ifCond .eq 14, 18, 0), (7, .aload_n 0, 0, 0), (8, .getfield 43, 4, 5), (11, .iload_n 1, 1, 0), (12, .invokestatic 72, 9, 2), (15, .ifCond .eq 5, 20, 0), (18, .iconst 0, 0, 0), (19, .ireturn, 1, 0)]),
  (18, [(18, .iconst 0, 0, 0), (19, .ireturn, 1, 0)]),
  (20, [(20, .aload_n 0, 0, 0), (21, .dup, 0, 0), (22, .getfield 43, 4, 5), (25, .iconst 1, 1, 0), (26, .iload_n 1, 1, 0), (27, .ishl, 0, 0), (28, .ior, 0, 0), (29, .putfield 43, 4, 5), (32, .iconst 1, 1, 0), (33, .ireturn, 1, 0)])]
/-- 22: PermitTree.start -/
def aT_22 : List (Nat × List aE) := [
  (0, [(0, .iload_n 1, 1, 0), (1, .invokestatic 65, 8, 1), (4, .ifCond .eq 14, 18, 0), (7, .aload_n 0, 0, 0), (8, .getfield 43, 4, 5), (11, .iload_n 1, 1, 0), (12, .invokestatic 72, 9, 2), (15, .ifCond .ne 5, 20, 0), (18, .iconst 0, 0, 0), (19, .ireturn, 1, 0)]),
  (18, [(18, .iconst 0, 0, 0), (19, .ireturn, 1, 0)]),
  (20, [(20, .aload_n 0, 0, 0), (21, .dup, 0, 0), (22, .getfield 43, 4, 5), (25, .iconst 1, 1, 0), (26, .iload_n 1, 1, 0), (27, .ishl, 0, 0), (28, .iconst (-1), 0, 1), (29, .ixor, 0, 0), (30, .iand, 0, 0), (31, .putfield 43, 4, 5), (34, .iconst 1, 1, 0), (35, .ireturn, 1, 0)])]
/-- 23: PermitTree.letters -/
def aT_23 : List (Nat × List aE) := [
  (0, [(0, .aload_n 0, 0, 0), (1, .getfield 12, 4, 0), (4, .getfield 107, 3, 1), (7, .ireturn, 0, 0)])]
/-- 24: PermitTree.letter -/
def aT_24 : List (Nat × List aE) := [
  (0, [(0, .aload_n 0, 0, 0), (1, .getfield 12, 4, 0), (4, .iload_n 1, 1, 0), (5, .invokevirtual 110, 25, 2), (8, .ifCond .eq 12, 20, 0), (11, .iload_n 2, 2, 0), (12, .ifCond .lt 8, 20, 0), (15, .iload_n 2, 2, 0), (16, .iconst 5, 5, 0), (17, .if_icmp .le 5, 22, 0), (20, .iconst (-1), 0, 1), (21, .ireturn, 0, 0)]),
  (20, [(20, .iconst (-1), 0, 1), (21, .ireturn, 0, 0)]),
  (22, [(22, .aload_n 0, 0, 0), (23, .getfield 12, 4, 0), (26, .iload_n 1, 1, 0), (27, .iload_n 2, 2, 0), (28, .invokevirtual 113, 26, 3), (31, .ireturn, 0, 0)])]
/-- 25: PermitTree$Post.has -/
def aT_25 : List (Nat × List aE) := [
  (0, [(0, .iload_n 1, 1, 0), (1, .ifCond .lt 15, 16, 0), (4, .iload_n 1, 1, 0), (5, .aload_n 0, 0, 0), (6, .getfield 15, 3, 1), (9, .if_icmp .ge 7, 16, 0), (12, .iconst 1, 1, 0), (13, .goto 4, 17, 0)]),
  (16, [(16, .iconst 0, 0, 0), (17, .ireturn, 1, 0)]),
  (17, [(17, .ireturn, 1, 0)])]
/-- 26: PermitTree$Post.read -/
def aT_26 : List (Nat × List aE) := [
  (0, [(0, .aload_n 0, 0, 0), (1, .getfield 11, 3, 0), (4, .iload_n 1, 1, 0), (5, .bipush 7, 7, 0), (7, .imul, 0, 0), (8, .iload_n 2, 2, 0), (9, .iadd, 0, 0), (10, .iaload, 0, 0), (11, .ireturn, 0, 0)])]
/-- 27: PermitTree.deliver -/
def aT_27 : List (Nat × List aE) := [
  (0, [(0, .aload_n 0, 0, 0), (1, .getfield 12, 4, 0), (4, .iload_n 1, 1, 0), (5, .invokevirtual 110, 25, 2), (8, .ifCond .ne 5, 13, 0), (11, .iconst 0, 0, 0), (12, .ireturn, 1, 0)]),
  (13, [(13, .aload_n 0, 0, 0), (14, .getfield 12, 4, 0), (17, .iload_n 1, 1, 0), (18, .iconst 0, 0, 0), (19, .invokevirtual 113, 26, 3), (22, .istore_n 2, 2, 0), (23, .aload_n 0, 0, 0), (24, .getfield 12, 4, 0), (27, .iload_n 1, 1, 0), (28, .iconst 1, 1, 0), (29, .invokevirtual 113, 26, 3), (32, .istore_n 3, 3, 0), (33, .aload_n 0, 0, 0), (34, .getfield 12, 4, 0), (37, .iload_n 1, 1, 0), (38, .iconst 2, 2, 0), (39, .invokevirtual 113, 26, 3), (42, .istore 4, 4, 0), (44, .aload_n 0, 0, 0), (45, .getfield 12, 4, 0), (48, .iload_n 1, 1, 0), (49, .iconst 3, 3, 0), (50, .invokevirtual 113, 26, 3), (53, .istore 5, 5, 0), (55, .aload_n 0, 0, 0), (56, .getfield 12, 4, 0), (59, .iload_n 1, 1, 0), (60, .iconst 4, 4, 0), (61, .invokevirtual 113, 26, 3), (64, .istore 6, 6, 0), (66, .aload_n 0, 0, 0), (67, .getfield 12, 4, 0), (70, .iload_n 1, 1, 0), (71, .iconst 5, 5, 0), (72, .invokevirtual 113, 26, 3), (75, .istore 7, 7, 0), (77, .aload_n 0, 0, 0), (78, .getfield 12, 4, 0), (81, .iload_n 1, 1, 0), (82, .bipush 6, 6, 0), (84, .invokevirtual 113, 26, 3), (87, .istore 8, 8, 0), (89, .aload_n 0, 0, 0), (90, .getfield 12, 4, 0), (93, .iload_n 1, 1, 0), (94, .invokevirtual 117, 28, 2), (97, .iload_n 2, 2, 0), (98, .iconst 2, 2, 0), (99, .if_icmp .ne 23, 122, 0), (102, .aload_n 0, 0, 0), (103, .aload_n 0, 0, 0), (104, .iload_n 3, 3, 0), (105, .iload 4, 4, 0), (107, .invokevirtual 89, 4, 3), (110, .iload 5, 5, 0), (112, .iload 6, 6, 0), (114, .iload 7, 7, 0), (116, .invokevirtual 120, 29, 5), (119, .goto 99, 218, 0)]),
  (122, [(122, .iload_n 2, 2, 0), (123, .iconst 4, 4, 0), (124, .if_icmp .ne 21, 145, 0), (127, .aload_n 0, 0, 0), (128, .aload_n 0, 0, 0), (129, .iload_n 3, 3, 0), (130, .iload 4, 4, 0), (132, .invokevirtual 89, 4, 3), (135, .iload 5, 5, 0), (137, .iload 6, 6, 0), (139, .invokevirtual 124, 31, 4), (142, .goto 76, 218, 0)]),
  (145, [(145, .iload_n 2, 2, 0), (146, .bipush 8, 8, 0), (148, .if_icmp .ne 20, 168, 0), (151, .aload_n 0, 0, 0), (152, .getfield 34, 4, 3), (155, .iload 4, 4, 0), (157, .aaload, 0, 0), (158, .iload 7, 7, 0), (160, .iload 8, 8, 0), (162, .invokevirtual 128, 32, 3), (165, .goto 53, 218, 0)]),
  (168, [(168, .iload_n 2, 2, 0), (169, .bipush 7, 7, 0), (171, .if_icmp .ne 18, 189, 0), (174, .aload_n 0, 0, 0), (175, .getfield 34, 4, 3), (178, .iload 4, 4, 0), (180, .aaload, 0, 0), (181, .iload 7, 7, 0), (183, .invokevirtual 131, 34, 2), (186, .goto 32, 218, 0)]),
  (189, [(189, .aload_n 0, 0, 0), (190, .getfield 43, 4, 5), (193, .iload 6, 6, 0), (195, .invokestatic 72, 9, 2), (198, .ifCond .ne 20, 218, 0), (201, .aload_n 0, 0, 0), (202, .iload_n 2, 2, 0), (203, .iload 6, 6, 0), (205, .iload 4, 4, 0), (207, .iload_n 3, 3, 0), (208, .iload 5, 5, 0), (210, .invokestatic 134, 35, 2), (213, .iload 7, 7, 0), (215, .invokevirtual 137, 36, 6), (218, .iconst 1, 1, 0), (219, .ireturn, 1, 0)]),
  (218, [(218, .iconst 1, 1, 0), (219, .ireturn, 1, 0)])]
/-- 28: PermitTree$Post.remove -/
def aT_28 : List (Nat × List aE) := [
  (0, [(0, .aload_n 0, 0, 0), (1, .dup, 0, 0), (2, .getfield 15, 3, 1), (5, .iconst 1, 1, 0), (6, .isub, 0, 0), (7, .putfield 15, 3, 1), (10, .aload_n 0, 0, 0), (11, .getfield 11, 3, 0), (14, .iload_n 1, 1, 0), (15, .iconst 1, 1, 0), (16, .iadd, 0, 0), (17, .bipush 7, 7, 0), (19, .imul, 0, 0), (20, .aload_n 0, 0, 0), (21, .getfield 11, 3, 0), (24, .iload_n 1, 1, 0), (25, .bipush 7, 7, 0), (27, .imul, 0, 0), (28, .aload_n 0, 0, 0), (29, .getfield 15, 3, 1), (32, .iload_n 1, 1, 0), (33, .isub, 0, 0), (34, .bipush 7, 7, 0), (36, .imul, 0, 0), (37, .invokestatic 23, 1001, 5), (40, .return_, 0, 0)])]
/-- 29: PermitTree.takeVote -/
def aT_29 : List (Nat × List aE) := [
  (0, [(0, .aload_n 1, 1, 0), (1, .iload_n 2, 2, 0), (2, .invokevirtual 204, 30, 2), (5, .ifCond .ne 25, 30, 0), (8, .aload_n 0, 0, 0), (9, .getfield 12, 4, 0), (12, .iconst 5, 5, 0), (13, .aload_n 1, 1, 0), (14, .getfield 192, 1, 0), (17, .aload_n 1, 1, 0), (18, .getfield 195, 1, 1), (21, .iload_n 2, 2, 0), (22, .iload_n 3, 3, 0), (23, .iconst 0, 0, 0), (24, .invokevirtual 99, 11, 7), (27, .goto 41, 68, 0)]),
  (30, [(30, .aload_n 1, 1, 0), (31, .getfield 51, 1, 2), (34, .iconst 1, 1, 0), (35, .if_icmp .ne 33, 68, 0), (38, .aload_n 1, 1, 0), (39, .dup, 0, 0), (40, .getfield 146, 1, 9), (43, .iconst 1, 1, 0), (44, .iload_n 3, 3, 0), (45, .ishl, 0, 0), (46, .ior, 0, 0), (47, .putfield 146, 1, 9), (50, .aload_n 1, 1, 0), (51, .aload_n 1, 1, 0), (52, .getfield 201, 1, 5), (55, .iload 4, 4, 0), (57, .invokestatic 207, 1000, 2), (60, .putfield 201, 1, 5), (63, .aload_n 0, 0, 0), (64, .aload_n 1, 1, 0), (65, .invokevirtual 76, 13, 2), (68, .return_, 0, 0)]),
  (68, [(68, .return_, 0, 0)])]
/-- 30: PermitTree$Bid.isIn -/
def aT_30 : List (Nat × List aE) := [
  (0, [(0, .aload_n 0, 0, 0), (1, .getfield 9, 1, 2), (4, .ifCond .eq 15, 19, 0), (7, .aload_n 0, 0, 0), (8, .getfield 15, 1, 3), (11, .iload_n 1, 1, 0), (12, .if_icmp .ne 7, 19, 0), (15, .iconst 1, 1, 0), (16, .goto 4, 20, 0)]),
  (19, [(19, .iconst 0, 0, 0), (20, .ireturn, 1, 0)]),
  (20, [(20, .ireturn, 1, 0)])]
/-- 31: PermitTree.takeStored -/
def aT_31 : List (Nat × List aE) := [
  (0, [(0, .aload_n 1, 1, 0), (1, .iload_n 2, 2, 0), (2, .invokevirtual 204, 30, 2), (5, .ifCond .eq 22, 27, 0), (8, .aload_n 1, 1, 0), (9, .getfield 51, 1, 2), (12, .iconst 2, 2, 0), (13, .if_icmp .ne 14, 27, 0), (16, .aload_n 1, 1, 0), (17, .getfield 143, 1, 7), (20, .iload_n 3, 3, 0), (21, .invokestatic 72, 9, 2), (24, .ifCond .ne 4, 28, 0), (27, .return_, 0, 0)]),
  (27, [(27, .return_, 0, 0)]),
  (28, [(28, .aload_n 1, 1, 0), (29, .dup, 0, 0), (30, .getfield 212, 1, 10), (33, .iconst 1, 1, 0), (34, .iload_n 3, 3, 0), (35, .ishl, 0, 0), (36, .ior, 0, 0), (37, .putfield 212, 1, 10), (40, .aload_n 1, 1, 0), (41, .getfield 212, 1, 10), (44, .aload_n 1, 1, 0), (45, .getfield 143, 1, 7), (48, .if_icmp .ne 8, 56, 0), (51, .aload_n 1, 1, 0), (52, .iconst 3, 3, 0), (53, .putfield 51, 1, 2), (56, .return_, 0, 0)]),
  (56, [(56, .return_, 0, 0)])]
/-- 32: PermitTree$Log.obey -/
def aT_32 : List (Nat × List aE) := [
  (0, [(0, .iload_n 1, 1, 0), (1, .aload_n 0, 0, 0), (2, .getfield 7, 2, 0), (5, .if_icmp .lt 11, 16, 0), (8, .iload_n 1, 1, 0), (9, .aload_n 0, 0, 0), (10, .getfield 13, 2, 1), (13, .if_icmp .gt 4, 17, 0), (16, .return_, 0, 0)]),
  (16, [(16, .return_, 0, 0)]),
  (17, [(17, .aload_n 0, 0, 0), (18, .getfield 16, 2, 2), (21, .bipush 64, 64, 0), (23, .invokestatic 26, 33, 2), (26, .istore_n 3, 3, 0), (27, .aload_n 0, 0, 0), (28, .getfield 19, 2, 3), (31, .iload_n 3, 3, 0), (32, .iload_n 1, 1, 0), (33, .iastore, 0, 0), (34, .aload_n 0, 0, 0), (35, .getfield 23, 2, 4), (38, .iload_n 3, 3, 0), (39, .iload_n 2, 2, 0), (40, .iastore, 0, 0), (41, .aload_n 0, 0, 0), (42, .dup, 0, 0), (43, .getfield 16, 2, 2), (46, .iconst 1, 1, 0), (47, .iadd, 0, 0), (48, .putfield 16, 2, 2), (51, .aload_n 0, 0, 0), (52, .iload_n 1, 1, 0), (53, .putfield 7, 2, 0), (56, .return_, 0, 0)])]
/-- 33: java/lang/Math.floorMod -/
def aT_33 : List (Nat × List aE) := [
  (0, [(0, .iload_n 0, 0, 0), (1, .iload_n 1, 1, 0), (2, .irem, 0, 0), (3, .istore_n 2, 2, 0), (4, .iload_n 0, 0, 0), (5, .iload_n 1, 1, 0), (6, .ixor, 0, 0), (7, .ifCond .ge 11, 18, 0), (10, .iload_n 2, 2, 0), (11, .ifCond .eq 7, 18, 0), (14, .iload_n 2, 2, 0), (15, .iload_n 1, 1, 0), (16, .iadd, 0, 0), (17, .ireturn, 0, 0)]),
  (18, [(18, .iload_n 2, 2, 0), (19, .ireturn, 0, 0)])]
/-- 34: PermitTree$Log.hearBroken -/
def aT_34 : List (Nat × List aE) := [
  (0, [(0, .aload_n 0, 0, 0), (1, .aload_n 0, 0, 0), (2, .getfield 13, 2, 1), (5, .iload_n 1, 1, 0), (6, .invokestatic 32, 1000, 2), (9, .putfield 13, 2, 1), (12, .aload_n 0, 0, 0), (13, .aload_n 0, 0, 0), (14, .getfield 7, 2, 0), (17, .iload_n 1, 1, 0), (18, .invokestatic 32, 1000, 2), (21, .putfield 7, 2, 0), (24, .return_, 0, 0)])]
/-- 35: PermitTree$Ballot.claimOf -/
def aT_35 : List (Nat × List aE) := [
  (0, [(0, .iload_n 1, 1, 0), (1, .bipush 8, 8, 0), (3, .imul, 0, 0), (4, .iload_n 0, 0, 0), (5, .iadd, 0, 0), (6, .ireturn, 0, 0)])]
/-- 36: PermitTree.reachArbiter -/
def aT_36 : List (Nat × List aE) := [
  (0, [(0, .aload_n 0, 0, 0), (1, .iload_n 2, 2, 0), (2, .iload_n 3, 3, 0), (3, .invokevirtual 149, 37, 3), (6, .astore 6, 6, 0), (8, .iload_n 1, 1, 0), (9, .iconst 1, 1, 0), (10, .if_icmp .ne 22, 32, 0), (13, .aload 6, 6, 0), (15, .iload 4, 4, 0), (17, .invokevirtual 213, 38, 2), (20, .ifCond .eq 82, 102, 0), (23, .aload_n 0, 0, 0), (24, .iload_n 2, 2, 0), (25, .iload_n 3, 3, 0), (26, .invokevirtual 216, 40, 3), (29, .goto 73, 102, 0)]),
  (32, [(32, .iload_n 1, 1, 0), (33, .iconst 3, 3, 0), (34, .if_icmp .ne 52, 86, 0), (37, .aload 6, 6, 0), (39, .getfield 153, 0, 0), (42, .iload 4, 4, 0), (44, .if_icmp .ne 58, 102, 0), (47, .aload 6, 6, 0), (49, .aload 6, 6, 0), (51, .getfield 163, 0, 1), (54, .iload 5, 5, 0), (56, .invokestatic 207, 1000, 2), (59, .putfield 163, 0, 1), (62, .aload_n 0, 0, 0), (63, .getfield 12, 4, 0), (66, .iconst 4, 4, 0), (67, .iload 4, 4, 0), (69, .invokestatic 156, 41, 1), (72, .iload_n 3, 3, 0), (73, .iload 4, 4, 0), (75, .invokestatic 160, 42, 1), (78, .iload_n 2, 2, 0), (79, .iconst 0, 0, 0), (80, .invokevirtual 99, 11, 7), (83, .goto 19, 102, 0)]),
  (86, [(86, .aload 6, 6, 0), (88, .iload 4, 4, 0), (90, .invokevirtual 219, 44, 2), (93, .ifCond .eq 9, 102, 0), (96, .aload_n 0, 0, 0), (97, .iload_n 2, 2, 0), (98, .iload_n 3, 3, 0), (99, .invokevirtual 216, 40, 3), (102, .return_, 0, 0)]),
  (102, [(102, .return_, 0, 0)])]
/-- 37: PermitTree.ballotOf -/
def aT_37 : List (Nat × List aE) := [
  (0, [(0, .aload_n 0, 0, 0), (1, .getfield 27, 4, 2), (4, .iload_n 1, 1, 0), (5, .iconst 4, 4, 0), (6, .imul, 0, 0), (7, .iload_n 2, 2, 0), (8, .iadd, 0, 0), (9, .aaload, 0, 0), (10, .areturn, 0, 0)])]
/-- 38: the method of PermitTree$Ballot that word 305 of the tables names -/
def aT_38 : List (Nat × List aE) := [
  (0, [(0, .aload_n 0, 0, 0), (1, .getfield 11, 0, 0), (4, .ifCond .ne 10, 14, 0), (7, .aload_n 0, 0, 0), (8, .iload_n 1, 1, 0), (9, .putfield 11, 0, 0), (12, .iconst 1, 1, 0), (13, .ireturn, 1, 0)]),
  (14, [(14, .aload_n 0, 0, 0), (15, .getfield 11, 0, 0), (18, .iload_n 1, 1, 0), (19, .if_icmp .eq 41, 60, 0), (22, .aload_n 0, 0, 0), (23, .iload_n 1, 1, 0), (24, .invokevirtual 34, 39, 2), (27, .iconst (-1), 0, 1), (28, .if_icmp .ne 32, 60, 0), (31, .aload_n 0, 0, 0), (32, .getfield 18, 0, 2), (35, .bipush 16, 16, 0), (37, .if_icmp .ge 23, 60, 0), (40, .aload_n 0, 0, 0), (41, .getfield 21, 0, 3), (44, .aload_n 0, 0, 0), (45, .getfield 18, 0, 2), (48, .iload_n 1, 1, 0), (49, .iastore, 0, 0), (50, .aload_n 0, 0, 0), (51, .dup, 0, 0), (52, .getfield 18, 0, 2), (55, .iconst 1, 1, 0), (56, .iadd, 0, 0), (57, .putfield 18, 0, 2), (60, .iconst 0, 0, 0), (61, .ireturn, 1, 0)]),
  (60, [(60, .iconst 0, 0, 0), (61, .ireturn, 1, 0)])]
/-- 39: PermitTree$Ballot.placeOf -/
def aT_39 : List (Nat × List aE) := [
  (0, [(0, .iconst 0, 0, 0), (1, .istore_n 2, 2, 0), (2, .iload_n 2, 2, 0), (3, .aload_n 0, 0, 0), (4, .getfield 18, 0, 2), (7, .if_icmp .ge 21, 28, 0), (10, .aload_n 0, 0, 0), (11, .getfield 21, 0, 3), (14, .iload_n 2, 2, 0), (15, .iaload, 0, 0), (16, .iload_n 1, 1, 0), (17, .if_icmp .ne 5, 22, 0), (20, .iload_n 2, 2, 0), (21, .ireturn, 0, 0)]),
  (2, [(2, .iload_n 2, 2, 0), (3, .aload_n 0, 0, 0), (4, .getfield 18, 0, 2), (7, .if_icmp .ge 21, 28, 0), (10, .aload_n 0, 0, 0), (11, .getfield 21, 0, 3), (14, .iload_n 2, 2, 0), (15, .iaload, 0, 0), (16, .iload_n 1, 1, 0), (17, .if_icmp .ne 5, 22, 0), (20, .iload_n 2, 2, 0), (21, .ireturn, 0, 0)]),
  (22, [(22, .iinc 2 1, 2, 1), (25, .goto (-23), 2, 0)]),
  (28, [(28, .iconst (-1), 0, 1), (29, .ireturn, 0, 0)])]
/-- 40: PermitTree.sendVote -/
def aT_40 : List (Nat × List aE) := [
  (0, [(0, .aload_n 0, 0, 0), (1, .iload_n 1, 1, 0), (2, .iload_n 2, 2, 0), (3, .invokevirtual 149, 37, 3), (6, .astore_n 3, 3, 0), (7, .aload_n 3, 3, 0), (8, .getfield 153, 0, 0), (11, .invokestatic 156, 41, 1), (14, .istore 4, 4, 0), (16, .aload_n 0, 0, 0), (17, .getfield 12, 4, 0), (20, .iconst 2, 2, 0), (21, .iload 4, 4, 0), (23, .iload_n 2, 2, 0), (24, .aload_n 3, 3, 0), (25, .getfield 153, 0, 0), (28, .invokestatic 160, 42, 1), (31, .iload_n 1, 1, 0), (32, .aload_n 3, 3, 0), (33, .getfield 163, 0, 1), (36, .invokevirtual 99, 11, 7), (39, .return_, 0, 0)])]
/-- 41: PermitTree$Ballot.clientOf -/
def aT_41 : List (Nat × List aE) := [
  (0, [(0, .iload_n 0, 0, 0), (1, .ifCond .ne 7, 8, 0), (4, .iconst (-1), 0, 1), (5, .goto 9, 14, 0)]),
  (8, [(8, .iload_n 0, 0, 0), (9, .bipush 8, 8, 0), (11, .invokestatic 25, 33, 2), (14, .ireturn, 0, 0)]),
  (14, [(14, .ireturn, 0, 0)])]
/-- 42: PermitTree$Ballot.runOf -/
def aT_42 : List (Nat × List aE) := [
  (0, [(0, .iload_n 0, 0, 0), (1, .ifCond .ne 7, 8, 0), (4, .iconst (-1), 0, 1), (5, .goto 9, 14, 0)]),
  (8, [(8, .iload_n 0, 0, 0), (9, .bipush 8, 8, 0), (11, .invokestatic 31, 43, 2), (14, .ireturn, 0, 0)]),
  (14, [(14, .ireturn, 0, 0)])]
/-- 43: java/lang/Math.floorDiv -/
def aT_43 : List (Nat × List aE) := [
  (0, [(0, .iload_n 0, 0, 0), (1, .iload_n 1, 1, 0), (2, .idiv, 0, 0), (3, .istore_n 2, 2, 0), (4, .iload_n 0, 0, 0), (5, .iload_n 1, 1, 0), (6, .ixor, 0, 0), (7, .ifCond .ge 14, 21, 0), (10, .iload_n 2, 2, 0), (11, .iload_n 1, 1, 0), (12, .imul, 0, 0), (13, .iload_n 0, 0, 0), (14, .if_icmp .eq 7, 21, 0), (17, .iload_n 2, 2, 0), (18, .iconst 1, 1, 0), (19, .isub, 0, 0), (20, .ireturn, 0, 0)]),
  (21, [(21, .iload_n 2, 2, 0), (22, .ireturn, 0, 0)])]
/-- 44: PermitTree$Ballot.withdraw -/
def aT_44 : List (Nat × List aE) := [
  (0, [(0, .aload_n 0, 0, 0), (1, .getfield 11, 0, 0), (4, .iload_n 1, 1, 0), (5, .if_icmp .eq 14, 19, 0), (8, .aload_n 0, 0, 0), (9, .aload_n 0, 0, 0), (10, .iload_n 1, 1, 0), (11, .invokevirtual 34, 39, 2), (14, .invokevirtual 38, 45, 2), (17, .iconst 0, 0, 0), (18, .ireturn, 1, 0)]),
  (19, [(19, .aload_n 0, 0, 0), (20, .aload_n 0, 0, 0), (21, .invokevirtual 42, 46, 1), (24, .putfield 11, 0, 0), (27, .aload_n 0, 0, 0), (28, .iconst 0, 0, 0), (29, .invokevirtual 38, 45, 2), (32, .aload_n 0, 0, 0), (33, .getfield 11, 0, 0), (36, .ifCond .eq 7, 43, 0), (39, .iconst 1, 1, 0), (40, .goto 4, 44, 0)]),
  (43, [(43, .iconst 0, 0, 0), (44, .ireturn, 1, 0)]),
  (44, [(44, .ireturn, 1, 0)])]
/-- 45: PermitTree$Ballot.leaveRow -/
def aT_45 : List (Nat × List aE) := [
  (0, [(0, .iload_n 1, 1, 0), (1, .ifCond .lt 11, 12, 0), (4, .iload_n 1, 1, 0), (5, .aload_n 0, 0, 0), (6, .getfield 18, 0, 2), (9, .if_icmp .lt 4, 13, 0), (12, .return_, 0, 0)]),
  (12, [(12, .return_, 0, 0)]),
  (13, [(13, .aload_n 0, 0, 0), (14, .dup, 0, 0), (15, .getfield 18, 0, 2), (18, .iconst 1, 1, 0), (19, .isub, 0, 0), (20, .putfield 18, 0, 2), (23, .aload_n 0, 0, 0), (24, .getfield 21, 0, 3), (27, .iload_n 1, 1, 0), (28, .iconst 1, 1, 0), (29, .iadd, 0, 0), (30, .aload_n 0, 0, 0), (31, .getfield 21, 0, 3), (34, .iload_n 1, 1, 0), (35, .aload_n 0, 0, 0), (36, .getfield 18, 0, 2), (39, .iload_n 1, 1, 0), (40, .isub, 0, 0), (41, .invokestatic 46, 1001, 5), (44, .return_, 0, 0)])]
/-- 46: PermitTree$Ballot.firstWaiting -/
def aT_46 : List (Nat × List aE) := [
  (0, [(0, .aload_n 0, 0, 0), (1, .getfield 18, 0, 2), (4, .ifCond .ne 7, 11, 0), (7, .iconst 0, 0, 0), (8, .goto 9, 17, 0)]),
  (11, [(11, .aload_n 0, 0, 0), (12, .getfield 21, 0, 3), (15, .iconst 0, 0, 0), (16, .iaload, 0, 0), (17, .ireturn, 0, 0)]),
  (17, [(17, .ireturn, 0, 0)])]
/-- 47: PermitTree.drop -/
def aT_47 : List (Nat × List aE) := [
  (0, [(0, .aload_n 0, 0, 0), (1, .getfield 12, 4, 0), (4, .iload_n 1, 1, 0), (5, .invokevirtual 110, 25, 2), (8, .ifCond .ne 5, 13, 0), (11, .iconst 0, 0, 0), (12, .ireturn, 1, 0)]),
  (13, [(13, .aload_n 0, 0, 0), (14, .getfield 12, 4, 0), (17, .iload_n 1, 1, 0), (18, .invokevirtual 117, 28, 2), (21, .iconst 1, 1, 0), (22, .ireturn, 1, 0)])]
/-- 48: PermitTree.copy -/
def aT_48 : List (Nat × List aE) := [
  (0, [(0, .aload_n 0, 0, 0), (1, .getfield 12, 4, 0), (4, .iload_n 1, 1, 0), (5, .invokevirtual 110, 25, 2), (8, .ifCond .eq 18, 26, 0), (11, .aload_n 0, 0, 0), (12, .getfield 12, 4, 0), (15, .iload_n 1, 1, 0), (16, .invokevirtual 140, 49, 2), (19, .ifCond .eq 7, 26, 0), (22, .iconst 1, 1, 0), (23, .goto 4, 27, 0)]),
  (26, [(26, .iconst 0, 0, 0), (27, .ireturn, 1, 0)]),
  (27, [(27, .ireturn, 1, 0)])]
/-- 49: PermitTree$Post.repeat -/
def aT_49 : List (Nat × List aE) := [
  (0, [(0, .aload_n 0, 0, 0), (1, .getfield 15, 3, 1), (4, .sipush 240, 240, 0), (7, .if_icmp .ne 5, 12, 0), (10, .iconst 0, 0, 0), (11, .ireturn, 1, 0)]),
  (12, [(12, .aload_n 0, 0, 0), (13, .getfield 11, 3, 0), (16, .iload_n 1, 1, 0), (17, .bipush 7, 7, 0), (19, .imul, 0, 0), (20, .aload_n 0, 0, 0), (21, .getfield 11, 3, 0), (24, .aload_n 0, 0, 0), (25, .getfield 15, 3, 1), (28, .bipush 7, 7, 0), (30, .imul, 0, 0), (31, .bipush 7, 7, 0), (33, .invokestatic 23, 1001, 5), (36, .aload_n 0, 0, 0), (37, .dup, 0, 0), (38, .getfield 15, 3, 1), (41, .iconst 1, 1, 0), (42, .iadd, 0, 0), (43, .putfield 15, 3, 1), (46, .iconst 1, 1, 0), (47, .ireturn, 1, 0)])]
/-- 50: PermitTree.state -/
def aT_50 : List (Nat × List aE) := [
  (0, [(0, .aload_n 0, 0, 0), (1, .iload_n 1, 1, 0), (2, .iload_n 2, 2, 0), (3, .invokevirtual 47, 1, 3), (6, .astore_n 3, 3, 0), (7, .aload_n 3, 3, 0), (8, .ifnonnull 7, 15, 0), (11, .iconst (-1), 0, 1), (12, .goto 7, 19, 0)]),
  (15, [(15, .aload_n 3, 3, 0), (16, .getfield 51, 1, 2), (19, .ireturn, 0, 0)]),
  (19, [(19, .ireturn, 0, 0)])]
/-- 51: PermitTree.permit -/
def aT_51 : List (Nat × List aE) := [
  (0, [(0, .aload_n 0, 0, 0), (1, .iload_n 1, 1, 0), (2, .iload_n 2, 2, 0), (3, .invokevirtual 47, 1, 3), (6, .astore_n 3, 3, 0), (7, .aload_n 3, 3, 0), (8, .ifnull 10, 18, 0), (11, .aload_n 3, 3, 0), (12, .invokevirtual 82, 17, 1), (15, .ifCond .ne 7, 22, 0), (18, .iconst 0, 0, 0), (19, .goto 7, 26, 0)]),
  (18, [(18, .iconst 0, 0, 0), (19, .goto 7, 26, 0)]),
  (22, [(22, .aload_n 3, 3, 0), (23, .getfield 92, 1, 4), (26, .ireturn, 0, 0)]),
  (26, [(26, .ireturn, 0, 0)])]
/-- 52: PermitTree.quorumOf -/
def aT_52 : List (Nat × List aE) := [
  (0, [(0, .aload_n 0, 0, 0), (1, .iload_n 1, 1, 0), (2, .iload_n 2, 2, 0), (3, .invokevirtual 47, 1, 3), (6, .astore_n 3, 3, 0), (7, .aload_n 3, 3, 0), (8, .ifnull 10, 18, 0), (11, .aload_n 3, 3, 0), (12, .getfield 51, 1, 2), (15, .ifCond .ne 5, 20, 0), (18, .iconst 0, 0, 0), (19, .ireturn, 0, 0)]),
  (18, [(18, .iconst 0, 0, 0), (19, .ireturn, 0, 0)]),
  (20, [(20, .aload_n 3, 3, 0), (21, .getfield 51, 1, 2), (24, .iconst 1, 1, 0), (25, .if_icmp .ne 15, 40, 0), (28, .aload_n 3, 3, 0), (29, .getfield 143, 1, 7), (32, .aload_n 3, 3, 0), (33, .getfield 146, 1, 9), (36, .iand, 0, 0), (37, .goto 7, 44, 0)]),
  (40, [(40, .aload_n 3, 3, 0), (41, .getfield 143, 1, 7), (44, .ireturn, 0, 0)]),
  (44, [(44, .ireturn, 0, 0)])]
/-- 53: PermitTree.vote -/
def aT_53 : List (Nat × List aE) := [
  (0, [(0, .iload_n 1, 1, 0), (1, .invokestatic 65, 8, 1), (4, .ifCond .eq 10, 14, 0), (7, .iload_n 2, 2, 0), (8, .invokestatic 86, 3, 1), (11, .ifCond .ne 5, 16, 0), (14, .iconst (-1), 0, 1), (15, .ireturn, 0, 0)]),
  (14, [(14, .iconst (-1), 0, 1), (15, .ireturn, 0, 0)]),
  (16, [(16, .aload_n 0, 0, 0), (17, .iload_n 1, 1, 0), (18, .iload_n 2, 2, 0), (19, .invokevirtual 149, 37, 3), (22, .astore 4, 4, 0), (24, .iload_n 3, 3, 0), (25, .tableswitch 74 0 4 #[35, 44, 53, 59, 65], 0, 0)]),
  (60, [(60, .aload 4, 4, 0), (62, .getfield 153, 0, 0), (65, .invokestatic 156, 41, 1), (68, .ireturn, 0, 0)]),
  (69, [(69, .aload 4, 4, 0), (71, .getfield 153, 0, 0), (74, .invokestatic 160, 42, 1), (77, .ireturn, 0, 0)]),
  (78, [(78, .aload 4, 4, 0), (80, .getfield 163, 0, 1), (83, .ireturn, 0, 0)]),
  (84, [(84, .aload 4, 4, 0), (86, .getfield 166, 0, 2), (89, .ireturn, 0, 0)]),
  (90, [(90, .aload 4, 4, 0), (92, .invokevirtual 169, 46, 1), (95, .invokestatic 156, 41, 1), (98, .ireturn, 0, 0)]),
  (99, [(99, .iconst (-1), 0, 1), (100, .ireturn, 0, 0)])]
/-- 54: PermitTree.orders -/
def aT_54 : List (Nat × List aE) := [
  (0, [(0, .iload_n 1, 1, 0), (1, .invokestatic 86, 3, 1), (4, .ifCond .eq 15, 19, 0), (7, .aload_n 0, 0, 0), (8, .getfield 34, 4, 3), (11, .iload_n 1, 1, 0), (12, .aaload, 0, 0), (13, .getfield 173, 2, 2), (16, .goto 4, 20, 0)]),
  (19, [(19, .iconst (-1), 0, 1), (20, .ireturn, 0, 0)]),
  (20, [(20, .ireturn, 0, 0)])]
/-- 55: PermitTree.done -/
def aT_55 : List (Nat × List aE) := [
  (0, [(0, .iload_n 1, 1, 0), (1, .invokestatic 86, 3, 1), (4, .ifCond .eq 16, 20, 0), (7, .aload_n 0, 0, 0), (8, .getfield 34, 4, 3), (11, .iload_n 1, 1, 0), (12, .aaload, 0, 0), (13, .iload_n 2, 2, 0), (14, .invokevirtual 174, 56, 2), (17, .ifCond .ne 5, 22, 0), (20, .iconst (-1), 0, 1), (21, .ireturn, 0, 0)]),
  (20, [(20, .iconst (-1), 0, 1), (21, .ireturn, 0, 0)]),
  (22, [(22, .iload_n 3, 3, 0), (23, .ifCond .ne 14, 37, 0), (26, .aload_n 0, 0, 0), (27, .getfield 34, 4, 3), (30, .iload_n 1, 1, 0), (31, .aaload, 0, 0), (32, .iload_n 2, 2, 0), (33, .invokevirtual 177, 57, 2), (36, .ireturn, 0, 0)]),
  (37, [(37, .iload_n 3, 3, 0), (38, .iconst 1, 1, 0), (39, .if_icmp .ne 16, 55, 0), (42, .aload_n 0, 0, 0), (43, .getfield 34, 4, 3), (46, .iload_n 1, 1, 0), (47, .aaload, 0, 0), (48, .iload_n 2, 2, 0), (49, .invokevirtual 180, 58, 2), (52, .goto 4, 56, 0)]),
  (55, [(55, .iconst (-1), 0, 1), (56, .ireturn, 0, 0)]),
  (56, [(56, .ireturn, 0, 0)])]
/-- 56: PermitTree$Log.keeps -/
def aT_56 : List (Nat × List aE) := [
  (0, [(0, .iload_n 1, 1, 0), (1, .ifCond .lt 26, 27, 0), (4, .iload_n 1, 1, 0), (5, .aload_n 0, 0, 0), (6, .getfield 16, 2, 2), (9, .if_icmp .ge 18, 27, 0), (12, .iload_n 1, 1, 0), (13, .aload_n 0, 0, 0), (14, .getfield 16, 2, 2), (17, .bipush 64, 64, 0), (19, .isub, 0, 0), (20, .if_icmp .lt 7, 27, 0), (23, .iconst 1, 1, 0), (24, .goto 4, 28, 0)]),
  (27, [(27, .iconst 0, 0, 0), (28, .ireturn, 1, 0)]),
  (28, [(28, .ireturn, 1, 0)])]
/-- 57: PermitTree$Log.numberAt -/
def aT_57 : List (Nat × List aE) := [
  (0, [(0, .aload_n 0, 0, 0), (1, .getfield 19, 2, 3), (4, .iload_n 1, 1, 0), (5, .bipush 64, 64, 0), (7, .irem, 0, 0), (8, .iaload, 0, 0), (9, .ireturn, 0, 0)])]
/-- 58: PermitTree$Log.codeAt -/
def aT_58 : List (Nat × List aE) := [
  (0, [(0, .aload_n 0, 0, 0), (1, .getfield 23, 2, 4), (4, .iload_n 1, 1, 0), (5, .bipush 64, 64, 0), (7, .irem, 0, 0), (8, .iaload, 0, 0), (9, .ireturn, 0, 0)])]
/-- 59: PermitTree.highest -/
def aT_59 : List (Nat × List aE) := [
  (0, [(0, .iload_n 1, 1, 0), (1, .invokestatic 86, 3, 1), (4, .ifCond .eq 15, 19, 0), (7, .aload_n 0, 0, 0), (8, .getfield 34, 4, 3), (11, .iload_n 1, 1, 0), (12, .aaload, 0, 0), (13, .getfield 183, 2, 0), (16, .goto 4, 20, 0)]),
  (19, [(19, .iconst (-1), 0, 1), (20, .ireturn, 0, 0)]),
  (20, [(20, .ireturn, 0, 0)])]
/-- 60: PermitTreeModel.want -/
def aT_60 : List (Nat × List aE) := [
  (0, [(0, .aload_n 0, 0, 0), (1, .iconst 0, 0, 0), (2, .putfield 80, 5, 0), (5, .iload_n 1, 1, 0), (6, .iload_n 2, 2, 0), (7, .invokestatic 103, 61, 2), (10, .ifCond .eq 16, 26, 0), (13, .aload_n 0, 0, 0), (14, .getfield 17, 5, 3), (17, .iconst 4, 4, 0), (18, .iload_n 1, 1, 0), (19, .imul, 0, 0), (20, .iload_n 2, 2, 0), (21, .iadd, 0, 0), (22, .iaload, 0, 0), (23, .ifCond .eq 5, 28, 0), (26, .iconst (-1), 0, 1), (27, .ireturn, 0, 0)]),
  (26, [(26, .iconst (-1), 0, 1), (27, .ireturn, 0, 0)]),
  (28, [(28, .iconst 4, 4, 0), (29, .iload_n 1, 1, 0), (30, .imul, 0, 0), (31, .iload_n 2, 2, 0), (32, .iadd, 0, 0), (33, .istore_n 3, 3, 0), (34, .aload_n 0, 0, 0), (35, .getfield 13, 5, 2), (38, .iload_n 1, 1, 0), (39, .dup2, 0, 0), (40, .iaload, 0, 0), (41, .iconst 1, 1, 0), (42, .iadd, 0, 0), (43, .iastore, 0, 0), (44, .aload_n 0, 0, 0), (45, .getfield 20, 5, 4), (48, .iload_n 3, 3, 0), (49, .aload_n 0, 0, 0), (50, .getfield 13, 5, 2), (53, .iload_n 1, 1, 0), (54, .iaload, 0, 0), (55, .iastore, 0, 0), (56, .aload_n 0, 0, 0), (57, .getfield 17, 5, 3), (60, .iload_n 3, 3, 0), (61, .iconst 1, 1, 0), (62, .iastore, 0, 0), (63, .aload_n 0, 0, 0), (64, .getfield 23, 5, 5), (67, .iload_n 3, 3, 0), (68, .iconst 0, 0, 0), (69, .iastore, 0, 0), (70, .aload_n 0, 0, 0), (71, .getfield 26, 5, 6), (74, .iload_n 3, 3, 0), (75, .iconst 0, 0, 0), (76, .iastore, 0, 0), (77, .aload_n 0, 0, 0), (78, .getfield 29, 5, 7), (81, .iload_n 3, 3, 0), (82, .iconst 0, 0, 0), (83, .iastore, 0, 0), (84, .aload_n 0, 0, 0), (85, .iload_n 3, 3, 0), (86, .invokevirtual 107, 62, 2), (89, .aload_n 0, 0, 0), (90, .getfield 20, 5, 4), (93, .iload_n 3, 3, 0), (94, .iaload, 0, 0), (95, .ireturn, 0, 0)])]
/-- 61: PermitTreeModel.isPair -/
def aT_61 : List (Nat × List aE) := [
  (0, [(0, .iload_n 0, 0, 0), (1, .ifCond .lt 22, 23, 0), (4, .iload_n 0, 0, 0), (5, .bipush 8, 8, 0), (7, .if_icmp .ge 16, 23, 0), (10, .iload_n 1, 1, 0), (11, .ifCond .lt 12, 23, 0), (14, .iload_n 1, 1, 0), (15, .iconst 4, 4, 0), (16, .if_icmp .ge 7, 23, 0), (19, .iconst 1, 1, 0), (20, .goto 4, 24, 0)]),
  (23, [(23, .iconst 0, 0, 0), (24, .ireturn, 1, 0)]),
  (24, [(24, .ireturn, 1, 0)])]
/-- 62: PermitTreeModel.asks -/
def aT_62 : List (Nat × List aE) := [
  (0, [(0, .aload_n 0, 0, 0), (1, .aload_n 0, 0, 0), (2, .getfield 23, 5, 5), (5, .iload_n 1, 1, 0), (6, .iaload, 0, 0), (7, .invokevirtual 91, 63, 2), (10, .istore_n 2, 2, 0), (11, .iload_n 2, 2, 0), (12, .iconst (-1), 0, 1), (13, .if_icmp .ne 4, 17, 0), (16, .return_, 0, 0)]),
  (17, [(17, .iload_n 2, 2, 0), (18, .aload_n 0, 0, 0), (19, .getfield 26, 5, 6), (22, .iload_n 1, 1, 0), (23, .iaload, 0, 0), (24, .iconst (-1), 0, 1), (25, .ixor, 0, 0), (26, .iand, 0, 0), (27, .istore_n 3, 3, 0), (28, .aload_n 0, 0, 0), (29, .getfield 26, 5, 6), (32, .iload_n 1, 1, 0), (33, .dup2, 0, 0), (34, .iaload, 0, 0), (35, .iload_n 3, 3, 0), (36, .ior, 0, 0), (37, .iastore, 0, 0), (38, .aload_n 0, 0, 0), (39, .iconst 1, 1, 0), (40, .iload_n 1, 1, 0), (41, .iload_n 3, 3, 0), (42, .iconst 0, 0, 0), (43, .invokevirtual 95, 64, 5), (46, .aload_n 0, 0, 0), (47, .iload_n 1, 1, 0), (48, .invokevirtual 99, 66, 2), (51, .return_, 0, 0)])]
/-- 63: PermitTreeModel.routeOf -/
def aT_63 : List (Nat × List aE) := [
  (0, [(0, .bipush 14, 14, 0), (2, .istore_n 2, 2, 0), (3, .iload_n 2, 2, 0), (4, .ifCond .lt 165, 169, 0), (7, .iload_n 1, 1, 0), (8, .iload_n 2, 2, 0), (9, .ishr, 0, 0), (10, .iconst 1, 1, 0), (11, .iand, 0, 0), (12, .iconst 1, 1, 0), (13, .if_icmp .ne 7, 20, 0), (16, .iconst 1, 1, 0), (17, .goto 4, 21, 0)]),
  (3, [(3, .iload_n 2, 2, 0), (4, .ifCond .lt 165, 169, 0), (7, .iload_n 1, 1, 0), (8, .iload_n 2, 2, 0), (9, .ishr, 0, 0), (10, .iconst 1, 1, 0), (11, .iand, 0, 0), (12, .iconst 1, 1, 0), (13, .if_icmp .ne 7, 20, 0), (16, .iconst 1, 1, 0), (17, .goto 4, 21, 0)]),
  (20, [(20, .iconst 0, 0, 0), (21, .istore_n 3, 3, 0), (22, .iload_n 2, 2, 0), (23, .bipush 7, 7, 0), (25, .if_icmp .ge 16, 41, 0), (28, .aload_n 0, 0, 0), (29, .getfield 77, 5, 24), (32, .iconst 2, 2, 0), (33, .iload_n 2, 2, 0), (34, .imul, 0, 0), (35, .iconst 1, 1, 0), (36, .iadd, 0, 0), (37, .iaload, 0, 0), (38, .goto 4, 42, 0)]),
  (21, [(21, .istore_n 3, 3, 0), (22, .iload_n 2, 2, 0), (23, .bipush 7, 7, 0), (25, .if_icmp .ge 16, 41, 0), (28, .aload_n 0, 0, 0), (29, .getfield 77, 5, 24), (32, .iconst 2, 2, 0), (33, .iload_n 2, 2, 0), (34, .imul, 0, 0), (35, .iconst 1, 1, 0), (36, .iadd, 0, 0), (37, .iaload, 0, 0), (38, .goto 4, 42, 0)]),
  (41, [(41, .iconst (-1), 0, 1), (42, .istore 4, 4, 0), (44, .iload_n 2, 2, 0), (45, .bipush 7, 7, 0), (47, .if_icmp .ge 16, 63, 0), (50, .aload_n 0, 0, 0), (51, .getfield 77, 5, 24), (54, .iconst 2, 2, 0), (55, .iload_n 2, 2, 0), (56, .imul, 0, 0), (57, .iconst 2, 2, 0), (58, .iadd, 0, 0), (59, .iaload, 0, 0), (60, .goto 4, 64, 0)]),
  (42, [(42, .istore 4, 4, 0), (44, .iload_n 2, 2, 0), (45, .bipush 7, 7, 0), (47, .if_icmp .ge 16, 63, 0), (50, .aload_n 0, 0, 0), (51, .getfield 77, 5, 24), (54, .iconst 2, 2, 0), (55, .iload_n 2, 2, 0), (56, .imul, 0, 0), (57, .iconst 2, 2, 0), (58, .iadd, 0, 0), (59, .iaload, 0, 0), (60, .goto 4, 64, 0)]),
  (63, [(63, .iconst (-1), 0, 1), (64, .istore 5, 5, 0), (66, .iload_n 2, 2, 0), (67, .bipush 6, 6, 0), (69, .if_icmp .le 23, 92, 0), (72, .aload_n 0, 0, 0), (73, .getfield 77, 5, 24), (76, .iload_n 2, 2, 0), (77, .iload_n 3, 3, 0), (78, .ifCond .eq 7, 85, 0), (81, .iconst (-1), 0, 1), (82, .goto 6, 88, 0)]),
  (64, [(64, .istore 5, 5, 0), (66, .iload_n 2, 2, 0), (67, .bipush 6, 6, 0), (69, .if_icmp .le 23, 92, 0), (72, .aload_n 0, 0, 0), (73, .getfield 77, 5, 24), (76, .iload_n 2, 2, 0), (77, .iload_n 3, 3, 0), (78, .ifCond .eq 7, 85, 0), (81, .iconst (-1), 0, 1), (82, .goto 6, 88, 0)]),
  (85, [(85, .iconst 1, 1, 0), (86, .iload_n 2, 2, 0), (87, .ishl, 0, 0), (88, .iastore, 0, 0), (89, .goto 74, 163, 0)]),
  (88, [(88, .iastore, 0, 0), (89, .goto 74, 163, 0)]),
  (92, [(92, .iload_n 3, 3, 0), (93, .ifCond .eq 33, 126, 0), (96, .aload_n 0, 0, 0), (97, .getfield 77, 5, 24), (100, .iload_n 2, 2, 0), (101, .iload 4, 4, 0), (103, .iconst (-1), 0, 1), (104, .if_icmp .eq 9, 113, 0), (107, .iload 5, 5, 0), (109, .iconst (-1), 0, 1), (110, .if_icmp .ne 7, 117, 0), (113, .iconst (-1), 0, 1), (114, .goto 8, 122, 0)]),
  (113, [(113, .iconst (-1), 0, 1), (114, .goto 8, 122, 0)]),
  (117, [(117, .iload 4, 4, 0), (119, .iload 5, 5, 0), (121, .ior, 0, 0), (122, .iastore, 0, 0), (123, .goto 40, 163, 0)]),
  (122, [(122, .iastore, 0, 0), (123, .goto 40, 163, 0)]),
  (126, [(126, .aload_n 0, 0, 0), (127, .getfield 77, 5, 24), (130, .iload_n 2, 2, 0), (131, .iload 4, 4, 0), (133, .iconst (-1), 0, 1), (134, .if_icmp .eq 12, 146, 0), (137, .iconst 1, 1, 0), (138, .iload_n 2, 2, 0), (139, .ishl, 0, 0), (140, .iload 4, 4, 0), (142, .ior, 0, 0), (143, .goto 19, 162, 0)]),
  (146, [(146, .iload 5, 5, 0), (148, .iconst (-1), 0, 1), (149, .if_icmp .eq 12, 161, 0), (152, .iconst 1, 1, 0), (153, .iload_n 2, 2, 0), (154, .ishl, 0, 0), (155, .iload 5, 5, 0), (157, .ior, 0, 0), (158, .goto 4, 162, 0)]),
  (161, [(161, .iconst (-1), 0, 1), (162, .iastore, 0, 0), (163, .iinc 2 (-1), 2, 0), (166, .goto (-163), 3, 0)]),
  (162, [(162, .iastore, 0, 0), (163, .iinc 2 (-1), 2, 0), (166, .goto (-163), 3, 0)]),
  (163, [(163, .iinc 2 (-1), 2, 0), (166, .goto (-163), 3, 0)]),
  (169, [(169, .aload_n 0, 0, 0), (170, .getfield 77, 5, 24), (173, .iconst 0, 0, 0), (174, .iaload, 0, 0), (175, .ireturn, 0, 0)])]
/-- 64: PermitTreeModel.sendAll -/
def aT_64 : List (Nat × List aE) := [
  (0, [(0, .iconst 0, 0, 0), (1, .istore 5, 5, 0), (3, .iload 5, 5, 0), (5, .bipush 15, 15, 0), (7, .if_icmp .ge 41, 48, 0), (10, .iload_n 3, 3, 0), (11, .iload 5, 5, 0), (13, .ishr, 0, 0), (14, .iconst 1, 1, 0), (15, .iand, 0, 0), (16, .iconst 1, 1, 0), (17, .if_icmp .ne 25, 42, 0), (20, .aload_n 0, 0, 0), (21, .iload_n 1, 1, 0), (22, .iload_n 2, 2, 0), (23, .iconst 4, 4, 0), (24, .idiv, 0, 0), (25, .iload_n 2, 2, 0), (26, .iconst 4, 4, 0), (27, .irem, 0, 0), (28, .aload_n 0, 0, 0), (29, .getfield 20, 5, 4), (32, .iload_n 2, 2, 0), (33, .iaload, 0, 0), (34, .iload 5, 5, 0), (36, .iload 4, 4, 0), (38, .iconst 0, 0, 0), (39, .invokevirtual 87, 65, 8), (42, .iinc 5 1, 5, 1), (45, .goto (-42), 3, 0)]),
  (3, [(3, .iload 5, 5, 0), (5, .bipush 15, 15, 0), (7, .if_icmp .ge 41, 48, 0), (10, .iload_n 3, 3, 0), (11, .iload 5, 5, 0), (13, .ishr, 0, 0), (14, .iconst 1, 1, 0), (15, .iand, 0, 0), (16, .iconst 1, 1, 0), (17, .if_icmp .ne 25, 42, 0), (20, .aload_n 0, 0, 0), (21, .iload_n 1, 1, 0), (22, .iload_n 2, 2, 0), (23, .iconst 4, 4, 0), (24, .idiv, 0, 0), (25, .iload_n 2, 2, 0), (26, .iconst 4, 4, 0), (27, .irem, 0, 0), (28, .aload_n 0, 0, 0), (29, .getfield 20, 5, 4), (32, .iload_n 2, 2, 0), (33, .iaload, 0, 0), (34, .iload 5, 5, 0), (36, .iload 4, 4, 0), (38, .iconst 0, 0, 0), (39, .invokevirtual 87, 65, 8), (42, .iinc 5 1, 5, 1), (45, .goto (-42), 3, 0)]),
  (42, [(42, .iinc 5 1, 5, 1), (45, .goto (-42), 3, 0)]),
  (48, [(48, .return_, 0, 0)])]
/-- 65: PermitTreeModel.send -/
def aT_65 : List (Nat × List aE) := [
  (0, [(0, .aload_n 0, 0, 0), (1, .getfield 84, 5, 21), (4, .sipush 240, 240, 0), (7, .if_icmp .ge 95, 102, 0), (10, .bipush 8, 8, 0), (12, .aload_n 0, 0, 0), (13, .getfield 84, 5, 21), (16, .imul, 0, 0), (17, .istore 8, 8, 0), (19, .aload_n 0, 0, 0), (20, .getfield 71, 5, 22), (23, .iload 8, 8, 0), (25, .iload_n 1, 1, 0), (26, .iastore, 0, 0), (27, .aload_n 0, 0, 0), (28, .getfield 71, 5, 22), (31, .iload 8, 8, 0), (33, .iconst 1, 1, 0), (34, .iadd, 0, 0), (35, .iload_n 2, 2, 0), (36, .iastore, 0, 0), (37, .aload_n 0, 0, 0), (38, .getfield 71, 5, 22), (41, .iload 8, 8, 0), (43, .iconst 2, 2, 0), (44, .iadd, 0, 0), (45, .iload_n 3, 3, 0), (46, .iastore, 0, 0), (47, .aload_n 0, 0, 0), (48, .getfield 71, 5, 22), (51, .iload 8, 8, 0), (53, .iconst 3, 3, 0), (54, .iadd, 0, 0), (55, .iload 4, 4, 0), (57, .iastore, 0, 0), (58, .aload_n 0, 0, 0), (59, .getfield 71, 5, 22), (62, .iload 8, 8, 0), (64, .iconst 4, 4, 0), (65, .iadd, 0, 0), (66, .iload 5, 5, 0), (68, .iastore, 0, 0), (69, .aload_n 0, 0, 0), (70, .getfield 71, 5, 22), (73, .iload 8, 8, 0), (75, .iconst 5, 5, 0), (76, .iadd, 0, 0), (77, .iload 6, 6, 0), (79, .iastore, 0, 0), (80, .aload_n 0, 0, 0), (81, .getfield 71, 5, 22), (84, .iload 8, 8, 0), (86, .bipush 6, 6, 0), (88, .iadd, 0, 0), (89, .iload 7, 7, 0), (91, .iastore, 0, 0), (92, .aload_n 0, 0, 0), (93, .dup, 0, 0), (94, .getfield 84, 5, 21), (97, .iconst 1, 1, 0), (98, .iadd, 0, 0), (99, .putfield 84, 5, 21), (102, .return_, 0, 0)]),
  (102, [(102, .return_, 0, 0)])]
/-- 66: PermitTreeModel.writes -/
def aT_66 : List (Nat × List aE) := [
  (0, [(0, .aload_n 0, 0, 0), (1, .aload_n 0, 0, 0), (2, .getfield 23, 5, 5), (5, .iload_n 1, 1, 0), (6, .iaload, 0, 0), (7, .invokevirtual 91, 63, 2), (10, .istore_n 2, 2, 0), (11, .iload_n 2, 2, 0), (12, .iconst (-1), 0, 1), (13, .if_icmp .eq 15, 28, 0), (16, .aload_n 0, 0, 0), (17, .getfield 29, 5, 7), (20, .iload_n 1, 1, 0), (21, .iaload, 0, 0), (22, .iload_n 2, 2, 0), (23, .iand, 0, 0), (24, .iload_n 2, 2, 0), (25, .if_icmp .eq 4, 29, 0), (28, .return_, 0, 0)]),
  (28, [(28, .return_, 0, 0)]),
  (29, [(29, .iconst 0, 0, 0), (30, .istore_n 3, 3, 0), (31, .iconst 0, 0, 0), (32, .istore 4, 4, 0), (34, .iload 4, 4, 0), (36, .bipush 15, 15, 0), (38, .if_icmp .ge 69, 107, 0), (41, .aload_n 0, 0, 0), (42, .getfield 29, 5, 7), (45, .iload_n 1, 1, 0), (46, .iaload, 0, 0), (47, .iload 4, 4, 0), (49, .ishr, 0, 0), (50, .iconst 1, 1, 0), (51, .iand, 0, 0), (52, .iconst 1, 1, 0), (53, .if_icmp .ne 7, 60, 0), (56, .iconst 1, 1, 0), (57, .goto 4, 61, 0)]),
  (34, [(34, .iload 4, 4, 0), (36, .bipush 15, 15, 0), (38, .if_icmp .ge 69, 107, 0), (41, .aload_n 0, 0, 0), (42, .getfield 29, 5, 7), (45, .iload_n 1, 1, 0), (46, .iaload, 0, 0), (47, .iload 4, 4, 0), (49, .ishr, 0, 0), (50, .iconst 1, 1, 0), (51, .iand, 0, 0), (52, .iconst 1, 1, 0), (53, .if_icmp .ne 7, 60, 0), (56, .iconst 1, 1, 0), (57, .goto 4, 61, 0)]),
  (60, [(60, .iconst 0, 0, 0), (61, .istore 5, 5, 0), (63, .iload 5, 5, 0), (65, .ifCond .eq 34, 99, 0), (68, .aload_n 0, 0, 0), (69, .getfield 41, 5, 11), (72, .bipush 15, 15, 0), (74, .iload_n 1, 1, 0), (75, .imul, 0, 0), (76, .iload 4, 4, 0), (78, .iadd, 0, 0), (79, .iaload, 0, 0), (80, .iload_n 3, 3, 0), (81, .if_icmp .le 18, 99, 0), (84, .aload_n 0, 0, 0), (85, .getfield 41, 5, 11), (88, .bipush 15, 15, 0), (90, .iload_n 1, 1, 0), (91, .imul, 0, 0), (92, .iload 4, 4, 0), (94, .iadd, 0, 0), (95, .iaload, 0, 0), (96, .goto 4, 100, 0)]),
  (61, [(61, .istore 5, 5, 0), (63, .iload 5, 5, 0), (65, .ifCond .eq 34, 99, 0), (68, .aload_n 0, 0, 0), (69, .getfield 41, 5, 11), (72, .bipush 15, 15, 0), (74, .iload_n 1, 1, 0), (75, .imul, 0, 0), (76, .iload 4, 4, 0), (78, .iadd, 0, 0), (79, .iaload, 0, 0), (80, .iload_n 3, 3, 0), (81, .if_icmp .le 18, 99, 0), (84, .aload_n 0, 0, 0), (85, .getfield 41, 5, 11), (88, .bipush 15, 15, 0), (90, .iload_n 1, 1, 0), (91, .imul, 0, 0), (92, .iload 4, 4, 0), (94, .iadd, 0, 0), (95, .iaload, 0, 0), (96, .goto 4, 100, 0)]),
  (99, [(99, .iload_n 3, 3, 0), (100, .istore_n 3, 3, 0), (101, .iinc 4 1, 4, 1), (104, .goto (-70), 34, 0)]),
  (100, [(100, .istore_n 3, 3, 0), (101, .iinc 4 1, 4, 1), (104, .goto (-70), 34, 0)]),
  (107, [(107, .aload_n 0, 0, 0), (108, .getfield 17, 5, 3), (111, .iload_n 1, 1, 0), (112, .iconst 2, 2, 0), (113, .iastore, 0, 0), (114, .aload_n 0, 0, 0), (115, .getfield 32, 5, 8), (118, .iload_n 1, 1, 0), (119, .iload_n 2, 2, 0), (120, .iastore, 0, 0), (121, .aload_n 0, 0, 0), (122, .getfield 35, 5, 9), (125, .iload_n 1, 1, 0), (126, .iconst 0, 0, 0), (127, .iastore, 0, 0), (128, .aload_n 0, 0, 0), (129, .getfield 38, 5, 10), (132, .iload_n 1, 1, 0), (133, .iload_n 3, 3, 0), (134, .iconst 1, 1, 0), (135, .iadd, 0, 0), (136, .iastore, 0, 0), (137, .aload_n 0, 0, 0), (138, .iconst 3, 3, 0), (139, .iload_n 1, 1, 0), (140, .iload_n 2, 2, 0), (141, .aload_n 0, 0, 0), (142, .getfield 38, 5, 10), (145, .iload_n 1, 1, 0), (146, .iaload, 0, 0), (147, .invokevirtual 95, 64, 5), (150, .return_, 0, 0)])]
/-- 67: PermitTreeModel.timeout -/
def aT_67 : List (Nat × List aE) := [
  (0, [(0, .aload_n 0, 0, 0), (1, .iconst 0, 0, 0), (2, .putfield 80, 5, 0), (5, .iload_n 1, 1, 0), (6, .iload_n 2, 2, 0), (7, .invokestatic 103, 61, 2), (10, .ifCond .eq 10, 20, 0), (13, .iload_n 3, 3, 0), (14, .invokestatic 110, 68, 1), (17, .ifCond .ne 5, 22, 0), (20, .iconst 0, 0, 0), (21, .ireturn, 1, 0)]),
  (20, [(20, .iconst 0, 0, 0), (21, .ireturn, 1, 0)]),
  (22, [(22, .iconst 4, 4, 0), (23, .iload_n 1, 1, 0), (24, .imul, 0, 0), (25, .iload_n 2, 2, 0), (26, .iadd, 0, 0), (27, .istore 4, 4, 0), (29, .aload_n 0, 0, 0), (30, .getfield 17, 5, 3), (33, .iload 4, 4, 0), (35, .iaload, 0, 0), (36, .iconst 1, 1, 0), (37, .if_icmp .ne 18, 55, 0), (40, .aload_n 0, 0, 0), (41, .getfield 23, 5, 5), (44, .iload 4, 4, 0), (46, .iaload, 0, 0), (47, .iload_n 3, 3, 0), (48, .ishr, 0, 0), (49, .iconst 1, 1, 0), (50, .iand, 0, 0), (51, .iconst 1, 1, 0), (52, .if_icmp .ne 5, 57, 0), (55, .iconst 0, 0, 0), (56, .ireturn, 1, 0)]),
  (55, [(55, .iconst 0, 0, 0), (56, .ireturn, 1, 0)]),
  (57, [(57, .aload_n 0, 0, 0), (58, .getfield 23, 5, 5), (61, .iload 4, 4, 0), (63, .dup2, 0, 0), (64, .iaload, 0, 0), (65, .iconst 1, 1, 0), (66, .iload_n 3, 3, 0), (67, .ishl, 0, 0), (68, .ior, 0, 0), (69, .iastore, 0, 0), (70, .aload_n 0, 0, 0), (71, .iload 4, 4, 0), (73, .invokevirtual 107, 62, 2), (76, .iconst 1, 1, 0), (77, .ireturn, 1, 0)])]
/-- 68: PermitTreeModel.isArbiter -/
def aT_68 : List (Nat × List aE) := [
  (0, [(0, .iload_n 0, 0, 0), (1, .ifCond .lt 13, 14, 0), (4, .iload_n 0, 0, 0), (5, .bipush 15, 15, 0), (7, .if_icmp .ge 7, 14, 0), (10, .iconst 1, 1, 0), (11, .goto 4, 15, 0)]),
  (14, [(14, .iconst 0, 0, 0), (15, .ireturn, 1, 0)]),
  (15, [(15, .ireturn, 1, 0)])]
/-- 69: PermitTreeModel.giveUp -/
def aT_69 : List (Nat × List aE) := [
  (0, [(0, .aload_n 0, 0, 0), (1, .iconst 0, 0, 0), (2, .putfield 80, 5, 0), (5, .iload_n 1, 1, 0), (6, .iload_n 2, 2, 0), (7, .invokestatic 103, 61, 2), (10, .ifCond .eq 31, 41, 0), (13, .aload_n 0, 0, 0), (14, .getfield 17, 5, 3), (17, .iconst 4, 4, 0), (18, .iload_n 1, 1, 0), (19, .imul, 0, 0), (20, .iload_n 2, 2, 0), (21, .iadd, 0, 0), (22, .iaload, 0, 0), (23, .iconst 1, 1, 0), (24, .if_icmp .lt 17, 41, 0), (27, .aload_n 0, 0, 0), (28, .getfield 17, 5, 3), (31, .iconst 4, 4, 0), (32, .iload_n 1, 1, 0), (33, .imul, 0, 0), (34, .iload_n 2, 2, 0), (35, .iadd, 0, 0), (36, .iaload, 0, 0), (37, .iconst 2, 2, 0), (38, .if_icmp .le 5, 43, 0), (41, .iconst 0, 0, 0), (42, .ireturn, 1, 0)]),
  (41, [(41, .iconst 0, 0, 0), (42, .ireturn, 1, 0)]),
  (43, [(43, .aload_n 0, 0, 0), (44, .iconst 4, 4, 0), (45, .iload_n 1, 1, 0), (46, .imul, 0, 0), (47, .iload_n 2, 2, 0), (48, .iadd, 0, 0), (49, .invokevirtual 114, 70, 2), (52, .iconst 1, 1, 0), (53, .ireturn, 1, 0)])]
/-- 70: PermitTreeModel.ends -/
def aT_70 : List (Nat × List aE) := [
  (0, [(0, .aload_n 0, 0, 0), (1, .iconst 5, 5, 0), (2, .iload_n 1, 1, 0), (3, .aload_n 0, 0, 0), (4, .getfield 26, 5, 6), (7, .iload_n 1, 1, 0), (8, .iaload, 0, 0), (9, .iconst 0, 0, 0), (10, .invokevirtual 95, 64, 5), (13, .aload_n 0, 0, 0), (14, .getfield 17, 5, 3), (17, .iload_n 1, 1, 0), (18, .iconst 0, 0, 0), (19, .iastore, 0, 0), (20, .return_, 0, 0)])]
/-- 71: PermitTreeModel.release -/
def aT_71 : List (Nat × List aE) := [
  (0, [(0, .aload_n 0, 0, 0), (1, .iconst 0, 0, 0), (2, .putfield 80, 5, 0), (5, .iload_n 1, 1, 0), (6, .iload_n 2, 2, 0), (7, .invokestatic 103, 61, 2), (10, .ifCond .eq 17, 27, 0), (13, .aload_n 0, 0, 0), (14, .getfield 17, 5, 3), (17, .iconst 4, 4, 0), (18, .iload_n 1, 1, 0), (19, .imul, 0, 0), (20, .iload_n 2, 2, 0), (21, .iadd, 0, 0), (22, .iaload, 0, 0), (23, .iconst 3, 3, 0), (24, .if_icmp .ge 5, 29, 0), (27, .iconst 0, 0, 0), (28, .ireturn, 1, 0)]),
  (27, [(27, .iconst 0, 0, 0), (28, .ireturn, 1, 0)]),
  (29, [(29, .aload_n 0, 0, 0), (30, .iconst 4, 4, 0), (31, .iload_n 1, 1, 0), (32, .imul, 0, 0), (33, .iload_n 2, 2, 0), (34, .iadd, 0, 0), (35, .invokevirtual 114, 70, 2), (38, .iconst 1, 1, 0), (39, .ireturn, 1, 0)])]
/-- 72: PermitTreeModel.breakPermit -/
def aT_72 : List (Nat × List aE) := [
  (0, [(0, .aload_n 0, 0, 0), (1, .iconst 0, 0, 0), (2, .putfield 80, 5, 0), (5, .iconst 0, 0, 0), (6, .iload_n 1, 1, 0), (7, .invokestatic 103, 61, 2), (10, .ifCond .ne 5, 15, 0), (13, .iconst (-1), 0, 1), (14, .ireturn, 0, 0)]),
  (15, [(15, .iconst 0, 0, 0), (16, .istore_n 3, 3, 0), (17, .iload_n 3, 3, 0), (18, .bipush 8, 8, 0), (20, .if_icmp .ge 78, 98, 0), (23, .iconst 4, 4, 0), (24, .iload_n 3, 3, 0), (25, .imul, 0, 0), (26, .iload_n 1, 1, 0), (27, .iadd, 0, 0), (28, .istore 4, 4, 0), (30, .aload_n 0, 0, 0), (31, .getfield 17, 5, 3), (34, .iload 4, 4, 0), (36, .iaload, 0, 0), (37, .iconst 3, 3, 0), (38, .if_icmp .ne 54, 92, 0), (41, .aload_n 0, 0, 0), (42, .getfield 38, 5, 10), (45, .iload 4, 4, 0), (47, .iaload, 0, 0), (48, .iload_n 2, 2, 0), (49, .if_icmp .ne 43, 92, 0), (52, .aload_n 0, 0, 0), (53, .getfield 17, 5, 3), (56, .iload 4, 4, 0), (58, .iconst 4, 4, 0), (59, .iastore, 0, 0), (60, .aload_n 0, 0, 0), (61, .bipush 6, 6, 0), (63, .iload 4, 4, 0), (65, .sipush 32767, 32767, 0), (68, .iload_n 2, 2, 0), (69, .invokevirtual 95, 64, 5), (72, .aload_n 0, 0, 0), (73, .bipush 7, 7, 0), (75, .iload_n 3, 3, 0), (76, .iload_n 1, 1, 0), (77, .aload_n 0, 0, 0), (78, .getfield 20, 5, 4), (81, .iload 4, 4, 0), (83, .iaload, 0, 0), (84, .iconst (-1), 0, 1), (85, .iload_n 2, 2, 0), (86, .iconst 0, 0, 0), (87, .invokevirtual 87, 65, 8), (90, .iload_n 3, 3, 0), (91, .ireturn, 0, 0)]),
  (17, [(17, .iload_n 3, 3, 0), (18, .bipush 8, 8, 0), (20, .if_icmp .ge 78, 98, 0), (23, .iconst 4, 4, 0), (24, .iload_n 3, 3, 0), (25, .imul, 0, 0), (26, .iload_n 1, 1, 0), (27, .iadd, 0, 0), (28, .istore 4, 4, 0), (30, .aload_n 0, 0, 0), (31, .getfield 17, 5, 3), (34, .iload 4, 4, 0), (36, .iaload, 0, 0), (37, .iconst 3, 3, 0), (38, .if_icmp .ne 54, 92, 0), (41, .aload_n 0, 0, 0), (42, .getfield 38, 5, 10), (45, .iload 4, 4, 0), (47, .iaload, 0, 0), (48, .iload_n 2, 2, 0), (49, .if_icmp .ne 43, 92, 0), (52, .aload_n 0, 0, 0), (53, .getfield 17, 5, 3), (56, .iload 4, 4, 0), (58, .iconst 4, 4, 0), (59, .iastore, 0, 0), (60, .aload_n 0, 0, 0), (61, .bipush 6, 6, 0), (63, .iload 4, 4, 0), (65, .sipush 32767, 32767, 0), (68, .iload_n 2, 2, 0), (69, .invokevirtual 95, 64, 5), (72, .aload_n 0, 0, 0), (73, .bipush 7, 7, 0), (75, .iload_n 3, 3, 0), (76, .iload_n 1, 1, 0), (77, .aload_n 0, 0, 0), (78, .getfield 20, 5, 4), (81, .iload 4, 4, 0), (83, .iaload, 0, 0), (84, .iconst (-1), 0, 1), (85, .iload_n 2, 2, 0), (86, .iconst 0, 0, 0), (87, .invokevirtual 87, 65, 8), (90, .iload_n 3, 3, 0), (91, .ireturn, 0, 0)]),
  (92, [(92, .iinc 3 1, 3, 1), (95, .goto (-78), 17, 0)]),
  (98, [(98, .iconst (-1), 0, 1), (99, .ireturn, 0, 0)])]
/-- 73: PermitTreeModel.order -/
def aT_73 : List (Nat × List aE) := [
  (0, [(0, .aload_n 0, 0, 0), (1, .iconst 0, 0, 0), (2, .putfield 80, 5, 0), (5, .iload_n 1, 1, 0), (6, .iload_n 2, 2, 0), (7, .invokestatic 103, 61, 2), (10, .ifCond .eq 17, 27, 0), (13, .aload_n 0, 0, 0), (14, .getfield 17, 5, 3), (17, .iconst 4, 4, 0), (18, .iload_n 1, 1, 0), (19, .imul, 0, 0), (20, .iload_n 2, 2, 0), (21, .iadd, 0, 0), (22, .iaload, 0, 0), (23, .iconst 3, 3, 0), (24, .if_icmp .ge 5, 29, 0), (27, .iconst 0, 0, 0), (28, .ireturn, 1, 0)]),
  (27, [(27, .iconst 0, 0, 0), (28, .ireturn, 1, 0)]),
  (29, [(29, .iconst 4, 4, 0), (30, .iload_n 1, 1, 0), (31, .imul, 0, 0), (32, .iload_n 2, 2, 0), (33, .iadd, 0, 0), (34, .istore 4, 4, 0), (36, .aload_n 0, 0, 0), (37, .bipush 8, 8, 0), (39, .iload_n 1, 1, 0), (40, .iload_n 2, 2, 0), (41, .aload_n 0, 0, 0), (42, .getfield 20, 5, 4), (45, .iload 4, 4, 0), (47, .iaload, 0, 0), (48, .iconst (-1), 0, 1), (49, .aload_n 0, 0, 0), (50, .getfield 38, 5, 10), (53, .iload 4, 4, 0), (55, .iaload, 0, 0), (56, .iload_n 3, 3, 0), (57, .invokevirtual 87, 65, 8), (60, .iconst 1, 1, 0), (61, .ireturn, 1, 0)])]
/-- 74: PermitTreeModel.stop -/
def aT_74 : List (Nat × List aE) := [
  (0, [(0, .aload_n 0, 0, 0), (1, .iconst 0, 0, 0), (2, .putfield 80, 5, 0), (5, .iload_n 1, 1, 0), (6, .invokestatic 110, 68, 1), (9, .ifCond .eq 12, 21, 0), (12, .aload_n 0, 0, 0), (13, .getfield 7, 5, 1), (16, .iload_n 1, 1, 0), (17, .baload, 0, 0), (18, .ifCond .eq 5, 23, 0), (21, .iconst 0, 0, 0), (22, .ireturn, 1, 0)]),
  (21, [(21, .iconst 0, 0, 0), (22, .ireturn, 1, 0)]),
  (23, [(23, .aload_n 0, 0, 0), (24, .getfield 7, 5, 1), (27, .iload_n 1, 1, 0), (28, .iconst 1, 1, 0), (29, .bastore, 0, 0), (30, .iconst 1, 1, 0), (31, .ireturn, 1, 0)])]
/-- 75: PermitTreeModel.start -/
def aT_75 : List (Nat × List aE) := [
  (0, [(0, .aload_n 0, 0, 0), (1, .iconst 0, 0, 0), (2, .putfield 80, 5, 0), (5, .iload_n 1, 1, 0), (6, .invokestatic 110, 68, 1), (9, .ifCond .eq 12, 21, 0), (12, .aload_n 0, 0, 0), (13, .getfield 7, 5, 1), (16, .iload_n 1, 1, 0), (17, .baload, 0, 0), (18, .ifCond .ne 5, 23, 0), (21, .iconst 0, 0, 0), (22, .ireturn, 1, 0)]),
  (21, [(21, .iconst 0, 0, 0), (22, .ireturn, 1, 0)]),
  (23, [(23, .aload_n 0, 0, 0), (24, .getfield 7, 5, 1), (27, .iload_n 1, 1, 0), (28, .iconst 0, 0, 0), (29, .bastore, 0, 0), (30, .iconst 1, 1, 0), (31, .ireturn, 1, 0)])]
/-- 76: PermitTreeModel.letters -/
def aT_76 : List (Nat × List aE) := [
  (0, [(0, .aload_n 0, 0, 0), (1, .iconst 0, 0, 0), (2, .putfield 80, 5, 0), (5, .aload_n 0, 0, 0), (6, .getfield 84, 5, 21), (9, .ireturn, 0, 0)])]
/-- 77: PermitTreeModel.letter -/
def aT_77 : List (Nat × List aE) := [
  (0, [(0, .aload_n 0, 0, 0), (1, .iconst 0, 0, 0), (2, .putfield 80, 5, 0), (5, .aload_n 0, 0, 0), (6, .iload_n 1, 1, 0), (7, .invokevirtual 127, 78, 2), (10, .ifCond .eq 27, 37, 0), (13, .iload_n 2, 2, 0), (14, .ifCond .lt 23, 37, 0), (17, .iload_n 2, 2, 0), (18, .bipush 6, 6, 0), (20, .if_icmp .ge 17, 37, 0), (23, .aload_n 0, 0, 0), (24, .getfield 71, 5, 22), (27, .bipush 8, 8, 0), (29, .iload_n 1, 1, 0), (30, .imul, 0, 0), (31, .iload_n 2, 2, 0), (32, .iadd, 0, 0), (33, .iaload, 0, 0), (34, .goto 4, 38, 0)]),
  (37, [(37, .iconst (-1), 0, 1), (38, .ireturn, 0, 0)]),
  (38, [(38, .ireturn, 0, 0)])]
/-- 78: PermitTreeModel.isLetter -/
def aT_78 : List (Nat × List aE) := [
  (0, [(0, .iload_n 1, 1, 0), (1, .ifCond .lt 15, 16, 0), (4, .iload_n 1, 1, 0), (5, .aload_n 0, 0, 0), (6, .getfield 84, 5, 21), (9, .if_icmp .ge 7, 16, 0), (12, .iconst 1, 1, 0), (13, .goto 4, 17, 0)]),
  (16, [(16, .iconst 0, 0, 0), (17, .ireturn, 1, 0)]),
  (17, [(17, .ireturn, 1, 0)])]
/-- 79: PermitTreeModel.deliver -/
def aT_79 : List (Nat × List aE) := [
  (0, [(0, .aload_n 0, 0, 0), (1, .iconst 0, 0, 0), (2, .putfield 80, 5, 0), (5, .aload_n 0, 0, 0), (6, .iload_n 1, 1, 0), (7, .invokevirtual 127, 78, 2), (10, .ifCond .ne 5, 15, 0), (13, .iconst 0, 0, 0), (14, .ireturn, 1, 0)]),
  (15, [(15, .iconst 0, 0, 0), (16, .istore_n 2, 2, 0), (17, .iload_n 2, 2, 0), (18, .bipush 8, 8, 0), (20, .if_icmp .ge 26, 46, 0), (23, .aload_n 0, 0, 0), (24, .getfield 74, 5, 23), (27, .iload_n 2, 2, 0), (28, .aload_n 0, 0, 0), (29, .getfield 71, 5, 22), (32, .bipush 8, 8, 0), (34, .iload_n 1, 1, 0), (35, .imul, 0, 0), (36, .iload_n 2, 2, 0), (37, .iadd, 0, 0), (38, .iaload, 0, 0), (39, .iastore, 0, 0), (40, .iinc 2 1, 2, 1), (43, .goto (-26), 17, 0)]),
  (17, [(17, .iload_n 2, 2, 0), (18, .bipush 8, 8, 0), (20, .if_icmp .ge 26, 46, 0), (23, .aload_n 0, 0, 0), (24, .getfield 74, 5, 23), (27, .iload_n 2, 2, 0), (28, .aload_n 0, 0, 0), (29, .getfield 71, 5, 22), (32, .bipush 8, 8, 0), (34, .iload_n 1, 1, 0), (35, .imul, 0, 0), (36, .iload_n 2, 2, 0), (37, .iadd, 0, 0), (38, .iaload, 0, 0), (39, .iastore, 0, 0), (40, .iinc 2 1, 2, 1), (43, .goto (-26), 17, 0)]),
  (46, [(46, .aload_n 0, 0, 0), (47, .iload_n 1, 1, 0), (48, .invokevirtual 130, 80, 2), (51, .aload_n 0, 0, 0), (52, .getfield 74, 5, 23), (55, .iconst 0, 0, 0), (56, .iaload, 0, 0), (57, .istore_n 2, 2, 0), (58, .aload_n 0, 0, 0), (59, .getfield 74, 5, 23), (62, .iconst 2, 2, 0), (63, .iaload, 0, 0), (64, .istore_n 3, 3, 0), (65, .aload_n 0, 0, 0), (66, .getfield 74, 5, 23), (69, .iconst 5, 5, 0), (70, .iaload, 0, 0), (71, .istore 4, 4, 0), (73, .iload_n 2, 2, 0), (74, .iconst 2, 2, 0), (75, .if_icmp .eq 8, 83, 0), (78, .iload_n 2, 2, 0), (79, .iconst 4, 4, 0), (80, .if_icmp .ne 35, 115, 0), (83, .aload_n 0, 0, 0), (84, .iload_n 2, 2, 0), (85, .iconst 4, 4, 0), (86, .aload_n 0, 0, 0), (87, .getfield 74, 5, 23), (90, .iconst 1, 1, 0), (91, .iaload, 0, 0), (92, .imul, 0, 0), (93, .iload_n 3, 3, 0), (94, .iadd, 0, 0), (95, .aload_n 0, 0, 0), (96, .getfield 74, 5, 23), (99, .iconst 3, 3, 0), (100, .iaload, 0, 0), (101, .aload_n 0, 0, 0), (102, .getfield 74, 5, 23), (105, .iconst 4, 4, 0), (106, .iaload, 0, 0), (107, .iload 4, 4, 0), (109, .invokevirtual 133, 81, 6), (112, .goto 134, 246, 0)]),
  (83, [(83, .aload_n 0, 0, 0), (84, .iload_n 2, 2, 0), (85, .iconst 4, 4, 0), (86, .aload_n 0, 0, 0), (87, .getfield 74, 5, 23), (90, .iconst 1, 1, 0), (91, .iaload, 0, 0), (92, .imul, 0, 0), (93, .iload_n 3, 3, 0), (94, .iadd, 0, 0), (95, .aload_n 0, 0, 0), (96, .getfield 74, 5, 23), (99, .iconst 3, 3, 0), (100, .iaload, 0, 0), (101, .aload_n 0, 0, 0), (102, .getfield 74, 5, 23), (105, .iconst 4, 4, 0), (106, .iaload, 0, 0), (107, .iload 4, 4, 0), (109, .invokevirtual 133, 81, 6), (112, .goto 134, 246, 0)]),
  (115, [(115, .iload_n 2, 2, 0), (116, .bipush 8, 8, 0), (118, .if_icmp .ne 20, 138, 0), (121, .aload_n 0, 0, 0), (122, .iload_n 3, 3, 0), (123, .iload 4, 4, 0), (125, .aload_n 0, 0, 0), (126, .getfield 74, 5, 23), (129, .bipush 6, 6, 0), (131, .iaload, 0, 0), (132, .invokevirtual 136, 82, 4), (135, .goto 111, 246, 0)]),
  (138, [(138, .iload_n 2, 2, 0), (139, .bipush 7, 7, 0), (141, .if_icmp .ne 62, 203, 0), (144, .aload_n 0, 0, 0), (145, .getfield 56, 5, 16), (148, .iload_n 3, 3, 0), (149, .iload 4, 4, 0), (151, .aload_n 0, 0, 0), (152, .getfield 56, 5, 16), (155, .iload_n 3, 3, 0), (156, .iaload, 0, 0), (157, .if_icmp .le 8, 165, 0), (160, .iload 4, 4, 0), (162, .goto 9, 171, 0)]),
  (165, [(165, .aload_n 0, 0, 0), (166, .getfield 56, 5, 16), (169, .iload_n 3, 3, 0), (170, .iaload, 0, 0), (171, .iastore, 0, 0), (172, .aload_n 0, 0, 0), (173, .getfield 59, 5, 17), (176, .iload_n 3, 3, 0), (177, .iload 4, 4, 0), (179, .aload_n 0, 0, 0), (180, .getfield 59, 5, 17), (183, .iload_n 3, 3, 0), (184, .iaload, 0, 0), (185, .if_icmp .le 8, 193, 0), (188, .iload 4, 4, 0), (190, .goto 9, 199, 0)]),
  (171, [(171, .iastore, 0, 0), (172, .aload_n 0, 0, 0), (173, .getfield 59, 5, 17), (176, .iload_n 3, 3, 0), (177, .iload 4, 4, 0), (179, .aload_n 0, 0, 0), (180, .getfield 59, 5, 17), (183, .iload_n 3, 3, 0), (184, .iaload, 0, 0), (185, .if_icmp .le 8, 193, 0), (188, .iload 4, 4, 0), (190, .goto 9, 199, 0)]),
  (193, [(193, .aload_n 0, 0, 0), (194, .getfield 59, 5, 17), (197, .iload_n 3, 3, 0), (198, .iaload, 0, 0), (199, .iastore, 0, 0), (200, .goto 46, 246, 0)]),
  (199, [(199, .iastore, 0, 0), (200, .goto 46, 246, 0)]),
  (203, [(203, .aload_n 0, 0, 0), (204, .getfield 7, 5, 1), (207, .aload_n 0, 0, 0), (208, .getfield 74, 5, 23), (211, .iconst 4, 4, 0), (212, .iaload, 0, 0), (213, .baload, 0, 0), (214, .ifCond .ne 32, 246, 0), (217, .aload_n 0, 0, 0), (218, .iload_n 2, 2, 0), (219, .iconst 4, 4, 0), (220, .aload_n 0, 0, 0), (221, .getfield 74, 5, 23), (224, .iconst 4, 4, 0), (225, .iaload, 0, 0), (226, .imul, 0, 0), (227, .iload_n 3, 3, 0), (228, .iadd, 0, 0), (229, .aload_n 0, 0, 0), (230, .getfield 74, 5, 23), (233, .iconst 1, 1, 0), (234, .iaload, 0, 0), (235, .aload_n 0, 0, 0), (236, .getfield 74, 5, 23), (239, .iconst 3, 3, 0), (240, .iaload, 0, 0), (241, .iload 4, 4, 0), (243, .invokevirtual 139, 83, 6), (246, .iconst 1, 1, 0), (247, .ireturn, 1, 0)]),
  (246, [(246, .iconst 1, 1, 0), (247, .ireturn, 1, 0)])]
/-- 80: PermitTreeModel.remove -/
def aT_80 : List (Nat × List aE) := [
  (0, [(0, .aload_n 0, 0, 0), (1, .dup, 0, 0), (2, .getfield 84, 5, 21), (5, .iconst 1, 1, 0), (6, .isub, 0, 0), (7, .putfield 84, 5, 21), (10, .bipush 8, 8, 0), (12, .iload_n 1, 1, 0), (13, .imul, 0, 0), (14, .istore_n 2, 2, 0), (15, .iload_n 2, 2, 0), (16, .bipush 8, 8, 0), (18, .aload_n 0, 0, 0), (19, .getfield 84, 5, 21), (22, .imul, 0, 0), (23, .if_icmp .ge 24, 47, 0), (26, .aload_n 0, 0, 0), (27, .getfield 71, 5, 22), (30, .iload_n 2, 2, 0), (31, .aload_n 0, 0, 0), (32, .getfield 71, 5, 22), (35, .iload_n 2, 2, 0), (36, .bipush 8, 8, 0), (38, .iadd, 0, 0), (39, .iaload, 0, 0), (40, .iastore, 0, 0), (41, .iinc 2 1, 2, 1), (44, .goto (-29), 15, 0)]),
  (15, [(15, .iload_n 2, 2, 0), (16, .bipush 8, 8, 0), (18, .aload_n 0, 0, 0), (19, .getfield 84, 5, 21), (22, .imul, 0, 0), (23, .if_icmp .ge 24, 47, 0), (26, .aload_n 0, 0, 0), (27, .getfield 71, 5, 22), (30, .iload_n 2, 2, 0), (31, .aload_n 0, 0, 0), (32, .getfield 71, 5, 22), (35, .iload_n 2, 2, 0), (36, .bipush 8, 8, 0), (38, .iadd, 0, 0), (39, .iaload, 0, 0), (40, .iastore, 0, 0), (41, .iinc 2 1, 2, 1), (44, .goto (-29), 15, 0)]),
  (47, [(47, .return_, 0, 0)])]
/-- 81: PermitTreeModel.told -/
def aT_81 : List (Nat × List aE) := [
  (0, [(0, .aload_n 0, 0, 0), (1, .getfield 17, 5, 3), (4, .iload_n 2, 2, 0), (5, .iaload, 0, 0), (6, .ifCond .eq 13, 19, 0), (9, .aload_n 0, 0, 0), (10, .getfield 20, 5, 4), (13, .iload_n 2, 2, 0), (14, .iaload, 0, 0), (15, .iload_n 3, 3, 0), (16, .if_icmp .eq 7, 23, 0), (19, .iconst 1, 1, 0), (20, .goto 4, 24, 0)]),
  (19, [(19, .iconst 1, 1, 0), (20, .goto 4, 24, 0)]),
  (23, [(23, .iconst 0, 0, 0), (24, .istore 6, 6, 0), (26, .iload_n 1, 1, 0), (27, .iconst 2, 2, 0), (28, .if_icmp .ne 27, 55, 0), (31, .iload 6, 6, 0), (33, .ifCond .eq 22, 55, 0), (36, .aload_n 0, 0, 0), (37, .iconst 5, 5, 0), (38, .iload_n 2, 2, 0), (39, .iconst 4, 4, 0), (40, .idiv, 0, 0), (41, .iload_n 2, 2, 0), (42, .iconst 4, 4, 0), (43, .irem, 0, 0), (44, .iload_n 3, 3, 0), (45, .iload 4, 4, 0), (47, .iconst 0, 0, 0), (48, .iconst 0, 0, 0), (49, .invokevirtual 87, 65, 8), (52, .goto 119, 171, 0)]),
  (24, [(24, .istore 6, 6, 0), (26, .iload_n 1, 1, 0), (27, .iconst 2, 2, 0), (28, .if_icmp .ne 27, 55, 0), (31, .iload 6, 6, 0), (33, .ifCond .eq 22, 55, 0), (36, .aload_n 0, 0, 0), (37, .iconst 5, 5, 0), (38, .iload_n 2, 2, 0), (39, .iconst 4, 4, 0), (40, .idiv, 0, 0), (41, .iload_n 2, 2, 0), (42, .iconst 4, 4, 0), (43, .irem, 0, 0), (44, .iload_n 3, 3, 0), (45, .iload 4, 4, 0), (47, .iconst 0, 0, 0), (48, .iconst 0, 0, 0), (49, .invokevirtual 87, 65, 8), (52, .goto 119, 171, 0)]),
  (55, [(55, .iload_n 1, 1, 0), (56, .iconst 2, 2, 0), (57, .if_icmp .ne 48, 105, 0), (60, .aload_n 0, 0, 0), (61, .getfield 17, 5, 3), (64, .iload_n 2, 2, 0), (65, .iaload, 0, 0), (66, .iconst 1, 1, 0), (67, .if_icmp .ne 38, 105, 0), (70, .aload_n 0, 0, 0), (71, .getfield 29, 5, 7), (74, .iload_n 2, 2, 0), (75, .dup2, 0, 0), (76, .iaload, 0, 0), (77, .iconst 1, 1, 0), (78, .iload 4, 4, 0), (80, .ishl, 0, 0), (81, .ior, 0, 0), (82, .iastore, 0, 0), (83, .aload_n 0, 0, 0), (84, .getfield 41, 5, 11), (87, .bipush 15, 15, 0), (89, .iload_n 2, 2, 0), (90, .imul, 0, 0), (91, .iload 4, 4, 0), (93, .iadd, 0, 0), (94, .iload 5, 5, 0), (96, .iastore, 0, 0), (97, .aload_n 0, 0, 0), (98, .iload_n 2, 2, 0), (99, .invokevirtual 99, 66, 2), (102, .goto 69, 171, 0)]),
  (105, [(105, .iload_n 1, 1, 0), (106, .iconst 4, 4, 0), (107, .if_icmp .ne 64, 171, 0), (110, .iload 6, 6, 0), (112, .ifCond .ne 59, 171, 0), (115, .aload_n 0, 0, 0), (116, .getfield 17, 5, 3), (119, .iload_n 2, 2, 0), (120, .iaload, 0, 0), (121, .iconst 2, 2, 0), (122, .if_icmp .ne 49, 171, 0), (125, .aload_n 0, 0, 0), (126, .getfield 35, 5, 9), (129, .iload_n 2, 2, 0), (130, .dup2, 0, 0), (131, .iaload, 0, 0), (132, .iconst 1, 1, 0), (133, .iload 4, 4, 0), (135, .ishl, 0, 0), (136, .aload_n 0, 0, 0), (137, .getfield 32, 5, 8), (140, .iload_n 2, 2, 0), (141, .iaload, 0, 0), (142, .iand, 0, 0), (143, .ior, 0, 0), (144, .iastore, 0, 0), (145, .aload_n 0, 0, 0), (146, .getfield 17, 5, 3), (149, .iload_n 2, 2, 0), (150, .aload_n 0, 0, 0), (151, .getfield 35, 5, 9), (154, .iload_n 2, 2, 0), (155, .iaload, 0, 0), (156, .aload_n 0, 0, 0), (157, .getfield 32, 5, 8), (160, .iload_n 2, 2, 0), (161, .iaload, 0, 0), (162, .if_icmp .ne 7, 169, 0), (165, .iconst 3, 3, 0), (166, .goto 4, 170, 0)]),
  (169, [(169, .iconst 2, 2, 0), (170, .iastore, 0, 0), (171, .return_, 0, 0)]),
  (170, [(170, .iastore, 0, 0), (171, .return_, 0, 0)]),
  (171, [(171, .return_, 0, 0)])]
/-- 82: PermitTreeModel.obeys -/
def aT_82 : List (Nat × List aE) := [
  (0, [(0, .iload_n 2, 2, 0), (1, .aload_n 0, 0, 0), (2, .getfield 56, 5, 16), (5, .iload_n 1, 1, 0), (6, .iaload, 0, 0), (7, .if_icmp .lt 13, 20, 0), (10, .iload_n 2, 2, 0), (11, .aload_n 0, 0, 0), (12, .getfield 59, 5, 17), (15, .iload_n 1, 1, 0), (16, .iaload, 0, 0), (17, .if_icmp .gt 4, 21, 0), (20, .return_, 0, 0)]),
  (20, [(20, .return_, 0, 0)]),
  (21, [(21, .aload_n 0, 0, 0), (22, .getfield 56, 5, 16), (25, .iload_n 1, 1, 0), (26, .iload_n 2, 2, 0), (27, .iastore, 0, 0), (28, .bipush 64, 64, 0), (30, .iload_n 1, 1, 0), (31, .imul, 0, 0), (32, .aload_n 0, 0, 0), (33, .getfield 62, 5, 18), (36, .iload_n 1, 1, 0), (37, .iaload, 0, 0), (38, .bipush 64, 64, 0), (40, .irem, 0, 0), (41, .iadd, 0, 0), (42, .istore 4, 4, 0), (44, .aload_n 0, 0, 0), (45, .getfield 65, 5, 19), (48, .iload 4, 4, 0), (50, .iload_n 2, 2, 0), (51, .iastore, 0, 0), (52, .aload_n 0, 0, 0), (53, .getfield 68, 5, 20), (56, .iload 4, 4, 0), (58, .iload_n 3, 3, 0), (59, .iastore, 0, 0), (60, .aload_n 0, 0, 0), (61, .getfield 62, 5, 18), (64, .iload_n 1, 1, 0), (65, .dup2, 0, 0), (66, .iaload, 0, 0), (67, .iconst 1, 1, 0), (68, .iadd, 0, 0), (69, .iastore, 0, 0), (70, .return_, 0, 0)])]
/-- 83: PermitTreeModel.comes -/
def aT_83 : List (Nat × List aE) := [
  (0, [(0, .aload_n 0, 0, 0), (1, .iload_n 2, 2, 0), (2, .iload_n 3, 3, 0), (3, .iload 4, 4, 0), (5, .invokevirtual 117, 84, 4), (8, .istore 6, 6, 0), (10, .iload_n 1, 1, 0), (11, .iconst 1, 1, 0), (12, .if_icmp .ne 83, 95, 0), (15, .iload 6, 6, 0), (17, .iconst (-1), 0, 1), (18, .if_icmp .ne 77, 95, 0), (21, .aload_n 0, 0, 0), (22, .getfield 50, 5, 14), (25, .iload_n 2, 2, 0), (26, .iaload, 0, 0), (27, .bipush 17, 17, 0), (29, .if_icmp .ge 66, 95, 0), (32, .aload_n 0, 0, 0), (33, .getfield 44, 5, 12), (36, .bipush 17, 17, 0), (38, .iload_n 2, 2, 0), (39, .imul, 0, 0), (40, .aload_n 0, 0, 0), (41, .getfield 50, 5, 14), (44, .iload_n 2, 2, 0), (45, .iaload, 0, 0), (46, .iadd, 0, 0), (47, .iload_n 3, 3, 0), (48, .iastore, 0, 0), (49, .aload_n 0, 0, 0), (50, .getfield 47, 5, 13), (53, .bipush 17, 17, 0), (55, .iload_n 2, 2, 0), (56, .imul, 0, 0), (57, .aload_n 0, 0, 0), (58, .getfield 50, 5, 14), (61, .iload_n 2, 2, 0), (62, .iaload, 0, 0), (63, .iadd, 0, 0), (64, .iload 4, 4, 0), (66, .iastore, 0, 0), (67, .aload_n 0, 0, 0), (68, .getfield 50, 5, 14), (71, .iload_n 2, 2, 0), (72, .dup2, 0, 0), (73, .iaload, 0, 0), (74, .iconst 1, 1, 0), (75, .iadd, 0, 0), (76, .iastore, 0, 0), (77, .aload_n 0, 0, 0), (78, .getfield 50, 5, 14), (81, .iload_n 2, 2, 0), (82, .iaload, 0, 0), (83, .iconst 1, 1, 0), (84, .if_icmp .ne 81, 165, 0), (87, .aload_n 0, 0, 0), (88, .iload_n 2, 2, 0), (89, .invokevirtual 121, 85, 2), (92, .goto 73, 165, 0)]),
  (95, [(95, .iload_n 1, 1, 0), (96, .iconst 3, 3, 0), (97, .if_icmp .ne 55, 152, 0), (100, .iload 6, 6, 0), (102, .ifCond .ne 50, 152, 0), (105, .aload_n 0, 0, 0), (106, .getfield 53, 5, 15), (109, .iload_n 2, 2, 0), (110, .iload 5, 5, 0), (112, .aload_n 0, 0, 0), (113, .getfield 53, 5, 15), (116, .iload_n 2, 2, 0), (117, .iaload, 0, 0), (118, .if_icmp .le 8, 126, 0), (121, .iload 5, 5, 0), (123, .goto 9, 132, 0)]),
  (126, [(126, .aload_n 0, 0, 0), (127, .getfield 53, 5, 15), (130, .iload_n 2, 2, 0), (131, .iaload, 0, 0), (132, .iastore, 0, 0), (133, .aload_n 0, 0, 0), (134, .iconst 4, 4, 0), (135, .iload_n 3, 3, 0), (136, .iload_n 2, 2, 0), (137, .iconst 4, 4, 0), (138, .irem, 0, 0), (139, .iload 4, 4, 0), (141, .iload_n 2, 2, 0), (142, .iconst 4, 4, 0), (143, .idiv, 0, 0), (144, .iconst 0, 0, 0), (145, .iconst 0, 0, 0), (146, .invokevirtual 87, 65, 8), (149, .goto 16, 165, 0)]),
  (132, [(132, .iastore, 0, 0), (133, .aload_n 0, 0, 0), (134, .iconst 4, 4, 0), (135, .iload_n 3, 3, 0), (136, .iload_n 2, 2, 0), (137, .iconst 4, 4, 0), (138, .irem, 0, 0), (139, .iload 4, 4, 0), (141, .iload_n 2, 2, 0), (142, .iconst 4, 4, 0), (143, .idiv, 0, 0), (144, .iconst 0, 0, 0), (145, .iconst 0, 0, 0), (146, .invokevirtual 87, 65, 8), (149, .goto 16, 165, 0)]),
  (152, [(152, .iload_n 1, 1, 0), (153, .iconst 4, 4, 0), (154, .if_icmp .le 11, 165, 0), (157, .aload_n 0, 0, 0), (158, .iload_n 2, 2, 0), (159, .iload_n 3, 3, 0), (160, .iload 4, 4, 0), (162, .invokevirtual 123, 86, 4), (165, .return_, 0, 0)]),
  (165, [(165, .return_, 0, 0)])]
/-- 84: PermitTreeModel.find -/
def aT_84 : List (Nat × List aE) := [
  (0, [(0, .iconst 0, 0, 0), (1, .istore 4, 4, 0), (3, .iload 4, 4, 0), (5, .aload_n 0, 0, 0), (6, .getfield 50, 5, 14), (9, .iload_n 1, 1, 0), (10, .iaload, 0, 0), (11, .if_icmp .ge 44, 55, 0), (14, .aload_n 0, 0, 0), (15, .getfield 44, 5, 12), (18, .bipush 17, 17, 0), (20, .iload_n 1, 1, 0), (21, .imul, 0, 0), (22, .iload 4, 4, 0), (24, .iadd, 0, 0), (25, .iaload, 0, 0), (26, .iload_n 2, 2, 0), (27, .if_icmp .ne 22, 49, 0), (30, .aload_n 0, 0, 0), (31, .getfield 47, 5, 13), (34, .bipush 17, 17, 0), (36, .iload_n 1, 1, 0), (37, .imul, 0, 0), (38, .iload 4, 4, 0), (40, .iadd, 0, 0), (41, .iaload, 0, 0), (42, .iload_n 3, 3, 0), (43, .if_icmp .ne 6, 49, 0), (46, .iload 4, 4, 0), (48, .ireturn, 0, 0)]),
  (3, [(3, .iload 4, 4, 0), (5, .aload_n 0, 0, 0), (6, .getfield 50, 5, 14), (9, .iload_n 1, 1, 0), (10, .iaload, 0, 0), (11, .if_icmp .ge 44, 55, 0), (14, .aload_n 0, 0, 0), (15, .getfield 44, 5, 12), (18, .bipush 17, 17, 0), (20, .iload_n 1, 1, 0), (21, .imul, 0, 0), (22, .iload 4, 4, 0), (24, .iadd, 0, 0), (25, .iaload, 0, 0), (26, .iload_n 2, 2, 0), (27, .if_icmp .ne 22, 49, 0), (30, .aload_n 0, 0, 0), (31, .getfield 47, 5, 13), (34, .bipush 17, 17, 0), (36, .iload_n 1, 1, 0), (37, .imul, 0, 0), (38, .iload 4, 4, 0), (40, .iadd, 0, 0), (41, .iaload, 0, 0), (42, .iload_n 3, 3, 0), (43, .if_icmp .ne 6, 49, 0), (46, .iload 4, 4, 0), (48, .ireturn, 0, 0)]),
  (49, [(49, .iinc 4 1, 4, 1), (52, .goto (-49), 3, 0)]),
  (55, [(55, .iconst (-1), 0, 1), (56, .ireturn, 0, 0)])]
/-- 85: PermitTreeModel.votes -/
def aT_85 : List (Nat × List aE) := [
  (0, [(0, .aload_n 0, 0, 0), (1, .iconst 2, 2, 0), (2, .aload_n 0, 0, 0), (3, .getfield 44, 5, 12), (6, .bipush 17, 17, 0), (8, .iload_n 1, 1, 0), (9, .imul, 0, 0), (10, .iaload, 0, 0), (11, .iload_n 1, 1, 0), (12, .iconst 4, 4, 0), (13, .irem, 0, 0), (14, .aload_n 0, 0, 0), (15, .getfield 47, 5, 13), (18, .bipush 17, 17, 0), (20, .iload_n 1, 1, 0), (21, .imul, 0, 0), (22, .iaload, 0, 0), (23, .iload_n 1, 1, 0), (24, .iconst 4, 4, 0), (25, .idiv, 0, 0), (26, .aload_n 0, 0, 0), (27, .getfield 53, 5, 15), (30, .iload_n 1, 1, 0), (31, .iaload, 0, 0), (32, .iconst 0, 0, 0), (33, .invokevirtual 87, 65, 8), (36, .return_, 0, 0)])]
/-- 86: PermitTreeModel.leaves -/
def aT_86 : List (Nat × List aE) := [
  (0, [(0, .aload_n 0, 0, 0), (1, .iload_n 1, 1, 0), (2, .iload_n 2, 2, 0), (3, .iload_n 3, 3, 0), (4, .invokevirtual 117, 84, 4), (7, .istore 4, 4, 0), (9, .iload 4, 4, 0), (11, .iconst (-1), 0, 1), (12, .if_icmp .ne 4, 16, 0), (15, .return_, 0, 0)]),
  (16, [(16, .aload_n 0, 0, 0), (17, .getfield 50, 5, 14), (20, .iload_n 1, 1, 0), (21, .dup2, 0, 0), (22, .iaload, 0, 0), (23, .iconst 1, 1, 0), (24, .isub, 0, 0), (25, .iastore, 0, 0), (26, .iload 4, 4, 0), (28, .istore 5, 5, 0), (30, .iload 5, 5, 0), (32, .aload_n 0, 0, 0), (33, .getfield 50, 5, 14), (36, .iload_n 1, 1, 0), (37, .iaload, 0, 0), (38, .if_icmp .ge 61, 99, 0), (41, .aload_n 0, 0, 0), (42, .getfield 44, 5, 12), (45, .bipush 17, 17, 0), (47, .iload_n 1, 1, 0), (48, .imul, 0, 0), (49, .iload 5, 5, 0), (51, .iadd, 0, 0), (52, .aload_n 0, 0, 0), (53, .getfield 44, 5, 12), (56, .bipush 17, 17, 0), (58, .iload_n 1, 1, 0), (59, .imul, 0, 0), (60, .iload 5, 5, 0), (62, .iadd, 0, 0), (63, .iconst 1, 1, 0), (64, .iadd, 0, 0), (65, .iaload, 0, 0), (66, .iastore, 0, 0), (67, .aload_n 0, 0, 0), (68, .getfield 47, 5, 13), (71, .bipush 17, 17, 0), (73, .iload_n 1, 1, 0), (74, .imul, 0, 0), (75, .iload 5, 5, 0), (77, .iadd, 0, 0), (78, .aload_n 0, 0, 0), (79, .getfield 47, 5, 13), (82, .bipush 17, 17, 0), (84, .iload_n 1, 1, 0), (85, .imul, 0, 0), (86, .iload 5, 5, 0), (88, .iadd, 0, 0), (89, .iconst 1, 1, 0), (90, .iadd, 0, 0), (91, .iaload, 0, 0), (92, .iastore, 0, 0), (93, .iinc 5 1, 5, 1), (96, .goto (-66), 30, 0)]),
  (30, [(30, .iload 5, 5, 0), (32, .aload_n 0, 0, 0), (33, .getfield 50, 5, 14), (36, .iload_n 1, 1, 0), (37, .iaload, 0, 0), (38, .if_icmp .ge 61, 99, 0), (41, .aload_n 0, 0, 0), (42, .getfield 44, 5, 12), (45, .bipush 17, 17, 0), (47, .iload_n 1, 1, 0), (48, .imul, 0, 0), (49, .iload 5, 5, 0), (51, .iadd, 0, 0), (52, .aload_n 0, 0, 0), (53, .getfield 44, 5, 12), (56, .bipush 17, 17, 0), (58, .iload_n 1, 1, 0), (59, .imul, 0, 0), (60, .iload 5, 5, 0), (62, .iadd, 0, 0), (63, .iconst 1, 1, 0), (64, .iadd, 0, 0), (65, .iaload, 0, 0), (66, .iastore, 0, 0), (67, .aload_n 0, 0, 0), (68, .getfield 47, 5, 13), (71, .bipush 17, 17, 0), (73, .iload_n 1, 1, 0), (74, .imul, 0, 0), (75, .iload 5, 5, 0), (77, .iadd, 0, 0), (78, .aload_n 0, 0, 0), (79, .getfield 47, 5, 13), (82, .bipush 17, 17, 0), (84, .iload_n 1, 1, 0), (85, .imul, 0, 0), (86, .iload 5, 5, 0), (88, .iadd, 0, 0), (89, .iconst 1, 1, 0), (90, .iadd, 0, 0), (91, .iaload, 0, 0), (92, .iastore, 0, 0), (93, .iinc 5 1, 5, 1), (96, .goto (-66), 30, 0)]),
  (99, [(99, .iload 4, 4, 0), (101, .ifCond .ne 17, 118, 0), (104, .aload_n 0, 0, 0), (105, .getfield 50, 5, 14), (108, .iload_n 1, 1, 0), (109, .iaload, 0, 0), (110, .ifCond .le 8, 118, 0), (113, .aload_n 0, 0, 0), (114, .iload_n 1, 1, 0), (115, .invokevirtual 121, 85, 2), (118, .return_, 0, 0)]),
  (118, [(118, .return_, 0, 0)])]
/-- 87: PermitTreeModel.drop -/
def aT_87 : List (Nat × List aE) := [
  (0, [(0, .aload_n 0, 0, 0), (1, .iconst 0, 0, 0), (2, .putfield 80, 5, 0), (5, .aload_n 0, 0, 0), (6, .iload_n 1, 1, 0), (7, .invokevirtual 127, 78, 2), (10, .ifCond .ne 5, 15, 0), (13, .iconst 0, 0, 0), (14, .ireturn, 1, 0)]),
  (15, [(15, .aload_n 0, 0, 0), (16, .iload_n 1, 1, 0), (17, .invokevirtual 130, 80, 2), (20, .iconst 1, 1, 0), (21, .ireturn, 1, 0)])]
/-- 88: PermitTreeModel.copy -/
def aT_88 : List (Nat × List aE) := [
  (0, [(0, .aload_n 0, 0, 0), (1, .iconst 0, 0, 0), (2, .putfield 80, 5, 0), (5, .aload_n 0, 0, 0), (6, .iload_n 1, 1, 0), (7, .invokevirtual 127, 78, 2), (10, .ifCond .eq 13, 23, 0), (13, .aload_n 0, 0, 0), (14, .getfield 84, 5, 21), (17, .sipush 240, 240, 0), (20, .if_icmp .ne 5, 25, 0), (23, .iconst 0, 0, 0), (24, .ireturn, 1, 0)]),
  (23, [(23, .iconst 0, 0, 0), (24, .ireturn, 1, 0)]),
  (25, [(25, .iconst 0, 0, 0), (26, .istore_n 2, 2, 0), (27, .iload_n 2, 2, 0), (28, .bipush 8, 8, 0), (30, .if_icmp .ge 34, 64, 0), (33, .aload_n 0, 0, 0), (34, .getfield 71, 5, 22), (37, .bipush 8, 8, 0), (39, .aload_n 0, 0, 0), (40, .getfield 84, 5, 21), (43, .imul, 0, 0), (44, .iload_n 2, 2, 0), (45, .iadd, 0, 0), (46, .aload_n 0, 0, 0), (47, .getfield 71, 5, 22), (50, .bipush 8, 8, 0), (52, .iload_n 1, 1, 0), (53, .imul, 0, 0), (54, .iload_n 2, 2, 0), (55, .iadd, 0, 0), (56, .iaload, 0, 0), (57, .iastore, 0, 0), (58, .iinc 2 1, 2, 1), (61, .goto (-34), 27, 0)]),
  (27, [(27, .iload_n 2, 2, 0), (28, .bipush 8, 8, 0), (30, .if_icmp .ge 34, 64, 0), (33, .aload_n 0, 0, 0), (34, .getfield 71, 5, 22), (37, .bipush 8, 8, 0), (39, .aload_n 0, 0, 0), (40, .getfield 84, 5, 21), (43, .imul, 0, 0), (44, .iload_n 2, 2, 0), (45, .iadd, 0, 0), (46, .aload_n 0, 0, 0), (47, .getfield 71, 5, 22), (50, .bipush 8, 8, 0), (52, .iload_n 1, 1, 0), (53, .imul, 0, 0), (54, .iload_n 2, 2, 0), (55, .iadd, 0, 0), (56, .iaload, 0, 0), (57, .iastore, 0, 0), (58, .iinc 2 1, 2, 1), (61, .goto (-34), 27, 0)]),
  (64, [(64, .aload_n 0, 0, 0), (65, .dup, 0, 0), (66, .getfield 84, 5, 21), (69, .iconst 1, 1, 0), (70, .iadd, 0, 0), (71, .putfield 84, 5, 21), (74, .iconst 1, 1, 0), (75, .ireturn, 1, 0)])]
/-- 89: PermitTreeModel.state -/
def aT_89 : List (Nat × List aE) := [
  (0, [(0, .aload_n 0, 0, 0), (1, .iconst 0, 0, 0), (2, .putfield 80, 5, 0), (5, .iload_n 1, 1, 0), (6, .iload_n 2, 2, 0), (7, .invokestatic 103, 61, 2), (10, .ifCond .eq 16, 26, 0), (13, .aload_n 0, 0, 0), (14, .getfield 17, 5, 3), (17, .iconst 4, 4, 0), (18, .iload_n 1, 1, 0), (19, .imul, 0, 0), (20, .iload_n 2, 2, 0), (21, .iadd, 0, 0), (22, .iaload, 0, 0), (23, .goto 4, 27, 0)]),
  (26, [(26, .iconst (-1), 0, 1), (27, .ireturn, 0, 0)]),
  (27, [(27, .ireturn, 0, 0)])]
/-- 90: PermitTreeModel.permit -/
def aT_90 : List (Nat × List aE) := [
  (0, [(0, .aload_n 0, 0, 0), (1, .iconst 0, 0, 0), (2, .putfield 80, 5, 0), (5, .iload_n 1, 1, 0), (6, .iload_n 2, 2, 0), (7, .invokestatic 103, 61, 2), (10, .ifCond .eq 30, 40, 0), (13, .aload_n 0, 0, 0), (14, .getfield 17, 5, 3), (17, .iconst 4, 4, 0), (18, .iload_n 1, 1, 0), (19, .imul, 0, 0), (20, .iload_n 2, 2, 0), (21, .iadd, 0, 0), (22, .iaload, 0, 0), (23, .iconst 2, 2, 0), (24, .if_icmp .le 16, 40, 0), (27, .aload_n 0, 0, 0), (28, .getfield 38, 5, 10), (31, .iconst 4, 4, 0), (32, .iload_n 1, 1, 0), (33, .imul, 0, 0), (34, .iload_n 2, 2, 0), (35, .iadd, 0, 0), (36, .iaload, 0, 0), (37, .goto 4, 41, 0)]),
  (40, [(40, .iconst 0, 0, 0), (41, .ireturn, 0, 0)]),
  (41, [(41, .ireturn, 0, 0)])]
/-- 91: PermitTreeModel.quorumOf -/
def aT_91 : List (Nat × List aE) := [
  (0, [(0, .aload_n 0, 0, 0), (1, .iconst 0, 0, 0), (2, .putfield 80, 5, 0), (5, .iload_n 1, 1, 0), (6, .iload_n 2, 2, 0), (7, .invokestatic 103, 61, 2), (10, .ifCond .eq 16, 26, 0), (13, .aload_n 0, 0, 0), (14, .getfield 17, 5, 3), (17, .iconst 4, 4, 0), (18, .iload_n 1, 1, 0), (19, .imul, 0, 0), (20, .iload_n 2, 2, 0), (21, .iadd, 0, 0), (22, .iaload, 0, 0), (23, .ifCond .ne 5, 28, 0), (26, .iconst 0, 0, 0), (27, .ireturn, 0, 0)]),
  (26, [(26, .iconst 0, 0, 0), (27, .ireturn, 0, 0)]),
  (28, [(28, .iconst 4, 4, 0), (29, .iload_n 1, 1, 0), (30, .imul, 0, 0), (31, .iload_n 2, 2, 0), (32, .iadd, 0, 0), (33, .istore_n 3, 3, 0), (34, .aload_n 0, 0, 0), (35, .aload_n 0, 0, 0), (36, .getfield 23, 5, 5), (39, .iload_n 3, 3, 0), (40, .iaload, 0, 0), (41, .invokevirtual 91, 63, 2), (44, .istore 4, 4, 0), (46, .aload_n 0, 0, 0), (47, .getfield 17, 5, 3), (50, .iload_n 3, 3, 0), (51, .iaload, 0, 0), (52, .iconst 1, 1, 0), (53, .if_icmp .le 12, 65, 0), (56, .aload_n 0, 0, 0), (57, .getfield 32, 5, 8), (60, .iload_n 3, 3, 0), (61, .iaload, 0, 0), (62, .goto 22, 84, 0)]),
  (65, [(65, .iload 4, 4, 0), (67, .iconst (-1), 0, 1), (68, .if_icmp .ne 7, 75, 0), (71, .iconst 0, 0, 0), (72, .goto 12, 84, 0)]),
  (75, [(75, .iload 4, 4, 0), (77, .aload_n 0, 0, 0), (78, .getfield 29, 5, 7), (81, .iload_n 3, 3, 0), (82, .iaload, 0, 0), (83, .iand, 0, 0), (84, .ireturn, 0, 0)]),
  (84, [(84, .ireturn, 0, 0)])]
/-- 92: PermitTreeModel.vote -/
def aT_92 : List (Nat × List aE) := [
  (0, [(0, .aload_n 0, 0, 0), (1, .iconst 0, 0, 0), (2, .putfield 80, 5, 0), (5, .iload_n 1, 1, 0), (6, .invokestatic 110, 68, 1), (9, .ifCond .eq 11, 20, 0), (12, .iconst 0, 0, 0), (13, .iload_n 2, 2, 0), (14, .invokestatic 103, 61, 2), (17, .ifCond .ne 5, 22, 0), (20, .iconst (-1), 0, 1), (21, .ireturn, 0, 0)]),
  (20, [(20, .iconst (-1), 0, 1), (21, .ireturn, 0, 0)]),
  (22, [(22, .iconst 4, 4, 0), (23, .iload_n 1, 1, 0), (24, .imul, 0, 0), (25, .iload_n 2, 2, 0), (26, .iadd, 0, 0), (27, .istore 4, 4, 0), (29, .iload_n 3, 3, 0), (30, .tableswitch 144 0 4 #[34, 59, 84, 92, 116], 0, 0)]),
  (64, [(64, .aload_n 0, 0, 0), (65, .getfield 50, 5, 14), (68, .iload 4, 4, 0), (70, .iaload, 0, 0), (71, .ifCond .le 16, 87, 0), (74, .aload_n 0, 0, 0), (75, .getfield 44, 5, 12), (78, .bipush 17, 17, 0), (80, .iload 4, 4, 0), (82, .imul, 0, 0), (83, .iaload, 0, 0), (84, .goto 4, 88, 0)]),
  (87, [(87, .iconst (-1), 0, 1), (88, .ireturn, 0, 0)]),
  (88, [(88, .ireturn, 0, 0)]),
  (89, [(89, .aload_n 0, 0, 0), (90, .getfield 50, 5, 14), (93, .iload 4, 4, 0), (95, .iaload, 0, 0), (96, .ifCond .le 16, 112, 0), (99, .aload_n 0, 0, 0), (100, .getfield 47, 5, 13), (103, .bipush 17, 17, 0), (105, .iload 4, 4, 0), (107, .imul, 0, 0), (108, .iaload, 0, 0), (109, .goto 4, 113, 0)]),
  (112, [(112, .iconst (-1), 0, 1), (113, .ireturn, 0, 0)]),
  (113, [(113, .ireturn, 0, 0)]),
  (114, [(114, .aload_n 0, 0, 0), (115, .getfield 53, 5, 15), (118, .iload 4, 4, 0), (120, .iaload, 0, 0), (121, .ireturn, 0, 0)]),
  (122, [(122, .aload_n 0, 0, 0), (123, .getfield 50, 5, 14), (126, .iload 4, 4, 0), (128, .iaload, 0, 0), (129, .ifCond .le 15, 144, 0), (132, .aload_n 0, 0, 0), (133, .getfield 50, 5, 14), (136, .iload 4, 4, 0), (138, .iaload, 0, 0), (139, .iconst 1, 1, 0), (140, .isub, 0, 0), (141, .goto 4, 145, 0)]),
  (144, [(144, .iconst 0, 0, 0), (145, .ireturn, 0, 0)]),
  (145, [(145, .ireturn, 0, 0)]),
  (146, [(146, .aload_n 0, 0, 0), (147, .getfield 50, 5, 14), (150, .iload 4, 4, 0), (152, .iaload, 0, 0), (153, .iconst 1, 1, 0), (154, .if_icmp .le 18, 172, 0), (157, .aload_n 0, 0, 0), (158, .getfield 44, 5, 12), (161, .bipush 17, 17, 0), (163, .iload 4, 4, 0), (165, .imul, 0, 0), (166, .iconst 1, 1, 0), (167, .iadd, 0, 0), (168, .iaload, 0, 0), (169, .goto 4, 173, 0)]),
  (172, [(172, .iconst (-1), 0, 1), (173, .ireturn, 0, 0)]),
  (173, [(173, .ireturn, 0, 0)]),
  (174, [(174, .iconst (-1), 0, 1), (175, .ireturn, 0, 0)])]
/-- 93: PermitTreeModel.orders -/
def aT_93 : List (Nat × List aE) := [
  (0, [(0, .aload_n 0, 0, 0), (1, .iconst 0, 0, 0), (2, .putfield 80, 5, 0), (5, .iconst 0, 0, 0), (6, .iload_n 1, 1, 0), (7, .invokestatic 103, 61, 2), (10, .ifCond .eq 12, 22, 0), (13, .aload_n 0, 0, 0), (14, .getfield 62, 5, 18), (17, .iload_n 1, 1, 0), (18, .iaload, 0, 0), (19, .goto 4, 23, 0)]),
  (22, [(22, .iconst (-1), 0, 1), (23, .ireturn, 0, 0)]),
  (23, [(23, .ireturn, 0, 0)])]
/-- 94: PermitTreeModel.done -/
def aT_94 : List (Nat × List aE) := [
  (0, [(0, .aload_n 0, 0, 0), (1, .iconst 0, 0, 0), (2, .putfield 80, 5, 0), (5, .iconst 0, 0, 0), (6, .iload_n 1, 1, 0), (7, .invokestatic 103, 61, 2), (10, .ifCond .eq 30, 40, 0), (13, .iload_n 2, 2, 0), (14, .ifCond .lt 26, 40, 0), (17, .iload_n 2, 2, 0), (18, .aload_n 0, 0, 0), (19, .getfield 62, 5, 18), (22, .iload_n 1, 1, 0), (23, .iaload, 0, 0), (24, .if_icmp .ge 16, 40, 0), (27, .iload_n 2, 2, 0), (28, .aload_n 0, 0, 0), (29, .getfield 62, 5, 18), (32, .iload_n 1, 1, 0), (33, .iaload, 0, 0), (34, .bipush 64, 64, 0), (36, .isub, 0, 0), (37, .if_icmp .ge 5, 42, 0), (40, .iconst (-1), 0, 1), (41, .ireturn, 0, 0)]),
  (40, [(40, .iconst (-1), 0, 1), (41, .ireturn, 0, 0)]),
  (42, [(42, .bipush 64, 64, 0), (44, .iload_n 1, 1, 0), (45, .imul, 0, 0), (46, .iload_n 2, 2, 0), (47, .bipush 64, 64, 0), (49, .irem, 0, 0), (50, .iadd, 0, 0), (51, .istore 4, 4, 0), (53, .iload_n 3, 3, 0), (54, .ifCond .ne 13, 67, 0), (57, .aload_n 0, 0, 0), (58, .getfield 65, 5, 19), (61, .iload 4, 4, 0), (63, .iaload, 0, 0), (64, .goto 19, 83, 0)]),
  (67, [(67, .iload_n 3, 3, 0), (68, .iconst 1, 1, 0), (69, .if_icmp .ne 13, 82, 0), (72, .aload_n 0, 0, 0), (73, .getfield 68, 5, 20), (76, .iload 4, 4, 0), (78, .iaload, 0, 0), (79, .goto 4, 83, 0)]),
  (82, [(82, .iconst (-1), 0, 1), (83, .ireturn, 0, 0)]),
  (83, [(83, .ireturn, 0, 0)])]
/-- 95: PermitTreeModel.highest -/
def aT_95 : List (Nat × List aE) := [
  (0, [(0, .aload_n 0, 0, 0), (1, .iconst 0, 0, 0), (2, .putfield 80, 5, 0), (5, .iconst 0, 0, 0), (6, .iload_n 1, 1, 0), (7, .invokestatic 103, 61, 2), (10, .ifCond .eq 12, 22, 0), (13, .aload_n 0, 0, 0), (14, .getfield 56, 5, 16), (17, .iload_n 1, 1, 0), (18, .iaload, 0, 0), (19, .goto 4, 23, 0)]),
  (22, [(22, .iconst (-1), 0, 1), (23, .ireturn, 0, 0)]),
  (23, [(23, .ireturn, 0, 0)])]
/-- 96: PermitTreeLaw.law -/
def aT_96 : List (Nat × List aE) := [
  (16, [(16, .iconst 0, 0, 0), (17, .istore_n 3, 3, 0), (18, .iload_n 3, 3, 0), (19, .aload_n 0, 0, 0), (20, .arraylength, 0, 0), (21, .iconst 4, 4, 0), (22, .isub, 0, 0), (23, .if_icmp .gt 721, 744, 0), (26, .aload_n 0, 0, 0), (27, .iload_n 3, 3, 0), (28, .iaload, 0, 0), (29, .bipush 31, 31, 0), (31, .iand, 0, 0), (32, .tableswitch 706 0 19 #[96, 129, 172, 205, 238, 271, 314, 337, 360, 373, 406, 429, 452, 475, 508, 541, 574, 617, 640, 683], 0, 0)]),
  (18, [(18, .iload_n 3, 3, 0), (19, .aload_n 0, 0, 0), (20, .arraylength, 0, 0), (21, .iconst 4, 4, 0), (22, .isub, 0, 0), (23, .if_icmp .gt 721, 744, 0), (26, .aload_n 0, 0, 0), (27, .iload_n 3, 3, 0), (28, .iaload, 0, 0), (29, .bipush 31, 31, 0), (31, .iand, 0, 0), (32, .tableswitch 706 0 19 #[96, 129, 172, 205, 238, 271, 314, 337, 360, 373, 406, 429, 452, 475, 508, 541, 574, 617, 640, 683], 0, 0)]),
  (128, [(128, .aload_n 1, 1, 0), (129, .aload_n 0, 0, 0), (130, .iload_n 3, 3, 0), (131, .iconst 1, 1, 0), (132, .iadd, 0, 0), (133, .iaload, 0, 0), (134, .aload_n 0, 0, 0), (135, .iload_n 3, 3, 0), (136, .iconst 2, 2, 0), (137, .iadd, 0, 0), (138, .iaload, 0, 0), (139, .invokevirtual 13, 0, 3), (142, .aload_n 2, 2, 0), (143, .aload_n 0, 0, 0), (144, .iload_n 3, 3, 0), (145, .iconst 1, 1, 0), (146, .iadd, 0, 0), (147, .iaload, 0, 0), (148, .aload_n 0, 0, 0), (149, .iload_n 3, 3, 0), (150, .iconst 2, 2, 0), (151, .iadd, 0, 0), (152, .iaload, 0, 0), (153, .invokevirtual 17, 60, 3), (156, .if_icmp .eq 582, 738, 0), (159, .iconst 0, 0, 0), (160, .ireturn, 1, 0)]),
  (161, [(161, .aload_n 1, 1, 0), (162, .aload_n 0, 0, 0), (163, .iload_n 3, 3, 0), (164, .iconst 1, 1, 0), (165, .iadd, 0, 0), (166, .iaload, 0, 0), (167, .aload_n 0, 0, 0), (168, .iload_n 3, 3, 0), (169, .iconst 2, 2, 0), (170, .iadd, 0, 0), (171, .iaload, 0, 0), (172, .aload_n 0, 0, 0), (173, .iload_n 3, 3, 0), (174, .iconst 3, 3, 0), (175, .iadd, 0, 0), (176, .iaload, 0, 0), (177, .invokevirtual 18, 12, 4), (180, .aload_n 2, 2, 0), (181, .aload_n 0, 0, 0), (182, .iload_n 3, 3, 0), (183, .iconst 1, 1, 0), (184, .iadd, 0, 0), (185, .iaload, 0, 0), (186, .aload_n 0, 0, 0), (187, .iload_n 3, 3, 0), (188, .iconst 2, 2, 0), (189, .iadd, 0, 0), (190, .iaload, 0, 0), (191, .aload_n 0, 0, 0), (192, .iload_n 3, 3, 0), (193, .iconst 3, 3, 0), (194, .iadd, 0, 0), (195, .iaload, 0, 0), (196, .invokevirtual 22, 67, 4), (199, .if_icmp .eq 539, 738, 0), (202, .iconst 0, 0, 0), (203, .ireturn, 1, 0)]),
  (204, [(204, .aload_n 1, 1, 0), (205, .aload_n 0, 0, 0), (206, .iload_n 3, 3, 0), (207, .iconst 1, 1, 0), (208, .iadd, 0, 0), (209, .iaload, 0, 0), (210, .aload_n 0, 0, 0), (211, .iload_n 3, 3, 0), (212, .iconst 2, 2, 0), (213, .iadd, 0, 0), (214, .iaload, 0, 0), (215, .invokevirtual 23, 14, 3), (218, .aload_n 2, 2, 0), (219, .aload_n 0, 0, 0), (220, .iload_n 3, 3, 0), (221, .iconst 1, 1, 0), (222, .iadd, 0, 0), (223, .iaload, 0, 0), (224, .aload_n 0, 0, 0), (225, .iload_n 3, 3, 0), (226, .iconst 2, 2, 0), (227, .iadd, 0, 0), (228, .iaload, 0, 0), (229, .invokevirtual 27, 69, 3), (232, .if_icmp .eq 506, 738, 0), (235, .iconst 0, 0, 0), (236, .ireturn, 1, 0)]),
  (237, [(237, .aload_n 1, 1, 0), (238, .aload_n 0, 0, 0), (239, .iload_n 3, 3, 0), (240, .iconst 1, 1, 0), (241, .iadd, 0, 0), (242, .iaload, 0, 0), (243, .aload_n 0, 0, 0), (244, .iload_n 3, 3, 0), (245, .iconst 2, 2, 0), (246, .iadd, 0, 0), (247, .iaload, 0, 0), (248, .invokevirtual 28, 16, 3), (251, .aload_n 2, 2, 0), (252, .aload_n 0, 0, 0), (253, .iload_n 3, 3, 0), (254, .iconst 1, 1, 0), (255, .iadd, 0, 0), (256, .iaload, 0, 0), (257, .aload_n 0, 0, 0), (258, .iload_n 3, 3, 0), (259, .iconst 2, 2, 0), (260, .iadd, 0, 0), (261, .iaload, 0, 0), (262, .invokevirtual 31, 71, 3), (265, .if_icmp .eq 473, 738, 0), (268, .iconst 0, 0, 0), (269, .ireturn, 1, 0)]),
  (270, [(270, .aload_n 1, 1, 0), (271, .aload_n 0, 0, 0), (272, .iload_n 3, 3, 0), (273, .iconst 1, 1, 0), (274, .iadd, 0, 0), (275, .iaload, 0, 0), (276, .aload_n 0, 0, 0), (277, .iload_n 3, 3, 0), (278, .iconst 2, 2, 0), (279, .iadd, 0, 0), (280, .iaload, 0, 0), (281, .invokevirtual 32, 18, 3), (284, .aload_n 2, 2, 0), (285, .aload_n 0, 0, 0), (286, .iload_n 3, 3, 0), (287, .iconst 1, 1, 0), (288, .iadd, 0, 0), (289, .iaload, 0, 0), (290, .aload_n 0, 0, 0), (291, .iload_n 3, 3, 0), (292, .iconst 2, 2, 0), (293, .iadd, 0, 0), (294, .iaload, 0, 0), (295, .invokevirtual 35, 72, 3), (298, .if_icmp .eq 440, 738, 0), (301, .iconst 0, 0, 0), (302, .ireturn, 1, 0)]),
  (303, [(303, .aload_n 1, 1, 0), (304, .aload_n 0, 0, 0), (305, .iload_n 3, 3, 0), (306, .iconst 1, 1, 0), (307, .iadd, 0, 0), (308, .iaload, 0, 0), (309, .aload_n 0, 0, 0), (310, .iload_n 3, 3, 0), (311, .iconst 2, 2, 0), (312, .iadd, 0, 0), (313, .iaload, 0, 0), (314, .aload_n 0, 0, 0), (315, .iload_n 3, 3, 0), (316, .iconst 3, 3, 0), (317, .iadd, 0, 0), (318, .iaload, 0, 0), (319, .invokevirtual 36, 19, 4), (322, .aload_n 2, 2, 0), (323, .aload_n 0, 0, 0), (324, .iload_n 3, 3, 0), (325, .iconst 1, 1, 0), (326, .iadd, 0, 0), (327, .iaload, 0, 0), (328, .aload_n 0, 0, 0), (329, .iload_n 3, 3, 0), (330, .iconst 2, 2, 0), (331, .iadd, 0, 0), (332, .iaload, 0, 0), (333, .aload_n 0, 0, 0), (334, .iload_n 3, 3, 0), (335, .iconst 3, 3, 0), (336, .iadd, 0, 0), (337, .iaload, 0, 0), (338, .invokevirtual 39, 73, 4), (341, .if_icmp .eq 397, 738, 0), (344, .iconst 0, 0, 0), (345, .ireturn, 1, 0)]),
  (346, [(346, .aload_n 1, 1, 0), (347, .aload_n 0, 0, 0), (348, .iload_n 3, 3, 0), (349, .iconst 1, 1, 0), (350, .iadd, 0, 0), (351, .iaload, 0, 0), (352, .invokevirtual 40, 21, 2), (355, .aload_n 2, 2, 0), (356, .aload_n 0, 0, 0), (357, .iload_n 3, 3, 0), (358, .iconst 1, 1, 0), (359, .iadd, 0, 0), (360, .iaload, 0, 0), (361, .invokevirtual 44, 74, 2), (364, .if_icmp .eq 374, 738, 0), (367, .iconst 0, 0, 0), (368, .ireturn, 1, 0)]),
  (369, [(369, .aload_n 1, 1, 0), (370, .aload_n 0, 0, 0), (371, .iload_n 3, 3, 0), (372, .iconst 1, 1, 0), (373, .iadd, 0, 0), (374, .iaload, 0, 0), (375, .invokevirtual 45, 22, 2), (378, .aload_n 2, 2, 0), (379, .aload_n 0, 0, 0), (380, .iload_n 3, 3, 0), (381, .iconst 1, 1, 0), (382, .iadd, 0, 0), (383, .iaload, 0, 0), (384, .invokevirtual 48, 75, 2), (387, .if_icmp .eq 351, 738, 0), (390, .iconst 0, 0, 0), (391, .ireturn, 1, 0)]),
  (392, [(392, .aload_n 1, 1, 0), (393, .invokevirtual 49, 23, 1), (396, .aload_n 2, 2, 0), (397, .invokevirtual 53, 76, 1), (400, .if_icmp .eq 338, 738, 0), (403, .iconst 0, 0, 0), (404, .ireturn, 1, 0)]),
  (405, [(405, .aload_n 1, 1, 0), (406, .aload_n 0, 0, 0), (407, .iload_n 3, 3, 0), (408, .iconst 1, 1, 0), (409, .iadd, 0, 0), (410, .iaload, 0, 0), (411, .aload_n 0, 0, 0), (412, .iload_n 3, 3, 0), (413, .iconst 2, 2, 0), (414, .iadd, 0, 0), (415, .iaload, 0, 0), (416, .invokevirtual 54, 24, 3), (419, .aload_n 2, 2, 0), (420, .aload_n 0, 0, 0), (421, .iload_n 3, 3, 0), (422, .iconst 1, 1, 0), (423, .iadd, 0, 0), (424, .iaload, 0, 0), (425, .aload_n 0, 0, 0), (426, .iload_n 3, 3, 0), (427, .iconst 2, 2, 0), (428, .iadd, 0, 0), (429, .iaload, 0, 0), (430, .invokevirtual 57, 77, 3), (433, .if_icmp .eq 305, 738, 0), (436, .iconst 0, 0, 0), (437, .ireturn, 1, 0)]),
  (438, [(438, .aload_n 1, 1, 0), (439, .aload_n 0, 0, 0), (440, .iload_n 3, 3, 0), (441, .iconst 1, 1, 0), (442, .iadd, 0, 0), (443, .iaload, 0, 0), (444, .invokevirtual 58, 27, 2), (447, .aload_n 2, 2, 0), (448, .aload_n 0, 0, 0), (449, .iload_n 3, 3, 0), (450, .iconst 1, 1, 0), (451, .iadd, 0, 0), (452, .iaload, 0, 0), (453, .invokevirtual 61, 79, 2), (456, .if_icmp .eq 282, 738, 0), (459, .iconst 0, 0, 0), (460, .ireturn, 1, 0)]),
  (461, [(461, .aload_n 1, 1, 0), (462, .aload_n 0, 0, 0), (463, .iload_n 3, 3, 0), (464, .iconst 1, 1, 0), (465, .iadd, 0, 0), (466, .iaload, 0, 0), (467, .invokevirtual 62, 47, 2), (470, .aload_n 2, 2, 0), (471, .aload_n 0, 0, 0), (472, .iload_n 3, 3, 0), (473, .iconst 1, 1, 0), (474, .iadd, 0, 0), (475, .iaload, 0, 0), (476, .invokevirtual 65, 87, 2), (479, .if_icmp .eq 259, 738, 0), (482, .iconst 0, 0, 0), (483, .ireturn, 1, 0)]),
  (484, [(484, .aload_n 1, 1, 0), (485, .aload_n 0, 0, 0), (486, .iload_n 3, 3, 0), (487, .iconst 1, 1, 0), (488, .iadd, 0, 0), (489, .iaload, 0, 0), (490, .invokevirtual 66, 48, 2), (493, .aload_n 2, 2, 0), (494, .aload_n 0, 0, 0), (495, .iload_n 3, 3, 0), (496, .iconst 1, 1, 0), (497, .iadd, 0, 0), (498, .iaload, 0, 0), (499, .invokevirtual 69, 88, 2), (502, .if_icmp .eq 236, 738, 0), (505, .iconst 0, 0, 0), (506, .ireturn, 1, 0)]),
  (507, [(507, .aload_n 1, 1, 0), (508, .aload_n 0, 0, 0), (509, .iload_n 3, 3, 0), (510, .iconst 1, 1, 0), (511, .iadd, 0, 0), (512, .iaload, 0, 0), (513, .aload_n 0, 0, 0), (514, .iload_n 3, 3, 0), (515, .iconst 2, 2, 0), (516, .iadd, 0, 0), (517, .iaload, 0, 0), (518, .invokevirtual 70, 50, 3), (521, .aload_n 2, 2, 0), (522, .aload_n 0, 0, 0), (523, .iload_n 3, 3, 0), (524, .iconst 1, 1, 0), (525, .iadd, 0, 0), (526, .iaload, 0, 0), (527, .aload_n 0, 0, 0), (528, .iload_n 3, 3, 0), (529, .iconst 2, 2, 0), (530, .iadd, 0, 0), (531, .iaload, 0, 0), (532, .invokevirtual 73, 89, 3), (535, .if_icmp .eq 203, 738, 0), (538, .iconst 0, 0, 0), (539, .ireturn, 1, 0)]),
  (540, [(540, .aload_n 1, 1, 0), (541, .aload_n 0, 0, 0), (542, .iload_n 3, 3, 0), (543, .iconst 1, 1, 0), (544, .iadd, 0, 0), (545, .iaload, 0, 0), (546, .aload_n 0, 0, 0), (547, .iload_n 3, 3, 0), (548, .iconst 2, 2, 0), (549, .iadd, 0, 0), (550, .iaload, 0, 0), (551, .invokevirtual 74, 51, 3), (554, .aload_n 2, 2, 0), (555, .aload_n 0, 0, 0), (556, .iload_n 3, 3, 0), (557, .iconst 1, 1, 0), (558, .iadd, 0, 0), (559, .iaload, 0, 0), (560, .aload_n 0, 0, 0), (561, .iload_n 3, 3, 0), (562, .iconst 2, 2, 0), (563, .iadd, 0, 0), (564, .iaload, 0, 0), (565, .invokevirtual 77, 90, 3), (568, .if_icmp .eq 170, 738, 0), (571, .iconst 0, 0, 0), (572, .ireturn, 1, 0)]),
  (573, [(573, .aload_n 1, 1, 0), (574, .aload_n 0, 0, 0), (575, .iload_n 3, 3, 0), (576, .iconst 1, 1, 0), (577, .iadd, 0, 0), (578, .iaload, 0, 0), (579, .aload_n 0, 0, 0), (580, .iload_n 3, 3, 0), (581, .iconst 2, 2, 0), (582, .iadd, 0, 0), (583, .iaload, 0, 0), (584, .invokevirtual 78, 52, 3), (587, .aload_n 2, 2, 0), (588, .aload_n 0, 0, 0), (589, .iload_n 3, 3, 0), (590, .iconst 1, 1, 0), (591, .iadd, 0, 0), (592, .iaload, 0, 0), (593, .aload_n 0, 0, 0), (594, .iload_n 3, 3, 0), (595, .iconst 2, 2, 0), (596, .iadd, 0, 0), (597, .iaload, 0, 0), (598, .invokevirtual 81, 91, 3), (601, .if_icmp .eq 137, 738, 0), (604, .iconst 0, 0, 0), (605, .ireturn, 1, 0)]),
  (606, [(606, .aload_n 1, 1, 0), (607, .aload_n 0, 0, 0), (608, .iload_n 3, 3, 0), (609, .iconst 1, 1, 0), (610, .iadd, 0, 0), (611, .iaload, 0, 0), (612, .aload_n 0, 0, 0), (613, .iload_n 3, 3, 0), (614, .iconst 2, 2, 0), (615, .iadd, 0, 0), (616, .iaload, 0, 0), (617, .aload_n 0, 0, 0), (618, .iload_n 3, 3, 0), (619, .iconst 3, 3, 0), (620, .iadd, 0, 0), (621, .iaload, 0, 0), (622, .invokevirtual 82, 53, 4), (625, .aload_n 2, 2, 0), (626, .aload_n 0, 0, 0), (627, .iload_n 3, 3, 0), (628, .iconst 1, 1, 0), (629, .iadd, 0, 0), (630, .iaload, 0, 0), (631, .aload_n 0, 0, 0), (632, .iload_n 3, 3, 0), (633, .iconst 2, 2, 0), (634, .iadd, 0, 0), (635, .iaload, 0, 0), (636, .aload_n 0, 0, 0), (637, .iload_n 3, 3, 0), (638, .iconst 3, 3, 0), (639, .iadd, 0, 0), (640, .iaload, 0, 0), (641, .invokevirtual 86, 92, 4), (644, .if_icmp .eq 94, 738, 0), (647, .iconst 0, 0, 0), (648, .ireturn, 1, 0)]),
  (649, [(649, .aload_n 1, 1, 0), (650, .aload_n 0, 0, 0), (651, .iload_n 3, 3, 0), (652, .iconst 1, 1, 0), (653, .iadd, 0, 0), (654, .iaload, 0, 0), (655, .invokevirtual 87, 54, 2), (658, .aload_n 2, 2, 0), (659, .aload_n 0, 0, 0), (660, .iload_n 3, 3, 0), (661, .iconst 1, 1, 0), (662, .iadd, 0, 0), (663, .iaload, 0, 0), (664, .invokevirtual 91, 93, 2), (667, .if_icmp .eq 71, 738, 0), (670, .iconst 0, 0, 0), (671, .ireturn, 1, 0)]),
  (672, [(672, .aload_n 1, 1, 0), (673, .aload_n 0, 0, 0), (674, .iload_n 3, 3, 0), (675, .iconst 1, 1, 0), (676, .iadd, 0, 0), (677, .iaload, 0, 0), (678, .aload_n 0, 0, 0), (679, .iload_n 3, 3, 0), (680, .iconst 2, 2, 0), (681, .iadd, 0, 0), (682, .iaload, 0, 0), (683, .aload_n 0, 0, 0), (684, .iload_n 3, 3, 0), (685, .iconst 3, 3, 0), (686, .iadd, 0, 0), (687, .iaload, 0, 0), (688, .invokevirtual 92, 55, 4), (691, .aload_n 2, 2, 0), (692, .aload_n 0, 0, 0), (693, .iload_n 3, 3, 0), (694, .iconst 1, 1, 0), (695, .iadd, 0, 0), (696, .iaload, 0, 0), (697, .aload_n 0, 0, 0), (698, .iload_n 3, 3, 0), (699, .iconst 2, 2, 0), (700, .iadd, 0, 0), (701, .iaload, 0, 0), (702, .aload_n 0, 0, 0), (703, .iload_n 3, 3, 0), (704, .iconst 3, 3, 0), (705, .iadd, 0, 0), (706, .iaload, 0, 0), (707, .invokevirtual 95, 94, 4), (710, .if_icmp .eq 28, 738, 0), (713, .iconst 0, 0, 0), (714, .ireturn, 1, 0)]),
  (715, [(715, .aload_n 1, 1, 0), (716, .aload_n 0, 0, 0), (717, .iload_n 3, 3, 0), (718, .iconst 1, 1, 0), (719, .iadd, 0, 0), (720, .iaload, 0, 0), (721, .invokevirtual 96, 59, 2), (724, .aload_n 2, 2, 0), (725, .aload_n 0, 0, 0), (726, .iload_n 3, 3, 0), (727, .iconst 1, 1, 0), (728, .iadd, 0, 0), (729, .iaload, 0, 0), (730, .invokevirtual 99, 95, 2), (733, .if_icmp .eq 5, 738, 0), (736, .iconst 0, 0, 0), (737, .ireturn, 1, 0)]),
  (738, [(738, .iinc 3 4, 3, 4), (741, .goto (-723), 18, 0)]),
  (744, [(744, .iconst 1, 1, 0), (745, .ireturn, 1, 0)])]
def aBl (k : Nat) : List (Nat × List aE) := match k with
  | 0 => aT_0
  | 1 => aT_1
  | 2 => aT_2
  | 3 => aT_3
  | 4 => aT_4
  | 5 => aT_5
  | 6 => aT_6
  | 7 => aT_7
  | 8 => aT_8
  | 9 => aT_9
  | 10 => aT_10
  | 11 => aT_11
  | 12 => aT_12
  | 13 => aT_13
  | 14 => aT_14
  | 15 => aT_15
  | 16 => aT_16
  | 17 => aT_17
  | 18 => aT_18
  | 19 => aT_19
  | 20 => aT_20
  | 21 => aT_21
  | 22 => aT_22
  | 23 => aT_23
  | 24 => aT_24
  | 25 => aT_25
  | 26 => aT_26
  | 27 => aT_27
  | 28 => aT_28
  | 29 => aT_29
  | 30 => aT_30
  | 31 => aT_31
  | 32 => aT_32
  | 33 => aT_33
  | 34 => aT_34
  | 35 => aT_35
  | 36 => aT_36
  | 37 => aT_37
  | 38 => aT_38
  | 39 => aT_39
  | 40 => aT_40
  | 41 => aT_41
  | 42 => aT_42
  | 43 => aT_43
  | 44 => aT_44
  | 45 => aT_45
  | 46 => aT_46
  | 47 => aT_47
  | 48 => aT_48
  | 49 => aT_49
  | 50 => aT_50
  | 51 => aT_51
  | 52 => aT_52
  | 53 => aT_53
  | 54 => aT_54
  | 55 => aT_55
  | 56 => aT_56
  | 57 => aT_57
  | 58 => aT_58
  | 59 => aT_59
  | 60 => aT_60
  | 61 => aT_61
  | 62 => aT_62
  | 63 => aT_63
  | 64 => aT_64
  | 65 => aT_65
  | 66 => aT_66
  | 67 => aT_67
  | 68 => aT_68
  | 69 => aT_69
  | 70 => aT_70
  | 71 => aT_71
  | 72 => aT_72
  | 73 => aT_73
  | 74 => aT_74
  | 75 => aT_75
  | 76 => aT_76
  | 77 => aT_77
  | 78 => aT_78
  | 79 => aT_79
  | 80 => aT_80
  | 81 => aT_81
  | 82 => aT_82
  | 83 => aT_83
  | 84 => aT_84
  | 85 => aT_85
  | 86 => aT_86
  | 87 => aT_87
  | 88 => aT_88
  | 89 => aT_89
  | 90 => aT_90
  | 91 => aT_91
  | 92 => aT_92
  | 93 => aT_93
  | 94 => aT_94
  | 95 => aT_95
  | 96 => aT_96
  | _ => []
def lkB (t : Nat) : List (Nat × List aE) → List aE
  | [] => []
  | q :: l => bif Nat.beq q.1 t then q.2 else lkB t l
def aB (k t : Nat) : List aE := lkB t (aBl k)
/-- the kinds of cells: 15 Model.down, 16 Model.runs, 17 Model.state, 18 Model.run, 19 Model.silent, 20 Model.asked, 21 Model.votes, 22 Model.quorum, 23 Model.stored, 24 Model.permit, 25 Model.told, 26 Model.rowClient, 27 Model.rowRun, 28 Model.many, 29 Model.greatest, 30 Model.highest, 31 Model.broken, 32 Model.orders, 33 Model.doneNumber, 34 Model.doneCode, 35 Model.post, 36 Model.coming, 37 Model.route -/
def aK (t : Nat) : (Nat × List (Option Nat)) ⊕ (Nat × Nat × Nat) := match t with
  | 0 => .inr (9, 0, 0)
  | 1 => .inl (4, [some 2, some 4, some 5, some 6, some 7, none])
  | 2 => .inl (3, [some 3, none])
  | 3 => .inr (0, 1680, 0)
  | 4 => .inr (2, 32, 8)
  | 5 => .inr (2, 60, 9)
  | 6 => .inr (2, 4, 11)
  | 7 => .inr (0, 8, 0)
  | 8 => .inl (1, [none, none, none, none, none, none, none, none, none, none, none])
  | 9 => .inl (0, [none, none, none, some 10])
  | 10 => .inr (0, 16, 0)
  | 11 => .inl (2, [none, none, none, some 12, some 13])
  | 12 => .inr (0, 64, 0)
  | 13 => .inr (0, 64, 0)
  | 14 => .inl (5, [none, some 15, some 16, some 17, some 18, some 19, some 20, some 21, some 22, some 23, some 24, some 25, some 26, some 27, some 28, some 29, some 30, some 31, some 32, some 33, some 34, none, some 35, some 36, some 37])
  | 15 => .inr (1, 15, 0)
  | 16 => .inr (0, 8, 0)
  | 17 => .inr (0, 32, 0)
  | 18 => .inr (0, 32, 0)
  | 19 => .inr (0, 32, 0)
  | 20 => .inr (0, 32, 0)
  | 21 => .inr (0, 32, 0)
  | 22 => .inr (0, 32, 0)
  | 23 => .inr (0, 32, 0)
  | 24 => .inr (0, 32, 0)
  | 25 => .inr (0, 480, 0)
  | 26 => .inr (0, 1020, 0)
  | 27 => .inr (0, 1020, 0)
  | 28 => .inr (0, 60, 0)
  | 29 => .inr (0, 60, 0)
  | 30 => .inr (0, 4, 0)
  | 31 => .inr (0, 4, 0)
  | 32 => .inr (0, 4, 0)
  | 33 => .inr (0, 256, 0)
  | 34 => .inr (0, 256, 0)
  | 35 => .inr (0, 1920, 0)
  | 36 => .inr (0, 8, 0)
  | 37 => .inr (0, 15, 0)
  | 50 => .inr (3, 0, 0)
  | _ => .inr (9, 0, 0)
def aN (t : Nat) : Nat := match t with
  | 0 => 0
  | 1 => 1
  | 2 => 1
  | 3 => 1
  | 4 => 1
  | 5 => 1
  | 6 => 1
  | 7 => 1
  | 8 => 32
  | 9 => 60
  | 10 => 60
  | 11 => 4
  | 12 => 4
  | 13 => 4
  | 14 => 1
  | 15 => 1
  | 16 => 1
  | 17 => 1
  | 18 => 1
  | 19 => 1
  | 20 => 1
  | 21 => 1
  | 22 => 1
  | 23 => 1
  | 24 => 1
  | 25 => 1
  | 26 => 1
  | 27 => 1
  | 28 => 1
  | 29 => 1
  | 30 => 1
  | 31 => 1
  | 32 => 1
  | 33 => 1
  | 34 => 1
  | 35 => 1
  | 36 => 1
  | 37 => 1
  | _ => 0
