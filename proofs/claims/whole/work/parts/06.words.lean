/-! THE WORDS, printed by program (wip/whole/gen3.py): which links the instructions have, by their places among the tables' words -/
def flT : List (Nat × Nat × Nat × Nat × Nat × Nat) := [(0, 11, 0, 0, 118, 0), (0, 18, 0, 2, 122, 0), (0, 21, 0, 3, 124, 0), (1, 9, 1, 2, 70, 0), (1, 15, 1, 3, 72, 0), (1, 18, 1, 4, 74, 0), (1, 21, 1, 5, 76, 0), (1, 24, 1, 6, 78, 0), (1, 27, 1, 7, 80, 0), (1, 30, 1, 8, 82, 0), (1, 33, 1, 9, 84, 0), (1, 36, 1, 10, 86, 0), (2, 7, 2, 0, 141, 0), (2, 13, 2, 1, 143, 0), (2, 16, 2, 2, 144, 0), (2, 19, 2, 3, 146, 0), (2, 23, 2, 4, 147, 0), (3, 11, 3, 0, 50, 0), (3, 15, 3, 1, 51, 0), (4, 12, 4, 0, 159, 0), (4, 18, 4, 1, 160, 0), (4, 27, 4, 2, 161, 0), (4, 34, 4, 3, 162, 0), (4, 39, 4, 4, 163, 0), (4, 43, 4, 5, 164, 0), (4, 51, 1, 2, 71, 1), (4, 62, 1, 3, 73, 1), (4, 69, 1, 6, 79, 1), (4, 92, 1, 4, 75, 1), (4, 107, 3, 1, 52, 1), (4, 143, 1, 7, 81, 1), (4, 146, 1, 9, 85, 1), (4, 153, 0, 0, 119, 1), (4, 163, 0, 1, 121, 1), (4, 166, 0, 2, 123, 1), (4, 173, 2, 2, 145, 1), (4, 183, 2, 0, 142, 1), (4, 192, 1, 0, 67, 1), (4, 195, 1, 1, 69, 1), (4, 198, 1, 8, 83, 1), (4, 201, 1, 5, 77, 1), (4, 212, 1, 10, 87, 1), (5, 7, 5, 1, 426, 0), (5, 13, 5, 2, 427, 0), (5, 17, 5, 3, 428, 0), (5, 20, 5, 4, 429, 0), (5, 23, 5, 5, 430, 0), (5, 26, 5, 6, 431, 0), (5, 29, 5, 7, 432, 0), (5, 32, 5, 8, 433, 0), (5, 35, 5, 9, 434, 0), (5, 38, 5, 10, 435, 0), (5, 41, 5, 11, 436, 0), (5, 44, 5, 12, 437, 0), (5, 47, 5, 13, 438, 0), (5, 50, 5, 14, 439, 0), (5, 53, 5, 15, 440, 0), (5, 56, 5, 16, 441, 0), (5, 59, 5, 17, 442, 0), (5, 62, 5, 18, 443, 0), (5, 65, 5, 19, 444, 0), (5, 68, 5, 20, 445, 0), (5, 71, 5, 22, 447, 0), (5, 74, 5, 23, 448, 0), (5, 77, 5, 24, 449, 0), (5, 80, 5, 0, 425, 0), (5, 84, 5, 21, 446, 0)]
def puT : List (Nat × Nat × Nat × Nat) := [(0, 11, 0, 0), (0, 18, 0, 2), (1, 9, 1, 2), (1, 15, 1, 3), (1, 18, 1, 4), (1, 21, 1, 5), (1, 24, 1, 6), (1, 27, 1, 7), (1, 30, 1, 8), (1, 33, 1, 9), (1, 36, 1, 10), (2, 7, 2, 0), (2, 13, 2, 1), (2, 16, 2, 2), (3, 15, 3, 1), (4, 43, 4, 5), (4, 51, 1, 2), (4, 69, 1, 6), (4, 92, 1, 4), (4, 143, 1, 7), (4, 146, 1, 9), (4, 163, 0, 1), (4, 198, 1, 8), (4, 201, 1, 5), (4, 212, 1, 10), (5, 80, 5, 0), (5, 84, 5, 21)]
def mlT : List (Nat × Nat × Nat × Nat) := [(0, 25, 33, 346), (0, 31, 43, 350), (0, 34, 39, 335), (0, 38, 45, 357), (0, 42, 46, 362), (2, 26, 33, 312), (3, 19, 11, 257), (4, 47, 1, 182), (4, 54, 5, 196), (4, 58, 6, 200), (4, 65, 8, 207), (4, 72, 9, 210), (4, 76, 13, 225), (4, 79, 15, 233), (4, 82, 17, 241), (4, 86, 3, 189), (4, 89, 4, 192), (4, 95, 10, 213), (4, 99, 11, 217), (4, 103, 20, 253), (4, 110, 25, 274), (4, 113, 26, 278), (4, 117, 28, 286), (4, 120, 29, 293), (4, 124, 31, 304), (4, 128, 32, 308), (4, 131, 34, 315), (4, 134, 35, 320), (4, 137, 36, 323), (4, 140, 49, 374), (4, 149, 37, 327), (4, 156, 41, 343), (4, 160, 42, 347), (4, 169, 46, 394), (4, 174, 56, 403), (4, 177, 57, 407), (4, 180, 58, 411), (4, 186, 2, 186), (4, 189, 7, 204), (4, 204, 30, 297), (4, 213, 38, 331), (4, 216, 40, 339), (4, 219, 44, 353), (5, 87, 65, 521), (5, 91, 63, 513), (5, 95, 64, 517), (5, 99, 66, 525), (5, 103, 61, 506), (5, 107, 62, 509), (5, 110, 68, 533), (5, 114, 70, 540), (5, 117, 84, 596), (5, 121, 85, 600), (5, 123, 86, 604), (5, 127, 78, 572), (5, 130, 80, 580), (5, 133, 81, 584), (5, 136, 82, 588), (5, 139, 83, 592), (6, 13, 0, 178), (6, 17, 60, 502), (6, 18, 12, 221), (6, 22, 67, 529), (6, 23, 14, 229), (6, 27, 69, 536), (6, 28, 16, 237), (6, 31, 71, 544), (6, 32, 18, 245), (6, 35, 72, 548), (6, 36, 19, 249), (6, 39, 73, 552), (6, 40, 21, 258), (6, 44, 74, 556), (6, 45, 22, 262), (6, 48, 75, 560), (6, 49, 23, 266), (6, 53, 76, 564), (6, 54, 24, 270), (6, 57, 77, 568), (6, 58, 27, 282), (6, 61, 79, 576), (6, 62, 47, 366), (6, 65, 87, 608), (6, 66, 48, 370), (6, 69, 88, 612), (6, 70, 50, 378), (6, 73, 89, 616), (6, 74, 51, 382), (6, 77, 90, 620), (6, 78, 52, 386), (6, 81, 91, 624), (6, 82, 53, 390), (6, 86, 92, 628), (6, 87, 54, 395), (6, 91, 93, 632), (6, 92, 55, 399), (6, 95, 94, 636), (6, 96, 59, 415), (6, 99, 95, 640)]
def mxT : List (Nat × Nat × Nat) := [(2, 32, 319), (4, 207, 301)]
def acT : List (Nat × Nat × Nat) := [(0, 46, 361), (3, 23, 290)]
def mfT : List (Nat × Nat × Nat × Nat × Nat × Nat) := [(0, 1, 181, 28, 179, 180), (1, 1, 185, 28, 184, 0), (2, 0, 188, 28, 187, 0), (3, 0, 191, 28, 190, 0), (4, 1, 195, 28, 194, 1), (5, 1, 199, 30, 197, 198), (6, 1, 203, 28, 202, 2), (7, 0, 206, 28, 205, 0), (8, 0, 209, 28, 208, 0), (9, 0, 212, 28, 211, 0), (10, 1, 216, 28, 215, 3), (11, 1, 220, 29, 218, 219), (12, 1, 224, 28, 222, 223), (13, 1, 228, 28, 227, 4), (14, 1, 232, 28, 230, 231), (15, 1, 236, 28, 235, 5), (16, 1, 240, 28, 238, 239), (17, 1, 244, 30, 242, 243), (18, 1, 248, 28, 246, 247), (19, 1, 252, 28, 250, 251), (20, 1, 256, 29, 254, 255), (21, 1, 261, 28, 259, 260), (22, 1, 265, 28, 263, 264), (23, 1, 269, 28, 267, 268), (24, 1, 273, 28, 271, 272), (25, 1, 277, 29, 275, 276), (26, 1, 281, 29, 279, 280), (27, 1, 285, 28, 283, 284), (28, 1, 289, 29, 287, 288), (29, 1, 296, 28, 295, 6), (30, 1, 300, 30, 298, 299), (31, 1, 307, 28, 306, 7), (32, 1, 311, 32, 309, 310), (33, 0, 314, 35, 313, 0), (34, 1, 318, 32, 316, 317), (35, 0, 322, 31, 321, 0), (36, 1, 326, 28, 325, 8), (37, 1, 330, 28, 329, 9), (38, 1, 334, 31, 332, 333), (39, 1, 338, 31, 337, 10), (40, 1, 342, 28, 341, 11), (41, 0, 345, 31, 344, 0), (42, 0, 349, 31, 348, 0), (43, 0, 352, 35, 351, 0), (44, 1, 356, 31, 354, 355), (45, 1, 360, 31, 359, 12), (46, 1, 365, 31, 363, 364), (47, 1, 369, 28, 367, 368), (48, 1, 373, 28, 371, 372), (49, 1, 377, 29, 375, 376), (50, 1, 381, 28, 379, 380), (51, 1, 385, 28, 383, 384), (52, 1, 389, 28, 387, 388), (53, 1, 393, 28, 391, 392), (54, 1, 398, 28, 396, 397), (55, 1, 402, 28, 400, 401), (56, 1, 406, 32, 404, 405), (57, 1, 410, 32, 408, 409), (58, 1, 414, 32, 412, 413), (59, 1, 418, 28, 416, 417), (60, 1, 505, 33, 503, 504), (61, 0, 508, 33, 507, 0), (62, 1, 512, 33, 511, 13), (63, 1, 516, 33, 515, 14), (64, 1, 520, 33, 519, 15), (65, 1, 524, 33, 523, 16), (66, 1, 528, 33, 527, 17), (67, 1, 532, 33, 530, 531), (68, 0, 535, 33, 534, 0), (69, 1, 539, 33, 537, 538), (70, 1, 543, 33, 542, 18), (71, 1, 547, 33, 545, 546), (72, 1, 551, 33, 549, 550), (73, 1, 555, 33, 553, 554), (74, 1, 559, 33, 557, 558), (75, 1, 563, 33, 561, 562), (76, 1, 567, 33, 565, 566), (77, 1, 571, 33, 569, 570), (78, 1, 575, 33, 574, 19), (79, 1, 579, 33, 577, 578), (80, 1, 583, 33, 582, 20), (81, 1, 587, 33, 586, 21), (82, 1, 591, 33, 590, 22), (83, 1, 595, 33, 594, 23), (84, 1, 599, 33, 598, 24), (85, 1, 603, 33, 602, 25), (86, 1, 607, 33, 606, 26), (87, 1, 611, 33, 609, 610), (88, 1, 615, 33, 613, 614), (89, 1, 619, 33, 617, 618), (90, 1, 623, 33, 621, 622), (91, 1, 627, 33, 625, 626), (92, 1, 631, 33, 629, 630), (93, 1, 635, 33, 633, 634), (94, 1, 639, 33, 637, 638), (95, 1, 643, 33, 641, 642)]
def wAt (p : Nat) (c : Cond) : Bool := decide (lw_tbl[p]? = some c)
def Om : List Cond := lw_tbl.filter goodWord
theorem wAt_Om {p : Nat} {c : Cond} (h : (wAt p c && goodWord c) = true) : c ∈ Om := by
  unfold wAt at h
  simp only [Bool.and_eq_true, decide_eq_true_eq] at h
  exact List.mem_filter.mpr ⟨List.mem_of_getElem? h.1, h.2⟩
def flK (q : Nat × Nat × Nat × Nat × Nat × Nat) : Bool := match aCl[q.2.2.1]? with
  | none => false
  | some (_, T, N) => Nat.blt q.2.2.2.1 N && (bif Nat.beq q.2.2.2.2.2 0 then (wAt q.2.2.2.2.1 (.fieldLink (oN q.1) q.2.1 (T q.2.2.2.1).1 (T q.2.2.2.1).2.1 (T q.2.2.2.1).2.2.1) && goodWord (.fieldLink (oN q.1) q.2.1 (T q.2.2.2.1).1 (T q.2.2.2.1).2.1 (T q.2.2.2.1).2.2.1)) else wAt q.2.2.2.2.1 (.fieldLinkNest (oN q.1) q.2.1 (T q.2.2.2.1).1 (T q.2.2.2.1).2.1 (T q.2.2.2.1).2.2.1 "PermitTree"))
def puK (q : Nat × Nat × Nat × Nat) : Bool := match aCl[q.2.2.1]? with
  | none => false
  | some (_, T, _) => decide ((T q.2.2.2).2.2.2 = false) && decide ((T q.2.2.2).2.2.1 = "I")
def mlK (q : Nat × Nat × Nat × Nat) : Bool := wAt q.2.2.2 (.methodLink (oN q.1) q.2.1 (mY q.2.2.1)) && goodWord (.methodLink (oN q.1) q.2.1 (mY q.2.2.1))
def mxK (q : Nat × Nat × Nat) : Bool := wAt q.2.2 (.methodLink (oN q.1) q.2.1 Lib.Math.max.name) && goodWord (.methodLink (oN q.1) q.2.1 Lib.Math.max.name)
def acK (q : Nat × Nat × Nat) : Bool := wAt q.2.2 (.methodLink (oN q.1) q.2.1 arraycopyName) && goodWord (.methodLink (oN q.1) q.2.1 arraycopyName)
def mfK (q : Nat × Nat × Nat × Nat × Nat × Nat) : Bool := (wAt q.2.2.2.1 (.initialized (mY q.1).cls) && goodWord (.initialized (mY q.1).cls)) &&
  ((bif Nat.beq q.2.1 0 then (wAt q.2.2.2.2.1 (.static (mY q.1)) && goodWord (.static (mY q.1))) else ((wAt q.2.2.2.2.1 (.instanceMethod (mY q.1)) && goodWord (.instanceMethod (mY q.1))) && (wAt q.2.2.2.2.2 (.selects (mY q.1).cls (mY q.1) (mY q.1)) && goodWord (.selects (mY q.1).cls (mY q.1) (mY q.1))))) &&
  ((decide ((mY q.1).cls = oN (mO q.1)) && plainFor (mY q.1)) && (decide ((parseMethodDescriptor (mY q.1).desc).map (fun d => d.parameters.length + q.2.1) = some (mA q.1)) && (decide ((mY q.1).cls ≠ "java/lang/invoke/MethodHandle") && (decide ((mY q.1).cls ≠ "java/lang/invoke/VarHandle") && (Nat.ble (mL q.1) 21 && Nat.ble (mA q.1) (mL q.1)))))))
set_option maxRecDepth 100000 in
theorem flT_ok : flT.all flK = true := by decide +kernel
set_option maxRecDepth 100000 in
theorem puT_ok : puT.all puK = true := by decide +kernel
set_option maxRecDepth 100000 in
theorem mlT_ok : mlT.all mlK = true := by decide +kernel
set_option maxRecDepth 100000 in
theorem mxT_ok : mxT.all mxK = true := by decide +kernel
set_option maxRecDepth 100000 in
theorem acT_ok : acT.all acK = true := by decide +kernel
set_option maxRecDepth 100000 in
theorem mfT_ok : mfT.all mfK = true := by decide +kernel
set_option maxRecDepth 100000 in
theorem mc_0 : lw_tbl[181]? = some (Cond.code (mY 0) (mB 0) (mL 0) (mR 0)) := rfl
set_option maxRecDepth 100000 in
theorem mc_1 : lw_tbl[185]? = some (Cond.code (mY 1) (mB 1) (mL 1) (mR 1)) := rfl
set_option maxRecDepth 100000 in
theorem mc_2 : lw_tbl[188]? = some (Cond.code (mY 2) (mB 2) (mL 2) (mR 2)) := rfl
set_option maxRecDepth 100000 in
theorem mc_3 : lw_tbl[191]? = some (Cond.code (mY 3) (mB 3) (mL 3) (mR 3)) := rfl
set_option maxRecDepth 100000 in
theorem mc_4 : lw_tbl[195]? = some (Cond.code (mY 4) (mB 4) (mL 4) (mR 4)) := rfl
set_option maxRecDepth 100000 in
theorem mc_5 : lw_tbl[199]? = some (Cond.code (mY 5) (mB 5) (mL 5) (mR 5)) := rfl
set_option maxRecDepth 100000 in
theorem mc_6 : lw_tbl[203]? = some (Cond.code (mY 6) (mB 6) (mL 6) (mR 6)) := rfl
set_option maxRecDepth 100000 in
theorem mc_7 : lw_tbl[206]? = some (Cond.code (mY 7) (mB 7) (mL 7) (mR 7)) := rfl
set_option maxRecDepth 100000 in
theorem mc_8 : lw_tbl[209]? = some (Cond.code (mY 8) (mB 8) (mL 8) (mR 8)) := rfl
set_option maxRecDepth 100000 in
theorem mc_9 : lw_tbl[212]? = some (Cond.code (mY 9) (mB 9) (mL 9) (mR 9)) := rfl
set_option maxRecDepth 100000 in
theorem mc_10 : lw_tbl[216]? = some (Cond.code (mY 10) (mB 10) (mL 10) (mR 10)) := rfl
set_option maxRecDepth 100000 in
theorem mc_11 : lw_tbl[220]? = some (Cond.code (mY 11) (mB 11) (mL 11) (mR 11)) := rfl
set_option maxRecDepth 100000 in
theorem mc_12 : lw_tbl[224]? = some (Cond.code (mY 12) (mB 12) (mL 12) (mR 12)) := rfl
set_option maxRecDepth 100000 in
theorem mc_13 : lw_tbl[228]? = some (Cond.code (mY 13) (mB 13) (mL 13) (mR 13)) := rfl
set_option maxRecDepth 100000 in
theorem mc_14 : lw_tbl[232]? = some (Cond.code (mY 14) (mB 14) (mL 14) (mR 14)) := rfl
set_option maxRecDepth 100000 in
theorem mc_15 : lw_tbl[236]? = some (Cond.code (mY 15) (mB 15) (mL 15) (mR 15)) := rfl
set_option maxRecDepth 100000 in
theorem mc_16 : lw_tbl[240]? = some (Cond.code (mY 16) (mB 16) (mL 16) (mR 16)) := rfl
set_option maxRecDepth 100000 in
theorem mc_17 : lw_tbl[244]? = some (Cond.code (mY 17) (mB 17) (mL 17) (mR 17)) := rfl
set_option maxRecDepth 100000 in
theorem mc_18 : lw_tbl[248]? = some (Cond.code (mY 18) (mB 18) (mL 18) (mR 18)) := rfl
set_option maxRecDepth 100000 in
theorem mc_19 : lw_tbl[252]? = some (Cond.code (mY 19) (mB 19) (mL 19) (mR 19)) := rfl
set_option maxRecDepth 100000 in
theorem mc_20 : lw_tbl[256]? = some (Cond.code (mY 20) (mB 20) (mL 20) (mR 20)) := rfl
set_option maxRecDepth 100000 in
theorem mc_21 : lw_tbl[261]? = some (Cond.code (mY 21) (mB 21) (mL 21) (mR 21)) := rfl
set_option maxRecDepth 100000 in
theorem mc_22 : lw_tbl[265]? = some (Cond.code (mY 22) (mB 22) (mL 22) (mR 22)) := rfl
set_option maxRecDepth 100000 in
theorem mc_23 : lw_tbl[269]? = some (Cond.code (mY 23) (mB 23) (mL 23) (mR 23)) := rfl
set_option maxRecDepth 100000 in
theorem mc_24 : lw_tbl[273]? = some (Cond.code (mY 24) (mB 24) (mL 24) (mR 24)) := rfl
set_option maxRecDepth 100000 in
theorem mc_25 : lw_tbl[277]? = some (Cond.code (mY 25) (mB 25) (mL 25) (mR 25)) := rfl
set_option maxRecDepth 100000 in
theorem mc_26 : lw_tbl[281]? = some (Cond.code (mY 26) (mB 26) (mL 26) (mR 26)) := rfl
set_option maxRecDepth 100000 in
theorem mc_27 : lw_tbl[285]? = some (Cond.code (mY 27) (mB 27) (mL 27) (mR 27)) := rfl
set_option maxRecDepth 100000 in
theorem mc_28 : lw_tbl[289]? = some (Cond.code (mY 28) (mB 28) (mL 28) (mR 28)) := rfl
set_option maxRecDepth 100000 in
theorem mc_29 : lw_tbl[296]? = some (Cond.code (mY 29) (mB 29) (mL 29) (mR 29)) := rfl
set_option maxRecDepth 100000 in
theorem mc_30 : lw_tbl[300]? = some (Cond.code (mY 30) (mB 30) (mL 30) (mR 30)) := rfl
set_option maxRecDepth 100000 in
theorem mc_31 : lw_tbl[307]? = some (Cond.code (mY 31) (mB 31) (mL 31) (mR 31)) := rfl
set_option maxRecDepth 100000 in
theorem mc_32 : lw_tbl[311]? = some (Cond.code (mY 32) (mB 32) (mL 32) (mR 32)) := rfl
set_option maxRecDepth 100000 in
theorem mc_33 : lw_tbl[314]? = some (Cond.code (mY 33) (mB 33) (mL 33) (mR 33)) := rfl
set_option maxRecDepth 100000 in
theorem mc_34 : lw_tbl[318]? = some (Cond.code (mY 34) (mB 34) (mL 34) (mR 34)) := rfl
set_option maxRecDepth 100000 in
theorem mc_35 : lw_tbl[322]? = some (Cond.code (mY 35) (mB 35) (mL 35) (mR 35)) := rfl
set_option maxRecDepth 100000 in
theorem mc_36 : lw_tbl[326]? = some (Cond.code (mY 36) (mB 36) (mL 36) (mR 36)) := rfl
set_option maxRecDepth 100000 in
theorem mc_37 : lw_tbl[330]? = some (Cond.code (mY 37) (mB 37) (mL 37) (mR 37)) := rfl
set_option maxRecDepth 100000 in
theorem mc_38 : lw_tbl[334]? = some (Cond.code (mY 38) (mB 38) (mL 38) (mR 38)) := rfl
set_option maxRecDepth 100000 in
theorem mc_39 : lw_tbl[338]? = some (Cond.code (mY 39) (mB 39) (mL 39) (mR 39)) := rfl
set_option maxRecDepth 100000 in
theorem mc_40 : lw_tbl[342]? = some (Cond.code (mY 40) (mB 40) (mL 40) (mR 40)) := rfl
set_option maxRecDepth 100000 in
theorem mc_41 : lw_tbl[345]? = some (Cond.code (mY 41) (mB 41) (mL 41) (mR 41)) := rfl
set_option maxRecDepth 100000 in
theorem mc_42 : lw_tbl[349]? = some (Cond.code (mY 42) (mB 42) (mL 42) (mR 42)) := rfl
set_option maxRecDepth 100000 in
theorem mc_43 : lw_tbl[352]? = some (Cond.code (mY 43) (mB 43) (mL 43) (mR 43)) := rfl
set_option maxRecDepth 100000 in
theorem mc_44 : lw_tbl[356]? = some (Cond.code (mY 44) (mB 44) (mL 44) (mR 44)) := rfl
set_option maxRecDepth 100000 in
theorem mc_45 : lw_tbl[360]? = some (Cond.code (mY 45) (mB 45) (mL 45) (mR 45)) := rfl
set_option maxRecDepth 100000 in
theorem mc_46 : lw_tbl[365]? = some (Cond.code (mY 46) (mB 46) (mL 46) (mR 46)) := rfl
set_option maxRecDepth 100000 in
theorem mc_47 : lw_tbl[369]? = some (Cond.code (mY 47) (mB 47) (mL 47) (mR 47)) := rfl
set_option maxRecDepth 100000 in
theorem mc_48 : lw_tbl[373]? = some (Cond.code (mY 48) (mB 48) (mL 48) (mR 48)) := rfl
set_option maxRecDepth 100000 in
theorem mc_49 : lw_tbl[377]? = some (Cond.code (mY 49) (mB 49) (mL 49) (mR 49)) := rfl
set_option maxRecDepth 100000 in
theorem mc_50 : lw_tbl[381]? = some (Cond.code (mY 50) (mB 50) (mL 50) (mR 50)) := rfl
set_option maxRecDepth 100000 in
theorem mc_51 : lw_tbl[385]? = some (Cond.code (mY 51) (mB 51) (mL 51) (mR 51)) := rfl
set_option maxRecDepth 100000 in
theorem mc_52 : lw_tbl[389]? = some (Cond.code (mY 52) (mB 52) (mL 52) (mR 52)) := rfl
set_option maxRecDepth 100000 in
theorem mc_53 : lw_tbl[393]? = some (Cond.code (mY 53) (mB 53) (mL 53) (mR 53)) := rfl
set_option maxRecDepth 100000 in
theorem mc_54 : lw_tbl[398]? = some (Cond.code (mY 54) (mB 54) (mL 54) (mR 54)) := rfl
set_option maxRecDepth 100000 in
theorem mc_55 : lw_tbl[402]? = some (Cond.code (mY 55) (mB 55) (mL 55) (mR 55)) := rfl
set_option maxRecDepth 100000 in
theorem mc_56 : lw_tbl[406]? = some (Cond.code (mY 56) (mB 56) (mL 56) (mR 56)) := rfl
set_option maxRecDepth 100000 in
theorem mc_57 : lw_tbl[410]? = some (Cond.code (mY 57) (mB 57) (mL 57) (mR 57)) := rfl
set_option maxRecDepth 100000 in
theorem mc_58 : lw_tbl[414]? = some (Cond.code (mY 58) (mB 58) (mL 58) (mR 58)) := rfl
set_option maxRecDepth 100000 in
theorem mc_59 : lw_tbl[418]? = some (Cond.code (mY 59) (mB 59) (mL 59) (mR 59)) := rfl
set_option maxRecDepth 100000 in
theorem mc_60 : lw_tbl[505]? = some (Cond.code (mY 60) (mB 60) (mL 60) (mR 60)) := rfl
set_option maxRecDepth 100000 in
theorem mc_61 : lw_tbl[508]? = some (Cond.code (mY 61) (mB 61) (mL 61) (mR 61)) := rfl
set_option maxRecDepth 100000 in
theorem mc_62 : lw_tbl[512]? = some (Cond.code (mY 62) (mB 62) (mL 62) (mR 62)) := rfl
set_option maxRecDepth 100000 in
theorem mc_63 : lw_tbl[516]? = some (Cond.code (mY 63) (mB 63) (mL 63) (mR 63)) := rfl
set_option maxRecDepth 100000 in
theorem mc_64 : lw_tbl[520]? = some (Cond.code (mY 64) (mB 64) (mL 64) (mR 64)) := rfl
set_option maxRecDepth 100000 in
theorem mc_65 : lw_tbl[524]? = some (Cond.code (mY 65) (mB 65) (mL 65) (mR 65)) := rfl
set_option maxRecDepth 100000 in
theorem mc_66 : lw_tbl[528]? = some (Cond.code (mY 66) (mB 66) (mL 66) (mR 66)) := rfl
set_option maxRecDepth 100000 in
theorem mc_67 : lw_tbl[532]? = some (Cond.code (mY 67) (mB 67) (mL 67) (mR 67)) := rfl
set_option maxRecDepth 100000 in
theorem mc_68 : lw_tbl[535]? = some (Cond.code (mY 68) (mB 68) (mL 68) (mR 68)) := rfl
set_option maxRecDepth 100000 in
theorem mc_69 : lw_tbl[539]? = some (Cond.code (mY 69) (mB 69) (mL 69) (mR 69)) := rfl
set_option maxRecDepth 100000 in
theorem mc_70 : lw_tbl[543]? = some (Cond.code (mY 70) (mB 70) (mL 70) (mR 70)) := rfl
set_option maxRecDepth 100000 in
theorem mc_71 : lw_tbl[547]? = some (Cond.code (mY 71) (mB 71) (mL 71) (mR 71)) := rfl
set_option maxRecDepth 100000 in
theorem mc_72 : lw_tbl[551]? = some (Cond.code (mY 72) (mB 72) (mL 72) (mR 72)) := rfl
set_option maxRecDepth 100000 in
theorem mc_73 : lw_tbl[555]? = some (Cond.code (mY 73) (mB 73) (mL 73) (mR 73)) := rfl
set_option maxRecDepth 100000 in
theorem mc_74 : lw_tbl[559]? = some (Cond.code (mY 74) (mB 74) (mL 74) (mR 74)) := rfl
set_option maxRecDepth 100000 in
theorem mc_75 : lw_tbl[563]? = some (Cond.code (mY 75) (mB 75) (mL 75) (mR 75)) := rfl
set_option maxRecDepth 100000 in
theorem mc_76 : lw_tbl[567]? = some (Cond.code (mY 76) (mB 76) (mL 76) (mR 76)) := rfl
set_option maxRecDepth 100000 in
theorem mc_77 : lw_tbl[571]? = some (Cond.code (mY 77) (mB 77) (mL 77) (mR 77)) := rfl
set_option maxRecDepth 100000 in
theorem mc_78 : lw_tbl[575]? = some (Cond.code (mY 78) (mB 78) (mL 78) (mR 78)) := rfl
set_option maxRecDepth 100000 in
theorem mc_79 : lw_tbl[579]? = some (Cond.code (mY 79) (mB 79) (mL 79) (mR 79)) := rfl
set_option maxRecDepth 100000 in
theorem mc_80 : lw_tbl[583]? = some (Cond.code (mY 80) (mB 80) (mL 80) (mR 80)) := rfl
set_option maxRecDepth 100000 in
theorem mc_81 : lw_tbl[587]? = some (Cond.code (mY 81) (mB 81) (mL 81) (mR 81)) := rfl
set_option maxRecDepth 100000 in
theorem mc_82 : lw_tbl[591]? = some (Cond.code (mY 82) (mB 82) (mL 82) (mR 82)) := rfl
set_option maxRecDepth 100000 in
theorem mc_83 : lw_tbl[595]? = some (Cond.code (mY 83) (mB 83) (mL 83) (mR 83)) := rfl
set_option maxRecDepth 100000 in
theorem mc_84 : lw_tbl[599]? = some (Cond.code (mY 84) (mB 84) (mL 84) (mR 84)) := rfl
set_option maxRecDepth 100000 in
theorem mc_85 : lw_tbl[603]? = some (Cond.code (mY 85) (mB 85) (mL 85) (mR 85)) := rfl
set_option maxRecDepth 100000 in
theorem mc_86 : lw_tbl[607]? = some (Cond.code (mY 86) (mB 86) (mL 86) (mR 86)) := rfl
set_option maxRecDepth 100000 in
theorem mc_87 : lw_tbl[611]? = some (Cond.code (mY 87) (mB 87) (mL 87) (mR 87)) := rfl
set_option maxRecDepth 100000 in
theorem mc_88 : lw_tbl[615]? = some (Cond.code (mY 88) (mB 88) (mL 88) (mR 88)) := rfl
set_option maxRecDepth 100000 in
theorem mc_89 : lw_tbl[619]? = some (Cond.code (mY 89) (mB 89) (mL 89) (mR 89)) := rfl
set_option maxRecDepth 100000 in
theorem mc_90 : lw_tbl[623]? = some (Cond.code (mY 90) (mB 90) (mL 90) (mR 90)) := rfl
set_option maxRecDepth 100000 in
theorem mc_91 : lw_tbl[627]? = some (Cond.code (mY 91) (mB 91) (mL 91) (mR 91)) := rfl
set_option maxRecDepth 100000 in
theorem mc_92 : lw_tbl[631]? = some (Cond.code (mY 92) (mB 92) (mL 92) (mR 92)) := rfl
set_option maxRecDepth 100000 in
theorem mc_93 : lw_tbl[635]? = some (Cond.code (mY 93) (mB 93) (mL 93) (mR 93)) := rfl
set_option maxRecDepth 100000 in
theorem mc_94 : lw_tbl[639]? = some (Cond.code (mY 94) (mB 94) (mL 94) (mR 94)) := rfl
set_option maxRecDepth 100000 in
theorem mc_95 : lw_tbl[643]? = some (Cond.code (mY 95) (mB 95) (mL 95) (mR 95)) := rfl
theorem mc_in : ∀ k, k < 96 → ∃ p : Nat, lw_tbl[p]? = some (Cond.code (mY k) (mB k) (mL k) (mR k))
  | 0, _ => ⟨_, mc_0⟩
  | 1, _ => ⟨_, mc_1⟩
  | 2, _ => ⟨_, mc_2⟩
  | 3, _ => ⟨_, mc_3⟩
  | 4, _ => ⟨_, mc_4⟩
  | 5, _ => ⟨_, mc_5⟩
  | 6, _ => ⟨_, mc_6⟩
  | 7, _ => ⟨_, mc_7⟩
  | 8, _ => ⟨_, mc_8⟩
  | 9, _ => ⟨_, mc_9⟩
  | 10, _ => ⟨_, mc_10⟩
  | 11, _ => ⟨_, mc_11⟩
  | 12, _ => ⟨_, mc_12⟩
  | 13, _ => ⟨_, mc_13⟩
  | 14, _ => ⟨_, mc_14⟩
  | 15, _ => ⟨_, mc_15⟩
  | 16, _ => ⟨_, mc_16⟩
  | 17, _ => ⟨_, mc_17⟩
  | 18, _ => ⟨_, mc_18⟩
  | 19, _ => ⟨_, mc_19⟩
  | 20, _ => ⟨_, mc_20⟩
  | 21, _ => ⟨_, mc_21⟩
  | 22, _ => ⟨_, mc_22⟩
  | 23, _ => ⟨_, mc_23⟩
  | 24, _ => ⟨_, mc_24⟩
  | 25, _ => ⟨_, mc_25⟩
  | 26, _ => ⟨_, mc_26⟩
  | 27, _ => ⟨_, mc_27⟩
  | 28, _ => ⟨_, mc_28⟩
  | 29, _ => ⟨_, mc_29⟩
  | 30, _ => ⟨_, mc_30⟩
  | 31, _ => ⟨_, mc_31⟩
  | 32, _ => ⟨_, mc_32⟩
  | 33, _ => ⟨_, mc_33⟩
  | 34, _ => ⟨_, mc_34⟩
  | 35, _ => ⟨_, mc_35⟩
  | 36, _ => ⟨_, mc_36⟩
  | 37, _ => ⟨_, mc_37⟩
  | 38, _ => ⟨_, mc_38⟩
  | 39, _ => ⟨_, mc_39⟩
  | 40, _ => ⟨_, mc_40⟩
  | 41, _ => ⟨_, mc_41⟩
  | 42, _ => ⟨_, mc_42⟩
  | 43, _ => ⟨_, mc_43⟩
  | 44, _ => ⟨_, mc_44⟩
  | 45, _ => ⟨_, mc_45⟩
  | 46, _ => ⟨_, mc_46⟩
  | 47, _ => ⟨_, mc_47⟩
  | 48, _ => ⟨_, mc_48⟩
  | 49, _ => ⟨_, mc_49⟩
  | 50, _ => ⟨_, mc_50⟩
  | 51, _ => ⟨_, mc_51⟩
  | 52, _ => ⟨_, mc_52⟩
  | 53, _ => ⟨_, mc_53⟩
  | 54, _ => ⟨_, mc_54⟩
  | 55, _ => ⟨_, mc_55⟩
  | 56, _ => ⟨_, mc_56⟩
  | 57, _ => ⟨_, mc_57⟩
  | 58, _ => ⟨_, mc_58⟩
  | 59, _ => ⟨_, mc_59⟩
  | 60, _ => ⟨_, mc_60⟩
  | 61, _ => ⟨_, mc_61⟩
  | 62, _ => ⟨_, mc_62⟩
  | 63, _ => ⟨_, mc_63⟩
  | 64, _ => ⟨_, mc_64⟩
  | 65, _ => ⟨_, mc_65⟩
  | 66, _ => ⟨_, mc_66⟩
  | 67, _ => ⟨_, mc_67⟩
  | 68, _ => ⟨_, mc_68⟩
  | 69, _ => ⟨_, mc_69⟩
  | 70, _ => ⟨_, mc_70⟩
  | 71, _ => ⟨_, mc_71⟩
  | 72, _ => ⟨_, mc_72⟩
  | 73, _ => ⟨_, mc_73⟩
  | 74, _ => ⟨_, mc_74⟩
  | 75, _ => ⟨_, mc_75⟩
  | 76, _ => ⟨_, mc_76⟩
  | 77, _ => ⟨_, mc_77⟩
  | 78, _ => ⟨_, mc_78⟩
  | 79, _ => ⟨_, mc_79⟩
  | 80, _ => ⟨_, mc_80⟩
  | 81, _ => ⟨_, mc_81⟩
  | 82, _ => ⟨_, mc_82⟩
  | 83, _ => ⟨_, mc_83⟩
  | 84, _ => ⟨_, mc_84⟩
  | 85, _ => ⟨_, mc_85⟩
  | 86, _ => ⟨_, mc_86⟩
  | 87, _ => ⟨_, mc_87⟩
  | 88, _ => ⟨_, mc_88⟩
  | 89, _ => ⟨_, mc_89⟩
  | 90, _ => ⟨_, mc_90⟩
  | 91, _ => ⟨_, mc_91⟩
  | 92, _ => ⟨_, mc_92⟩
  | 93, _ => ⟨_, mc_93⟩
  | 94, _ => ⟨_, mc_94⟩
  | 95, _ => ⟨_, mc_95⟩
  | k + 96, h => absurd h (by omega)
