/-! THE CHECK of the tables' entries, by program -/
def aLen (i : Jvm.ClassFile.Instr) : Nat := match i with
  | .bipush _ => 2
  | .sipush _ => 3
  | .iload _ => 2
  | .aload _ => 2
  | .istore _ => 2
  | .astore _ => 2
  | .iinc _ _ => 3
  | .goto _ => 3
  | .ifnull _ => 3
  | .ifnonnull _ => 3
  | .ifCond _ _ => 3
  | .if_icmp _ _ => 3
  | .getfield _ => 3
  | .putfield _ => 3
  | .invokevirtual _ => 3
  | .invokestatic _ => 3
  | _ => 1
def flC (o i x y : Nat) : Bool := flT.any (fun q => Nat.beq q.1 o && (Nat.beq q.2.1 i && (Nat.beq q.2.2.1 x && Nat.beq q.2.2.2.1 y)))
def puC (o i x y : Nat) : Bool := puT.any (fun q => Nat.beq q.1 o && (Nat.beq q.2.1 i && (Nat.beq q.2.2.1 x && Nat.beq q.2.2.2 y)))
def mlC (o i x : Nat) : Bool := mlT.any (fun q => Nat.beq q.1 o && (Nat.beq q.2.1 i && Nat.beq q.2.2.1 x))
def mxC (o i : Nat) : Bool := mxT.any (fun q => Nat.beq q.1 o && Nat.beq q.2.1 i)
def acC (o i : Nat) : Bool := acT.any (fun q => Nat.beq q.1 o && Nat.beq q.2.1 i)
def mvC (x v : Nat) : Bool := mfT.any (fun q => Nat.beq q.1 x && Nat.beq q.2.1 v)
def eok (k : Nat) (e : aE) : Bool := match e.2.1 with
  | .iconst n => bif Nat.beq e.2.2.2 0 then decide (Int32.ofInt n = nI e.2.2.1) else decide (Int32.ofInt n = -1)
  | .bipush n => decide ((Int8.ofInt n).toInt32 = nI e.2.2.1)
  | .sipush n => decide ((Int16.ofInt n).toInt32 = nI e.2.2.1)
  | .iload i => Nat.beq i e.2.2.1
  | .iload_n i => Nat.beq i.val e.2.2.1
  | .aload i => Nat.beq i e.2.2.1
  | .aload_n i => Nat.beq i.val e.2.2.1
  | .istore i => Nat.beq i e.2.2.1 && Nat.blt e.2.2.1 (mL k)
  | .istore_n i => Nat.beq i.val e.2.2.1 && Nat.blt e.2.2.1 (mL k)
  | .astore i => Nat.beq i e.2.2.1 && Nat.blt e.2.2.1 (mL k)
  | .astore_n i => Nat.beq i.val e.2.2.1 && Nat.blt e.2.2.1 (mL k)
  | .iinc i n => Nat.beq i e.2.2.1 && (Nat.blt e.2.2.1 (mL k) && (bif Nat.beq e.2.2.2 0 then decide (Int32.ofInt n = -1) else decide (Int32.ofInt n = nI e.2.2.2)))
  | .goto f => decide ((e.1 : Int) + f = (e.2.2.1 : Int))
  | .ifnull f => decide ((e.1 : Int) + f = (e.2.2.1 : Int))
  | .ifnonnull f => decide ((e.1 : Int) + f = (e.2.2.1 : Int))
  | .ifCond _ f => decide ((e.1 : Int) + f = (e.2.2.1 : Int))
  | .if_icmp _ f => decide ((e.1 : Int) + f = (e.2.2.1 : Int))
  | .tableswitch df lo hi offs => decide (0 ≤ (e.1 : Int) + df) && (decide (lo = 0) && (decide (hi + 1 = (offs.size : Int)) && (decide (offs.size ≤ 100) && offs.toList.all (fun o => decide (0 ≤ (e.1 : Int) + o)))))
  | .getfield i => flC (mO k) i e.2.2.1 e.2.2.2
  | .putfield i => flC (mO k) i e.2.2.1 e.2.2.2 && puC (mO k) i e.2.2.1 e.2.2.2
  | .invokevirtual i => mlC (mO k) i e.2.2.1 && (Nat.beq e.2.2.2 (mA e.2.2.1) && (mvC e.2.2.1 1 && Nat.blt e.2.2.1 96))
  | .invokestatic i => bif Nat.beq e.2.2.1 1000 then mxC (mO k) i else bif Nat.beq e.2.2.1 1001 then acC (mO k) i else (mlC (mO k) i e.2.2.1 && (Nat.beq e.2.2.2 (mA e.2.2.1) && (mvC e.2.2.1 0 && Nat.blt e.2.2.1 96)))
  | .ireturn => bif Nat.beq e.2.2.1 0 then decide (mR k = some .int) else decide (mR k = some .boolean)
  | .areturn => (match mR k with
    | some (.object _) => true
    | _ => false)
  | .return_ => decide (mR k = none)
  | _ => true
def isSw (i : Jvm.ClassFile.Instr) : Bool := match i with
  | .tableswitch _ _ _ _ => true
  | _ => false
def chk (k : Nat) : List aE → Bool
  | [] => true
  | e :: is => (match decode (mB k) e.1 with
      | .ok (i, l) => decide (i = e.2.1) && (eok k e && ((isSw i || Nat.beq l (aLen i)) && (match is with
        | [] => true
        | e' :: _ => Nat.beq e'.1 (e.1 + l))))
      | .error _ => false) && chk k is
def chkT (k : Nat) : List (Nat × List aE) → Bool
  | [] => true
  | q :: l => ((match q.2 with
      | [] => false
      | e :: _ => Nat.beq e.1 q.1) && chk k q.2) && chkT k l
set_option maxRecDepth 100000 in
theorem ck_0 : chkT 0 aT_0 = true := by decide +kernel
set_option maxRecDepth 100000 in
theorem ck_1 : chkT 1 aT_1 = true := by decide +kernel
set_option maxRecDepth 100000 in
theorem ck_2 : chkT 2 aT_2 = true := by decide +kernel
set_option maxRecDepth 100000 in
theorem ck_3 : chkT 3 aT_3 = true := by decide +kernel
set_option maxRecDepth 100000 in
theorem ck_4 : chkT 4 aT_4 = true := by decide +kernel
set_option maxRecDepth 100000 in
theorem ck_5 : chkT 5 aT_5 = true := by decide +kernel
set_option maxRecDepth 100000 in
theorem ck_6 : chkT 6 aT_6 = true := by decide +kernel
set_option maxRecDepth 100000 in
theorem ck_7 : chkT 7 aT_7 = true := by decide +kernel
set_option maxRecDepth 100000 in
theorem ck_8 : chkT 8 aT_8 = true := by decide +kernel
set_option maxRecDepth 100000 in
theorem ck_9 : chkT 9 aT_9 = true := by decide +kernel
set_option maxRecDepth 100000 in
theorem ck_10 : chkT 10 aT_10 = true := by decide +kernel
set_option maxRecDepth 100000 in
theorem ck_11 : chkT 11 aT_11 = true := by decide +kernel
set_option maxRecDepth 100000 in
theorem ck_12 : chkT 12 aT_12 = true := by decide +kernel
set_option maxRecDepth 100000 in
theorem ck_13 : chkT 13 aT_13 = true := by decide +kernel
set_option maxRecDepth 100000 in
theorem ck_14 : chkT 14 aT_14 = true := by decide +kernel
set_option maxRecDepth 100000 in
theorem ck_15 : chkT 15 aT_15 = true := by decide +kernel
set_option maxRecDepth 100000 in
theorem ck_16 : chkT 16 aT_16 = true := by decide +kernel
set_option maxRecDepth 100000 in
theorem ck_17 : chkT 17 aT_17 = true := by decide +kernel
set_option maxRecDepth 100000 in
theorem ck_18 : chkT 18 aT_18 = true := by decide +kernel
set_option maxRecDepth 100000 in
theorem ck_19 : chkT 19 aT_19 = true := by decide +kernel
set_option maxRecDepth 100000 in
theorem ck_20 : chkT 20 aT_20 = true := by decide +kernel
set_option maxRecDepth 100000 in
theorem ck_21 : chkT 21 aT_21 = true := by decide +kernel
set_option maxRecDepth 100000 in
theorem ck_22 : chkT 22 aT_22 = true := by decide +kernel
set_option maxRecDepth 100000 in
theorem ck_23 : chkT 23 aT_23 = true := by decide +kernel
set_option maxRecDepth 100000 in
theorem ck_24 : chkT 24 aT_24 = true := by decide +kernel
set_option maxRecDepth 100000 in
theorem ck_25 : chkT 25 aT_25 = true := by decide +kernel
set_option maxRecDepth 100000 in
theorem ck_26 : chkT 26 aT_26 = true := by decide +kernel
set_option maxRecDepth 100000 in
theorem ck_27 : chkT 27 aT_27 = true := by decide +kernel
set_option maxRecDepth 100000 in
theorem ck_28 : chkT 28 aT_28 = true := by decide +kernel
set_option maxRecDepth 100000 in
theorem ck_29 : chkT 29 aT_29 = true := by decide +kernel
set_option maxRecDepth 100000 in
theorem ck_30 : chkT 30 aT_30 = true := by decide +kernel
set_option maxRecDepth 100000 in
theorem ck_31 : chkT 31 aT_31 = true := by decide +kernel
set_option maxRecDepth 100000 in
theorem ck_32 : chkT 32 aT_32 = true := by decide +kernel
set_option maxRecDepth 100000 in
theorem ck_33 : chkT 33 aT_33 = true := by decide +kernel
set_option maxRecDepth 100000 in
theorem ck_34 : chkT 34 aT_34 = true := by decide +kernel
set_option maxRecDepth 100000 in
theorem ck_35 : chkT 35 aT_35 = true := by decide +kernel
set_option maxRecDepth 100000 in
theorem ck_36 : chkT 36 aT_36 = true := by decide +kernel
set_option maxRecDepth 100000 in
theorem ck_37 : chkT 37 aT_37 = true := by decide +kernel
set_option maxRecDepth 100000 in
theorem ck_38 : chkT 38 aT_38 = true := by decide +kernel
set_option maxRecDepth 100000 in
theorem ck_39 : chkT 39 aT_39 = true := by decide +kernel
set_option maxRecDepth 100000 in
theorem ck_40 : chkT 40 aT_40 = true := by decide +kernel
set_option maxRecDepth 100000 in
theorem ck_41 : chkT 41 aT_41 = true := by decide +kernel
set_option maxRecDepth 100000 in
theorem ck_42 : chkT 42 aT_42 = true := by decide +kernel
set_option maxRecDepth 100000 in
theorem ck_43 : chkT 43 aT_43 = true := by decide +kernel
set_option maxRecDepth 100000 in
theorem ck_44 : chkT 44 aT_44 = true := by decide +kernel
set_option maxRecDepth 100000 in
theorem ck_45 : chkT 45 aT_45 = true := by decide +kernel
set_option maxRecDepth 100000 in
theorem ck_46 : chkT 46 aT_46 = true := by decide +kernel
set_option maxRecDepth 100000 in
theorem ck_47 : chkT 47 aT_47 = true := by decide +kernel
set_option maxRecDepth 100000 in
theorem ck_48 : chkT 48 aT_48 = true := by decide +kernel
set_option maxRecDepth 100000 in
theorem ck_49 : chkT 49 aT_49 = true := by decide +kernel
set_option maxRecDepth 100000 in
theorem ck_50 : chkT 50 aT_50 = true := by decide +kernel
set_option maxRecDepth 100000 in
theorem ck_51 : chkT 51 aT_51 = true := by decide +kernel
set_option maxRecDepth 100000 in
theorem ck_52 : chkT 52 aT_52 = true := by decide +kernel
set_option maxRecDepth 100000 in
theorem ck_53 : chkT 53 aT_53 = true := by decide +kernel
set_option maxRecDepth 100000 in
theorem ck_54 : chkT 54 aT_54 = true := by decide +kernel
set_option maxRecDepth 100000 in
theorem ck_55 : chkT 55 aT_55 = true := by decide +kernel
set_option maxRecDepth 100000 in
theorem ck_56 : chkT 56 aT_56 = true := by decide +kernel
set_option maxRecDepth 100000 in
theorem ck_57 : chkT 57 aT_57 = true := by decide +kernel
set_option maxRecDepth 100000 in
theorem ck_58 : chkT 58 aT_58 = true := by decide +kernel
set_option maxRecDepth 100000 in
theorem ck_59 : chkT 59 aT_59 = true := by decide +kernel
set_option maxRecDepth 100000 in
theorem ck_60 : chkT 60 aT_60 = true := by decide +kernel
set_option maxRecDepth 100000 in
theorem ck_61 : chkT 61 aT_61 = true := by decide +kernel
set_option maxRecDepth 100000 in
theorem ck_62 : chkT 62 aT_62 = true := by decide +kernel
set_option maxRecDepth 100000 in
theorem ck_63 : chkT 63 aT_63 = true := by decide +kernel
set_option maxRecDepth 100000 in
theorem ck_64 : chkT 64 aT_64 = true := by decide +kernel
set_option maxRecDepth 100000 in
theorem ck_65 : chkT 65 aT_65 = true := by decide +kernel
set_option maxRecDepth 100000 in
theorem ck_66 : chkT 66 aT_66 = true := by decide +kernel
set_option maxRecDepth 100000 in
theorem ck_67 : chkT 67 aT_67 = true := by decide +kernel
set_option maxRecDepth 100000 in
theorem ck_68 : chkT 68 aT_68 = true := by decide +kernel
set_option maxRecDepth 100000 in
theorem ck_69 : chkT 69 aT_69 = true := by decide +kernel
set_option maxRecDepth 100000 in
theorem ck_70 : chkT 70 aT_70 = true := by decide +kernel
set_option maxRecDepth 100000 in
theorem ck_71 : chkT 71 aT_71 = true := by decide +kernel
set_option maxRecDepth 100000 in
theorem ck_72 : chkT 72 aT_72 = true := by decide +kernel
set_option maxRecDepth 100000 in
theorem ck_73 : chkT 73 aT_73 = true := by decide +kernel
set_option maxRecDepth 100000 in
theorem ck_74 : chkT 74 aT_74 = true := by decide +kernel
set_option maxRecDepth 100000 in
theorem ck_75 : chkT 75 aT_75 = true := by decide +kernel
set_option maxRecDepth 100000 in
theorem ck_76 : chkT 76 aT_76 = true := by decide +kernel
set_option maxRecDepth 100000 in
theorem ck_77 : chkT 77 aT_77 = true := by decide +kernel
set_option maxRecDepth 100000 in
theorem ck_78 : chkT 78 aT_78 = true := by decide +kernel
set_option maxRecDepth 100000 in
theorem ck_79 : chkT 79 aT_79 = true := by decide +kernel
set_option maxRecDepth 100000 in
theorem ck_80 : chkT 80 aT_80 = true := by decide +kernel
set_option maxRecDepth 100000 in
theorem ck_81 : chkT 81 aT_81 = true := by decide +kernel
set_option maxRecDepth 100000 in
theorem ck_82 : chkT 82 aT_82 = true := by decide +kernel
set_option maxRecDepth 100000 in
theorem ck_83 : chkT 83 aT_83 = true := by decide +kernel
set_option maxRecDepth 100000 in
theorem ck_84 : chkT 84 aT_84 = true := by decide +kernel
set_option maxRecDepth 100000 in
theorem ck_85 : chkT 85 aT_85 = true := by decide +kernel
set_option maxRecDepth 100000 in
theorem ck_86 : chkT 86 aT_86 = true := by decide +kernel
set_option maxRecDepth 100000 in
theorem ck_87 : chkT 87 aT_87 = true := by decide +kernel
set_option maxRecDepth 100000 in
theorem ck_88 : chkT 88 aT_88 = true := by decide +kernel
set_option maxRecDepth 100000 in
theorem ck_89 : chkT 89 aT_89 = true := by decide +kernel
set_option maxRecDepth 100000 in
theorem ck_90 : chkT 90 aT_90 = true := by decide +kernel
set_option maxRecDepth 100000 in
theorem ck_91 : chkT 91 aT_91 = true := by decide +kernel
set_option maxRecDepth 100000 in
theorem ck_92 : chkT 92 aT_92 = true := by decide +kernel
set_option maxRecDepth 100000 in
theorem ck_93 : chkT 93 aT_93 = true := by decide +kernel
set_option maxRecDepth 100000 in
theorem ck_94 : chkT 94 aT_94 = true := by decide +kernel
set_option maxRecDepth 100000 in
theorem ck_95 : chkT 95 aT_95 = true := by decide +kernel
set_option maxRecDepth 100000 in
theorem ck_96 : chkT 96 aT_96 = true := by decide +kernel
theorem ckT : ∀ k, chkT k (aBl k) = true
  | 0 => ck_0
  | 1 => ck_1
  | 2 => ck_2
  | 3 => ck_3
  | 4 => ck_4
  | 5 => ck_5
  | 6 => ck_6
  | 7 => ck_7
  | 8 => ck_8
  | 9 => ck_9
  | 10 => ck_10
  | 11 => ck_11
  | 12 => ck_12
  | 13 => ck_13
  | 14 => ck_14
  | 15 => ck_15
  | 16 => ck_16
  | 17 => ck_17
  | 18 => ck_18
  | 19 => ck_19
  | 20 => ck_20
  | 21 => ck_21
  | 22 => ck_22
  | 23 => ck_23
  | 24 => ck_24
  | 25 => ck_25
  | 26 => ck_26
  | 27 => ck_27
  | 28 => ck_28
  | 29 => ck_29
  | 30 => ck_30
  | 31 => ck_31
  | 32 => ck_32
  | 33 => ck_33
  | 34 => ck_34
  | 35 => ck_35
  | 36 => ck_36
  | 37 => ck_37
  | 38 => ck_38
  | 39 => ck_39
  | 40 => ck_40
  | 41 => ck_41
  | 42 => ck_42
  | 43 => ck_43
  | 44 => ck_44
  | 45 => ck_45
  | 46 => ck_46
  | 47 => ck_47
  | 48 => ck_48
  | 49 => ck_49
  | 50 => ck_50
  | 51 => ck_51
  | 52 => ck_52
  | 53 => ck_53
  | 54 => ck_54
  | 55 => ck_55
  | 56 => ck_56
  | 57 => ck_57
  | 58 => ck_58
  | 59 => ck_59
  | 60 => ck_60
  | 61 => ck_61
  | 62 => ck_62
  | 63 => ck_63
  | 64 => ck_64
  | 65 => ck_65
  | 66 => ck_66
  | 67 => ck_67
  | 68 => ck_68
  | 69 => ck_69
  | 70 => ck_70
  | 71 => ck_71
  | 72 => ck_72
  | 73 => ck_73
  | 74 => ck_74
  | 75 => ck_75
  | 76 => ck_76
  | 77 => ck_77
  | 78 => ck_78
  | 79 => ck_79
  | 80 => ck_80
  | 81 => ck_81
  | 82 => ck_82
  | 83 => ck_83
  | 84 => ck_84
  | 85 => ck_85
  | 86 => ck_86
  | 87 => ck_87
  | 88 => ck_88
  | 89 => ck_89
  | 90 => ck_90
  | 91 => ck_91
  | 92 => ck_92
  | 93 => ck_93
  | 94 => ck_94
  | 95 => ck_95
  | 96 => ck_96
  | k + 97 => rfl
theorem lkB_ok {k : Nat} (t : Nat) : ∀ (l : List (Nat × List aE)), chkT k l = true → chk k (lkB t l) = true ∧ ∀ e is, lkB t l = e :: is → e.1 = t
  | [], _ => ⟨rfl, fun e is h => by simp [lkB] at h⟩
  | q :: l, h => by
    simp only [chkT, Bool.and_eq_true] at h
    obtain ⟨⟨h1, h2⟩, h3⟩ := h
    unfold lkB
    cases hb : Nat.beq q.1 t with
    | true =>
      refine ⟨h2, fun e is he => ?_⟩
      have he : q.2 = e :: is := he
      rw [he] at h1
      have := Nat.eq_of_beq_eq_true h1
      rw [this]
      exact Nat.eq_of_beq_eq_true hb
    | false => exact lkB_ok t l h3
theorem aB_chk (k t : Nat) : chk k (aB k t) = true := (lkB_ok t _ (ckT k)).1
theorem aB_pc (k t : Nat) : ∀ e is, aB k t = e :: is → e.1 = t := (lkB_ok t _ (ckT k)).2
theorem chk_spec {k : Nat} {e : aE} {is : List aE} (h : chk k (e :: is) = true) : ∃ l, decode (mB k) e.1 = .ok (e.2.1, l) ∧ (isSw e.2.1 = true ∨ l = aLen e.2.1) ∧ eok k e = true ∧ (∀ e' is', is = e' :: is' → e'.1 = e.1 + l) ∧ chk k is = true := by
  simp only [chk, Bool.and_eq_true] at h
  obtain ⟨h1, h2⟩ := h
  split at h1
  next i l hd =>
    simp only [Bool.and_eq_true, Bool.or_eq_true, decide_eq_true_eq] at h1
    obtain ⟨rfl, h3, h4, h5⟩ := h1
    refine ⟨l, hd, ?_, h3, ?_, h2⟩
    · rcases h4 with h4 | h4
      · exact Or.inl h4
      · exact Or.inr (Nat.eq_of_beq_eq_true h4)
    · intro e' is' hs
      subst hs
      exact Nat.eq_of_beq_eq_true h5
  next => cases h1
