/-! THE CLASS, small methods. Kinds: 1 PermitTree, 2 Post, 3 cells, 7 lastRuns, 8 Bid, 9 Ballot, 10 row, 11 Log, 12 numbers, 13 codes -/
/-- an argument that is out of 0 .. n-1 -/
def outc (a : Int32) (n : Nat) : Prop := a < 0 ∨ nI n ≤ a
/-- bit b of a -/
def bt (a b : Int32) : Int32 := (a >>> (b &&& 31)) &&& nI 1
section XS
variable {zs : Nat × (Nat → Int32)} {d : Nat} {S : aS}
theorem x_isCrane_no {a : Int32} (h : outc a 4) : Rn zs d 3 (aB 3 0) [(0, .inl a)] [] S (rE (some (.inl (nI 0))) S) := by
  refine Rn.b 2 (fun _ => rfl) (fun c1 => ?_) (fun c1 => ?_)
  · exact Rn.r 2 (fun _ => rfl) ⟨rfl, rfl⟩
  · refine Rn.b 3 (fun _ => rfl) (fun c2 => ?_) (fun c2 => ?_)
    · exact Rn.r 2 (fun _ => rfl) ⟨rfl, rfl⟩
    · exact absurd h (fun q => q.elim c1 c2)
theorem x_isCrane {a : Nat} (h : a < 4) : Rn zs d 3 (aB 3 0) [(0, .inl (nI a))] [] S (rE (some (.inl (nI 1))) S) := by
  refine Rn.b 2 (fun _ => rfl) (fun c1 => absurd c1 (nI_pos (by omega))) (fun c1 => ?_)
  refine Rn.b 3 (fun _ => rfl) (fun c2 => absurd c2 (nI_ge h (by omega))) (fun c2 => ?_)
  exact Rn.r 3 (fun _ => rfl) ⟨rfl, rfl⟩
theorem x_isClient_no {a : Int32} (h : outc a 8) : Rn zs d 2 (aB 2 0) [(0, .inl a)] [] S (rE (some (.inl (nI 0))) S) := by
  refine Rn.b 2 (fun _ => rfl) (fun c1 => ?_) (fun c1 => ?_)
  · exact Rn.r 2 (fun _ => rfl) ⟨rfl, rfl⟩
  · refine Rn.b 3 (fun _ => rfl) (fun c2 => ?_) (fun c2 => ?_)
    · exact Rn.r 2 (fun _ => rfl) ⟨rfl, rfl⟩
    · exact absurd h (fun q => q.elim c1 c2)
theorem x_isClient {a : Nat} (h : a < 8) : Rn zs d 2 (aB 2 0) [(0, .inl (nI a))] [] S (rE (some (.inl (nI 1))) S) := by
  refine Rn.b 2 (fun _ => rfl) (fun c1 => absurd c1 (nI_pos (by omega))) (fun c1 => ?_)
  refine Rn.b 3 (fun _ => rfl) (fun c2 => absurd c2 (nI_ge h (by omega))) (fun c2 => ?_)
  exact Rn.r 3 (fun _ => rfl) ⟨rfl, rfl⟩
theorem x_isArbiter_no {a : Int32} (h : outc a 15) : Rn zs d 8 (aB 8 0) [(0, .inl a)] [] S (rE (some (.inl (nI 0))) S) := by
  refine Rn.b 2 (fun _ => rfl) (fun c1 => ?_) (fun c1 => ?_)
  · exact Rn.r 2 (fun _ => rfl) ⟨rfl, rfl⟩
  · refine Rn.b 3 (fun _ => rfl) (fun c2 => ?_) (fun c2 => ?_)
    · exact Rn.r 2 (fun _ => rfl) ⟨rfl, rfl⟩
    · exact absurd h (fun q => q.elim c1 c2)
theorem x_isArbiter {a : Nat} (h : a < 15) : Rn zs d 8 (aB 8 0) [(0, .inl (nI a))] [] S (rE (some (.inl (nI 1))) S) := by
  refine Rn.b 2 (fun _ => rfl) (fun c1 => absurd c1 (nI_pos (by omega))) (fun c1 => ?_)
  refine Rn.b 3 (fun _ => rfl) (fun c2 => absurd c2 (nI_ge h (by omega))) (fun c2 => ?_)
  exact Rn.r 3 (fun _ => rfl) ⟨rfl, rfl⟩
theorem x_hasBit (a b : Int32) : Rn zs d 9 (aB 9 0) [(0, .inl a), (1, .inl b)] [] S (rE (some (.inl (if bt a b = 0 then nI 0 else nI 1))) S) := by
  refine Rn.b 6 (fun _ => rfl) (fun c1 => ?_) (fun c1 => ?_)
  · exact Rn.r 2 (fun _ => rfl) ⟨by rw [if_pos (show bt a b = 0 from c1)], rfl⟩
  · exact Rn.r 3 (fun _ => rfl) ⟨by rw [if_neg (show ¬ bt a b = 0 from c1)], rfl⟩
theorem x_bidOf {c r : Nat} (hc : c < 8) (hr : r < 4) : Rn zs d 4 (aB 4 0) [(0, .inr (1, 0)), (1, .inl (nI c)), (2, .inl (nI r))] [] S (rE (some (.inr (8, 4 * c + r))) S) := by
  have e : nI c * nI 4 + nI r = nI (4 * c + r) := by rw [pk_mul, nI_add, Nat.mul_comm]
  refine Rn.g 8 (fun _ => rfl) ?_ ?_
  · rw [e, nI_toInt (by omega)]; omega
  · rw [e, nI_clamp (by omega)]
    exact Rn.r 1 (fun _ => rfl) ⟨rfl, rfl⟩
theorem x_ballotOf {c r : Nat} (hc : c < 15) (hr : r < 4) : Rn zs d 37 (aB 37 0) [(0, .inr (1, 0)), (1, .inl (nI c)), (2, .inl (nI r))] [] S (rE (some (.inr (9, 4 * c + r))) S) := by
  have e : nI c * nI 4 + nI r = nI (4 * c + r) := by rw [pk_mul, nI_add, Nat.mul_comm]
  refine Rn.g 8 (fun _ => rfl) ?_ ?_
  · rw [e, nI_toInt (by omega)]; omega
  · rw [e, nI_clamp (by omega)]
    exact Rn.r 1 (fun _ => rfl) ⟨rfl, rfl⟩
theorem x_bidIfAny {c r : Nat} (hc : c < 8) (hr : r < 4) : Rn zs (d + 1) 1 (aB 1 0) [(0, .inr (1, 0)), (1, .inl (nI c)), (2, .inl (nI r))] [] S (rE (some (.inr (8, 4 * c + r))) S) := by
  refine Rn.cd 2 (fun _ => rfl) (x_isClient hc) ?_
  refine Rn.s 1 (fun _ => rfl) ?_
  refine Rn.cd 2 (fun _ => rfl) (x_isCrane hr) ?_
  refine Rn.s 1 (fun _ => rfl) ?_
  refine Rn.cd 4 (fun _ => rfl) (x_bidOf hc hr) ?_
  exact Rn.r 2 (fun _ => rfl) ⟨rfl, rfl⟩
theorem x_bidIfAny_no1 {a b : Int32} (h : outc a 8) : Rn zs (d + 1) 1 (aB 1 0) [(0, .inr (1, 0)), (1, .inl a), (2, .inl b)] [] S (rE (some (.inr (0, 0))) S) := by
  refine Rn.cd 2 (fun _ => rfl) (x_isClient_no h) ?_
  refine Rn.s 1 (fun _ => rfl) ?_
  exact Rn.r 2 (fun _ => rfl) ⟨rfl, rfl⟩
theorem x_bidIfAny_no2 {a : Nat} {b : Int32} (h : a < 8) (h2 : outc b 4) : Rn zs (d + 1) 1 (aB 1 0) [(0, .inr (1, 0)), (1, .inl (nI a)), (2, .inl b)] [] S (rE (some (.inr (0, 0))) S) := by
  refine Rn.cd 2 (fun _ => rfl) (x_isClient h) ?_
  refine Rn.s 1 (fun _ => rfl) ?_
  refine Rn.cd 2 (fun _ => rfl) (x_isCrane_no h2) ?_
  refine Rn.s 1 (fun _ => rfl) ?_
  exact Rn.r 2 (fun _ => rfl) ⟨rfl, rfl⟩
/-- no such pair -/
def nopair (a b : Int32) : Prop := outc a 8 ∨ outc b 4
theorem outc_or (a : Int32) {n : Nat} (hn : n < 2 ^ 31) : outc a n ∨ ∃ j : Nat, j < n ∧ a = nI j := by
  rcases pk_ix a hn with h | h | h
  · exact Or.inl (Or.inl h)
  · exact Or.inl (Or.inr h)
  · exact Or.inr h
theorem pair_or (a b : Int32) : nopair a b ∨ ∃ c r : Nat, c < 8 ∧ r < 4 ∧ a = nI c ∧ b = nI r := by
  rcases outc_or a (n := 8) (by omega) with h | ⟨c, hc, rfl⟩
  · exact Or.inl (Or.inl h)
  · rcases outc_or b (n := 4) (by omega) with h | ⟨r, hr, rfl⟩
    · exact Or.inl (Or.inr h)
    · exact Or.inr ⟨c, r, hc, hr, rfl, rfl⟩
theorem x_bidIfAny_no {a b : Int32} (h : nopair a b) : Rn zs (d + 1) 1 (aB 1 0) [(0, .inr (1, 0)), (1, .inl a), (2, .inl b)] [] S (rE (some (.inr (0, 0))) S) := by
  rcases outc_or a (n := 8) (by omega) with h1 | ⟨c, hc, rfl⟩
  · exact x_bidIfAny_no1 h1
  · rcases h with h | h
    · exact x_bidIfAny_no1 h
    · exact x_bidIfAny_no2 hc h
/-- Bid.begin -/
def xBegin (S : aS) (q : Nat) (v : Int32) : aS := au (au (au (au (au (au (au (au (au S 8 q 2 (nI 1)) 8 q 3 v) 8 q 4 (nI 0)) 8 q 5 (nI 0)) 8 q 6 (nI 0)) 8 q 7 (nI 0)) 8 q 8 (nI 0)) 8 q 9 (nI 0)) 8 q 10 (nI 0)
theorem x_begin (q : Nat) (v : Int32) : Rn zs d 5 (aB 5 0) [(0, .inr (8, q)), (1, .inl v)] [] S (rE none (xBegin S q v)) := Rn.r 28 (fun _ => rfl) ⟨rfl, rfl⟩
theorem x_isHolding (q : Nat) : Rn zs d 17 (aB 17 0) [(0, .inr (8, q))] [] S (rE (some (.inl (if S 8 q 2 = nI 3 ∨ S 8 q 2 = nI 4 then nI 1 else nI 0))) S) := by
  refine Rn.b 4 (fun _ => rfl) (fun c1 => ?_) (fun c1 => ?_)
  · exact Rn.r 3 (fun _ => rfl) ⟨by rw [if_pos (Or.inl c1)], rfl⟩
  · refine Rn.b 4 (fun _ => rfl) (fun c2 => ?_) (fun c2 => ?_)
    · exact Rn.r 2 (fun _ => rfl) ⟨by rw [if_neg (fun q => q.elim c1 c2)], rfl⟩
    · exact Rn.r 3 (fun _ => rfl) ⟨by rw [if_pos (Or.inr (Classical.byContradiction c2))], rfl⟩
theorem x_isIn (q : Nat) (v : Int32) : Rn zs d 30 (aB 30 0) [(0, .inr (8, q)), (1, .inl v)] [] S (rE (some (.inl (if S 8 q 2 = 0 ∨ S 8 q 3 ≠ v then nI 0 else nI 1))) S) := by
  refine Rn.b 3 (fun _ => rfl) (fun c1 => ?_) (fun c1 => ?_)
  · exact Rn.r 2 (fun _ => rfl) ⟨by rw [if_pos (Or.inl c1)], rfl⟩
  · refine Rn.b 4 (fun _ => rfl) (fun c2 => ?_) (fun c2 => ?_)
    · exact Rn.r 2 (fun _ => rfl) ⟨by rw [if_pos (Or.inr c2)], rfl⟩
    · exact Rn.r 3 (fun _ => rfl) ⟨by rw [if_neg (fun q => q.elim c1 c2)], rfl⟩
end XS
