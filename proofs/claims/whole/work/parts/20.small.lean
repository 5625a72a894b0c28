theorem t_hasBit (zs : Nat × (Nat → Int32)) (d : Nat) (S : aS) (a b : Int32) : Rn zs d 9 (aB 9 0) [(0, .inl a), (1, .inl b)] [] S (rE (some (.inl (if (a >>> (b &&& 31)) &&& nI 1 = 0 then nI 0 else nI 1))) S) := by
  refine Rn.b 6 (fun _ => rfl) (fun c1 => ?_) (fun c1 => ?_)
  · refine Rn.r 2 (fun _ => rfl) ⟨by rw [if_pos c1], rfl⟩
  · refine Rn.r 3 (fun _ => rfl) ⟨by rw [if_neg c1], rfl⟩
theorem t_isCrane (zs : Nat × (Nat → Int32)) (d : Nat) (S : aS) (a : Int32) : Rn zs d 3 (aB 3 0) [(0, .inl a)] [] S (rE (some (.inl (if a < 0 then nI 0 else if nI 4 ≤ a then nI 0 else nI 1))) S) := by
  refine Rn.b 2 (fun _ => rfl) (fun c1 => ?_) (fun c1 => ?_)
  · refine Rn.r 2 (fun _ => rfl) ⟨by rw [if_pos c1], rfl⟩
  · refine Rn.b 3 (fun _ => rfl) (fun c2 => ?_) (fun c2 => ?_)
    · refine Rn.r 2 (fun _ => rfl) ⟨by rw [if_neg c1, if_pos c2], rfl⟩
    · refine Rn.r 3 (fun _ => rfl) ⟨by rw [if_neg c1, if_neg c2], rfl⟩
theorem t_isClient (zs : Nat × (Nat → Int32)) (d : Nat) (S : aS) (a : Int32) : Rn zs d 2 (aB 2 0) [(0, .inl a)] [] S (rE (some (.inl (if a < 0 then nI 0 else if nI 8 ≤ a then nI 0 else nI 1))) S) := by
  refine Rn.b 2 (fun _ => rfl) (fun c1 => ?_) (fun c1 => ?_)
  · refine Rn.r 2 (fun _ => rfl) ⟨by rw [if_pos c1], rfl⟩
  · refine Rn.b 3 (fun _ => rfl) (fun c2 => ?_) (fun c2 => ?_)
    · refine Rn.r 2 (fun _ => rfl) ⟨by rw [if_neg c1, if_pos c2], rfl⟩
    · refine Rn.r 3 (fun _ => rfl) ⟨by rw [if_neg c1, if_neg c2], rfl⟩
/-- bids at place q -/
theorem t_bidOf (zs : Nat × (Nat → Int32)) (d : Nat) (S : aS) (c r q : Nat) (hc : c < 8) (hr : r < 4) : Rn zs d 4 (aB 4 0) [(0, .inr (1, 0)), (1, .inl (nI c)), (2, .inl (nI r))] [] S (rE (some (.inr (8, 4 * c + r))) S) := by
  have e : nI c * nI 4 + nI r = nI (4 * c + r) := by rw [pk_mul, nI_add, Nat.mul_comm]
  refine Rn.g 8 (fun _ => rfl) ?_ ?_
  · rw [e, nI_toInt (by omega)]; omega
  · rw [e, nI_clamp (by omega)]
    refine Rn.r 1 (fun _ => rfl) ⟨rfl, rfl⟩
theorem t_bidIfAny (zs : Nat × (Nat → Int32)) (d : Nat) (S : aS) (c r : Nat) (hc : c < 8) (hr : r < 4) : Rn zs (d + 1) 1 (aB 1 0) [(0, .inr (1, 0)), (1, .inl (nI c)), (2, .inl (nI r))] [] S (rE (some (.inr (8, 4 * c + r))) S) := by
  refine Rn.cd 2 (fun _ => rfl) (t_isClient zs d S (nI c)) ?_
  rw [if_neg (nI_pos (by omega)), if_neg (nI_ge hc (by omega))]
  refine Rn.s 1 (fun _ => rfl) ?_
  refine Rn.cd 2 (fun _ => rfl) (t_isCrane zs d S (nI r)) ?_
  rw [if_neg (nI_pos (by omega)), if_neg (nI_ge hr (by omega))]
  refine Rn.s 1 (fun _ => rfl) ?_
  refine Rn.cd 4 (fun _ => rfl) (t_bidOf zs d S c r 0 hc hr) ?_
  refine Rn.r 2 (fun _ => rfl) ⟨rfl, rfl⟩
/-- Bid.begin -/
theorem t_begin (zs : Nat × (Nat → Int32)) (d : Nat) (S : aS) (q : Nat) (v : Int32) : Rn zs d 5 (aB 5 0) [(0, .inr (8, q)), (1, .inl v)] [] S (rE none (au (au (au (au (au (au (au (au (au S 8 q 2 (nI 1)) 8 q 3 v) 8 q 4 (nI 0)) 8 q 5 (nI 0)) 8 q 6 (nI 0)) 8 q 7 (nI 0)) 8 q 8 (nI 0)) 8 q 9 (nI 0)) 8 q 10 (nI 0))) := by
  refine Rn.r 28 (fun _ => rfl) ⟨rfl, rfl⟩
