/-! THE CLASS: its arbiters' letters, and the calls but deliver -/
section XQ
variable {zs : Nat × (Nat → Int32)} {d : Nat} {S : aS}
theorem nI_ne {a b : Nat} (ha : a < 2 ^ 31) (hb : b < 2 ^ 31) (h : a ≠ b) : ¬ nI a = nI b := fun q => h ((nI_eq ha hb).mp q)
theorem POK_eq {S' : aS} (h : POK S) (e : S' 2 0 1 = S 2 0 1) : POK S' := by
  unfold POK pn at *
  rw [e]
  exact h
theorem x_reach1_new {a r e : Nat} {num : Int32} (ha : a < 15) (hr : r < 4) (hP : POK S) (h0 : S 9 (4 * a + r) 0 = 0) (he0 : 0 < e) (he1 : e < 2 ^ 31) : Rn zs (d + 4) 36 (aB 36 0) [(0, .inr (1, 0)), (1, .inl (nI 1)), (2, .inl (nI a)), (3, .inl (nI r)), (4, .inl (nI e)), (5, .inl num)] [] S (rE none (xSend (au S 9 (4 * a + r) 0 (nI e)) (nI 2) (nI (e % 8)) (nI r) (nI (e / 8)) (nI a) (S 9 (4 * a + r) 1) (nI 0))) := by
  refine Rn.cd 4 (fun _ => rfl) (x_ballotOf ha hr) ?_
  refine Rn.s 4 (fun _ => rfl) ?_
  refine Rn.cd 3 (fun _ => rfl) (x_admit_new h0) ?_
  refine Rn.s 1 (fun _ => rfl) ?_
  have hs := x_sendVote (zs := zs) (d := d) (S := au S 9 (4 * a + r) 0 (nI e)) ha hr (POK_au hP (by decide)) (e := e) (by simp [au]) he0 he1
  rw [show au S 9 (4 * a + r) 0 (nI e) 9 (4 * a + r) 1 = S 9 (4 * a + r) 1 by simp [au]] at hs
  refine Rn.cd 4 (fun _ => rfl) hs ?_
  exact Rn.r 2 (fun _ => rfl) ⟨rfl, rfl⟩
theorem x_reach1_no {a r w : Nat} {c num : Int32} (ha : a < 15) (hr : r < 4) (h : S 9 (4 * a + r) 0 ≠ 0) (hw : S 9 (4 * a + r) 2 = nI w) (h16 : w ≤ 16) (hno : S 9 (4 * a + r) 0 = c ∨ fnd (S 10 (4 * a + r)) c w 0 ≠ none ∨ w = 16) : Rn zs (d + 4) 36 (aB 36 0) [(0, .inr (1, 0)), (1, .inl (nI 1)), (2, .inl (nI a)), (3, .inl (nI r)), (4, .inl c), (5, .inl num)] [] S (rE none S) := by
  refine Rn.cd 4 (fun _ => rfl) (x_ballotOf ha hr) ?_
  refine Rn.s 4 (fun _ => rfl) ?_
  refine Rn.cd 3 (fun _ => rfl) (x_admit_no h hw h16 hno) ?_
  exact Rn.r 2 (fun _ => rfl) ⟨rfl, rfl⟩
theorem x_reach1_add {a r w : Nat} {c num : Int32} (ha : a < 15) (hr : r < 4) (h : S 9 (4 * a + r) 0 ≠ 0) (hw : S 9 (4 * a + r) 2 = nI w) (h16 : w < 16) (h1 : S 9 (4 * a + r) 0 ≠ c) (h2 : fnd (S 10 (4 * a + r)) c w 0 = none) : Rn zs (d + 4) 36 (aB 36 0) [(0, .inr (1, 0)), (1, .inl (nI 1)), (2, .inl (nI a)), (3, .inl (nI r)), (4, .inl c), (5, .inl num)] [] S (rE none (au (au S 10 (4 * a + r) w c) 9 (4 * a + r) 2 (nI (w + 1)))) := by
  refine Rn.cd 4 (fun _ => rfl) (x_ballotOf ha hr) ?_
  refine Rn.s 4 (fun _ => rfl) ?_
  refine Rn.cd 3 (fun _ => rfl) (x_admit_add h hw h16 h1 h2) ?_
  exact Rn.r 2 (fun _ => rfl) ⟨rfl, rfl⟩
theorem x_reach3_no {a r : Nat} {c num : Int32} (ha : a < 15) (hr : r < 4) (h : S 9 (4 * a + r) 0 ≠ c) : Rn zs (d + 4) 36 (aB 36 0) [(0, .inr (1, 0)), (1, .inl (nI 3)), (2, .inl (nI a)), (3, .inl (nI r)), (4, .inl c), (5, .inl num)] [] S (rE none S) := by
  refine Rn.cd 4 (fun _ => rfl) (x_ballotOf ha hr) ?_
  refine Rn.s 4 (fun _ => rfl) ?_
  refine Rn.s 3 (fun _ => rfl) ?_
  refine Rn.b 4 (fun _ => rfl) (fun c1 => ?_) (fun c1 => absurd h c1)
  exact Rn.r 1 (fun _ => rfl) ⟨rfl, rfl⟩
theorem x_reach3 {a r e : Nat} {num : Int32} (ha : a < 15) (hr : r < 4) (hP : POK S) (h : S 9 (4 * a + r) 0 = nI e) (he0 : 0 < e) (he1 : e < 2 ^ 31) : Rn zs (d + 4) 36 (aB 36 0) [(0, .inr (1, 0)), (1, .inl (nI 3)), (2, .inl (nI a)), (3, .inl (nI r)), (4, .inl (nI e)), (5, .inl num)] [] S (rE none (xSend (au S 9 (4 * a + r) 1 (if S 9 (4 * a + r) 1 < num then num else S 9 (4 * a + r) 1)) (nI 4) (nI (e % 8)) (nI r) (nI (e / 8)) (nI a) (nI 0) (nI 0))) := by
  refine Rn.cd 4 (fun _ => rfl) (x_ballotOf ha hr) ?_
  refine Rn.s 4 (fun _ => rfl) ?_
  refine Rn.s 3 (fun _ => rfl) ?_
  refine Rn.b 4 (fun _ => rfl) (fun c1 => absurd h c1) (fun c1 => ?_)
  refine Rn.s 6 (fun _ => rfl) ?_
  refine Rn.cd 5 (fun _ => rfl) (x_clientOf he0 he1) ?_
  refine Rn.cd 3 (fun _ => rfl) (x_runOf he0 he1) ?_
  refine Rn.cd 3 (fun _ => rfl) (x_send (POK_au hP (by decide)) (nI 4) (nI (e % 8)) (nI r) (nI (e / 8)) (nI a) (nI 0)) ?_
  exact Rn.r 2 (fun _ => rfl) ⟨rfl, rfl⟩
theorem x_reach5_head {a r κ : Nat} {c num : Int32} {is : List aE} {L : aL} {Q : Option aV → aS → Prop} (hκ : κ = 5 ∨ κ = 6) (ha : a < 15) (hr : r < 4) (k : Rn zs (d + 4) 36 (aB 36 86) [(0, .inr (1, 0)), (1, .inl (nI κ)), (2, .inl (nI a)), (3, .inl (nI r)), (4, .inl c), (5, .inl num), (6, .inr (9, 4 * a + r))] [] S Q) : Rn zs (d + 4) 36 (aB 36 0) [(0, .inr (1, 0)), (1, .inl (nI κ)), (2, .inl (nI a)), (3, .inl (nI r)), (4, .inl c), (5, .inl num)] [] S Q := by
  refine Rn.cd 4 (fun _ => rfl) (x_ballotOf ha hr) ?_
  rcases hκ with rfl | rfl
  · refine Rn.s 4 (fun _ => rfl) ?_
    refine Rn.s 3 (fun _ => rfl) ?_
    exact k
  · refine Rn.s 4 (fun _ => rfl) ?_
    refine Rn.s 3 (fun _ => rfl) ?_
    exact k
theorem x_reach5_other {a r w κ : Nat} {c num : Int32} (hκ : κ = 5 ∨ κ = 6) (ha : a < 15) (hr : r < 4) (h : S 9 (4 * a + r) 0 ≠ c) (hw : S 9 (4 * a + r) 2 = nI w) (h16 : w ≤ 16) : Rn zs (d + 4) 36 (aB 36 0) [(0, .inr (1, 0)), (1, .inl (nI κ)), (2, .inl (nI a)), (3, .inl (nI r)), (4, .inl c), (5, .inl num)] [] S (rE none (match fnd (S 10 (4 * a + r)) c w 0 with
    | some i => xLeave S (4 * a + r) w i
    | none => S)) := by
  refine x_reach5_head (is := []) (L := []) hκ ha hr ?_
  refine Rn.cd 3 (fun _ => rfl) (x_withdraw_other h hw h16) ?_
  exact Rn.r 2 (fun _ => rfl) ⟨rfl, rfl⟩
theorem x_reach5_last {a r κ : Nat} {c num : Int32} (hκ : κ = 5 ∨ κ = 6) (ha : a < 15) (hr : r < 4) (h : S 9 (4 * a + r) 0 = c) (hw : S 9 (4 * a + r) 2 = nI 0) : Rn zs (d + 4) 36 (aB 36 0) [(0, .inr (1, 0)), (1, .inl (nI κ)), (2, .inl (nI a)), (3, .inl (nI r)), (4, .inl c), (5, .inl num)] [] S (rE none (au S 9 (4 * a + r) 0 (nI 0))) := by
  refine x_reach5_head (is := []) (L := []) hκ ha hr ?_
  refine Rn.cd 3 (fun _ => rfl) (x_withdraw_last h hw) ?_
  exact Rn.r 2 (fun _ => rfl) ⟨rfl, rfl⟩
theorem x_reach5_next {a r w e κ : Nat} {c num : Int32} (hκ : κ = 5 ∨ κ = 6) (ha : a < 15) (hr : r < 4) (hP : POK S) (h : S 9 (4 * a + r) 0 = c) (hw : S 9 (4 * a + r) 2 = nI w) (h0 : 0 < w) (h16 : w ≤ 16) (he : S 10 (4 * a + r) 0 = nI e) (he0 : 0 < e) (he1 : e < 2 ^ 31) : Rn zs (d + 4) 36 (aB 36 0) [(0, .inr (1, 0)), (1, .inl (nI κ)), (2, .inl (nI a)), (3, .inl (nI r)), (4, .inl c), (5, .inl num)] [] S (rE none (xSend (xLeave (au S 9 (4 * a + r) 0 (nI e)) (4 * a + r) w 0) (nI 2) (nI (e % 8)) (nI r) (nI (e / 8)) (nI a) (S 9 (4 * a + r) 1) (nI 0))) := by
  refine x_reach5_head (is := []) (L := []) hκ ha hr ?_
  have hw1 := x_withdraw_next (zs := zs) (d := d + 1) h hw h0 h16 (by rw [he]; exact nI_ne0 he0 he1)
  rw [he] at hw1
  refine Rn.cd 3 (fun _ => rfl) hw1 ?_
  refine Rn.s 1 (fun _ => rfl) ?_
  have hs := x_sendVote (zs := zs) (d := d) (S := xLeave (au S 9 (4 * a + r) 0 (nI e)) (4 * a + r) w 0) ha hr (POK_eq hP (by simp [xLeave, acp, au])) (e := e) (by simp [xLeave, acp, au]) he0 he1
  rw [show xLeave (au S 9 (4 * a + r) 0 (nI e)) (4 * a + r) w 0 9 (4 * a + r) 1 = S 9 (4 * a + r) 1 by simp [xLeave, acp, au]] at hs
  refine Rn.cd 4 (fun _ => rfl) hs ?_
  exact Rn.r 1 (fun _ => rfl) ⟨rfl, rfl⟩
-- want
def xWant (S : aS) (q c : Nat) (v : Int32) : aS := xAsk (xBegin (au S 7 0 c v) q v) q
theorem x_want_no {a b : Int32} (h : nopair a b) : Rn zs (d + 8) 0 (aB 0 0) [(0, .inr (1, 0)), (1, .inl a), (2, .inl b)] [] S (rE (some (.inl (-1))) S) := by
  refine Rn.cd 4 (fun _ => rfl) (x_bidIfAny_no h) ?_
  exact Rn.r 5 (fun _ => rfl) ⟨rfl, rfl⟩
theorem x_want_busy {c r : Nat} (hc : c < 8) (hr : r < 4) (h : S 8 (4 * c + r) 2 ≠ 0) : Rn zs (d + 8) 0 (aB 0 0) [(0, .inr (1, 0)), (1, .inl (nI c)), (2, .inl (nI r))] [] S (rE (some (.inl (-1))) S) := by
  refine Rn.cd 4 (fun _ => rfl) (x_bidIfAny hc hr) ?_
  refine Rn.b 6 (fun _ => rfl) (fun c1 => absurd c1 h) (fun c1 => ?_)
  exact Rn.r 2 (fun _ => rfl) ⟨rfl, rfl⟩
theorem x_want {c r : Nat} (hc : c < 8) (hr : r < 4) (hP : POK S) (h : S 8 (4 * c + r) 2 = 0) : Rn zs (d + 8) 0 (aB 0 0) [(0, .inr (1, 0)), (1, .inl (nI c)), (2, .inl (nI r))] [] S (rE (some (.inl (S 7 0 c + nI 1))) (xWant S (4 * c + r) c (S 7 0 c + nI 1))) := by
  refine Rn.cd 4 (fun _ => rfl) (x_bidIfAny hc hr) ?_
  refine Rn.b 6 (fun _ => rfl) (fun c1 => ?_) (fun c1 => absurd h c1)
  refine Rn.g 5 (fun _ => rfl) (by rw [nI_toInt (by omega)]; omega) ?_
  rw [nI_clamp (by omega)]
  refine Rn.g 3 (fun _ => rfl) (by rw [nI_toInt (by omega)]; omega) ?_
  rw [nI_clamp (by omega)]
  refine Rn.g 5 (fun _ => rfl) (by rw [nI_toInt (by omega)]; omega) ?_
  rw [nI_clamp (by omega), show au S 7 0 c (S 7 0 c + nI 1) 7 0 c = S 7 0 c + nI 1 by simp [au]]
  refine Rn.cd 1 (fun _ => rfl) (x_begin (4 * c + r) (S 7 0 c + nI 1)) ?_
  refine Rn.cd 3 (fun _ => rfl) (x_askRoute (q := 4 * c + r) (POK_eq hP (by simp [xBegin, au]))) ?_
  refine Rn.r 3 (fun _ => rfl) ⟨?_, rfl⟩
  congr 2
  unfold xAsk
  rw [xSA_ne _ _ _ _ (by decide) (by decide)]
  simp [xAsk1, xBegin, au]
-- timeout
def xTimeout (S : aS) (q : Nat) (arb : Int32) : aS := xWrite (xAsk (au S 8 q 6 (S 8 q 6 ||| (nI 1 <<< (arb &&& 31)))) q) q
theorem x_timeout_no1 {a b x : Int32} (h : nopair a b) : Rn zs (d + 8) 12 (aB 12 0) [(0, .inr (1, 0)), (1, .inl a), (2, .inl b), (3, .inl x)] [] S (rE (some (.inl (nI 0))) S) := by
  refine Rn.cd 4 (fun _ => rfl) (x_bidIfAny_no h) ?_
  exact Rn.r 5 (fun _ => rfl) ⟨rfl, rfl⟩
theorem x_timeout_no2 {c r : Nat} {x : Int32} (hc : c < 8) (hr : r < 4) (h : outc x 15) : Rn zs (d + 8) 12 (aB 12 0) [(0, .inr (1, 0)), (1, .inl (nI c)), (2, .inl (nI r)), (3, .inl x)] [] S (rE (some (.inl (nI 0))) S) := by
  refine Rn.cd 4 (fun _ => rfl) (x_bidIfAny hc hr) ?_
  refine Rn.cd 5 (fun _ => rfl) (x_isArbiter_no h) ?_
  exact Rn.r 3 (fun _ => rfl) ⟨rfl, rfl⟩
theorem x_timeout_no3 {c r a : Nat} (hc : c < 8) (hr : r < 4) (ha : a < 15) (h : S 8 (4 * c + r) 2 ≠ nI 1 ∨ ¬ bt (S 8 (4 * c + r) 6) (nI a) = 0) : Rn zs (d + 8) 12 (aB 12 0) [(0, .inr (1, 0)), (1, .inl (nI c)), (2, .inl (nI r)), (3, .inl (nI a))] [] S (rE (some (.inl (nI 0))) S) := by
  refine Rn.cd 4 (fun _ => rfl) (x_bidIfAny hc hr) ?_
  refine Rn.cd 5 (fun _ => rfl) (x_isArbiter ha) ?_
  refine Rn.s 1 (fun _ => rfl) ?_
  refine Rn.b 4 (fun _ => rfl) (fun c1 => ?_) (fun c1 => ?_)
  · exact Rn.r 2 (fun _ => rfl) ⟨rfl, rfl⟩
  · refine Rn.cd 4 (fun _ => rfl) (x_hasBit _ _) ?_
    rw [if_neg (h.elim (fun q => absurd q c1) id)]
    exact Rn.r 3 (fun _ => rfl) ⟨rfl, rfl⟩
theorem xAsk_pok {q : Nat} (hP : POK S) : POK (xAsk S q) := xSA_pok _ _ _ _ _ _ _ (POK_au (POK_au hP (by decide)) (by decide))
theorem x_timeout {c r a : Nat} (hc : c < 8) (hr : r < 4) (ha : a < 15) (hP : POK S) (h : S 8 (4 * c + r) 2 = nI 1) (h2 : bt (S 8 (4 * c + r) 6) (nI a) = 0) : Rn zs (d + 8) 12 (aB 12 0) [(0, .inr (1, 0)), (1, .inl (nI c)), (2, .inl (nI r)), (3, .inl (nI a))] [] S (rE (some (.inl (nI 1))) (xTimeout S (4 * c + r) (nI a))) := by
  refine Rn.cd 4 (fun _ => rfl) (x_bidIfAny hc hr) ?_
  refine Rn.cd 5 (fun _ => rfl) (x_isArbiter ha) ?_
  refine Rn.s 1 (fun _ => rfl) ?_
  refine Rn.b 4 (fun _ => rfl) (fun c1 => absurd h c1) (fun c1 => ?_)
  refine Rn.cd 4 (fun _ => rfl) (x_hasBit _ _) ?_
  rw [if_pos h2]
  refine Rn.s 1 (fun _ => rfl) ?_
  refine Rn.s 8 (fun _ => rfl) ?_
  refine Rn.cd 3 (fun _ => rfl) (x_askRoute (POK_au hP (by decide))) ?_
  refine Rn.cd 3 (fun _ => rfl) (x_writeIf (xAsk_pok (POK_au hP (by decide)))) ?_
  exact Rn.r 2 (fun _ => rfl) ⟨rfl, rfl⟩
-- giveUp, release
theorem x_giveUp_no1 {a b : Int32} (h : nopair a b) : Rn zs (d + 8) 14 (aB 14 0) [(0, .inr (1, 0)), (1, .inl a), (2, .inl b)] [] S (rE (some (.inl (nI 0))) S) := by
  refine Rn.cd 4 (fun _ => rfl) (x_bidIfAny_no h) ?_
  exact Rn.r 5 (fun _ => rfl) ⟨rfl, rfl⟩
theorem x_giveUp_no2 {c r : Nat} (hc : c < 8) (hr : r < 4) (h1 : S 8 (4 * c + r) 2 ≠ nI 1) (h2 : S 8 (4 * c + r) 2 ≠ nI 2) : Rn zs (d + 8) 14 (aB 14 0) [(0, .inr (1, 0)), (1, .inl (nI c)), (2, .inl (nI r))] [] S (rE (some (.inl (nI 0))) S) := by
  refine Rn.cd 4 (fun _ => rfl) (x_bidIfAny hc hr) ?_
  refine Rn.b 7 (fun _ => rfl) (fun c1 => absurd c1 h1) (fun c1 => ?_)
  refine Rn.b 4 (fun _ => rfl) (fun c1 => absurd c1 h2) (fun c1 => ?_)
  exact Rn.r 2 (fun _ => rfl) ⟨rfl, rfl⟩
theorem x_giveUp {c r : Nat} (hc : c < 8) (hr : r < 4) (hP : POK S) (h : S 8 (4 * c + r) 2 = nI 1 ∨ S 8 (4 * c + r) 2 = nI 2) : Rn zs (d + 8) 14 (aB 14 0) [(0, .inr (1, 0)), (1, .inl (nI c)), (2, .inl (nI r))] [] S (rE (some (.inl (nI 1))) (xEnd S (4 * c + r))) := by
  refine Rn.cd 4 (fun _ => rfl) (x_bidIfAny hc hr) ?_
  refine Rn.b 7 (fun _ => rfl) (fun c1 => ?_) (fun c1 => ?_)
  · refine Rn.cd 3 (fun _ => rfl) (x_endRun hP) ?_
    exact Rn.r 2 (fun _ => rfl) ⟨rfl, rfl⟩
  · refine Rn.b 4 (fun _ => rfl) (fun c2 => ?_) (fun c2 => absurd h (fun q => q.elim c1 c2))
    refine Rn.cd 3 (fun _ => rfl) (x_endRun hP) ?_
    exact Rn.r 2 (fun _ => rfl) ⟨rfl, rfl⟩
theorem x_release_no1 {a b : Int32} (h : nopair a b) : Rn zs (d + 8) 16 (aB 16 0) [(0, .inr (1, 0)), (1, .inl a), (2, .inl b)] [] S (rE (some (.inl (nI 0))) S) := by
  refine Rn.cd 4 (fun _ => rfl) (x_bidIfAny_no h) ?_
  exact Rn.r 5 (fun _ => rfl) ⟨rfl, rfl⟩
theorem x_release_no2 {c r : Nat} (hc : c < 8) (hr : r < 4) (h : ¬ (S 8 (4 * c + r) 2 = nI 3 ∨ S 8 (4 * c + r) 2 = nI 4)) : Rn zs (d + 8) 16 (aB 16 0) [(0, .inr (1, 0)), (1, .inl (nI c)), (2, .inl (nI r))] [] S (rE (some (.inl (nI 0))) S) := by
  refine Rn.cd 4 (fun _ => rfl) (x_bidIfAny hc hr) ?_
  refine Rn.cd 5 (fun _ => rfl) (x_isHolding (4 * c + r)) ?_
  rw [if_neg h]
  exact Rn.r 3 (fun _ => rfl) ⟨rfl, rfl⟩
theorem x_release {c r : Nat} (hc : c < 8) (hr : r < 4) (hP : POK S) (h : S 8 (4 * c + r) 2 = nI 3 ∨ S 8 (4 * c + r) 2 = nI 4) : Rn zs (d + 8) 16 (aB 16 0) [(0, .inr (1, 0)), (1, .inl (nI c)), (2, .inl (nI r))] [] S (rE (some (.inl (nI 1))) (xEnd S (4 * c + r))) := by
  refine Rn.cd 4 (fun _ => rfl) (x_bidIfAny hc hr) ?_
  refine Rn.cd 5 (fun _ => rfl) (x_isHolding (4 * c + r)) ?_
  rw [if_pos h]
  refine Rn.s 1 (fun _ => rfl) ?_
  refine Rn.cd 3 (fun _ => rfl) (x_endRun hP) ?_
  exact Rn.r 2 (fun _ => rfl) ⟨rfl, rfl⟩
-- order
theorem x_order_no1 {a b x : Int32} (h : nopair a b) : Rn zs (d + 8) 19 (aB 19 0) [(0, .inr (1, 0)), (1, .inl a), (2, .inl b), (3, .inl x)] [] S (rE (some (.inl (nI 0))) S) := by
  refine Rn.cd 4 (fun _ => rfl) (x_bidIfAny_no h) ?_
  exact Rn.r 5 (fun _ => rfl) ⟨rfl, rfl⟩
theorem x_order_no2 {c r : Nat} {x : Int32} (hc : c < 8) (hr : r < 4) (h : ¬ (S 8 (4 * c + r) 2 = nI 3 ∨ S 8 (4 * c + r) 2 = nI 4)) : Rn zs (d + 8) 19 (aB 19 0) [(0, .inr (1, 0)), (1, .inl (nI c)), (2, .inl (nI r)), (3, .inl x)] [] S (rE (some (.inl (nI 0))) S) := by
  refine Rn.cd 4 (fun _ => rfl) (x_bidIfAny hc hr) ?_
  refine Rn.cd 5 (fun _ => rfl) (x_isHolding (4 * c + r)) ?_
  rw [if_neg h]
  exact Rn.r 3 (fun _ => rfl) ⟨rfl, rfl⟩
theorem x_order {c r : Nat} {x : Int32} (hc : c < 8) (hr : r < 4) (hP : POK S) (h : S 8 (4 * c + r) 2 = nI 3 ∨ S 8 (4 * c + r) 2 = nI 4) : Rn zs (d + 8) 19 (aB 19 0) [(0, .inr (1, 0)), (1, .inl (nI c)), (2, .inl (nI r)), (3, .inl x)] [] S (rE (some (.inl (nI 1))) (xSend S (nI 8) (nI c) (nI r) (S 8 (4 * c + r) 3) (-1) (S 8 (4 * c + r) 4) x)) := by
  refine Rn.cd 4 (fun _ => rfl) (x_bidIfAny hc hr) ?_
  refine Rn.cd 5 (fun _ => rfl) (x_isHolding (4 * c + r)) ?_
  rw [if_pos h]
  refine Rn.s 1 (fun _ => rfl) ?_
  refine Rn.cd 10 (fun _ => rfl) (x_sendOrder hP (nI c) (nI r) (S 8 (4 * c + r) 3) (S 8 (4 * c + r) 4) x) ?_
  exact Rn.r 2 (fun _ => rfl) ⟨rfl, rfl⟩
-- stop, start
theorem x_stop_no1 {x : Int32} (h : outc x 15) : Rn zs (d + 8) 21 (aB 21 0) [(0, .inr (1, 0)), (1, .inl x)] [] S (rE (some (.inl (nI 0))) S) := by
  refine Rn.cd 2 (fun _ => rfl) (x_isArbiter_no h) ?_
  exact Rn.r 3 (fun _ => rfl) ⟨rfl, rfl⟩
theorem x_stop_no2 {a : Nat} (ha : a < 15) (h : ¬ bt (S 1 0 5) (nI a) = 0) : Rn zs (d + 8) 21 (aB 21 0) [(0, .inr (1, 0)), (1, .inl (nI a))] [] S (rE (some (.inl (nI 0))) S) := by
  refine Rn.cd 2 (fun _ => rfl) (x_isArbiter ha) ?_
  refine Rn.s 1 (fun _ => rfl) ?_
  refine Rn.cd 4 (fun _ => rfl) (x_hasBit _ _) ?_
  rw [if_neg h]
  exact Rn.r 3 (fun _ => rfl) ⟨rfl, rfl⟩
theorem x_stop {a : Nat} (ha : a < 15) (h : bt (S 1 0 5) (nI a) = 0) : Rn zs (d + 8) 21 (aB 21 0) [(0, .inr (1, 0)), (1, .inl (nI a))] [] S (rE (some (.inl (nI 1))) (au S 1 0 5 (S 1 0 5 ||| (nI 1 <<< (nI a &&& 31))))) := by
  refine Rn.cd 2 (fun _ => rfl) (x_isArbiter ha) ?_
  refine Rn.s 1 (fun _ => rfl) ?_
  refine Rn.cd 4 (fun _ => rfl) (x_hasBit _ _) ?_
  rw [if_pos h]
  refine Rn.s 1 (fun _ => rfl) ?_
  exact Rn.r 10 (fun _ => rfl) ⟨rfl, rfl⟩
theorem x_start_no1 {x : Int32} (h : outc x 15) : Rn zs (d + 8) 22 (aB 22 0) [(0, .inr (1, 0)), (1, .inl x)] [] S (rE (some (.inl (nI 0))) S) := by
  refine Rn.cd 2 (fun _ => rfl) (x_isArbiter_no h) ?_
  exact Rn.r 3 (fun _ => rfl) ⟨rfl, rfl⟩
theorem x_start_no2 {a : Nat} (ha : a < 15) (h : bt (S 1 0 5) (nI a) = 0) : Rn zs (d + 8) 22 (aB 22 0) [(0, .inr (1, 0)), (1, .inl (nI a))] [] S (rE (some (.inl (nI 0))) S) := by
  refine Rn.cd 2 (fun _ => rfl) (x_isArbiter ha) ?_
  refine Rn.s 1 (fun _ => rfl) ?_
  refine Rn.cd 4 (fun _ => rfl) (x_hasBit _ _) ?_
  rw [if_pos h]
  exact Rn.r 3 (fun _ => rfl) ⟨rfl, rfl⟩
theorem x_start {a : Nat} (ha : a < 15) (h : ¬ bt (S 1 0 5) (nI a) = 0) : Rn zs (d + 8) 22 (aB 22 0) [(0, .inr (1, 0)), (1, .inl (nI a))] [] S (rE (some (.inl (nI 1))) (au S 1 0 5 (S 1 0 5 &&& ((nI 1 <<< (nI a &&& 31)) ^^^ -1)))) := by
  refine Rn.cd 2 (fun _ => rfl) (x_isArbiter ha) ?_
  refine Rn.s 1 (fun _ => rfl) ?_
  refine Rn.cd 4 (fun _ => rfl) (x_hasBit _ _) ?_
  rw [if_neg h]
  refine Rn.s 1 (fun _ => rfl) ?_
  exact Rn.r 12 (fun _ => rfl) ⟨rfl, rfl⟩
-- letters, letter, drop, copy
theorem x_letters : Rn zs (d + 8) 23 (aB 23 0) [(0, .inr (1, 0))] [] S (rE (some (.inl (S 2 0 1))) S) := Rn.r 4 (fun _ => rfl) ⟨rfl, rfl⟩
theorem x_letter_no1 {a b : Int32} (hP : POK S) (h : outc a (pn S)) : Rn zs (d + 8) 24 (aB 24 0) [(0, .inr (1, 0)), (1, .inl a), (2, .inl b)] [] S (rE (some (.inl (-1))) S) := by
  refine Rn.cd 4 (fun _ => rfl) (x_has_no hP h) ?_
  exact Rn.r 3 (fun _ => rfl) ⟨rfl, rfl⟩
theorem x_letter_no2 {i : Nat} {b : Int32} (hP : POK S) (hi : i < pn S) (h : outc b 6) : Rn zs (d + 8) 24 (aB 24 0) [(0, .inr (1, 0)), (1, .inl (nI i)), (2, .inl b)] [] S (rE (some (.inl (-1))) S) := by
  refine Rn.cd 4 (fun _ => rfl) (x_has hP hi) ?_
  refine Rn.s 1 (fun _ => rfl) ?_
  refine Rn.b 2 (fun _ => rfl) (fun c1 => ?_) (fun c1 => ?_)
  · exact Rn.r 2 (fun _ => rfl) ⟨rfl, rfl⟩
  · refine Rn.b 3 (fun _ => rfl) (fun c2 => ?_) (fun c2 => ?_)
    · exfalso
      rcases h with h | h
      · exact c1 h
      · have h1 := Int32.le_iff_toInt_le.mp h
        have h2 := Int32.le_iff_toInt_le.mp c2
        rw [nI_toInt (by omega)] at h1 h2
        omega
    · exact Rn.r 2 (fun _ => rfl) ⟨rfl, rfl⟩
theorem x_letter {i j : Nat} (hP : POK S) (hi : i < pn S) (hj : j < 6) : Rn zs (d + 8) 24 (aB 24 0) [(0, .inr (1, 0)), (1, .inl (nI i)), (2, .inl (nI j))] [] S (rE (some (.inl (S 3 0 (i * 7 + j)))) S) := by
  refine Rn.cd 4 (fun _ => rfl) (x_has hP hi) ?_
  refine Rn.s 1 (fun _ => rfl) ?_
  refine Rn.b 2 (fun _ => rfl) (fun c1 => absurd c1 (nI_pos (by omega))) (fun c1 => ?_)
  refine Rn.b 3 (fun _ => rfl) (fun c2 => ?_) (fun c2 => absurd (nI_le (by omega) (by omega)) c2)
  refine Rn.cd 5 (fun _ => rfl) (x_read (by have := hP.2; omega) (by omega)) ?_
  exact Rn.r 1 (fun _ => rfl) ⟨rfl, rfl⟩
theorem x_drop_no {a : Int32} (hP : POK S) (h : outc a (pn S)) : Rn zs (d + 8) 47 (aB 47 0) [(0, .inr (1, 0)), (1, .inl a)] [] S (rE (some (.inl (nI 0))) S) := by
  refine Rn.cd 4 (fun _ => rfl) (x_has_no hP h) ?_
  exact Rn.r 3 (fun _ => rfl) ⟨rfl, rfl⟩
theorem x_drop {n i : Nat} (hn : S 2 0 1 = nI (n + 1)) (h240 : n + 1 ≤ 240) (hi : i ≤ n) : Rn zs (d + 8) 47 (aB 47 0) [(0, .inr (1, 0)), (1, .inl (nI i))] [] S (rE (some (.inl (nI 1))) (xRem S n i)) := by
  have hp := pn_of hn h240
  refine Rn.cd 4 (fun _ => rfl) (x_has hp.2 (by rw [hp.1]; omega)) ?_
  refine Rn.s 1 (fun _ => rfl) ?_
  refine Rn.cd 4 (fun _ => rfl) (x_remove hn h240 hi) ?_
  exact Rn.r 2 (fun _ => rfl) ⟨rfl, rfl⟩
theorem x_copy_no1 {a : Int32} (hP : POK S) (h : outc a (pn S)) : Rn zs (d + 8) 48 (aB 48 0) [(0, .inr (1, 0)), (1, .inl a)] [] S (rE (some (.inl (nI 0))) S) := by
  refine Rn.cd 4 (fun _ => rfl) (x_has_no hP h) ?_
  exact Rn.r 3 (fun _ => rfl) ⟨rfl, rfl⟩
theorem x_copy_full {i : Nat} (hn : S 2 0 1 = nI 240) (hi : i < 240) : Rn zs (d + 8) 48 (aB 48 0) [(0, .inr (1, 0)), (1, .inl (nI i))] [] S (rE (some (.inl (nI 0))) S) := by
  have hp := pn_of hn (by omega)
  refine Rn.cd 4 (fun _ => rfl) (x_has hp.2 (by rw [hp.1]; omega)) ?_
  refine Rn.s 1 (fun _ => rfl) ?_
  refine Rn.cd 4 (fun _ => rfl) (x_repeat_full hn) ?_
  exact Rn.r 3 (fun _ => rfl) ⟨rfl, rfl⟩
theorem x_copy {n i : Nat} (hn : S 2 0 1 = nI n) (h240 : n < 240) (hi : i < n) : Rn zs (d + 8) 48 (aB 48 0) [(0, .inr (1, 0)), (1, .inl (nI i))] [] S (rE (some (.inl (nI 1))) (xRep S n i)) := by
  have hp := pn_of hn (by omega)
  refine Rn.cd 4 (fun _ => rfl) (x_has hp.2 (by rw [hp.1]; omega)) ?_
  refine Rn.s 1 (fun _ => rfl) ?_
  refine Rn.cd 4 (fun _ => rfl) (x_repeat hn h240 hi) ?_
  exact Rn.r 4 (fun _ => rfl) ⟨rfl, rfl⟩
-- state, permit, quorumOf
theorem x_state_no {a b : Int32} (h : nopair a b) : Rn zs (d + 8) 50 (aB 50 0) [(0, .inr (1, 0)), (1, .inl a), (2, .inl b)] [] S (rE (some (.inl (-1))) S) := by
  refine Rn.cd 4 (fun _ => rfl) (x_bidIfAny_no h) ?_
  exact Rn.r 6 (fun _ => rfl) ⟨rfl, rfl⟩
theorem x_state {c r : Nat} (hc : c < 8) (hr : r < 4) : Rn zs (d + 8) 50 (aB 50 0) [(0, .inr (1, 0)), (1, .inl (nI c)), (2, .inl (nI r))] [] S (rE (some (.inl (S 8 (4 * c + r) 2))) S) := by
  refine Rn.cd 4 (fun _ => rfl) (x_bidIfAny hc hr) ?_
  exact Rn.r 6 (fun _ => rfl) ⟨rfl, rfl⟩
theorem x_permit_no {a b : Int32} (h : nopair a b) : Rn zs (d + 8) 51 (aB 51 0) [(0, .inr (1, 0)), (1, .inl a), (2, .inl b)] [] S (rE (some (.inl (nI 0))) S) := by
  refine Rn.cd 4 (fun _ => rfl) (x_bidIfAny_no h) ?_
  exact Rn.r 6 (fun _ => rfl) ⟨rfl, rfl⟩
theorem x_permit {c r : Nat} (hc : c < 8) (hr : r < 4) : Rn zs (d + 8) 51 (aB 51 0) [(0, .inr (1, 0)), (1, .inl (nI c)), (2, .inl (nI r))] [] S (rE (some (.inl (if S 8 (4 * c + r) 2 = nI 3 ∨ S 8 (4 * c + r) 2 = nI 4 then S 8 (4 * c + r) 4 else nI 0))) S) := by
  refine Rn.cd 4 (fun _ => rfl) (x_bidIfAny hc hr) ?_
  refine Rn.cd 5 (fun _ => rfl) (x_isHolding (4 * c + r)) ?_
  by_cases h : S 8 (4 * c + r) 2 = nI 3 ∨ S 8 (4 * c + r) 2 = nI 4
  · rw [if_pos h, if_pos h]
    exact Rn.r 4 (fun _ => rfl) ⟨rfl, rfl⟩
  · rw [if_neg h, if_neg h]
    exact Rn.r 4 (fun _ => rfl) ⟨rfl, rfl⟩
theorem x_quorum_no {a b : Int32} (h : nopair a b) : Rn zs (d + 8) 52 (aB 52 0) [(0, .inr (1, 0)), (1, .inl a), (2, .inl b)] [] S (rE (some (.inl (nI 0))) S) := by
  refine Rn.cd 4 (fun _ => rfl) (x_bidIfAny_no h) ?_
  exact Rn.r 5 (fun _ => rfl) ⟨rfl, rfl⟩
theorem x_quorum {c r : Nat} (hc : c < 8) (hr : r < 4) : Rn zs (d + 8) 52 (aB 52 0) [(0, .inr (1, 0)), (1, .inl (nI c)), (2, .inl (nI r))] [] S (rE (some (.inl (if S 8 (4 * c + r) 2 = 0 then nI 0 else if S 8 (4 * c + r) 2 = nI 1 then S 8 (4 * c + r) 7 &&& S 8 (4 * c + r) 9 else S 8 (4 * c + r) 7))) S) := by
  refine Rn.cd 4 (fun _ => rfl) (x_bidIfAny hc hr) ?_
  refine Rn.b 6 (fun _ => rfl) (fun c1 => ?_) (fun c1 => ?_)
  · rw [if_neg c1]
    refine Rn.b 4 (fun _ => rfl) (fun c2 => ?_) (fun c2 => ?_)
    · rw [if_neg c2]
      exact Rn.r 3 (fun _ => rfl) ⟨rfl, rfl⟩
    · rw [if_pos (Classical.byContradiction c2)]
      exact Rn.r 7 (fun _ => rfl) ⟨rfl, rfl⟩
  · rw [if_pos (Classical.byContradiction c1)]
    exact Rn.r 2 (fun _ => rfl) ⟨rfl, rfl⟩
-- orders, highest, done
theorem x_orders_no {b : Int32} (h : outc b 4) : Rn zs (d + 8) 54 (aB 54 0) [(0, .inr (1, 0)), (1, .inl b)] [] S (rE (some (.inl (-1))) S) := by
  refine Rn.cd 2 (fun _ => rfl) (x_isCrane_no h) ?_
  exact Rn.r 3 (fun _ => rfl) ⟨rfl, rfl⟩
theorem x_orders {r : Nat} (hr : r < 4) : Rn zs (d + 8) 54 (aB 54 0) [(0, .inr (1, 0)), (1, .inl (nI r))] [] S (rE (some (.inl (S 11 r 2))) S) := by
  refine Rn.cd 2 (fun _ => rfl) (x_isCrane hr) ?_
  refine Rn.g 5 (fun _ => rfl) (by rw [nI_toInt (by omega)]; omega) ?_
  rw [nI_clamp (by omega)]
  exact Rn.r 3 (fun _ => rfl) ⟨rfl, rfl⟩
theorem x_highest_no {b : Int32} (h : outc b 4) : Rn zs (d + 8) 59 (aB 59 0) [(0, .inr (1, 0)), (1, .inl b)] [] S (rE (some (.inl (-1))) S) := by
  refine Rn.cd 2 (fun _ => rfl) (x_isCrane_no h) ?_
  exact Rn.r 3 (fun _ => rfl) ⟨rfl, rfl⟩
theorem x_highest {r : Nat} (hr : r < 4) : Rn zs (d + 8) 59 (aB 59 0) [(0, .inr (1, 0)), (1, .inl (nI r))] [] S (rE (some (.inl (S 11 r 0))) S) := by
  refine Rn.cd 2 (fun _ => rfl) (x_isCrane hr) ?_
  refine Rn.g 5 (fun _ => rfl) (by rw [nI_toInt (by omega)]; omega) ?_
  rw [nI_clamp (by omega)]
  exact Rn.r 3 (fun _ => rfl) ⟨rfl, rfl⟩
theorem x_done_no1 {a b x : Int32} (h : outc b 4) : Rn zs (d + 8) 55 (aB 55 0) [(0, .inr (1, 0)), (1, .inl b), (2, .inl a), (3, .inl x)] [] S (rE (some (.inl (-1))) S) := by
  refine Rn.cd 2 (fun _ => rfl) (x_isCrane_no h) ?_
  exact Rn.r 3 (fun _ => rfl) ⟨rfl, rfl⟩
theorem x_done_no2 {r n : Nat} {a x : Int32} (hr : r < 4) (hn : S 11 r 2 = nI n) (h : outc a n ∨ a < nI n - nI 64) : Rn zs (d + 8) 55 (aB 55 0) [(0, .inr (1, 0)), (1, .inl (nI r)), (2, .inl a), (3, .inl x)] [] S (rE (some (.inl (-1))) S) := by
  refine Rn.cd 2 (fun _ => rfl) (x_isCrane hr) ?_
  refine Rn.g 5 (fun _ => rfl) (by rw [nI_toInt (by omega)]; omega) ?_
  rw [nI_clamp (by omega)]
  refine Rn.cd 2 (fun _ => rfl) (x_keeps_no hn h) ?_
  exact Rn.r 3 (fun _ => rfl) ⟨rfl, rfl⟩
theorem x_done {r n i : Nat} {x : Int32} (hr : r < 4) (hn : S 11 r 2 = nI n) (hn2 : n < 2 ^ 30) (hi : i < n) (h64 : n ≤ i + 64) : Rn zs (d + 8) 55 (aB 55 0) [(0, .inr (1, 0)), (1, .inl (nI r)), (2, .inl (nI i)), (3, .inl x)] [] S (rE (some (.inl (if x = 0 then S 12 r (i % 64) else if x = nI 1 then S 13 r (i % 64) else -1))) S) := by
  refine Rn.cd 2 (fun _ => rfl) (x_isCrane hr) ?_
  refine Rn.g 5 (fun _ => rfl) (by rw [nI_toInt (by omega)]; omega) ?_
  rw [nI_clamp (by omega)]
  refine Rn.cd 2 (fun _ => rfl) (x_keeps hn hn2 hi h64) ?_
  refine Rn.s 1 (fun _ => rfl) ?_
  refine Rn.b 2 (fun _ => rfl) (fun c1 => ?_) (fun c1 => ?_)
  · rw [if_neg c1]
    refine Rn.b 3 (fun _ => rfl) (fun c2 => ?_) (fun c2 => ?_)
    · rw [if_neg c2]
      exact Rn.r 2 (fun _ => rfl) ⟨rfl, rfl⟩
    · rw [if_pos (Classical.byContradiction c2)]
      refine Rn.g 4 (fun _ => rfl) (by rw [nI_toInt (by omega)]; omega) ?_
      rw [nI_clamp (by omega)]
      refine Rn.cd 2 (fun _ => rfl) (x_codeAt (by omega)) ?_
      exact Rn.r 2 (fun _ => rfl) ⟨rfl, rfl⟩
  · rw [if_pos (Classical.byContradiction c1)]
    refine Rn.g 4 (fun _ => rfl) (by rw [nI_toInt (by omega)]; omega) ?_
    rw [nI_clamp (by omega)]
    refine Rn.cd 2 (fun _ => rfl) (x_numberAt (by omega)) ?_
    exact Rn.r 1 (fun _ => rfl) ⟨rfl, rfl⟩
end XQ
