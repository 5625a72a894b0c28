/-! THE CLASS: vote, breakPermit, deliver -/
/-- the first of m clients from c on that holds the permit -/
def bpF (S : aS) (r : Nat) (num : Int32) : Nat → Nat → Option Nat
  | 0, _ => none
  | m + 1, c => if S 8 (4 * c + r) 2 = nI 3 ∧ S 8 (4 * c + r) 4 = num then some c else bpF S r num m (c + 1)
def xBreak (S : aS) (c r : Nat) (num : Int32) : aS := xSend (xSA (4 * c + r) (nI 6) (nI 32767) num 15 0 (au S 8 (4 * c + r) 2 (nI 4))) (nI 7) (nI c) (nI r) (S 8 (4 * c + r) 3) (-1) num (nI 0)
section XD
variable {zs : Nat × (Nat → Int32)} {d : Nat} {S : aS}
theorem x_break_no {b num : Int32} (h : outc b 4) : Rn zs (d + 8) 18 (aB 18 0) [(0, .inr (1, 0)), (1, .inl b), (2, .inl num)] [] S (rE (some (.inl (-1))) S) := by
  refine Rn.cd 2 (fun _ => rfl) (x_isCrane_no h) ?_
  exact Rn.r 3 (fun _ => rfl) ⟨rfl, rfl⟩
theorem x_break_hit {c r : Nat} {num : Int32} {L : aL} (hc : c < 8) (hr : r < 4) (hP : POK S) (h : S 8 (4 * c + r) 2 = nI 3 ∧ S 8 (4 * c + r) 4 = num) : Rn zs (d + 8) 18 ((aB 18 11).drop 16) [(0, .inr (1, 0)), (1, .inl (nI r)), (2, .inl num), (3, .inl (nI c)), (4, .inr (8, 4 * c + r))] [] S (rE (some (.inl (nI c))) (xBreak S c r num)) := by
  refine Rn.s 3 (fun _ => rfl) ?_
  refine Rn.cd 6 (fun _ => rfl) (x_sendEach (q := 4 * c + r) (nI 6) (nI 32767) num (POK_au hP (by decide))) ?_
  have hs := x_send (zs := zs) (d := d + 7) (S := xSA (4 * c + r) (nI 6) (nI 32767) num 15 0 (au S 8 (4 * c + r) 2 (nI 4))) (xSA_pok _ _ _ _ _ _ _ (POK_au hP (by decide))) (nI 7) (nI c) (nI r) (xSA (4 * c + r) (nI 6) (nI 32767) num 15 0 (au S 8 (4 * c + r) 2 (nI 4)) 8 (4 * c + r) 3) (-1) num
  refine Rn.cd 10 (fun _ => rfl) hs ?_
  have e : xSA (4 * c + r) (nI 6) (nI 32767) num 15 0 (au S 8 (4 * c + r) 2 (nI 4)) 8 (4 * c + r) 3 = S 8 (4 * c + r) 3 := by
    rw [xSA_ne _ _ _ _ (by decide) (by decide)]
    simp [au]
  rw [e]
  exact Rn.r 2 (fun _ => rfl) ⟨rfl, rfl⟩
theorem x_break_loop {r : Nat} {num : Int32} (hr : r < 4) (hP : POK S) : ∀ (m c : Nat) (L : aL), c + m = 8 → (L = [] ∨ ∃ q, L = [(4, .inr (8, q))]) → Rn zs (d + 8) 18 (aB 18 11) ([(0, .inr (1, 0)), (1, .inl (nI r)), (2, .inl num), (3, .inl (nI c))] ++ L) [] S (match bpF S r num m c with
    | some c => rE (some (.inl (nI c))) (xBreak S c r num)
    | none => rE (some (.inl (-1))) S)
  | 0, c, L, h, hL => by
    rcases hL with rfl | ⟨q, rfl⟩
    · refine Rn.b 3 (fun _ => rfl) (fun c1 => ?_) (fun c1 => absurd (nI_le (by omega) (by omega)) c1)
      exact Rn.r 2 (fun _ => rfl) ⟨rfl, rfl⟩
    · refine Rn.b 3 (fun _ => rfl) (fun c1 => ?_) (fun c1 => absurd (nI_le (by omega) (by omega)) c1)
      exact Rn.r 2 (fun _ => rfl) ⟨rfl, rfl⟩
  | m + 1, c, L, h, hL => by
    have key : Rn zs (d + 8) 18 ((aB 18 11).drop 8) [(0, .inr (1, 0)), (1, .inl (nI r)), (2, .inl num), (3, .inl (nI c)), (4, .inr (8, 4 * c + r))] [] S (match bpF S r num (m + 1) c with
        | some c => rE (some (.inl (nI c))) (xBreak S c r num)
        | none => rE (some (.inl (-1))) S) := by
      unfold bpF
      refine Rn.b 4 (fun _ => rfl) (fun c1 => ?_) (fun c1 => ?_)
      · rw [if_neg (fun q => c1 q.1)]
        refine Rn.s 2 (fun _ => rfl) ?_
        rw [nI_add]
        exact x_break_loop hr hP m (c + 1) [(4, .inr (8, 4 * c + r))] (by omega) (Or.inr ⟨_, rfl⟩)
      · refine Rn.b 4 (fun _ => rfl) (fun c2 => ?_) (fun c2 => ?_)
        · rw [if_neg (fun q => c2 q.2)]
          refine Rn.s 2 (fun _ => rfl) ?_
          rw [nI_add]
          exact x_break_loop hr hP m (c + 1) [(4, .inr (8, 4 * c + r))] (by omega) (Or.inr ⟨_, rfl⟩)
        · have hh : S 8 (4 * c + r) 2 = nI 3 ∧ S 8 (4 * c + r) 4 = num := ⟨Classical.byContradiction c1, Classical.byContradiction c2⟩
          rw [if_pos hh]
          exact x_break_hit (L := []) (by omega) hr hP hh
    rcases hL with rfl | ⟨q, rfl⟩
    · refine Rn.b 3 (fun _ => rfl) (fun c1 => absurd c1 (nI_ge (by omega) (by omega))) (fun c1 => ?_)
      refine Rn.cd 4 (fun _ => rfl) (x_bidOf (by omega) hr) ?_
      refine Rn.s 1 (fun _ => rfl) ?_
      exact key
    · refine Rn.b 3 (fun _ => rfl) (fun c1 => absurd c1 (nI_ge (by omega) (by omega))) (fun c1 => ?_)
      refine Rn.cd 4 (fun _ => rfl) (x_bidOf (by omega) hr) ?_
      refine Rn.s 1 (fun _ => rfl) ?_
      exact key
theorem x_break {r : Nat} {num : Int32} (hr : r < 4) (hP : POK S) : Rn zs (d + 8) 18 (aB 18 0) [(0, .inr (1, 0)), (1, .inl (nI r)), (2, .inl num)] [] S (match bpF S r num 8 0 with
    | some c => rE (some (.inl (nI c))) (xBreak S c r num)
    | none => rE (some (.inl (-1))) S) := by
  refine Rn.cd 2 (fun _ => rfl) (x_isCrane hr) ?_
  refine Rn.s 1 (fun _ => rfl) ?_
  refine Rn.s 2 (fun _ => rfl) ?_
  exact x_break_loop hr hP 8 0 [] rfl (Or.inl rfl)
-- vote
theorem x_vote_no1 {a b x : Int32} (h : outc a 15) : Rn zs (d + 8) 53 (aB 53 0) [(0, .inr (1, 0)), (1, .inl a), (2, .inl b), (3, .inl x)] [] S (rE (some (.inl (-1))) S) := by
  refine Rn.cd 2 (fun _ => rfl) (x_isArbiter_no h) ?_
  exact Rn.r 3 (fun _ => rfl) ⟨rfl, rfl⟩
theorem x_vote_no2 {a : Nat} {b x : Int32} (ha : a < 15) (h : outc b 4) : Rn zs (d + 8) 53 (aB 53 0) [(0, .inr (1, 0)), (1, .inl (nI a)), (2, .inl b), (3, .inl x)] [] S (rE (some (.inl (-1))) S) := by
  refine Rn.cd 2 (fun _ => rfl) (x_isArbiter ha) ?_
  refine Rn.s 1 (fun _ => rfl) ?_
  refine Rn.cd 2 (fun _ => rfl) (x_isCrane_no h) ?_
  exact Rn.r 3 (fun _ => rfl) ⟨rfl, rfl⟩
theorem x_vote_at {a r : Nat} {x : Int32} {Q : Option aV → aS → Prop} (ha : a < 15) (hr : r < 4) (K : Rn zs (d + 8) 53 (aB 53 (tsel x 25 74 0 [35, 44, 53, 59, 65])) [(0, .inr (1, 0)), (1, .inl (nI a)), (2, .inl (nI r)), (3, .inl x), (4, .inr (9, 4 * a + r))] [] S Q) : Rn zs (d + 8) 53 (aB 53 0) [(0, .inr (1, 0)), (1, .inl (nI a)), (2, .inl (nI r)), (3, .inl x)] [] S Q := by
  refine Rn.cd 2 (fun _ => rfl) (x_isArbiter ha) ?_
  refine Rn.s 1 (fun _ => rfl) ?_
  refine Rn.cd 2 (fun _ => rfl) (x_isCrane hr) ?_
  refine Rn.s 1 (fun _ => rfl) ?_
  refine Rn.cd 4 (fun _ => rfl) (x_ballotOf ha hr) ?_
  refine Rn.s 3 (fun _ => rfl) ?_
  exact K
theorem x_vote_def {a r : Nat} {x : Int32} (ha : a < 15) (hr : r < 4) (h : x ≠ 0 ∧ x ≠ 1 ∧ x ≠ 2 ∧ x ≠ 3 ∧ x ≠ 4) : Rn zs (d + 8) 53 (aB 53 0) [(0, .inr (1, 0)), (1, .inl (nI a)), (2, .inl (nI r)), (3, .inl x)] [] S (rE (some (.inl (-1))) S) := by
  refine x_vote_at ha hr ?_
  have e : tsel x 25 74 0 [35, 44, 53, 59, 65] = 99 := by
    unfold tsel tsel tsel tsel tsel tsel
    rw [if_neg (show ¬ x = Int32.ofInt 0 from h.1), if_neg (show ¬ x = Int32.ofInt (0 + 1) from h.2.1), if_neg (show ¬ x = Int32.ofInt (0 + 1 + 1) from h.2.2.1), if_neg (show ¬ x = Int32.ofInt (0 + 1 + 1 + 1) from h.2.2.2.1), if_neg (show ¬ x = Int32.ofInt (0 + 1 + 1 + 1 + 1) from h.2.2.2.2)]
    rfl
  rw [e]
  exact Rn.r 2 (fun _ => rfl) ⟨rfl, rfl⟩
theorem x_vote_0 {a r e : Nat} (ha : a < 15) (hr : r < 4) (he : S 9 (4 * a + r) 0 = nI e) (he0 : 0 < e) (he1 : e < 2 ^ 31) : Rn zs (d + 8) 53 (aB 53 0) [(0, .inr (1, 0)), (1, .inl (nI a)), (2, .inl (nI r)), (3, .inl 0)] [] S (rE (some (.inl (nI (e % 8)))) S) := by
  refine x_vote_at ha hr ?_
  refine Rn.s 2 (fun _ => rfl) ?_
  rw [he]
  refine Rn.cd 1 (fun _ => rfl) (x_clientOf he0 he1) ?_
  exact Rn.r 1 (fun _ => rfl) ⟨rfl, rfl⟩
theorem x_vote_0n {a r : Nat} (ha : a < 15) (hr : r < 4) (he : S 9 (4 * a + r) 0 = 0) : Rn zs (d + 8) 53 (aB 53 0) [(0, .inr (1, 0)), (1, .inl (nI a)), (2, .inl (nI r)), (3, .inl 0)] [] S (rE (some (.inl (-1))) S) := by
  refine x_vote_at ha hr ?_
  refine Rn.cd 3 (fun _ => rfl) (x_clientOf_no he) ?_
  exact Rn.r 1 (fun _ => rfl) ⟨rfl, rfl⟩
theorem x_vote_1 {a r e : Nat} (ha : a < 15) (hr : r < 4) (he : S 9 (4 * a + r) 0 = nI e) (he0 : 0 < e) (he1 : e < 2 ^ 31) : Rn zs (d + 8) 53 (aB 53 0) [(0, .inr (1, 0)), (1, .inl (nI a)), (2, .inl (nI r)), (3, .inl 1)] [] S (rE (some (.inl (nI (e / 8)))) S) := by
  refine x_vote_at ha hr ?_
  refine Rn.s 2 (fun _ => rfl) ?_
  rw [he]
  refine Rn.cd 1 (fun _ => rfl) (x_runOf he0 he1) ?_
  exact Rn.r 1 (fun _ => rfl) ⟨rfl, rfl⟩
theorem x_vote_1n {a r : Nat} (ha : a < 15) (hr : r < 4) (he : S 9 (4 * a + r) 0 = 0) : Rn zs (d + 8) 53 (aB 53 0) [(0, .inr (1, 0)), (1, .inl (nI a)), (2, .inl (nI r)), (3, .inl 1)] [] S (rE (some (.inl (-1))) S) := by
  refine x_vote_at ha hr ?_
  refine Rn.cd 3 (fun _ => rfl) (x_runOf_no he) ?_
  exact Rn.r 1 (fun _ => rfl) ⟨rfl, rfl⟩
theorem x_vote_2 {a r : Nat} (ha : a < 15) (hr : r < 4) : Rn zs (d + 8) 53 (aB 53 0) [(0, .inr (1, 0)), (1, .inl (nI a)), (2, .inl (nI r)), (3, .inl 2)] [] S (rE (some (.inl (S 9 (4 * a + r) 1))) S) := by
  refine x_vote_at ha hr ?_
  exact Rn.r 3 (fun _ => rfl) ⟨rfl, rfl⟩
theorem x_vote_3 {a r : Nat} (ha : a < 15) (hr : r < 4) : Rn zs (d + 8) 53 (aB 53 0) [(0, .inr (1, 0)), (1, .inl (nI a)), (2, .inl (nI r)), (3, .inl 3)] [] S (rE (some (.inl (S 9 (4 * a + r) 2))) S) := by
  refine x_vote_at ha hr ?_
  exact Rn.r 3 (fun _ => rfl) ⟨rfl, rfl⟩
theorem x_vote_4 {a r w e : Nat} (ha : a < 15) (hr : r < 4) (hw : S 9 (4 * a + r) 2 = nI w) (h0 : 0 < w) (hw2 : w < 2 ^ 31) (he : S 10 (4 * a + r) 0 = nI e) (he0 : 0 < e) (he1 : e < 2 ^ 31) : Rn zs (d + 8) 53 (aB 53 0) [(0, .inr (1, 0)), (1, .inl (nI a)), (2, .inl (nI r)), (3, .inl 4)] [] S (rE (some (.inl (nI (e % 8)))) S) := by
  refine x_vote_at ha hr ?_
  refine Rn.cd 2 (fun _ => rfl) (x_firstWaiting hw hw2) ?_
  rw [if_neg (by omega), he]
  refine Rn.cd 1 (fun _ => rfl) (x_clientOf he0 he1) ?_
  exact Rn.r 1 (fun _ => rfl) ⟨rfl, rfl⟩
theorem x_vote_4n {a r : Nat} (ha : a < 15) (hr : r < 4) (hw : S 9 (4 * a + r) 2 = nI 0) : Rn zs (d + 8) 53 (aB 53 0) [(0, .inr (1, 0)), (1, .inl (nI a)), (2, .inl (nI r)), (3, .inl 4)] [] S (rE (some (.inl (-1))) S) := by
  refine x_vote_at ha hr ?_
  refine Rn.cd 2 (fun _ => rfl) (x_firstWaiting hw (by omega)) ?_
  rw [if_pos rfl]
  refine Rn.cd 1 (fun _ => rfl) (x_clientOf_no rfl) ?_
  exact Rn.r 1 (fun _ => rfl) ⟨rfl, rfl⟩
-- deliver
theorem x_deliver_no {a : Int32} (hP : POK S) (h : outc a (pn S)) : Rn zs (d + 8) 27 (aB 27 0) [(0, .inr (1, 0)), (1, .inl a)] [] S (rE (some (.inl (nI 0))) S) := by
  refine Rn.cd 4 (fun _ => rfl) (x_has_no hP h) ?_
  exact Rn.r 3 (fun _ => rfl) ⟨rfl, rfl⟩
/-- the locals behind the letter's leaving -/
def xDL (i : Nat) (a b c r e f g : Int32) : aL := [(0, .inr (1, 0)), (1, .inl (nI i)), (2, .inl a), (3, .inl b), (4, .inl c), (5, .inl r), (6, .inl e), (7, .inl f), (8, .inl g)]
theorem x_deliver_head {n i : Nat} {Q : Option aV → aS → Prop} (hn : S 2 0 1 = nI (n + 1)) (h240 : n + 1 ≤ 240) (hi : i ≤ n) (K : Rn zs (d + 8) 27 ((aB 27 13).drop 46) (xDL i (S 3 0 (i * 7 + 0)) (S 3 0 (i * 7 + 1)) (S 3 0 (i * 7 + 2)) (S 3 0 (i * 7 + 3)) (S 3 0 (i * 7 + 4)) (S 3 0 (i * 7 + 5)) (S 3 0 (i * 7 + 6))) [] (xRem S n i) Q) : Rn zs (d + 8) 27 (aB 27 0) [(0, .inr (1, 0)), (1, .inl (nI i))] [] S Q := by
  have hp := pn_of hn h240
  refine Rn.cd 4 (fun _ => rfl) (x_has hp.2 (by rw [hp.1]; omega)) ?_
  refine Rn.s 1 (fun _ => rfl) ?_
  refine Rn.cd 5 (fun _ => rfl) (x_read (i := i) (j := 0) (by omega) (by omega)) ?_
  refine Rn.cd 6 (fun _ => rfl) (x_read (i := i) (j := 1) (by omega) (by omega)) ?_
  refine Rn.cd 6 (fun _ => rfl) (x_read (i := i) (j := 2) (by omega) (by omega)) ?_
  refine Rn.cd 6 (fun _ => rfl) (x_read (i := i) (j := 3) (by omega) (by omega)) ?_
  refine Rn.cd 6 (fun _ => rfl) (x_read (i := i) (j := 4) (by omega) (by omega)) ?_
  refine Rn.cd 6 (fun _ => rfl) (x_read (i := i) (j := 5) (by omega) (by omega)) ?_
  refine Rn.cd 6 (fun _ => rfl) (x_read (i := i) (j := 6) (by omega) (by omega)) ?_
  refine Rn.cd 5 (fun _ => rfl) (x_remove hn h240 hi) ?_
  exact K
theorem x_del_vote {i c r : Nat} {run arb num g : Int32} {T : aS} (hc : c < 8) (hr : r < 4) (hs : Rn zs (d + 7) 29 (aB 29 0) [(0, .inr (1, 0)), (1, .inr (8, 4 * c + r)), (2, .inl run), (3, .inl arb), (4, .inl num)] [] S (rE none T)) : Rn zs (d + 8) 27 ((aB 27 13).drop 46) (xDL i (nI 2) (nI c) (nI r) run arb num g) [] S (rE (some (.inl (nI 1))) T) := by
  refine Rn.s 3 (fun _ => rfl) ?_
  refine Rn.cd 5 (fun _ => rfl) (x_bidOf hc hr) ?_
  refine Rn.cd 4 (fun _ => rfl) hs ?_
  exact Rn.r 3 (fun _ => rfl) ⟨rfl, rfl⟩
theorem x_del_stored {i c r : Nat} {run arb num g : Int32} {T : aS} (hc : c < 8) (hr : r < 4) (hs : Rn zs (d + 7) 31 (aB 31 0) [(0, .inr (1, 0)), (1, .inr (8, 4 * c + r)), (2, .inl run), (3, .inl arb)] [] S (rE none T)) : Rn zs (d + 8) 27 ((aB 27 13).drop 46) (xDL i (nI 4) (nI c) (nI r) run arb num g) [] S (rE (some (.inl (nI 1))) T) := by
  refine Rn.s 3 (fun _ => rfl) ?_
  refine Rn.s 3 (fun _ => rfl) ?_
  refine Rn.cd 5 (fun _ => rfl) (x_bidOf hc hr) ?_
  refine Rn.cd 3 (fun _ => rfl) hs ?_
  exact Rn.r 3 (fun _ => rfl) ⟨rfl, rfl⟩
theorem x_del_order {i r : Nat} {b run arb num g : Int32} {T : aS} (hr : r < 4) (hs : Rn zs (d + 7) 32 (aB 32 0) [(0, .inr (11, r)), (1, .inl num), (2, .inl g)] [] S (rE none T)) : Rn zs (d + 8) 27 ((aB 27 13).drop 46) (xDL i (nI 8) b (nI r) run arb num g) [] S (rE (some (.inl (nI 1))) T) := by
  refine Rn.s 3 (fun _ => rfl) ?_
  refine Rn.s 3 (fun _ => rfl) ?_
  refine Rn.s 3 (fun _ => rfl) ?_
  refine Rn.g 4 (fun _ => rfl) (by rw [nI_toInt (by omega)]; omega) ?_
  rw [nI_clamp (by omega)]
  refine Rn.cd 3 (fun _ => rfl) hs ?_
  exact Rn.r 3 (fun _ => rfl) ⟨rfl, rfl⟩
theorem x_del_broken {i r : Nat} {b run arb num g : Int32} {T : aS} (hr : r < 4) (hs : Rn zs (d + 7) 34 (aB 34 0) [(0, .inr (11, r)), (1, .inl num)] [] S (rE none T)) : Rn zs (d + 8) 27 ((aB 27 13).drop 46) (xDL i (nI 7) b (nI r) run arb num g) [] S (rE (some (.inl (nI 1))) T) := by
  refine Rn.s 3 (fun _ => rfl) ?_
  refine Rn.s 3 (fun _ => rfl) ?_
  refine Rn.s 3 (fun _ => rfl) ?_
  refine Rn.s 3 (fun _ => rfl) ?_
  refine Rn.g 4 (fun _ => rfl) (by rw [nI_toInt (by omega)]; omega) ?_
  rw [nI_clamp (by omega)]
  refine Rn.cd 2 (fun _ => rfl) hs ?_
  exact Rn.r 3 (fun _ => rfl) ⟨rfl, rfl⟩
theorem x_del_arb {i κ : Nat} {b c run arb num g : Int32} {Q : Option aV → aS → Prop} (hκ : κ = 1 ∨ κ = 3 ∨ κ = 5 ∨ κ = 6) (K : Rn zs (d + 8) 27 (aB 27 189) (xDL i (nI κ) b c run arb num g) [] S Q) : Rn zs (d + 8) 27 ((aB 27 13).drop 46) (xDL i (nI κ) b c run arb num g) [] S Q := by
  rcases hκ with rfl | rfl | rfl | rfl
  all_goals
    refine Rn.s 3 (fun _ => rfl) ?_
    refine Rn.s 3 (fun _ => rfl) ?_
    refine Rn.s 3 (fun _ => rfl) ?_
    refine Rn.s 3 (fun _ => rfl) ?_
    exact K
theorem x_del_down {i κ : Nat} {b c run arb num g : Int32} (hκ : κ = 1 ∨ κ = 3 ∨ κ = 5 ∨ κ = 6) (h : ¬ bt (S 1 0 5) arb = 0) : Rn zs (d + 8) 27 ((aB 27 13).drop 46) (xDL i (nI κ) b c run arb num g) [] S (rE (some (.inl (nI 1))) S) := by
  refine x_del_arb hκ ?_
  refine Rn.cd 4 (fun _ => rfl) (x_hasBit _ _) ?_
  rw [if_neg h]
  exact Rn.r 3 (fun _ => rfl) ⟨rfl, rfl⟩
theorem x_del_up {i κ : Nat} {b c run arb num g : Int32} {T : aS} (hκ : κ = 1 ∨ κ = 3 ∨ κ = 5 ∨ κ = 6) (h : bt (S 1 0 5) arb = 0) (hs : Rn zs (d + 7) 36 (aB 36 0) [(0, .inr (1, 0)), (1, .inl (nI κ)), (2, .inl arb), (3, .inl c), (4, .inl (run * nI 8 + b)), (5, .inl num)] [] S (rE none T)) : Rn zs (d + 8) 27 ((aB 27 13).drop 46) (xDL i (nI κ) b c run arb num g) [] S (rE (some (.inl (nI 1))) T) := by
  refine x_del_arb hκ ?_
  refine Rn.cd 4 (fun _ => rfl) (x_hasBit _ _) ?_
  rw [if_pos h]
  refine Rn.s 1 (fun _ => rfl) ?_
  refine Rn.cd 7 (fun _ => rfl) (x_claimOf b run) ?_
  refine Rn.cd 2 (fun _ => rfl) hs ?_
  exact Rn.r 2 (fun _ => rfl) ⟨rfl, rfl⟩
end XD
