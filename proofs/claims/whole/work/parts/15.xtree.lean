/-! THE CLASS: routes, letters to each, what a letter does -/
def rLeaf (s : Int32) (k : Nat) : Int32 := if bt s (nI k) = 0 then nI 1 <<< (nI k &&& 31) else nI 0
def rNode (s : Int32) (k : Nat) (l r : Int32) : Int32 := if bt s (nI k) = 0 then (if (if l = 0 then r else l) = 0 then nI 0 else (nI 1 <<< (nI k &&& 31)) ||| (if l = 0 then r else l)) else (if l = 0 ∨ r = 0 then nI 0 else l ||| r)
/-- the class's route from arbiter k, n levels above the leaves -/
def rx (s : Int32) : Nat → Nat → Int32
  | 0, k => rLeaf s k
  | n + 1, k => rNode s k (rx s n (2 * k + 1)) (rx s n (2 * k + 2))
def xSA (q : Nat) (kind set num : Int32) : Nat → Nat → aS → aS
  | 0, _, S => S
  | m + 1, k, S => xSA q kind set num m (k + 1) (if bt set (nI k) = 0 then S else xSend S kind (S 8 q 0) (S 8 q 1) (S 8 q 3) (nI k) num (nI 0))
theorem xSA_ne (q : Nat) (kind set num : Int32) {t j i : Nat} (h3 : t ≠ 3) (h2 : t ≠ 2) : ∀ (m k : Nat) (S : aS), xSA q kind set num m k S t j i = S t j i
  | 0, _, _ => rfl
  | m + 1, k, S => by
    unfold xSA
    rw [xSA_ne q kind set num h3 h2 m]
    split
    · rfl
    · exact xSend_ne S _ _ _ _ _ _ _ h3 h2
theorem xSA_pok (q : Nat) (kind set num : Int32) : ∀ (m k : Nat) (S : aS), POK S → POK (xSA q kind set num m k S)
  | 0, _, _, h => h
  | m + 1, k, S, h => by
    unfold xSA
    refine xSA_pok q kind set num m _ _ ?_
    split
    · exact h
    · exact xSend_pok h _ _ _ _ _ _ _
/-- the two steps of askRoute ahead of its letters -/
def xAsk1 (S : aS) (q : Nat) : aS := au (au S 8 q 7 (rx (S 8 q 6) 3 0)) 8 q 8 (S 8 q 8 ||| (rx (S 8 q 6) 3 0 &&& (S 8 q 8 ^^^ -1)))
def xAsk (S : aS) (q : Nat) : aS := xSA q (nI 1) (rx (S 8 q 6) 3 0 &&& (S 8 q 8 ^^^ -1)) (nI 0) 15 0 (xAsk1 S q)
def xWr1 (S : aS) (q : Nat) : aS := au (au S 8 q 2 (nI 2)) 8 q 4 (S 8 q 5 + nI 1)
def xWrite (S : aS) (q : Nat) : aS := if S 8 q 7 = 0 ∨ S 8 q 7 &&& (S 8 q 9 ^^^ -1) ≠ 0 then S else xSA q (nI 3) (S 8 q 7) (S 8 q 5 + nI 1) 15 0 (xWr1 S q)
def xEnd (S : aS) (q : Nat) : aS := au (xSA q (nI 5) (S 8 q 8) (nI 0) 15 0 S) 8 q 2 (nI 0)
def xVote1 (S : aS) (q : Nat) (arb num : Int32) : aS := au (au S 8 q 9 (S 8 q 9 ||| (nI 1 <<< (arb &&& 31)))) 8 q 5 (if S 8 q 5 < num then num else S 8 q 5)
section XT
variable {zs : Nat × (Nat → Int32)} {d : Nat} {S : aS}
theorem x_route_leaf {s : Int32} {k : Nat} (h7 : 7 ≤ k) (h15 : k < 15) : Rn zs (d + 1) 7 (aB 7 0) [(0, .inl (nI k)), (1, .inl s)] [] S (rE (some (.inl (rLeaf s k))) S) := by
  refine Rn.cd 2 (fun _ => rfl) (x_isArbiter h15) ?_
  refine Rn.s 1 (fun _ => rfl) ?_
  refine Rn.cd 3 (fun _ => rfl) (x_hasBit s (nI k)) ?_
  refine Rn.b 4 (fun _ => rfl) (fun c1 => absurd c1 (nI_nlt h7 (by omega))) (fun c1 => ?_)
  unfold rLeaf
  by_cases hb : bt s (nI k) = 0
  · rw [if_pos hb, if_pos hb]
    exact Rn.r 6 (fun _ => rfl) ⟨rfl, rfl⟩
  · rw [if_neg hb, if_neg hb]
    exact Rn.r 5 (fun _ => rfl) ⟨rfl, rfl⟩
theorem x_route_node {s l r : Int32} {k : Nat} (h7 : k < 7) (hl : Rn zs (d + 1) 7 (aB 7 0) [(0, .inl (nI (2 * k + 1))), (1, .inl s)] [] S (rE (some (.inl l)) S)) (hr : Rn zs (d + 1) 7 (aB 7 0) [(0, .inl (nI (2 * k + 2))), (1, .inl s)] [] S (rE (some (.inl r)) S)) : Rn zs (d + 2) 7 (aB 7 0) [(0, .inl (nI k)), (1, .inl s)] [] S (rE (some (.inl (rNode s k l r))) S) := by
  refine Rn.cd 2 (fun _ => rfl) (x_isArbiter (by omega)) ?_
  refine Rn.s 1 (fun _ => rfl) ?_
  refine Rn.cd 3 (fun _ => rfl) (x_hasBit s (nI k)) ?_
  refine Rn.b 4 (fun _ => rfl) (fun c1 => ?_) (fun c1 => absurd (nI_lt h7 (by omega)) c1)
  refine Rn.s 6 (fun _ => rfl) ?_
  rw [pk_mul, nI_add]
  refine Rn.cd 1 (fun _ => rfl) hl ?_
  refine Rn.s 7 (fun _ => rfl) ?_
  rw [pk_mul, nI_add]
  refine Rn.cd 1 (fun _ => rfl) hr ?_
  unfold rNode
  by_cases hb : bt s (nI k) = 0
  · rw [if_pos hb, if_pos hb]
    refine Rn.s 3 (fun _ => rfl) ?_
    refine Rn.b 2 (fun _ => rfl) (fun c2 => ?_) (fun c2 => ?_)
    · rw [if_pos c2]
      refine Rn.b 4 (fun _ => rfl) (fun c3 => ?_) (fun c3 => ?_)
      · rw [if_neg c3]
        exact Rn.r 6 (fun _ => rfl) ⟨rfl, rfl⟩
      · rw [if_pos (Classical.byContradiction c3)]
        exact Rn.r 3 (fun _ => rfl) ⟨rfl, rfl⟩
    · rw [if_neg c2]
      refine Rn.b 5 (fun _ => rfl) (fun c3 => ?_) (fun c3 => absurd c2 c3)
      rw [if_neg c3]
      exact Rn.r 6 (fun _ => rfl) ⟨rfl, rfl⟩
  · rw [if_neg hb, if_neg hb]
    refine Rn.s 3 (fun _ => rfl) ?_
    refine Rn.b 2 (fun _ => rfl) (fun c2 => ?_) (fun c2 => ?_)
    · rw [if_pos (Or.inl c2)]
      exact Rn.r 3 (fun _ => rfl) ⟨rfl, rfl⟩
    · refine Rn.b 2 (fun _ => rfl) (fun c3 => ?_) (fun c3 => ?_)
      · rw [if_neg (fun q => q.elim c2 c3)]
        exact Rn.r 4 (fun _ => rfl) ⟨rfl, rfl⟩
      · rw [if_pos (Or.inr (Classical.byContradiction c3))]
        exact Rn.r 3 (fun _ => rfl) ⟨rfl, rfl⟩
theorem x_route1 {s : Int32} {k : Nat} (h3 : 3 ≤ k) (h7 : k < 7) : Rn zs (d + 2) 7 (aB 7 0) [(0, .inl (nI k)), (1, .inl s)] [] S (rE (some (.inl (rx s 1 k))) S) := x_route_node h7 (x_route_leaf (by omega) (by omega)) (x_route_leaf (by omega) (by omega))
theorem x_route2 {s : Int32} {k : Nat} (h3 : 1 ≤ k) (h7 : k < 3) : Rn zs (d + 3) 7 (aB 7 0) [(0, .inl (nI k)), (1, .inl s)] [] S (rE (some (.inl (rx s 2 k))) S) := x_route_node (by omega) (x_route1 (by omega) (by omega)) (x_route1 (by omega) (by omega))
theorem x_route (s : Int32) : Rn zs (d + 4) 7 (aB 7 0) [(0, .inl (nI 0)), (1, .inl s)] [] S (rE (some (.inl (rx s 3 0))) S) := x_route_node (by omega) (x_route2 (by omega) (by omega)) (x_route2 (by omega) (by omega))
theorem x_sendEach_loop {q : Nat} {kind set num : Int32} : ∀ (m k : Nat) (S : aS), k + m = 15 → POK S → Rn zs (d + 1) 10 (aB 10 3) [(0, .inr (1, 0)), (1, .inl set), (2, .inl kind), (3, .inr (8, q)), (4, .inl num), (5, .inl (nI k))] [] S (rE none (xSA q kind set num m k S))
  | 0, k, S, h, hP => by
    refine Rn.b 3 (fun _ => rfl) (fun c1 => ?_) (fun c1 => absurd (nI_le (by omega) (by omega)) c1)
    exact Rn.r 1 (fun _ => rfl) ⟨rfl, rfl⟩
  | m + 1, k, S, h, hP => by
    refine Rn.b 3 (fun _ => rfl) (fun c1 => absurd c1 (nI_ge (by omega) (by omega))) (fun c1 => ?_)
    refine Rn.cd 3 (fun _ => rfl) (x_hasBit set (nI k)) ?_
    unfold xSA
    by_cases hb : bt set (nI k) = 0
    · rw [if_pos hb, if_pos hb]
      refine Rn.s 3 (fun _ => rfl) ?_
      rw [nI_add]
      exact x_sendEach_loop m (k + 1) S (by omega) hP
    · rw [if_neg hb, if_neg hb]
      refine Rn.s 1 (fun _ => rfl) ?_
      refine Rn.cd 12 (fun _ => rfl) (x_send hP kind (S 8 q 0) (S 8 q 1) (S 8 q 3) (nI k) num) ?_
      refine Rn.s 2 (fun _ => rfl) ?_
      rw [nI_add]
      exact x_sendEach_loop m (k + 1) _ (by omega) (xSend_pok hP _ _ _ _ _ _ _)
theorem x_sendEach {q : Nat} (kind set num : Int32) (hP : POK S) : Rn zs (d + 1) 10 (aB 10 0) [(0, .inr (1, 0)), (1, .inl set), (2, .inl kind), (3, .inr (8, q)), (4, .inl num)] [] S (rE none (xSA q kind set num 15 0 S)) := by
  refine Rn.s 2 (fun _ => rfl) ?_
  exact x_sendEach_loop 15 0 S rfl hP
theorem POK_au {t j f : Nat} {v : Int32} (h : POK S) (ht : t ≠ 2) : POK (au S t j f v) := by
  have e : au S t j f v 2 0 1 = S 2 0 1 := by simp [au]; intro q; exact absurd q.symm ht
  unfold POK pn at *
  rw [e]
  exact h
theorem x_askRoute {q : Nat} (hP : POK S) : Rn zs (d + 5) 6 (aB 6 0) [(0, .inr (1, 0)), (1, .inr (8, q))] [] S (rE none (xAsk S q)) := by
  refine Rn.cd 5 (fun _ => rfl) (x_route (S 8 q 6)) ?_
  have e1 : au S 8 q 7 (rx (S 8 q 6) 3 0) 8 q 7 = rx (S 8 q 6) 3 0 := by simp [au]
  have e2 : au S 8 q 7 (rx (S 8 q 6) 3 0) 8 q 8 = S 8 q 8 := by simp [au]
  refine Rn.s 9 (fun _ => rfl) ?_
  rw [e1, e2]
  refine Rn.s 6 (fun _ => rfl) ?_
  rw [e2]
  refine Rn.cd 6 (fun _ => rfl) (x_sendEach (nI 1) _ (nI 0) (POK_au (POK_au hP (by decide)) (by decide))) ?_
  exact Rn.r 1 (fun _ => rfl) ⟨rfl, rfl⟩
theorem x_writeIf {q : Nat} (hP : POK S) : Rn zs (d + 2) 13 (aB 13 0) [(0, .inr (1, 0)), (1, .inr (8, q))] [] S (rE none (xWrite S q)) := by
  unfold xWrite
  refine Rn.b 3 (fun _ => rfl) (fun c1 => ?_) (fun c1 => ?_)
  · rw [if_pos (Or.inl c1)]
    exact Rn.r 1 (fun _ => rfl) ⟨rfl, rfl⟩
  · refine Rn.b 8 (fun _ => rfl) (fun c2 => ?_) (fun c2 => ?_)
    · rw [if_neg (fun z => z.elim c1 (fun z => z c2))]
      refine Rn.s 3 (fun _ => rfl) ?_
      have e1 : au S 8 q 2 (nI 2) 8 q 5 = S 8 q 5 := by simp [au]
      refine Rn.s 6 (fun _ => rfl) ?_
      rw [e1]
      have e2 : xWr1 S q 8 q 7 = S 8 q 7 := by simp [xWr1, au]
      have e3 : xWr1 S q 8 q 4 = S 8 q 5 + nI 1 := by simp [xWr1, au]
      have hs := x_sendEach (zs := zs) (d := d) (q := q) (S := xWr1 S q) (nI 3) (xWr1 S q 8 q 7) (xWr1 S q 8 q 4) (POK_au (POK_au hP (by decide)) (by decide))
      rw [e2, e3] at hs
      refine Rn.s 7 (fun _ => rfl) ?_
      have e2' : au (au S 8 q 2 (nI 2)) 8 q 4 (S 8 q 5 + nI 1) 8 q 7 = S 8 q 7 := e2
      have e3' : au (au S 8 q 2 (nI 2)) 8 q 4 (S 8 q 5 + nI 1) 8 q 4 = S 8 q 5 + nI 1 := e3
      rw [e2', e3']
      refine Rn.cd 1 (fun _ => rfl) hs ?_
      exact Rn.r 1 (fun _ => rfl) ⟨rfl, rfl⟩
    · rw [if_pos (Or.inr c2)]
      exact Rn.r 1 (fun _ => rfl) ⟨rfl, rfl⟩
theorem x_endRun {q : Nat} (hP : POK S) : Rn zs (d + 2) 15 (aB 15 0) [(0, .inr (1, 0)), (1, .inr (8, q))] [] S (rE none (xEnd S q)) := by
  refine Rn.cd 7 (fun _ => rfl) (x_sendEach (nI 5) (S 8 q 8) (nI 0) hP) ?_
  exact Rn.r 4 (fun _ => rfl) ⟨rfl, rfl⟩
theorem x_takeVote_late {q : Nat} {run arb num : Int32} (hP : POK S) (h : S 8 q 2 = 0 ∨ S 8 q 3 ≠ run) : Rn zs (d + 3) 29 (aB 29 0) [(0, .inr (1, 0)), (1, .inr (8, q)), (2, .inl run), (3, .inl arb), (4, .inl num)] [] S (rE none (xSend S (nI 5) (S 8 q 0) (S 8 q 1) run arb (nI 0) (nI 0))) := by
  refine Rn.cd 3 (fun _ => rfl) (x_isIn q run) ?_
  rw [if_pos h]
  refine Rn.s 1 (fun _ => rfl) ?_
  refine Rn.cd 11 (fun _ => rfl) (x_send hP (nI 5) (S 8 q 0) (S 8 q 1) run arb (nI 0)) ?_
  exact Rn.r 2 (fun _ => rfl) ⟨rfl, rfl⟩
theorem x_takeVote_other {q : Nat} {run arb num : Int32} (h : ¬ (S 8 q 2 = 0 ∨ S 8 q 3 ≠ run)) (h1 : S 8 q 2 ≠ nI 1) : Rn zs (d + 3) 29 (aB 29 0) [(0, .inr (1, 0)), (1, .inr (8, q)), (2, .inl run), (3, .inl arb), (4, .inl num)] [] S (rE none S) := by
  refine Rn.cd 3 (fun _ => rfl) (x_isIn q run) ?_
  rw [if_neg h]
  refine Rn.s 1 (fun _ => rfl) ?_
  refine Rn.b 4 (fun _ => rfl) (fun c1 => ?_) (fun c1 => absurd h1 c1)
  exact Rn.r 1 (fun _ => rfl) ⟨rfl, rfl⟩
theorem x_takeVote_ask {q : Nat} {run arb num : Int32} (hP : POK S) (h : ¬ (S 8 q 2 = 0 ∨ S 8 q 3 ≠ run)) (h1 : S 8 q 2 = nI 1) : Rn zs (d + 3) 29 (aB 29 0) [(0, .inr (1, 0)), (1, .inr (8, q)), (2, .inl run), (3, .inl arb), (4, .inl num)] [] S (rE none (xWrite (xVote1 S q arb num) q)) := by
  refine Rn.cd 3 (fun _ => rfl) (x_isIn q run) ?_
  rw [if_neg h]
  refine Rn.s 1 (fun _ => rfl) ?_
  refine Rn.b 4 (fun _ => rfl) (fun c1 => absurd h1 c1) (fun c1 => ?_)
  refine Rn.s 8 (fun _ => rfl) ?_
  have e1 : au S 8 q 9 (S 8 q 9 ||| nI 1 <<< (arb &&& 31)) 8 q 5 = S 8 q 5 := by simp [au]
  refine Rn.s 6 (fun _ => rfl) ?_
  rw [e1]
  refine Rn.cd 3 (fun _ => rfl) (x_writeIf (d := d) (S := xVote1 S q arb num) (q := q) (POK_au (POK_au hP (by decide)) (by decide))) ?_
  exact Rn.r 1 (fun _ => rfl) ⟨rfl, rfl⟩
theorem x_takeStored_no {q : Nat} {run arb : Int32} (h : (S 8 q 2 = 0 ∨ S 8 q 3 ≠ run) ∨ S 8 q 2 ≠ nI 2 ∨ bt (S 8 q 7) arb = 0) : Rn zs (d + 1) 31 (aB 31 0) [(0, .inr (1, 0)), (1, .inr (8, q)), (2, .inl run), (3, .inl arb)] [] S (rE none S) := by
  refine Rn.cd 3 (fun _ => rfl) (x_isIn q run) ?_
  by_cases h1 : S 8 q 2 = 0 ∨ S 8 q 3 ≠ run
  · rw [if_pos h1]
    exact Rn.r 2 (fun _ => rfl) ⟨rfl, rfl⟩
  · rw [if_neg h1]
    refine Rn.s 1 (fun _ => rfl) ?_
    refine Rn.b 4 (fun _ => rfl) (fun c1 => ?_) (fun c1 => ?_)
    · exact Rn.r 1 (fun _ => rfl) ⟨rfl, rfl⟩
    · refine Rn.cd 4 (fun _ => rfl) (x_hasBit (S 8 q 7) arb) ?_
      have h2 : bt (S 8 q 7) arb = 0 := by
        rcases h with h | h | h
        · exact absurd h h1
        · exact absurd h c1
        · exact h
      rw [if_pos h2]
      exact Rn.r 2 (fun _ => rfl) ⟨rfl, rfl⟩
def xSto (S : aS) (q : Nat) (arb : Int32) : aS := if S 8 q 10 ||| (nI 1 <<< (arb &&& 31)) = S 8 q 7 then au (au S 8 q 10 (S 8 q 10 ||| (nI 1 <<< (arb &&& 31)))) 8 q 2 (nI 3) else au S 8 q 10 (S 8 q 10 ||| (nI 1 <<< (arb &&& 31)))
theorem x_takeStored {q : Nat} {run arb : Int32} (h1 : ¬ (S 8 q 2 = 0 ∨ S 8 q 3 ≠ run)) (h2 : S 8 q 2 = nI 2) (h3 : ¬ bt (S 8 q 7) arb = 0) : Rn zs (d + 1) 31 (aB 31 0) [(0, .inr (1, 0)), (1, .inr (8, q)), (2, .inl run), (3, .inl arb)] [] S (rE none (xSto S q arb)) := by
  refine Rn.cd 3 (fun _ => rfl) (x_isIn q run) ?_
  rw [if_neg h1]
  refine Rn.s 1 (fun _ => rfl) ?_
  refine Rn.b 4 (fun _ => rfl) (fun c1 => absurd h2 c1) (fun c1 => ?_)
  refine Rn.cd 4 (fun _ => rfl) (x_hasBit (S 8 q 7) arb) ?_
  rw [if_neg h3]
  refine Rn.s 1 (fun _ => rfl) ?_
  refine Rn.s 8 (fun _ => rfl) ?_
  have e1 : au S 8 q 10 (S 8 q 10 ||| nI 1 <<< (arb &&& 31)) 8 q 10 = S 8 q 10 ||| nI 1 <<< (arb &&& 31) := by simp [au]
  have e2 : au S 8 q 10 (S 8 q 10 ||| nI 1 <<< (arb &&& 31)) 8 q 7 = S 8 q 7 := by simp [au]
  unfold xSto
  refine Rn.b 5 (fun _ => rfl) (fun c2 => ?_) (fun c2 => ?_)
  · rw [e1, e2] at c2
    rw [if_neg c2]
    exact Rn.r 1 (fun _ => rfl) ⟨rfl, rfl⟩
  · rw [e1, e2] at c2
    rw [if_pos (Classical.byContradiction c2)]
    exact Rn.r 4 (fun _ => rfl) ⟨rfl, rfl⟩
theorem x_sendVote {a r e : Nat} (ha : a < 15) (hr : r < 4) (hP : POK S) (he : S 9 (4 * a + r) 0 = nI e) (he0 : 0 < e) (he1 : e < 2 ^ 31) : Rn zs (d + 3) 40 (aB 40 0) [(0, .inr (1, 0)), (1, .inl (nI a)), (2, .inl (nI r))] [] S (rE none (xSend S (nI 2) (nI (e % 8)) (nI r) (nI (e / 8)) (nI a) (S 9 (4 * a + r) 1) (nI 0))) := by
  refine Rn.cd 4 (fun _ => rfl) (x_ballotOf ha hr) ?_
  refine Rn.s 3 (fun _ => rfl) ?_
  rw [he]
  refine Rn.cd 1 (fun _ => rfl) (x_clientOf he0 he1) ?_
  refine Rn.s 8 (fun _ => rfl) ?_
  rw [he]
  refine Rn.cd 1 (fun _ => rfl) (x_runOf he0 he1) ?_
  refine Rn.cd 4 (fun _ => rfl) (x_send hP (nI 2) (nI (e % 8)) (nI r) (nI (e / 8)) (nI a) (S 9 (4 * a + r) 1)) ?_
  exact Rn.r 1 (fun _ => rfl) ⟨rfl, rfl⟩
end XT
