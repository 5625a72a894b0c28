/-! THE CLASS's ballots and logs -/
theorem nx_xor (a b : Nat) : nI a ^^^ nI b = nI (a ^^^ b) := Int32.toBitVec_inj.mp (by rw [Int32.toBitVec_xor]; exact BitVec.ofNat_xor.symm)
theorem nx_or (a b : Nat) : nI a ||| nI b = nI (a ||| b) := Int32.toBitVec_inj.mp (by rw [Int32.toBitVec_or]; exact BitVec.ofNat_or.symm)
theorem nx_and (a b : Nat) : nI a &&& nI b = nI (a &&& b) := Int32.toBitVec_inj.mp (by rw [Int32.toBitVec_and]; exact BitVec.ofNat_and.symm)
/-- the first place from i on, of m places, where f is c -/
def fnd (f : Nat → Int32) (c : Int32) : Nat → Nat → Option Nat
  | 0, _ => none
  | m + 1, i => if f i = c then some i else fnd f c m (i + 1)
def oI (o : Option Nat) : Int32 := match o with
  | some i => nI i
  | none => -1
theorem fnd_some {f : Nat → Int32} {c : Int32} : ∀ {m i k : Nat}, fnd f c m i = some k → i ≤ k ∧ k < i + m ∧ f k = c ∧ ∀ j, i ≤ j → j < k → f j ≠ c
  | 0, i, k, h => by cases h
  | m + 1, i, k, h => by
    unfold fnd at h
    by_cases e : f i = c
    · rw [if_pos e] at h
      cases h
      exact ⟨Nat.le_refl _, by omega, e, fun j h1 h2 => by omega⟩
    · rw [if_neg e] at h
      obtain ⟨h1, h2, h3, h4⟩ := fnd_some h
      refine ⟨by omega, by omega, h3, fun j h5 h6 => ?_⟩
      by_cases q : j = i
      · rw [q]; exact e
      · exact h4 j (by omega) h6
theorem fnd_none {f : Nat → Int32} {c : Int32} : ∀ {m i : Nat}, fnd f c m i = none → ∀ j, i ≤ j → j < i + m → f j ≠ c
  | 0, i, h => fun j h1 h2 => by omega
  | m + 1, i, h => fun j h1 h2 => by
    unfold fnd at h
    by_cases e : f i = c
    · rw [if_pos e] at h
      cases h
    · rw [if_neg e] at h
      by_cases q : j = i
      · rw [q]; exact e
      · exact fnd_none h j (by omega) (by omega)
def xLeave (S : aS) (v w i : Nat) : aS := acp (au S 9 v 2 (nI (w - 1))) 10 v 10 v (i + 1) i (w - 1 - i)
section XB
variable {zs : Nat × (Nat → Int32)} {d : Nat} {S : aS}
theorem x_floorMod {a m : Nat} (ha : a < 2 ^ 31) (h0 : 0 < m) (hm : m < 2 ^ 31) : Rn zs d 33 (aB 33 0) [(0, .inl (nI a)), (1, .inl (nI m))] [] S (rE (some (.inl (nI (a % m)))) S) := by
  refine Rn.gn 3 (fun _ => rfl) (nI_ne0 h0 hm) ?_
  rw [pk_rem ha h0 hm]
  refine Rn.b 5 (fun _ => rfl) (fun c1 => ?_) (fun c1 => ?_)
  · exact Rn.r 2 (fun _ => rfl) ⟨rfl, rfl⟩
  · exact absurd (by rw [nx_xor]; exact nI_pos' (Nat.xor_lt_two_pow ha hm)) c1
theorem x_floorDiv {a m : Nat} (ha : a < 2 ^ 31) (h0 : 0 < m) (hm : m < 2 ^ 31) : Rn zs d 43 (aB 43 0) [(0, .inl (nI a)), (1, .inl (nI m))] [] S (rE (some (.inl (nI (a / m)))) S) := by
  refine Rn.gn 3 (fun _ => rfl) (nI_ne0 h0 hm) ?_
  rw [pk_div ha h0 hm]
  refine Rn.b 5 (fun _ => rfl) (fun c1 => ?_) (fun c1 => ?_)
  · exact Rn.r 2 (fun _ => rfl) ⟨rfl, rfl⟩
  · exact absurd (by rw [nx_xor]; exact nI_pos' (Nat.xor_lt_two_pow ha hm)) c1
theorem x_claimOf (a b : Int32) : Rn zs d 35 (aB 35 0) [(0, .inl a), (1, .inl b)] [] S (rE (some (.inl (b * nI 8 + a))) S) := Rn.r 6 (fun _ => rfl) ⟨rfl, rfl⟩
theorem x_clientOf {a : Nat} (h0 : 0 < a) (ha : a < 2 ^ 31) : Rn zs (d + 1) 41 (aB 41 0) [(0, .inl (nI a))] [] S (rE (some (.inl (nI (a % 8)))) S) := by
  refine Rn.b 2 (fun _ => rfl) (fun c1 => ?_) (fun c1 => absurd (nI_ne0 h0 ha) c1)
  refine Rn.cd 3 (fun _ => rfl) (x_floorMod ha (by omega) (by omega)) ?_
  exact Rn.r 1 (fun _ => rfl) ⟨rfl, rfl⟩
theorem x_runOf {a : Nat} (h0 : 0 < a) (ha : a < 2 ^ 31) : Rn zs (d + 1) 42 (aB 42 0) [(0, .inl (nI a))] [] S (rE (some (.inl (nI (a / 8)))) S) := by
  refine Rn.b 2 (fun _ => rfl) (fun c1 => ?_) (fun c1 => absurd (nI_ne0 h0 ha) c1)
  refine Rn.cd 3 (fun _ => rfl) (x_floorDiv ha (by omega) (by omega)) ?_
  exact Rn.r 1 (fun _ => rfl) ⟨rfl, rfl⟩
theorem x_clientOf_no {a : Int32} (h : a = 0) : Rn zs (d + 1) 41 (aB 41 0) [(0, .inl a)] [] S (rE (some (.inl (-1))) S) := by
  refine Rn.b 2 (fun _ => rfl) (fun c1 => absurd h c1) (fun c1 => ?_)
  exact Rn.r 3 (fun _ => rfl) ⟨rfl, rfl⟩
theorem x_runOf_no {a : Int32} (h : a = 0) : Rn zs (d + 1) 42 (aB 42 0) [(0, .inl a)] [] S (rE (some (.inl (-1))) S) := by
  refine Rn.b 2 (fun _ => rfl) (fun c1 => absurd h c1) (fun c1 => ?_)
  exact Rn.r 3 (fun _ => rfl) ⟨rfl, rfl⟩
theorem x_firstWaiting {v w : Nat} (hw : S 9 v 2 = nI w) (hw2 : w < 2 ^ 31) : Rn zs d 46 (aB 46 0) [(0, .inr (9, v))] [] S (rE (some (.inl (if w = 0 then nI 0 else S 10 v 0))) S) := by
  refine Rn.b 3 (fun _ => rfl) (fun c1 => ?_) (fun c1 => ?_)
  · have hne : w ≠ 0 := fun q => c1 (by rw [hw, q]; rfl)
    rw [if_neg hne]
    refine Rn.s 3 (fun _ => rfl) ?_
    exact Rn.r 2 (fun _ => rfl) ⟨rfl, rfl⟩
  · have hq : w = 0 := by
      have := hw.symm.trans (Classical.byContradiction c1)
      rw [← nI_0] at this
      exact (nI_eq hw2 (by omega)).mp this
    rw [if_pos hq]
    exact Rn.r 3 (fun _ => rfl) ⟨rfl, rfl⟩
theorem x_placeOf_loop {v w : Nat} {c : Int32} (hw : S 9 v 2 = nI w) (h16 : w ≤ 16) : ∀ m i : Nat, i + m = w → Rn zs d 39 (aB 39 2) [(0, .inr (9, v)), (1, .inl c), (2, .inl (nI i))] [] S (rE (some (.inl (oI (fnd (S 10 v) c m i)))) S)
  | 0, i, h => by
    refine Rn.b 4 (fun _ => rfl) (fun c1 => ?_) (fun c1 => absurd (by rw [hw]; exact nI_le (by omega) (by omega)) c1)
    exact Rn.r 2 (fun _ => rfl) ⟨rfl, rfl⟩
  | m + 1, i, h => by
    refine Rn.b 4 (fun _ => rfl) (fun c1 => absurd (by rw [hw] at c1; exact c1) (nI_ge (by omega) (by omega))) (fun c1 => ?_)
    refine Rn.g 4 (fun _ => rfl) (by rw [nI_toInt (by omega)]; omega) ?_
    rw [nI_clamp (by omega)]
    unfold fnd
    refine Rn.b 2 (fun _ => rfl) (fun c2 => ?_) (fun c2 => ?_)
    · rw [if_neg c2]
      refine Rn.s 2 (fun _ => rfl) ?_
      rw [nI_add]
      exact x_placeOf_loop hw h16 m (i + 1) (by omega)
    · rw [if_pos (Classical.byContradiction c2)]
      exact Rn.r 2 (fun _ => rfl) ⟨rfl, rfl⟩
theorem x_placeOf {v w : Nat} (c : Int32) (hw : S 9 v 2 = nI w) (h16 : w ≤ 16) : Rn zs d 39 (aB 39 0) [(0, .inr (9, v)), (1, .inl c)] [] S (rE (some (.inl (oI (fnd (S 10 v) c w 0)))) S) := by
  refine Rn.s 2 (fun _ => rfl) ?_
  exact x_placeOf_loop hw h16 w 0 (by omega)
theorem x_leaveRow_no {v w : Nat} {a : Int32} (hw : S 9 v 2 = nI w) (h : outc a w) : Rn zs (d + 1) 45 (aB 45 0) [(0, .inr (9, v)), (1, .inl a)] [] S (rE none S) := by
  refine Rn.b 2 (fun _ => rfl) (fun c1 => ?_) (fun c1 => ?_)
  · exact Rn.r 1 (fun _ => rfl) ⟨rfl, rfl⟩
  · refine Rn.b 4 (fun _ => rfl) (fun c2 => ?_) (fun c2 => ?_)
    · exfalso
      rcases h with h | h
      · exact c1 h
      · rw [hw] at c2
        exact absurd h (Int32.not_le.mpr c2)
    · exact Rn.r 1 (fun _ => rfl) ⟨rfl, rfl⟩
theorem x_leaveRow {v w i : Nat} (hw : S 9 v 2 = nI w) (h16 : w ≤ 16) (hi : i < w) : Rn zs (d + 1) 45 (aB 45 0) [(0, .inr (9, v)), (1, .inl (nI i))] [] S (rE none (xLeave S v w i)) := by
  have e0 : S 9 v 2 - nI 1 = nI (w - 1) := by rw [hw, pk_sub (by omega)]
  have e1 : nI i + nI 1 = nI (i + 1) := nI_add i 1
  have e3 : au S 9 v 2 (nI (w - 1)) 9 v 2 - nI i = nI (w - 1 - i) := by
    rw [show au S 9 v 2 (nI (w - 1)) 9 v 2 = nI (w - 1) by simp [au], pk_sub (by omega)]
  refine Rn.b 2 (fun _ => rfl) (fun c1 => absurd c1 (nI_pos (by omega))) (fun c1 => ?_)
  refine Rn.b 4 (fun _ => rfl) (fun c2 => ?_) (fun c2 => absurd (by rw [hw]; exact nI_lt hi (by omega)) c2)
  refine Rn.s 6 (fun _ => rfl) ?_
  rw [e0]
  refine Rn.g 13 (fun _ => rfl) ?_ ?_
  · rw [e1, e3, nI_toInt (by omega), nI_toInt (by omega), nI_toInt (by omega)]
    omega
  · rw [e1, e3, nI_clamp (by omega), nI_clamp (by omega), nI_clamp (by omega)]
    exact Rn.r 1 (fun _ => rfl) ⟨rfl, rfl⟩
theorem x_admit_new {v : Nat} {c : Int32} (h : S 9 v 0 = 0) : Rn zs (d + 1) 38 (aB 38 0) [(0, .inr (9, v)), (1, .inl c)] [] S (rE (some (.inl (nI 1))) (au S 9 v 0 c)) := by
  refine Rn.b 3 (fun _ => rfl) (fun c1 => absurd h c1) (fun c1 => ?_)
  exact Rn.r 5 (fun _ => rfl) ⟨rfl, rfl⟩
theorem x_admit_no {v w : Nat} {c : Int32} (h : S 9 v 0 ≠ 0) (hw : S 9 v 2 = nI w) (h16 : w ≤ 16) (hno : S 9 v 0 = c ∨ fnd (S 10 v) c w 0 ≠ none ∨ w = 16) : Rn zs (d + 1) 38 (aB 38 0) [(0, .inr (9, v)), (1, .inl c)] [] S (rE (some (.inl (nI 0))) S) := by
  refine Rn.b 3 (fun _ => rfl) (fun c1 => ?_) (fun c1 => absurd h c1)
  refine Rn.b 4 (fun _ => rfl) (fun c2 => ?_) (fun c2 => ?_)
  · exact Rn.r 2 (fun _ => rfl) ⟨rfl, rfl⟩
  · refine Rn.cd 3 (fun _ => rfl) (x_placeOf c hw h16) ?_
    cases hf : fnd (S 10 v) c w 0 with
    | some i =>
      have hi := fnd_some hf
      refine Rn.b 2 (fun _ => rfl) (fun c3 => ?_) (fun c3 => ?_)
      · exact Rn.r 2 (fun _ => rfl) ⟨rfl, rfl⟩
      · exfalso
        have e : nI i = -1 := Classical.byContradiction c3
        have e2 := congrArg Int32.toInt e
        rw [nI_toInt (by omega)] at e2
        have : (-1 : Int32).toInt = -1 := by decide
        omega
    | none =>
      refine Rn.s 2 (fun _ => rfl) ?_
      refine Rn.b 4 (fun _ => rfl) (fun c3 => ?_) (fun c3 => ?_)
      · exact Rn.r 2 (fun _ => rfl) ⟨rfl, rfl⟩
      · exfalso
        rcases hno with q | q | q
        · exact c2 q
        · exact q hf
        · exact c3 (by rw [hw, q]; exact nI_le (Nat.le_refl _) (by omega))
theorem x_admit_add {v w : Nat} {c : Int32} (h : S 9 v 0 ≠ 0) (hw : S 9 v 2 = nI w) (h16 : w < 16) (h1 : S 9 v 0 ≠ c) (h2 : fnd (S 10 v) c w 0 = none) : Rn zs (d + 1) 38 (aB 38 0) [(0, .inr (9, v)), (1, .inl c)] [] S (rE (some (.inl (nI 0))) (au (au S 10 v w c) 9 v 2 (nI (w + 1)))) := by
  refine Rn.b 3 (fun _ => rfl) (fun c1 => ?_) (fun c1 => absurd h c1)
  refine Rn.b 4 (fun _ => rfl) (fun c2 => absurd c2 h1) (fun c2 => ?_)
  refine Rn.cd 3 (fun _ => rfl) (x_placeOf c hw (by omega)) ?_
  rw [h2]
  refine Rn.s 2 (fun _ => rfl) ?_
  refine Rn.b 4 (fun _ => rfl) (fun c3 => absurd (by rw [hw] at c3; exact c3) (nI_ge h16 (by omega))) (fun c3 => ?_)
  refine Rn.g 6 (fun _ => rfl) (by rw [hw, nI_toInt (by omega)]; omega) ?_
  rw [hw, nI_clamp (by omega)]
  refine Rn.r 8 (fun _ => rfl) ⟨rfl, ?_⟩
  congr 1
  rw [← nI_add, ← hw]
  simp [au]
theorem x_withdraw_other {v w : Nat} {c : Int32} (h : S 9 v 0 ≠ c) (hw : S 9 v 2 = nI w) (h16 : w ≤ 16) : Rn zs (d + 2) 44 (aB 44 0) [(0, .inr (9, v)), (1, .inl c)] [] S (rE (some (.inl (nI 0))) (match fnd (S 10 v) c w 0 with
    | some i => xLeave S v w i
    | none => S)) := by
  refine Rn.b 4 (fun _ => rfl) (fun c1 => absurd c1 h) (fun c1 => ?_)
  refine Rn.cd 4 (fun _ => rfl) (x_placeOf c hw h16) ?_
  cases hf : fnd (S 10 v) c w 0 with
  | some i =>
    refine Rn.cd 1 (fun _ => rfl) (x_leaveRow hw h16 (by have := fnd_some hf; omega)) ?_
    exact Rn.r 2 (fun _ => rfl) ⟨rfl, rfl⟩
  | none =>
    refine Rn.cd 1 (fun _ => rfl) (x_leaveRow_no hw (Or.inl (by decide))) ?_
    exact Rn.r 2 (fun _ => rfl) ⟨rfl, rfl⟩
theorem x_withdraw_last {v : Nat} {c : Int32} (h : S 9 v 0 = c) (hw : S 9 v 2 = nI 0) : Rn zs (d + 2) 44 (aB 44 0) [(0, .inr (9, v)), (1, .inl c)] [] S (rE (some (.inl (nI 0))) (au S 9 v 0 (nI 0))) := by
  refine Rn.b 4 (fun _ => rfl) (fun c1 => ?_) (fun c1 => absurd h c1)
  refine Rn.cd 3 (fun _ => rfl) (x_firstWaiting hw (by omega)) ?_
  rw [if_pos rfl]
  refine Rn.s 1 (fun _ => rfl) ?_
  refine Rn.cd 3 (fun _ => rfl) (x_leaveRow_no (w := 0) (by simp [au, hw]) (Or.inr (by decide))) ?_
  refine Rn.b 3 (fun _ => rfl) (fun c2 => ?_) (fun c2 => absurd (by simp [au]; rfl) c2)
  exact Rn.r 2 (fun _ => rfl) ⟨rfl, rfl⟩
theorem x_withdraw_next {v w : Nat} {c : Int32} (h : S 9 v 0 = c) (hw : S 9 v 2 = nI w) (h0 : 0 < w) (h16 : w ≤ 16) (hne : S 10 v 0 ≠ 0) : Rn zs (d + 2) 44 (aB 44 0) [(0, .inr (9, v)), (1, .inl c)] [] S (rE (some (.inl (nI 1))) (xLeave (au S 9 v 0 (S 10 v 0)) v w 0)) := by
  refine Rn.b 4 (fun _ => rfl) (fun c1 => ?_) (fun c1 => absurd h c1)
  refine Rn.cd 3 (fun _ => rfl) (x_firstWaiting hw (by omega)) ?_
  rw [if_neg (by omega)]
  refine Rn.s 1 (fun _ => rfl) ?_
  refine Rn.cd 3 (fun _ => rfl) (x_leaveRow (w := w) (i := 0) (by simp [au, hw]) h16 h0) ?_
  refine Rn.b 3 (fun _ => rfl) (fun c2 => absurd (by simpa [xLeave, acp, au] using c2) hne) (fun c2 => ?_)
  exact Rn.r 3 (fun _ => rfl) ⟨rfl, rfl⟩
/-- Log.obey -/
def xObey (S : aS) (r : Nat) (a b : Int32) (n : Nat) : aS := au (au (au (au S 12 r (n % 64) a) 13 r (n % 64) b) 11 r 2 (nI (n + 1))) 11 r 0 a
theorem x_obey_no {r : Nat} {a b : Int32} (h : a < S 11 r 0 ∨ a ≤ S 11 r 1) : Rn zs (d + 1) 32 (aB 32 0) [(0, .inr (11, r)), (1, .inl a), (2, .inl b)] [] S (rE none S) := by
  refine Rn.b 4 (fun _ => rfl) (fun c1 => ?_) (fun c1 => ?_)
  · exact Rn.r 1 (fun _ => rfl) ⟨rfl, rfl⟩
  · refine Rn.b 4 (fun _ => rfl) (fun c2 => ?_) (fun c2 => ?_)
    · exact absurd h (fun q => q.elim c1 (Int32.not_le.mpr c2))
    · exact Rn.r 1 (fun _ => rfl) ⟨rfl, rfl⟩
theorem x_obey {r n : Nat} {a b : Int32} (h1 : ¬ a < S 11 r 0) (h2 : ¬ a ≤ S 11 r 1) (hn : S 11 r 2 = nI n) (hn2 : n < 2 ^ 30) : Rn zs (d + 1) 32 (aB 32 0) [(0, .inr (11, r)), (1, .inl a), (2, .inl b)] [] S (rE none (xObey S r a b n)) := by
  refine Rn.b 4 (fun _ => rfl) (fun c1 => absurd c1 h1) (fun c1 => ?_)
  refine Rn.b 4 (fun _ => rfl) (fun c2 => ?_) (fun c2 => absurd (Int32.not_le.mp h2) c2)
  refine Rn.s 3 (fun _ => rfl) ?_
  rw [hn]
  refine Rn.cd 1 (fun _ => rfl) (x_floorMod (by omega) (by omega) (by omega)) ?_
  have hm : n % 64 < 64 := Nat.mod_lt _ (by omega)
  refine Rn.g 6 (fun _ => rfl) (by rw [nI_toInt (by omega)]; omega) ?_
  rw [nI_clamp (by omega)]
  refine Rn.g 5 (fun _ => rfl) (by rw [nI_toInt (by omega)]; omega) ?_
  rw [nI_clamp (by omega)]
  refine Rn.r 10 (fun _ => rfl) ⟨rfl, ?_⟩
  unfold xObey
  congr 2
  rw [← nI_add, ← hn]
  simp [au]
theorem x_hearBroken (r : Nat) (a : Int32) : Rn zs (d + 1) 34 (aB 34 0) [(0, .inr (11, r)), (1, .inl a)] [] S (rE none (au (au S 11 r 1 (if S 11 r 1 < a then a else S 11 r 1)) 11 r 0 (if S 11 r 0 < a then a else S 11 r 0))) := by
  refine Rn.r 13 (fun _ => rfl) ⟨rfl, ?_⟩
  congr 1
  rw [show au S 11 r 1 (if S 11 r 1 < a then a else S 11 r 1) 11 r 0 = S 11 r 0 by simp [au]]
theorem x_keeps {r n i : Nat} (hn : S 11 r 2 = nI n) (hn2 : n < 2 ^ 30) (hi : i < n) (h64 : n ≤ i + 64) : Rn zs d 56 (aB 56 0) [(0, .inr (11, r)), (1, .inl (nI i))] [] S (rE (some (.inl (nI 1))) S) := by
  refine Rn.b 2 (fun _ => rfl) (fun c1 => absurd c1 (nI_pos (by omega))) (fun c1 => ?_)
  refine Rn.b 4 (fun _ => rfl) (fun c2 => absurd (by rw [hn] at c2; exact c2) (nI_ge hi (by omega))) (fun c2 => ?_)
  refine Rn.b 6 (fun _ => rfl) (fun c3 => ?_) (fun c3 => ?_)
  · exfalso
    rw [hn] at c3
    have := Int32.lt_iff_toInt_lt.mp c3
    rw [pk_sub_toInt (by omega) (by omega), nI_toInt (by omega)] at this
    omega
  · exact Rn.r 3 (fun _ => rfl) ⟨rfl, rfl⟩
theorem x_keeps_no {r n : Nat} {a : Int32} (hn : S 11 r 2 = nI n) (h : outc a n ∨ a < nI n - nI 64) : Rn zs d 56 (aB 56 0) [(0, .inr (11, r)), (1, .inl a)] [] S (rE (some (.inl (nI 0))) S) := by
  refine Rn.b 2 (fun _ => rfl) (fun c1 => ?_) (fun c1 => ?_)
  · exact Rn.r 2 (fun _ => rfl) ⟨rfl, rfl⟩
  · refine Rn.b 4 (fun _ => rfl) (fun c2 => ?_) (fun c2 => ?_)
    · exact Rn.r 2 (fun _ => rfl) ⟨rfl, rfl⟩
    · refine Rn.b 6 (fun _ => rfl) (fun c3 => ?_) (fun c3 => ?_)
      · exact Rn.r 2 (fun _ => rfl) ⟨rfl, rfl⟩
      · rw [hn] at c2 c3
        exact absurd h (fun q => q.elim (fun q => q.elim c1 c2) c3)
theorem x_numberAt {r i : Nat} (hi : i < 2 ^ 31) : Rn zs d 57 (aB 57 0) [(0, .inr (11, r)), (1, .inl (nI i))] [] S (rE (some (.inl (S 12 r (i % 64)))) S) := by
  have e := pk_rem (d := 64) hi (by omega) (by omega)
  refine Rn.s 4 (fun _ => rfl) ?_
  refine Rn.s 1 (fun _ => rfl) ?_
  rw [e]
  have hm : i % 64 < 64 := Nat.mod_lt _ (by omega)
  refine Rn.g 1 (fun _ => rfl) (by rw [nI_toInt (by omega)]; omega) ?_
  rw [nI_clamp (by omega)]
  exact Rn.r 1 (fun _ => rfl) ⟨rfl, rfl⟩
theorem x_codeAt {r i : Nat} (hi : i < 2 ^ 31) : Rn zs d 58 (aB 58 0) [(0, .inr (11, r)), (1, .inl (nI i))] [] S (rE (some (.inl (S 13 r (i % 64)))) S) := by
  have e := pk_rem (d := 64) hi (by omega) (by omega)
  refine Rn.s 4 (fun _ => rfl) ?_
  refine Rn.s 1 (fun _ => rfl) ?_
  rw [e]
  have hm : i % 64 < 64 := Nat.mod_lt _ (by omega)
  refine Rn.g 1 (fun _ => rfl) (by rw [nI_toInt (by omega)]; omega) ?_
  rw [nI_clamp (by omega)]
  exact Rn.r 1 (fun _ => rfl) ⟨rfl, rfl⟩
end XB
