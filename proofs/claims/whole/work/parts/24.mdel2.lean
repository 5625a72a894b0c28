/-! THE REFERENCE: what deliver does with each kind; breakPermit, copy -/
theorem tn0 : (nI 0).toNatClampNeg = 0 := by decide
theorem tn1 : (nI 1).toNatClampNeg = 1 := by decide
theorem tn3 : (nI 3).toNatClampNeg = 3 := by decide
theorem tn4 : (nI 4).toNatClampNeg = 4 := by decide
theorem tn6 : (nI 6).toNatClampNeg = 6 := by decide
section ME
variable {zs : Nat × (Nat → Int32)} {d : Nat} {S X : aS}
theorem m_del_told {i c r κ : Nat} {run arb num : Int32} {T : aS} (hκ : κ = 2 ∨ κ = 4) (h1 : X 36 0 1 = nI c) (h3 : X 36 0 3 = run) (h4 : X 36 0 4 = arb) (hs : Rn zs (d + 7) 81 (aB 81 0) [(0, .inr (14, 0)), (1, .inl (nI κ)), (2, .inl (nI (4 * c + r))), (3, .inl run), (4, .inl arb), (5, .inl num)] [] X (rE none T)) : Rn zs (d + 8) 79 ((aB 79 46).drop 18) [(0, .inr (14, 0)), (1, .inl (nI i)), (2, .inl (nI κ)), (3, .inl (nI r)), (4, .inl num)] [] X (rE (some (.inl (nI 1))) T) := by
  have key : Rn zs (d + 8) 79 (aB 79 83) [(0, .inr (14, 0)), (1, .inl (nI i)), (2, .inl (nI κ)), (3, .inl (nI r)), (4, .inl num)] [] X (rE (some (.inl (nI 1))) T) := by
    refine Rn.s 10 (fun _ => rfl) ?_
    rw [tn1, h1, i4]
    refine Rn.s 4 (fun _ => rfl) ?_
    rw [tn3, h3]
    refine Rn.s 4 (fun _ => rfl) ?_
    rw [tn4, h4]
    refine Rn.cd 2 (fun _ => rfl) hs ?_
    exact Rn.r 3 (fun _ => rfl) ⟨rfl, rfl⟩
  rcases hκ with rfl | rfl
  · refine Rn.s 3 (fun _ => rfl) ?_
    exact key
  · refine Rn.s 3 (fun _ => rfl) ?_
    refine Rn.s 3 (fun _ => rfl) ?_
    exact key
theorem m_del_order {i r : Nat} {num g : Int32} {T : aS} (h6 : X 36 0 6 = g) (hs : Rn zs (d + 7) 82 (aB 82 0) [(0, .inr (14, 0)), (1, .inl (nI r)), (2, .inl num), (3, .inl g)] [] X (rE none T)) : Rn zs (d + 8) 79 ((aB 79 46).drop 18) [(0, .inr (14, 0)), (1, .inl (nI i)), (2, .inl (nI 8)), (3, .inl (nI r)), (4, .inl num)] [] X (rE (some (.inl (nI 1))) T) := by
  refine Rn.s 3 (fun _ => rfl) ?_
  refine Rn.s 3 (fun _ => rfl) ?_
  refine Rn.s 3 (fun _ => rfl) ?_
  refine Rn.s 7 (fun _ => rfl) ?_
  rw [tn6, h6]
  refine Rn.cd 1 (fun _ => rfl) hs ?_
  exact Rn.r 3 (fun _ => rfl) ⟨rfl, rfl⟩
theorem m_del_broken {i r : Nat} {num : Int32} (hr : r < 4) : Rn zs (d + 8) 79 ((aB 79 46).drop 18) [(0, .inr (14, 0)), (1, .inl (nI i)), (2, .inl (nI 7)), (3, .inl (nI r)), (4, .inl num)] [] X (rE (some (.inl (nI 1))) (au (au X 30 0 r (if num ≤ X 30 0 r then X 30 0 r else num)) 31 0 r (if num ≤ X 31 0 r then X 31 0 r else num))) := by
  refine Rn.s 3 (fun _ => rfl) ?_
  refine Rn.s 3 (fun _ => rfl) ?_
  refine Rn.s 3 (fun _ => rfl) ?_
  refine Rn.s 3 (fun _ => rfl) ?_
  have two : ∀ Y : aS, Y 31 0 r = X 31 0 r → Rn zs (d + 8) 79 ((aB 79 171).drop 1) [(0, .inr (14, 0)), (1, .inl (nI i)), (2, .inl (nI 7)), (3, .inl (nI r)), (4, .inl num)] [] Y (rE (some (.inl (nI 1))) (au Y 31 0 r (if num ≤ X 31 0 r then X 31 0 r else num))) := by
    intro Y hY
    refine Rn.g 8 (fun _ => rfl) (by rw [nI_toInt (by omega)]; omega) ?_
    rw [nI_clamp (by omega), hY]
    refine Rn.b 1 (fun _ => rfl) (fun c1 => ?_) (fun c1 => ?_)
    · rw [if_pos c1]
      refine Rn.g 4 (fun _ => rfl) (by rw [nI_toInt (by omega)]; omega) ?_
      rw [nI_clamp (by omega), hY]
      refine Rn.g 1 (fun _ => rfl) (by rw [nI_toInt (by omega)]; omega) ?_
      rw [nI_clamp (by omega)]
      exact Rn.r 3 (fun _ => rfl) ⟨rfl, rfl⟩
    · rw [if_neg c1]
      refine Rn.g 3 (fun _ => rfl) (by rw [nI_toInt (by omega)]; omega) ?_
      rw [nI_clamp (by omega)]
      exact Rn.r 3 (fun _ => rfl) ⟨rfl, rfl⟩
  refine Rn.g 8 (fun _ => rfl) (by rw [nI_toInt (by omega)]; omega) ?_
  rw [nI_clamp (by omega)]
  refine Rn.b 1 (fun _ => rfl) (fun c1 => ?_) (fun c1 => ?_)
  · rw [if_pos c1]
    refine Rn.g 4 (fun _ => rfl) (by rw [nI_toInt (by omega)]; omega) ?_
    rw [nI_clamp (by omega)]
    refine Rn.g 1 (fun _ => rfl) (by rw [nI_toInt (by omega)]; omega) ?_
    rw [nI_clamp (by omega)]
    exact two _ (by simp [au])
  · rw [if_neg c1]
    refine Rn.g 3 (fun _ => rfl) (by rw [nI_toInt (by omega)]; omega) ?_
    rw [nI_clamp (by omega)]
    exact two _ (by simp [au])
theorem m_del_arb {i κ : Nat} {c num : Int32} {Q : Option aV → aS → Prop} (hκ : κ = 1 ∨ κ = 3 ∨ κ = 5 ∨ κ = 6) (K : Rn zs (d + 8) 79 (aB 79 203) [(0, .inr (14, 0)), (1, .inl (nI i)), (2, .inl (nI κ)), (3, .inl c), (4, .inl num)] [] X Q) : Rn zs (d + 8) 79 ((aB 79 46).drop 18) [(0, .inr (14, 0)), (1, .inl (nI i)), (2, .inl (nI κ)), (3, .inl c), (4, .inl num)] [] X Q := by
  rcases hκ with rfl | rfl | rfl | rfl
  all_goals
    refine Rn.s 3 (fun _ => rfl) ?_
    refine Rn.s 3 (fun _ => rfl) ?_
    refine Rn.s 3 (fun _ => rfl) ?_
    refine Rn.s 3 (fun _ => rfl) ?_
    exact K
theorem m_del_down {i κ a : Nat} {c num : Int32} (hκ : κ = 1 ∨ κ = 3 ∨ κ = 5 ∨ κ = 6) (ha : a < 15) (h4 : X 36 0 4 = nI a) (h : X 15 0 a ≠ 0) : Rn zs (d + 8) 79 ((aB 79 46).drop 18) [(0, .inr (14, 0)), (1, .inl (nI i)), (2, .inl (nI κ)), (3, .inl c), (4, .inl num)] [] X (rE (some (.inl (nI 1))) X) := by
  refine m_del_arb hκ ?_
  refine Rn.s 6 (fun _ => rfl) ?_
  rw [tn4, h4]
  refine Rn.g 1 (fun _ => rfl) (by rw [nI_toInt (by omega)]; omega) ?_
  rw [nI_clamp (by omega)]
  refine Rn.b 1 (fun _ => rfl) (fun c1 => ?_) (fun c1 => absurd h c1)
  exact Rn.r 2 (fun _ => rfl) ⟨rfl, rfl⟩
theorem m_del_up {i κ a r : Nat} {b run num : Int32} {T : aS} (hκ : κ = 1 ∨ κ = 3 ∨ κ = 5 ∨ κ = 6) (ha : a < 15) (h4 : X 36 0 4 = nI a) (h1 : X 36 0 1 = b) (h3 : X 36 0 3 = run) (h : X 15 0 a = 0) (hs : Rn zs (d + 7) 83 (aB 83 0) [(0, .inr (14, 0)), (1, .inl (nI κ)), (2, .inl (nI (4 * a + r))), (3, .inl b), (4, .inl run), (5, .inl num)] [] X (rE none T)) : Rn zs (d + 8) 79 ((aB 79 46).drop 18) [(0, .inr (14, 0)), (1, .inl (nI i)), (2, .inl (nI κ)), (3, .inl (nI r)), (4, .inl num)] [] X (rE (some (.inl (nI 1))) T) := by
  refine m_del_arb hκ ?_
  refine Rn.s 6 (fun _ => rfl) ?_
  rw [tn4, h4]
  refine Rn.g 1 (fun _ => rfl) (by rw [nI_toInt (by omega)]; omega) ?_
  rw [nI_clamp (by omega)]
  refine Rn.b 1 (fun _ => rfl) (fun c1 => absurd h c1) (fun c1 => ?_)
  refine Rn.s 10 (fun _ => rfl) ?_
  rw [tn4, h4, i4]
  refine Rn.s 4 (fun _ => rfl) ?_
  rw [tn1, h1]
  refine Rn.s 4 (fun _ => rfl) ?_
  rw [tn3, h3]
  refine Rn.cd 2 (fun _ => rfl) hs ?_
  exact Rn.r 2 (fun _ => rfl) ⟨rfl, rfl⟩
-- copy
theorem m_copy_no1 {a : Int32} (hP : QOK S) (h : outc a (qn S)) : Rn zs (d + 8) 88 (aB 88 0) [(0, .inr (14, 0)), (1, .inl a)] [] S (rE (some (.inl (nI 0))) (mTh S)) := by
  refine Rn.cd 6 (fun _ => rfl) (m_isLetter_no (S := mTh S) (mTh_qok hP) (by rw [mTh_qn]; exact h)) ?_
  exact Rn.r 3 (fun _ => rfl) ⟨rfl, rfl⟩
theorem m_copy_full {i : Nat} (hn : S 14 0 21 = nI 240) (hi : i < 240) : Rn zs (d + 8) 88 (aB 88 0) [(0, .inr (14, 0)), (1, .inl (nI i))] [] S (rE (some (.inl (nI 0))) (mTh S)) := by
  have hp := qn_of hn (by omega)
  refine Rn.cd 6 (fun _ => rfl) (m_isLetter (S := mTh S) (mTh_qok hp.2) (by rw [mTh_qn, hp.1]; omega)) ?_
  refine Rn.s 1 (fun _ => rfl) ?_
  refine Rn.b 4 (fun _ => rfl) (fun c1 => absurd ((mTh_l S).trans hn) c1) (fun c1 => ?_)
  exact Rn.r 2 (fun _ => rfl) ⟨rfl, rfl⟩
def mCopy (S : aS) (n i : Nat) : aS := au (mCpy (mTh S) n i 8) 14 0 21 (nI (n + 1))
theorem m_copy_loop {n i : Nat} {T : aS} (hT : T 14 0 21 = nI n) (h240 : n < 240) (hi : i < n) : ∀ (m k : Nat), k + m = 8 → Rn zs (d + 8) 88 (aB 88 27) [(0, .inr (14, 0)), (1, .inl (nI i)), (2, .inl (nI k))] [] (mCpy T n i k) (rE (some (.inl (nI 1))) (au (mCpy T n i 8) 14 0 21 (nI (n + 1))))
  | 0, k, h => by
    refine Rn.b 3 (fun _ => rfl) (fun c1 => ?_) (fun c1 => absurd (nI_le (by omega) (by omega)) c1)
    obtain rfl : k = 8 := by omega
    refine Rn.s 6 (fun _ => rfl) ?_
    rw [mCpy_ne T n i 8 (by decide), hT, nI_add]
    exact Rn.r 2 (fun _ => rfl) ⟨rfl, rfl⟩
  | m + 1, k, h => by
    have e : nI 8 * nI i + nI k = nI (8 * i + k) := by rw [pk_mul, nI_add]
    have e2 : nI 8 * mCpy T n i k 14 0 21 + nI k = nI (8 * n + k) := by rw [mCpy_ne T n i k (by decide), hT, pk_mul, nI_add]
    refine Rn.b 3 (fun _ => rfl) (fun c1 => absurd c1 (nI_ge (by omega) (by omega))) (fun c1 => ?_)
    refine Rn.g 16 (fun _ => rfl) (by rw [e, nI_toInt (by omega)]; omega) ?_
    rw [e, nI_clamp (by omega)]
    refine Rn.g 1 (fun _ => rfl) (by rw [e2, nI_toInt (by omega)]; omega) ?_
    rw [e2, nI_clamp (by omega), mCpy_step T hi (by omega)]
    refine Rn.s 2 (fun _ => rfl) ?_
    rw [nI_add]
    exact m_copy_loop hT h240 hi m (k + 1) (by omega)
theorem m_copy {n i : Nat} (hn : S 14 0 21 = nI n) (h240 : n < 240) (hi : i < n) : Rn zs (d + 8) 88 (aB 88 0) [(0, .inr (14, 0)), (1, .inl (nI i))] [] S (rE (some (.inl (nI 1))) (mCopy S n i)) := by
  have hp := qn_of hn (by omega)
  refine Rn.cd 6 (fun _ => rfl) (m_isLetter (S := mTh S) (mTh_qok hp.2) (by rw [mTh_qn, hp.1]; omega)) ?_
  refine Rn.s 1 (fun _ => rfl) ?_
  refine Rn.b 4 (fun _ => rfl) (fun c1 => ?_) (fun c1 => ?_)
  · refine Rn.s 2 (fun _ => rfl) ?_
    have hl := m_copy_loop (zs := zs) (d := d) (T := mTh S) (n := n) (i := i) ((mTh_l S).trans hn) h240 hi 8 0 rfl
    rw [mCpy_0] at hl
    exact hl
  · have e : mTh S 14 0 21 = nI 240 := Classical.byContradiction c1
    rw [mTh_l, hn] at e
    have := (nI_eq (by omega) (by omega)).mp e
    omega
-- breakPermit
theorem m_break_no {b num : Int32} (h : outc b 4) : Rn zs (d + 8) 72 (aB 72 0) [(0, .inr (14, 0)), (1, .inl b), (2, .inl num)] [] S (rE (some (.inl (-1))) (mTh S)) := by
  refine Rn.cd 6 (fun _ => rfl) (m_isPair_no (S := mTh S) (nop0 h)) ?_
  exact Rn.r 3 (fun _ => rfl) ⟨rfl, rfl⟩
theorem m_break_hit {c r : Nat} {num : Int32} (hc : c < 8) (hr : r < 4) (hP : QOK S) : Rn zs (d + 8) 72 ((aB 72 17).drop 21) [(0, .inr (14, 0)), (1, .inl (nI r)), (2, .inl num), (3, .inl (nI c)), (4, .inl (nI (4 * c + r)))] [] S (rE (some (.inl (nI c))) (mBreak S c r num)) := by
  refine Rn.g 5 (fun _ => rfl) (by rw [nI_toInt (by omega)]; omega) ?_
  rw [nI_clamp (by omega)]
  refine Rn.cd 6 (fun _ => rfl) (m_sendAll (q := 4 * c + r) (nI 6) (nI 32767) num (by omega) (QOK_au hP (by decide))) ?_
  have e : mSA (4 * c + r) (nI 6) (nI 32767) num 15 0 (au S 17 0 (4 * c + r) (nI 4)) 18 0 (4 * c + r) = S 18 0 (4 * c + r) := by
    rw [mSA_ne _ _ _ _ (by decide) (by decide)]
    simp [au]
  refine Rn.g 8 (fun _ => rfl) (by rw [nI_toInt (by omega)]; omega) ?_
  rw [nI_clamp (by omega), e]
  refine Rn.cd 4 (fun _ => rfl) (m_send (mSA_qok _ _ _ _ _ _ _ (QOK_au hP (by decide))) (nI 7) (nI c) (nI r) (S 18 0 (4 * c + r)) (-1) num (nI 0)) ?_
  exact Rn.r 2 (fun _ => rfl) ⟨rfl, rfl⟩
theorem m_break_loop {r : Nat} {num : Int32} (hr : r < 4) (hP : QOK S) : ∀ (m c : Nat) (L : aL), c + m = 8 → (L = [] ∨ ∃ q : Int32, L = [(4, .inl q)]) → Rn zs (d + 8) 72 (aB 72 17) ([(0, .inr (14, 0)), (1, .inl (nI r)), (2, .inl num), (3, .inl (nI c))] ++ L) [] S (match bpG S r num m c with
    | some c => rE (some (.inl (nI c))) (mBreak S c r num)
    | none => rE (some (.inl (-1))) S)
  | 0, c, L, h, hL => by
    rcases hL with rfl | ⟨q, rfl⟩
    all_goals
      refine Rn.b 3 (fun _ => rfl) (fun c1 => ?_) (fun c1 => absurd (nI_le (by omega) (by omega)) c1)
      exact Rn.r 2 (fun _ => rfl) ⟨rfl, rfl⟩
  | m + 1, c, L, h, hL => by
    have key : Rn zs (d + 8) 72 ((aB 72 17).drop 9) [(0, .inr (14, 0)), (1, .inl (nI r)), (2, .inl num), (3, .inl (nI c)), (4, .inl (nI (4 * c + r)))] [] S (match bpG S r num (m + 1) c with
        | some c => rE (some (.inl (nI c))) (mBreak S c r num)
        | none => rE (some (.inl (-1))) S) := by
      unfold bpG
      refine Rn.g 4 (fun _ => rfl) (by rw [nI_toInt (by omega)]; omega) ?_
      rw [nI_clamp (by omega)]
      refine Rn.b 2 (fun _ => rfl) (fun c1 => ?_) (fun c1 => ?_)
      · rw [if_neg (fun q => c1 q.1)]
        refine Rn.s 2 (fun _ => rfl) ?_
        rw [nI_add]
        exact m_break_loop hr hP m (c + 1) [(4, .inl (nI (4 * c + r)))] (by omega) (Or.inr ⟨_, rfl⟩)
      · refine Rn.g 4 (fun _ => rfl) (by rw [nI_toInt (by omega)]; omega) ?_
        rw [nI_clamp (by omega)]
        refine Rn.b 2 (fun _ => rfl) (fun c2 => ?_) (fun c2 => ?_)
        · rw [if_neg (fun q => c2 q.2)]
          refine Rn.s 2 (fun _ => rfl) ?_
          rw [nI_add]
          exact m_break_loop hr hP m (c + 1) [(4, .inl (nI (4 * c + r)))] (by omega) (Or.inr ⟨_, rfl⟩)
        · rw [if_pos ⟨Classical.byContradiction c1, Classical.byContradiction c2⟩]
          exact m_break_hit (by omega) hr hP
    rcases hL with rfl | ⟨q, rfl⟩
    all_goals
      refine Rn.b 3 (fun _ => rfl) (fun c1 => absurd c1 (nI_ge (by omega) (by omega))) (fun c1 => ?_)
      refine Rn.s 6 (fun _ => rfl) ?_
      rw [i4]
      exact key
theorem m_break {r : Nat} {num : Int32} (hr : r < 4) (hP : QOK S) : Rn zs (d + 8) 72 (aB 72 0) [(0, .inr (14, 0)), (1, .inl (nI r)), (2, .inl num)] [] S (match bpG (mTh S) r num 8 0 with
    | some c => rE (some (.inl (nI c))) (mBreak (mTh S) c r num)
    | none => rE (some (.inl (-1))) (mTh S)) := by
  refine Rn.cd 6 (fun _ => rfl) (m_isPair (S := mTh S) (c := 0) (by omega) hr) ?_
  refine Rn.s 1 (fun _ => rfl) ?_
  refine Rn.s 2 (fun _ => rfl) ?_
  exact m_break_loop hr (mTh_qok hP) 8 0 [] rfl (Or.inl rfl)
end ME
