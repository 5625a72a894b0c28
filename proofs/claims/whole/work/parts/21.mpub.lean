/-! THE REFERENCE: the calls but deliver, breakPermit, copy, drop -/
theorem mWrites_ne (S : aS) (q : Nat) {t j i : Nat} (h : t ≠ 35 ∧ t ≠ 14 ∧ t ≠ 37 ∧ t ≠ 17 ∧ t ≠ 22 ∧ t ≠ 23 ∧ t ≠ 24) : mWrites S q t j i = S t j i := by
  obtain ⟨h1, h2, h3, h4, h5, h6, h7⟩ := h
  unfold mWrites
  split
  · exact mRt_ne S _ _ h3
  · rw [mSA_ne _ _ _ _ h1 h2]
    simp [mWr1, au, h4, h5, h6, h7]
    exact mRt_ne S _ _ h3
theorem mAsks_ne (S : aS) (q : Nat) {t j i : Nat} (h : t ≠ 35 ∧ t ≠ 14 ∧ t ≠ 37 ∧ t ≠ 17 ∧ t ≠ 22 ∧ t ≠ 23 ∧ t ≠ 24) (h8 : t ≠ 20) : mAsks S q t j i = S t j i := by
  unfold mAsks
  split
  · exact mRt_ne S _ _ h.2.2.1
  · rw [mWrites_ne _ _ h, mSA_ne _ _ _ _ h.1 h.2.1]
    simp [mAsk1, au, h8]
    exact mRt_ne S _ _ h.2.2.1
def mWant0 (S : aS) (q c : Nat) (v : Int32) : aS := au (au (au (au (au (au (mTh S) 16 0 c v) 18 0 q v) 17 0 q (nI 1)) 19 0 q (nI 0)) 20 0 q (nI 0)) 21 0 q (nI 0)
def mWant (S : aS) (q c : Nat) (v : Int32) : aS := mAsks (mWant0 S q c v) q
def mTimeout (S : aS) (q : Nat) (arb : Int32) : aS := mAsks (au (mTh S) 19 0 q (S 19 0 q ||| (nI 1 <<< (arb &&& 31)))) q
theorem i4 (c r : Nat) : nI 4 * nI c + nI r = nI (4 * c + r) := by rw [pk_mul, nI_add]
section MP
variable {zs : Nat × (Nat → Int32)} {d : Nat} {S : aS}
theorem m_want_no {a b : Int32} (h : nopair a b) : Rn zs (d + 8) 60 (aB 60 0) [(0, .inr (14, 0)), (1, .inl a), (2, .inl b)] [] S (rE (some (.inl (-1))) (mTh S)) := by
  refine Rn.cd 6 (fun _ => rfl) (m_isPair_no (S := mTh S) h) ?_
  exact Rn.r 3 (fun _ => rfl) ⟨rfl, rfl⟩
theorem m_want_busy {c r : Nat} (hc : c < 8) (hr : r < 4) (h : S 17 0 (4 * c + r) ≠ 0) : Rn zs (d + 8) 60 (aB 60 0) [(0, .inr (14, 0)), (1, .inl (nI c)), (2, .inl (nI r))] [] S (rE (some (.inl (-1))) (mTh S)) := by
  refine Rn.cd 6 (fun _ => rfl) (m_isPair (S := mTh S) hc hr) ?_
  refine Rn.s 1 (fun _ => rfl) ?_
  refine Rn.g 8 (fun _ => rfl) (by rw [i4, nI_toInt (by omega)]; omega) ?_
  rw [i4, nI_clamp (by omega), mTh_ne S (by decide)]
  refine Rn.b 1 (fun _ => rfl) (fun c1 => absurd c1 h) (fun c1 => ?_)
  exact Rn.r 2 (fun _ => rfl) ⟨rfl, rfl⟩
theorem m_want {c r : Nat} (hc : c < 8) (hr : r < 4) (hP : QOK S) (h : S 17 0 (4 * c + r) = 0) : Rn zs (d + 8) 60 (aB 60 0) [(0, .inr (14, 0)), (1, .inl (nI c)), (2, .inl (nI r))] [] S (rE (some (.inl (S 16 0 c + nI 1))) (mWant S (4 * c + r) c (S 16 0 c + nI 1))) := by
  refine Rn.cd 6 (fun _ => rfl) (m_isPair (S := mTh S) hc hr) ?_
  refine Rn.s 1 (fun _ => rfl) ?_
  refine Rn.g 8 (fun _ => rfl) (by rw [i4, nI_toInt (by omega)]; omega) ?_
  rw [i4, nI_clamp (by omega), mTh_ne S (by decide)]
  refine Rn.b 1 (fun _ => rfl) (fun c1 => ?_) (fun c1 => absurd h c1)
  refine Rn.s 6 (fun _ => rfl) ?_
  rw [i4]
  refine Rn.g 5 (fun _ => rfl) (by rw [nI_toInt (by omega)]; omega) ?_
  rw [nI_clamp (by omega), mTh_ne S (by decide)]
  refine Rn.g 3 (fun _ => rfl) (by rw [nI_toInt (by omega)]; omega) ?_
  rw [nI_clamp (by omega)]
  refine Rn.g 7 (fun _ => rfl) (by rw [nI_toInt (by omega)]; omega) ?_
  rw [nI_clamp (by omega), show au (mTh S) 16 0 c (S 16 0 c + nI 1) 16 0 c = S 16 0 c + nI 1 by simp [au]]
  refine Rn.g 1 (fun _ => rfl) (by rw [nI_toInt (by omega)]; omega) ?_
  rw [nI_clamp (by omega)]
  refine Rn.g 5 (fun _ => rfl) (by rw [nI_toInt (by omega)]; omega) ?_
  rw [nI_clamp (by omega)]
  refine Rn.g 5 (fun _ => rfl) (by rw [nI_toInt (by omega)]; omega) ?_
  rw [nI_clamp (by omega)]
  refine Rn.g 5 (fun _ => rfl) (by rw [nI_toInt (by omega)]; omega) ?_
  rw [nI_clamp (by omega)]
  refine Rn.g 5 (fun _ => rfl) (by rw [nI_toInt (by omega)]; omega) ?_
  rw [nI_clamp (by omega)]
  refine Rn.cd 3 (fun _ => rfl) (m_asks (q := 4 * c + r) (S := mWant0 S (4 * c + r) c (S 16 0 c + nI 1)) (by omega) (QOK_eq hP (by simp [mWant0, mTh, au]))) ?_
  have e : mAsks (mWant0 S (4 * c + r) c (S 16 0 c + nI 1)) (4 * c + r) 18 0 (4 * c + r) = S 16 0 c + nI 1 := by
    rw [mAsks_ne _ _ (by decide) (by decide)]
    simp [mWant0, au]
  refine Rn.g 4 (fun _ => rfl) (by rw [nI_toInt (by omega)]; omega) ?_
  rw [nI_clamp (by omega), e]
  exact Rn.r 1 (fun _ => rfl) ⟨rfl, rfl⟩
theorem m_timeout_no1 {a b x : Int32} (h : nopair a b) : Rn zs (d + 8) 67 (aB 67 0) [(0, .inr (14, 0)), (1, .inl a), (2, .inl b), (3, .inl x)] [] S (rE (some (.inl (nI 0))) (mTh S)) := by
  refine Rn.cd 6 (fun _ => rfl) (m_isPair_no (S := mTh S) h) ?_
  exact Rn.r 3 (fun _ => rfl) ⟨rfl, rfl⟩
theorem m_timeout_no2 {c r : Nat} {x : Int32} (hc : c < 8) (hr : r < 4) (h : outc x 15) : Rn zs (d + 8) 67 (aB 67 0) [(0, .inr (14, 0)), (1, .inl (nI c)), (2, .inl (nI r)), (3, .inl x)] [] S (rE (some (.inl (nI 0))) (mTh S)) := by
  refine Rn.cd 6 (fun _ => rfl) (m_isPair (S := mTh S) hc hr) ?_
  refine Rn.s 1 (fun _ => rfl) ?_
  refine Rn.cd 2 (fun _ => rfl) (m_isArbiter_no h) ?_
  exact Rn.r 3 (fun _ => rfl) ⟨rfl, rfl⟩
theorem m_timeout_no3 {c r a : Nat} (hc : c < 8) (hr : r < 4) (ha : a < 15) (h : S 17 0 (4 * c + r) ≠ nI 1 ∨ ¬ bt (S 19 0 (4 * c + r)) (nI a) = 0) : Rn zs (d + 8) 67 (aB 67 0) [(0, .inr (14, 0)), (1, .inl (nI c)), (2, .inl (nI r)), (3, .inl (nI a))] [] S (rE (some (.inl (nI 0))) (mTh S)) := by
  refine Rn.cd 6 (fun _ => rfl) (m_isPair (S := mTh S) hc hr) ?_
  refine Rn.s 1 (fun _ => rfl) ?_
  refine Rn.cd 2 (fun _ => rfl) (m_isArbiter ha) ?_
  refine Rn.s 1 (fun _ => rfl) ?_
  refine Rn.s 6 (fun _ => rfl) ?_
  rw [i4]
  refine Rn.g 4 (fun _ => rfl) (by rw [nI_toInt (by omega)]; omega) ?_
  rw [nI_clamp (by omega), mTh_ne S (by decide)]
  refine Rn.b 2 (fun _ => rfl) (fun c1 => ?_) (fun c1 => ?_)
  · exact Rn.r 2 (fun _ => rfl) ⟨rfl, rfl⟩
  · refine Rn.g 4 (fun _ => rfl) (by rw [nI_toInt (by omega)]; omega) ?_
    rw [nI_clamp (by omega), mTh_ne S (by decide)]
    refine Rn.b 6 (fun _ => rfl) (fun c2 => ?_) (fun c2 => ?_)
    · exact absurd (bt_ne (h.elim (fun q => absurd q c1) id)) c2
    · exact Rn.r 2 (fun _ => rfl) ⟨rfl, rfl⟩
theorem m_timeout {c r a : Nat} (hc : c < 8) (hr : r < 4) (ha : a < 15) (hP : QOK S) (h : S 17 0 (4 * c + r) = nI 1) (h2 : bt (S 19 0 (4 * c + r)) (nI a) = 0) : Rn zs (d + 8) 67 (aB 67 0) [(0, .inr (14, 0)), (1, .inl (nI c)), (2, .inl (nI r)), (3, .inl (nI a))] [] S (rE (some (.inl (nI 1))) (mTimeout S (4 * c + r) (nI a))) := by
  refine Rn.cd 6 (fun _ => rfl) (m_isPair (S := mTh S) hc hr) ?_
  refine Rn.s 1 (fun _ => rfl) ?_
  refine Rn.cd 2 (fun _ => rfl) (m_isArbiter ha) ?_
  refine Rn.s 1 (fun _ => rfl) ?_
  refine Rn.s 6 (fun _ => rfl) ?_
  rw [i4]
  refine Rn.g 4 (fun _ => rfl) (by rw [nI_toInt (by omega)]; omega) ?_
  rw [nI_clamp (by omega), mTh_ne S (by decide)]
  refine Rn.b 2 (fun _ => rfl) (fun c1 => absurd h c1) (fun c1 => ?_)
  refine Rn.g 4 (fun _ => rfl) (by rw [nI_toInt (by omega)]; omega) ?_
  rw [nI_clamp (by omega), mTh_ne S (by decide)]
  refine Rn.b 6 (fun _ => rfl) (fun c2 => ?_) (fun c2 => absurd h2 (bt_one (Classical.byContradiction c2)))
  refine Rn.g 5 (fun _ => rfl) (by rw [nI_toInt (by omega)]; omega) ?_
  rw [nI_clamp (by omega), mTh_ne S (by decide)]
  refine Rn.g 5 (fun _ => rfl) (by rw [nI_toInt (by omega)]; omega) ?_
  rw [nI_clamp (by omega)]
  refine Rn.cd 3 (fun _ => rfl) (m_asks (q := 4 * c + r) (S := au (mTh S) 19 0 (4 * c + r) (S 19 0 (4 * c + r) ||| (nI 1 <<< (nI a &&& 31)))) (by omega) (QOK_au (mTh_qok hP) (by decide))) ?_
  exact Rn.r 2 (fun _ => rfl) ⟨rfl, rfl⟩
theorem m_giveUp_no1 {a b : Int32} (h : nopair a b) : Rn zs (d + 8) 69 (aB 69 0) [(0, .inr (14, 0)), (1, .inl a), (2, .inl b)] [] S (rE (some (.inl (nI 0))) (mTh S)) := by
  refine Rn.cd 6 (fun _ => rfl) (m_isPair_no (S := mTh S) h) ?_
  exact Rn.r 3 (fun _ => rfl) ⟨rfl, rfl⟩
theorem m_giveUp_no2 {c r s : Nat} (hc : c < 8) (hr : r < 4) (hs : S 17 0 (4 * c + r) = nI s) (hs4 : s ≤ 4) (h : s < 1 ∨ 2 < s) : Rn zs (d + 8) 69 (aB 69 0) [(0, .inr (14, 0)), (1, .inl (nI c)), (2, .inl (nI r))] [] S (rE (some (.inl (nI 0))) (mTh S)) := by
  refine Rn.cd 6 (fun _ => rfl) (m_isPair (S := mTh S) hc hr) ?_
  refine Rn.s 1 (fun _ => rfl) ?_
  refine Rn.g 8 (fun _ => rfl) (by rw [i4, nI_toInt (by omega)]; omega) ?_
  rw [i4, nI_clamp (by omega), mTh_ne S (by decide), hs]
  refine Rn.b 2 (fun _ => rfl) (fun c1 => ?_) (fun c1 => ?_)
  · exact Rn.r 2 (fun _ => rfl) ⟨rfl, rfl⟩
  · have h1 : ¬ s < 1 := fun q => c1 (nI_lt q (by omega))
    refine Rn.g 8 (fun _ => rfl) (by rw [i4, nI_toInt (by omega)]; omega) ?_
    rw [i4, nI_clamp (by omega), mTh_ne S (by decide), hs]
    refine Rn.b 2 (fun _ => rfl) (fun c2 => ?_) (fun c2 => ?_)
    · have := (nI_leI (by omega) (by omega)).mp c2
      omega
    · exact Rn.r 2 (fun _ => rfl) ⟨rfl, rfl⟩
theorem m_giveUp {c r s : Nat} (hc : c < 8) (hr : r < 4) (hP : QOK S) (hs : S 17 0 (4 * c + r) = nI s) (h1 : 1 ≤ s) (h2 : s ≤ 2) : Rn zs (d + 8) 69 (aB 69 0) [(0, .inr (14, 0)), (1, .inl (nI c)), (2, .inl (nI r))] [] S (rE (some (.inl (nI 1))) (mEnds (mTh S) (4 * c + r))) := by
  refine Rn.cd 6 (fun _ => rfl) (m_isPair (S := mTh S) hc hr) ?_
  refine Rn.s 1 (fun _ => rfl) ?_
  refine Rn.g 8 (fun _ => rfl) (by rw [i4, nI_toInt (by omega)]; omega) ?_
  rw [i4, nI_clamp (by omega), mTh_ne S (by decide), hs]
  refine Rn.b 2 (fun _ => rfl) (fun c1 => absurd c1 (nI_nlt h1 (by omega))) (fun c1 => ?_)
  refine Rn.g 8 (fun _ => rfl) (by rw [i4, nI_toInt (by omega)]; omega) ?_
  rw [i4, nI_clamp (by omega), mTh_ne S (by decide), hs]
  refine Rn.b 2 (fun _ => rfl) (fun c2 => ?_) (fun c2 => absurd (nI_le h2 (by omega)) c2)
  refine Rn.s 6 (fun _ => rfl) ?_
  rw [i4]
  refine Rn.cd 1 (fun _ => rfl) (m_ends (by omega) (mTh_qok hP)) ?_
  exact Rn.r 2 (fun _ => rfl) ⟨rfl, rfl⟩
theorem m_release_no1 {a b : Int32} (h : nopair a b) : Rn zs (d + 8) 71 (aB 71 0) [(0, .inr (14, 0)), (1, .inl a), (2, .inl b)] [] S (rE (some (.inl (nI 0))) (mTh S)) := by
  refine Rn.cd 6 (fun _ => rfl) (m_isPair_no (S := mTh S) h) ?_
  exact Rn.r 3 (fun _ => rfl) ⟨rfl, rfl⟩
theorem m_release_no2 {c r s : Nat} (hc : c < 8) (hr : r < 4) (hs : S 17 0 (4 * c + r) = nI s) (h : s < 3) : Rn zs (d + 8) 71 (aB 71 0) [(0, .inr (14, 0)), (1, .inl (nI c)), (2, .inl (nI r))] [] S (rE (some (.inl (nI 0))) (mTh S)) := by
  refine Rn.cd 6 (fun _ => rfl) (m_isPair (S := mTh S) hc hr) ?_
  refine Rn.s 1 (fun _ => rfl) ?_
  refine Rn.g 8 (fun _ => rfl) (by rw [i4, nI_toInt (by omega)]; omega) ?_
  rw [i4, nI_clamp (by omega), mTh_ne S (by decide), hs]
  refine Rn.b 2 (fun _ => rfl) (fun c1 => absurd c1 (nI_ge h (by omega))) (fun c1 => ?_)
  exact Rn.r 2 (fun _ => rfl) ⟨rfl, rfl⟩
theorem m_release {c r s : Nat} (hc : c < 8) (hr : r < 4) (hP : QOK S) (hs : S 17 0 (4 * c + r) = nI s) (h3 : 3 ≤ s) (h4 : s ≤ 4) : Rn zs (d + 8) 71 (aB 71 0) [(0, .inr (14, 0)), (1, .inl (nI c)), (2, .inl (nI r))] [] S (rE (some (.inl (nI 1))) (mEnds (mTh S) (4 * c + r))) := by
  refine Rn.cd 6 (fun _ => rfl) (m_isPair (S := mTh S) hc hr) ?_
  refine Rn.s 1 (fun _ => rfl) ?_
  refine Rn.g 8 (fun _ => rfl) (by rw [i4, nI_toInt (by omega)]; omega) ?_
  rw [i4, nI_clamp (by omega), mTh_ne S (by decide), hs]
  refine Rn.b 2 (fun _ => rfl) (fun c1 => ?_) (fun c1 => absurd (nI_le h3 (by omega)) c1)
  refine Rn.s 6 (fun _ => rfl) ?_
  rw [i4]
  refine Rn.cd 1 (fun _ => rfl) (m_ends (by omega) (mTh_qok hP)) ?_
  exact Rn.r 2 (fun _ => rfl) ⟨rfl, rfl⟩
theorem m_order_no1 {a b x : Int32} (h : nopair a b) : Rn zs (d + 8) 73 (aB 73 0) [(0, .inr (14, 0)), (1, .inl a), (2, .inl b), (3, .inl x)] [] S (rE (some (.inl (nI 0))) (mTh S)) := by
  refine Rn.cd 6 (fun _ => rfl) (m_isPair_no (S := mTh S) h) ?_
  exact Rn.r 3 (fun _ => rfl) ⟨rfl, rfl⟩
theorem m_order_no2 {c r s : Nat} {x : Int32} (hc : c < 8) (hr : r < 4) (hs : S 17 0 (4 * c + r) = nI s) (h : s < 3) : Rn zs (d + 8) 73 (aB 73 0) [(0, .inr (14, 0)), (1, .inl (nI c)), (2, .inl (nI r)), (3, .inl x)] [] S (rE (some (.inl (nI 0))) (mTh S)) := by
  refine Rn.cd 6 (fun _ => rfl) (m_isPair (S := mTh S) hc hr) ?_
  refine Rn.s 1 (fun _ => rfl) ?_
  refine Rn.g 8 (fun _ => rfl) (by rw [i4, nI_toInt (by omega)]; omega) ?_
  rw [i4, nI_clamp (by omega), mTh_ne S (by decide), hs]
  refine Rn.b 2 (fun _ => rfl) (fun c1 => absurd c1 (nI_ge h (by omega))) (fun c1 => ?_)
  exact Rn.r 2 (fun _ => rfl) ⟨rfl, rfl⟩
theorem m_order {c r s : Nat} {x : Int32} (hc : c < 8) (hr : r < 4) (hP : QOK S) (hs : S 17 0 (4 * c + r) = nI s) (h3 : 3 ≤ s) (h4 : s ≤ 4) : Rn zs (d + 8) 73 (aB 73 0) [(0, .inr (14, 0)), (1, .inl (nI c)), (2, .inl (nI r)), (3, .inl x)] [] S (rE (some (.inl (nI 1))) (mSend (mTh S) (nI 8) (nI c) (nI r) (S 18 0 (4 * c + r)) (-1) (S 24 0 (4 * c + r)) x)) := by
  refine Rn.cd 6 (fun _ => rfl) (m_isPair (S := mTh S) hc hr) ?_
  refine Rn.s 1 (fun _ => rfl) ?_
  refine Rn.g 8 (fun _ => rfl) (by rw [i4, nI_toInt (by omega)]; omega) ?_
  rw [i4, nI_clamp (by omega), mTh_ne S (by decide), hs]
  refine Rn.b 2 (fun _ => rfl) (fun c1 => ?_) (fun c1 => absurd (nI_le h3 (by omega)) c1)
  refine Rn.s 6 (fun _ => rfl) ?_
  rw [i4]
  refine Rn.g 8 (fun _ => rfl) (by rw [nI_toInt (by omega)]; omega) ?_
  rw [nI_clamp (by omega), mTh_ne S (by decide)]
  refine Rn.g 5 (fun _ => rfl) (by rw [nI_toInt (by omega)]; omega) ?_
  rw [nI_clamp (by omega), mTh_ne S (by decide)]
  refine Rn.cd 2 (fun _ => rfl) (m_send (mTh_qok hP) (nI 8) (nI c) (nI r) (S 18 0 (4 * c + r)) (-1) (S 24 0 (4 * c + r)) x) ?_
  exact Rn.r 2 (fun _ => rfl) ⟨rfl, rfl⟩
-- stop, start
theorem m_stop_no1 {x : Int32} (h : outc x 15) : Rn zs (d + 8) 74 (aB 74 0) [(0, .inr (14, 0)), (1, .inl x)] [] S (rE (some (.inl (nI 0))) (mTh S)) := by
  refine Rn.cd 5 (fun _ => rfl) (m_isArbiter_no (S := mTh S) h) ?_
  exact Rn.r 3 (fun _ => rfl) ⟨rfl, rfl⟩
theorem m_stop_no2 {a : Nat} (ha : a < 15) (h : S 15 0 a ≠ 0) : Rn zs (d + 8) 74 (aB 74 0) [(0, .inr (14, 0)), (1, .inl (nI a))] [] S (rE (some (.inl (nI 0))) (mTh S)) := by
  refine Rn.cd 5 (fun _ => rfl) (m_isArbiter (S := mTh S) ha) ?_
  refine Rn.s 1 (fun _ => rfl) ?_
  refine Rn.g 4 (fun _ => rfl) (by rw [nI_toInt (by omega)]; omega) ?_
  rw [nI_clamp (by omega), mTh_ne S (by decide)]
  refine Rn.b 1 (fun _ => rfl) (fun c1 => absurd c1 h) (fun c1 => ?_)
  exact Rn.r 2 (fun _ => rfl) ⟨rfl, rfl⟩
theorem m_stop {a : Nat} (ha : a < 15) (h : S 15 0 a = 0) : Rn zs (d + 8) 74 (aB 74 0) [(0, .inr (14, 0)), (1, .inl (nI a))] [] S (rE (some (.inl (nI 1))) (au (mTh S) 15 0 a (nI 1))) := by
  refine Rn.cd 5 (fun _ => rfl) (m_isArbiter (S := mTh S) ha) ?_
  refine Rn.s 1 (fun _ => rfl) ?_
  refine Rn.g 4 (fun _ => rfl) (by rw [nI_toInt (by omega)]; omega) ?_
  rw [nI_clamp (by omega), mTh_ne S (by decide)]
  refine Rn.b 1 (fun _ => rfl) (fun c1 => ?_) (fun c1 => absurd h c1)
  refine Rn.g 5 (fun _ => rfl) ⟨by rw [nI_toInt (by omega)]; omega, Or.inr (by decide)⟩ ?_
  rw [nI_clamp (by omega)]
  exact Rn.r 2 (fun _ => rfl) ⟨rfl, rfl⟩
theorem m_start_no1 {x : Int32} (h : outc x 15) : Rn zs (d + 8) 75 (aB 75 0) [(0, .inr (14, 0)), (1, .inl x)] [] S (rE (some (.inl (nI 0))) (mTh S)) := by
  refine Rn.cd 5 (fun _ => rfl) (m_isArbiter_no (S := mTh S) h) ?_
  exact Rn.r 3 (fun _ => rfl) ⟨rfl, rfl⟩
theorem m_start_no2 {a : Nat} (ha : a < 15) (h : S 15 0 a = 0) : Rn zs (d + 8) 75 (aB 75 0) [(0, .inr (14, 0)), (1, .inl (nI a))] [] S (rE (some (.inl (nI 0))) (mTh S)) := by
  refine Rn.cd 5 (fun _ => rfl) (m_isArbiter (S := mTh S) ha) ?_
  refine Rn.s 1 (fun _ => rfl) ?_
  refine Rn.g 4 (fun _ => rfl) (by rw [nI_toInt (by omega)]; omega) ?_
  rw [nI_clamp (by omega), mTh_ne S (by decide)]
  refine Rn.b 1 (fun _ => rfl) (fun c1 => absurd h c1) (fun c1 => ?_)
  exact Rn.r 2 (fun _ => rfl) ⟨rfl, rfl⟩
theorem m_start {a : Nat} (ha : a < 15) (h : S 15 0 a ≠ 0) : Rn zs (d + 8) 75 (aB 75 0) [(0, .inr (14, 0)), (1, .inl (nI a))] [] S (rE (some (.inl (nI 1))) (au (mTh S) 15 0 a (nI 0))) := by
  refine Rn.cd 5 (fun _ => rfl) (m_isArbiter (S := mTh S) ha) ?_
  refine Rn.s 1 (fun _ => rfl) ?_
  refine Rn.g 4 (fun _ => rfl) (by rw [nI_toInt (by omega)]; omega) ?_
  rw [nI_clamp (by omega), mTh_ne S (by decide)]
  refine Rn.b 1 (fun _ => rfl) (fun c1 => ?_) (fun c1 => absurd h c1)
  refine Rn.g 5 (fun _ => rfl) ⟨by rw [nI_toInt (by omega)]; omega, Or.inl (by decide)⟩ ?_
  rw [nI_clamp (by omega)]
  exact Rn.r 2 (fun _ => rfl) ⟨rfl, rfl⟩
-- letters, letter
theorem m_letters : Rn zs (d + 8) 76 (aB 76 0) [(0, .inr (14, 0))] [] S (rE (some (.inl (S 14 0 21))) (mTh S)) := Rn.r 6 (fun _ => rfl) ⟨by rw [← mTh_l S]; rfl, rfl⟩
theorem m_isLetter {i : Nat} (h : QOK S) (hi : i < qn S) : Rn zs d 78 (aB 78 0) [(0, .inr (14, 0)), (1, .inl (nI i))] [] S (rE (some (.inl (nI 1))) S) := by
  obtain ⟨hn, h240⟩ := h
  refine Rn.b 2 (fun _ => rfl) (fun c1 => absurd c1 (nI_pos (by omega))) (fun c1 => ?_)
  refine Rn.b 4 (fun _ => rfl) (fun c2 => absurd (by rw [hn] at c2; exact c2) (nI_ge hi (by omega))) (fun c2 => ?_)
  exact Rn.r 3 (fun _ => rfl) ⟨rfl, rfl⟩
theorem m_isLetter_no {a : Int32} (h : QOK S) (ha : outc a (qn S)) : Rn zs d 78 (aB 78 0) [(0, .inr (14, 0)), (1, .inl a)] [] S (rE (some (.inl (nI 0))) S) := by
  obtain ⟨hn, h240⟩ := h
  refine Rn.b 2 (fun _ => rfl) (fun c1 => ?_) (fun c1 => ?_)
  · exact Rn.r 2 (fun _ => rfl) ⟨rfl, rfl⟩
  · refine Rn.b 4 (fun _ => rfl) (fun c2 => ?_) (fun c2 => ?_)
    · exact Rn.r 2 (fun _ => rfl) ⟨rfl, rfl⟩
    · exact absurd ha (fun q => q.elim c1 (fun q => c2 (by rw [hn]; exact q)))
theorem mTh_qn (S : aS) : qn (mTh S) = qn S := by unfold qn; rw [mTh_l]
theorem m_letter_no1 {a b : Int32} (hP : QOK S) (h : outc a (qn S)) : Rn zs (d + 8) 77 (aB 77 0) [(0, .inr (14, 0)), (1, .inl a), (2, .inl b)] [] S (rE (some (.inl (-1))) (mTh S)) := by
  refine Rn.cd 6 (fun _ => rfl) (m_isLetter_no (S := mTh S) (mTh_qok hP) (by rw [mTh_qn]; exact h)) ?_
  exact Rn.r 3 (fun _ => rfl) ⟨rfl, rfl⟩
theorem m_letter_no2 {i : Nat} {b : Int32} (hP : QOK S) (hi : i < qn S) (h : outc b 6) : Rn zs (d + 8) 77 (aB 77 0) [(0, .inr (14, 0)), (1, .inl (nI i)), (2, .inl b)] [] S (rE (some (.inl (-1))) (mTh S)) := by
  refine Rn.cd 6 (fun _ => rfl) (m_isLetter (S := mTh S) (mTh_qok hP) (by rw [mTh_qn]; exact hi)) ?_
  refine Rn.s 1 (fun _ => rfl) ?_
  refine Rn.b 2 (fun _ => rfl) (fun c1 => ?_) (fun c1 => ?_)
  · exact Rn.r 2 (fun _ => rfl) ⟨rfl, rfl⟩
  · refine Rn.b 3 (fun _ => rfl) (fun c2 => ?_) (fun c2 => absurd h (fun q => q.elim c1 c2))
    exact Rn.r 2 (fun _ => rfl) ⟨rfl, rfl⟩
theorem m_letter {i j : Nat} (hP : QOK S) (hi : i < qn S) (hj : j < 6) : Rn zs (d + 8) 77 (aB 77 0) [(0, .inr (14, 0)), (1, .inl (nI i)), (2, .inl (nI j))] [] S (rE (some (.inl (S 35 0 (8 * i + j)))) (mTh S)) := by
  have e : nI 8 * nI i + nI j = nI (8 * i + j) := by rw [pk_mul, nI_add]
  have h240 := hP.2
  refine Rn.cd 6 (fun _ => rfl) (m_isLetter (S := mTh S) (mTh_qok hP) (by rw [mTh_qn]; exact hi)) ?_
  refine Rn.s 1 (fun _ => rfl) ?_
  refine Rn.b 2 (fun _ => rfl) (fun c1 => absurd c1 (nI_pos (by omega))) (fun c1 => ?_)
  refine Rn.b 3 (fun _ => rfl) (fun c2 => absurd c2 (nI_ge hj (by omega))) (fun c2 => ?_)
  refine Rn.g 8 (fun _ => rfl) (by rw [e, nI_toInt (by omega)]; omega) ?_
  rw [e, nI_clamp (by omega), mTh_ne S (by decide)]
  exact Rn.r 2 (fun _ => rfl) ⟨rfl, rfl⟩
-- state, permit, quorumOf
theorem m_state_no {a b : Int32} (h : nopair a b) : Rn zs (d + 8) 89 (aB 89 0) [(0, .inr (14, 0)), (1, .inl a), (2, .inl b)] [] S (rE (some (.inl (-1))) (mTh S)) := by
  refine Rn.cd 6 (fun _ => rfl) (m_isPair_no (S := mTh S) h) ?_
  exact Rn.r 3 (fun _ => rfl) ⟨rfl, rfl⟩
theorem m_state {c r : Nat} (hc : c < 8) (hr : r < 4) : Rn zs (d + 8) 89 (aB 89 0) [(0, .inr (14, 0)), (1, .inl (nI c)), (2, .inl (nI r))] [] S (rE (some (.inl (S 17 0 (4 * c + r)))) (mTh S)) := by
  refine Rn.cd 6 (fun _ => rfl) (m_isPair (S := mTh S) hc hr) ?_
  refine Rn.s 1 (fun _ => rfl) ?_
  refine Rn.g 8 (fun _ => rfl) (by rw [i4, nI_toInt (by omega)]; omega) ?_
  rw [i4, nI_clamp (by omega), mTh_ne S (by decide)]
  exact Rn.r 2 (fun _ => rfl) ⟨rfl, rfl⟩
theorem m_permit_no {a b : Int32} (h : nopair a b) : Rn zs (d + 8) 90 (aB 90 0) [(0, .inr (14, 0)), (1, .inl a), (2, .inl b)] [] S (rE (some (.inl (nI 0))) (mTh S)) := by
  refine Rn.cd 6 (fun _ => rfl) (m_isPair_no (S := mTh S) h) ?_
  exact Rn.r 3 (fun _ => rfl) ⟨rfl, rfl⟩
theorem m_permit {c r s : Nat} (hc : c < 8) (hr : r < 4) (hs : S 17 0 (4 * c + r) = nI s) (hs4 : s ≤ 4) : Rn zs (d + 8) 90 (aB 90 0) [(0, .inr (14, 0)), (1, .inl (nI c)), (2, .inl (nI r))] [] S (rE (some (.inl (if 2 < s then S 24 0 (4 * c + r) else nI 0))) (mTh S)) := by
  refine Rn.cd 6 (fun _ => rfl) (m_isPair (S := mTh S) hc hr) ?_
  refine Rn.s 1 (fun _ => rfl) ?_
  refine Rn.g 8 (fun _ => rfl) (by rw [i4, nI_toInt (by omega)]; omega) ?_
  rw [i4, nI_clamp (by omega), mTh_ne S (by decide), hs]
  refine Rn.b 2 (fun _ => rfl) (fun c1 => ?_) (fun c1 => ?_)
  · rw [if_neg (by have := (nI_leI (by omega) (by omega)).mp c1; omega)]
    exact Rn.r 2 (fun _ => rfl) ⟨rfl, rfl⟩
  · rw [if_pos (by
      rcases Nat.lt_or_ge 2 s with q | q
      · exact q
      · exact absurd (nI_le q (by omega)) c1)]
    refine Rn.g 8 (fun _ => rfl) (by rw [i4, nI_toInt (by omega)]; omega) ?_
    rw [i4, nI_clamp (by omega), mTh_ne S (by decide)]
    exact Rn.r 2 (fun _ => rfl) ⟨rfl, rfl⟩
theorem m_quorum_no {a b : Int32} (h : nopair a b) : Rn zs (d + 8) 91 (aB 91 0) [(0, .inr (14, 0)), (1, .inl a), (2, .inl b)] [] S (rE (some (.inl (nI 0))) (mTh S)) := by
  refine Rn.cd 6 (fun _ => rfl) (m_isPair_no (S := mTh S) h) ?_
  exact Rn.r 3 (fun _ => rfl) ⟨rfl, rfl⟩
theorem m_quorum_0 {c r : Nat} (hc : c < 8) (hr : r < 4) (h : S 17 0 (4 * c + r) = 0) : Rn zs (d + 8) 91 (aB 91 0) [(0, .inr (14, 0)), (1, .inl (nI c)), (2, .inl (nI r))] [] S (rE (some (.inl (nI 0))) (mTh S)) := by
  refine Rn.cd 6 (fun _ => rfl) (m_isPair (S := mTh S) hc hr) ?_
  refine Rn.s 1 (fun _ => rfl) ?_
  refine Rn.g 8 (fun _ => rfl) (by rw [i4, nI_toInt (by omega)]; omega) ?_
  rw [i4, nI_clamp (by omega), mTh_ne S (by decide)]
  refine Rn.b 1 (fun _ => rfl) (fun c1 => absurd h c1) (fun c1 => ?_)
  exact Rn.r 2 (fun _ => rfl) ⟨rfl, rfl⟩
theorem m_quorum {c r s : Nat} (hc : c < 8) (hr : r < 4) (hs : S 17 0 (4 * c + r) = nI s) (hs4 : s ≤ 4) (hs0 : 0 < s) : Rn zs (d + 8) 91 (aB 91 0) [(0, .inr (14, 0)), (1, .inl (nI c)), (2, .inl (nI r))] [] S (rE (some (.inl (if 1 < s then S 22 0 (4 * c + r) else if ry (S 19 0 (4 * c + r)) 0 = -1 then nI 0 else ry (S 19 0 (4 * c + r)) 0 &&& S 21 0 (4 * c + r)))) (mRt (mTh S) (S 19 0 (4 * c + r)) 0)) := by
  have e17 : ∀ x, mRt (mTh S) x 0 17 0 (4 * c + r) = S 17 0 (4 * c + r) := fun x => (mRt_ne _ _ _ (by decide)).trans (mTh_ne S (by decide))
  have e22 : ∀ x, mRt (mTh S) x 0 22 0 (4 * c + r) = S 22 0 (4 * c + r) := fun x => (mRt_ne _ _ _ (by decide)).trans (mTh_ne S (by decide))
  have e21 : ∀ x, mRt (mTh S) x 0 21 0 (4 * c + r) = S 21 0 (4 * c + r) := fun x => (mRt_ne _ _ _ (by decide)).trans (mTh_ne S (by decide))
  refine Rn.cd 6 (fun _ => rfl) (m_isPair (S := mTh S) hc hr) ?_
  refine Rn.s 1 (fun _ => rfl) ?_
  refine Rn.g 8 (fun _ => rfl) (by rw [i4, nI_toInt (by omega)]; omega) ?_
  rw [i4, nI_clamp (by omega), mTh_ne S (by decide), hs]
  refine Rn.b 1 (fun _ => rfl) (fun c1 => ?_) (fun c1 => absurd (nI_ne0 hs0 (by omega)) c1)
  refine Rn.s 6 (fun _ => rfl) ?_
  rw [i4]
  refine Rn.g 5 (fun _ => rfl) (by rw [nI_toInt (by omega)]; omega) ?_
  rw [nI_clamp (by omega), mTh_ne S (by decide)]
  refine Rn.cd 1 (fun _ => rfl) (m_route (S 19 0 (4 * c + r))) ?_
  refine Rn.g 5 (fun _ => rfl) (by rw [nI_toInt (by omega)]; omega) ?_
  rw [nI_clamp (by omega), e17, hs]
  refine Rn.b 2 (fun _ => rfl) (fun c2 => ?_) (fun c2 => ?_)
  · rw [if_neg (by have := (nI_leI (by omega) (by omega)).mp c2; omega)]
    refine Rn.b 3 (fun _ => rfl) (fun c3 => ?_) (fun c3 => ?_)
    · rw [if_neg c3]
      refine Rn.g 5 (fun _ => rfl) (by rw [nI_toInt (by omega)]; omega) ?_
      rw [nI_clamp (by omega), e21]
      exact Rn.r 2 (fun _ => rfl) ⟨rfl, rfl⟩
    · rw [if_pos (Classical.byContradiction c3)]
      exact Rn.r 3 (fun _ => rfl) ⟨rfl, rfl⟩
  · rw [if_pos (by
      rcases Nat.lt_or_ge 1 s with q | q
      · exact q
      · exact absurd (nI_le q (by omega)) c2)]
    refine Rn.g 4 (fun _ => rfl) (by rw [nI_toInt (by omega)]; omega) ?_
    rw [nI_clamp (by omega), e22]
    exact Rn.r 2 (fun _ => rfl) ⟨rfl, rfl⟩
-- orders, highest, done
theorem nop0 {b : Int32} (h : outc b 4) : nopair (nI 0) b := Or.inr h
theorem m_orders_no {b : Int32} (h : outc b 4) : Rn zs (d + 8) 93 (aB 93 0) [(0, .inr (14, 0)), (1, .inl b)] [] S (rE (some (.inl (-1))) (mTh S)) := by
  refine Rn.cd 6 (fun _ => rfl) (m_isPair_no (S := mTh S) (nop0 h)) ?_
  exact Rn.r 3 (fun _ => rfl) ⟨rfl, rfl⟩
theorem m_orders {r : Nat} (hr : r < 4) : Rn zs (d + 8) 93 (aB 93 0) [(0, .inr (14, 0)), (1, .inl (nI r))] [] S (rE (some (.inl (S 32 0 r))) (mTh S)) := by
  refine Rn.cd 6 (fun _ => rfl) (m_isPair (S := mTh S) (c := 0) (by omega) hr) ?_
  refine Rn.s 1 (fun _ => rfl) ?_
  refine Rn.g 4 (fun _ => rfl) (by rw [nI_toInt (by omega)]; omega) ?_
  rw [nI_clamp (by omega), mTh_ne S (by decide)]
  exact Rn.r 2 (fun _ => rfl) ⟨rfl, rfl⟩
theorem m_highest_no {b : Int32} (h : outc b 4) : Rn zs (d + 8) 95 (aB 95 0) [(0, .inr (14, 0)), (1, .inl b)] [] S (rE (some (.inl (-1))) (mTh S)) := by
  refine Rn.cd 6 (fun _ => rfl) (m_isPair_no (S := mTh S) (nop0 h)) ?_
  exact Rn.r 3 (fun _ => rfl) ⟨rfl, rfl⟩
theorem m_highest {r : Nat} (hr : r < 4) : Rn zs (d + 8) 95 (aB 95 0) [(0, .inr (14, 0)), (1, .inl (nI r))] [] S (rE (some (.inl (S 30 0 r))) (mTh S)) := by
  refine Rn.cd 6 (fun _ => rfl) (m_isPair (S := mTh S) (c := 0) (by omega) hr) ?_
  refine Rn.s 1 (fun _ => rfl) ?_
  refine Rn.g 4 (fun _ => rfl) (by rw [nI_toInt (by omega)]; omega) ?_
  rw [nI_clamp (by omega), mTh_ne S (by decide)]
  exact Rn.r 2 (fun _ => rfl) ⟨rfl, rfl⟩
theorem m_done_no1 {a b x : Int32} (h : outc b 4) : Rn zs (d + 8) 94 (aB 94 0) [(0, .inr (14, 0)), (1, .inl b), (2, .inl a), (3, .inl x)] [] S (rE (some (.inl (-1))) (mTh S)) := by
  refine Rn.cd 6 (fun _ => rfl) (m_isPair_no (S := mTh S) (nop0 h)) ?_
  exact Rn.r 3 (fun _ => rfl) ⟨rfl, rfl⟩
theorem m_done_no2 {r n : Nat} {a x : Int32} (hr : r < 4) (hn : S 32 0 r = nI n) (h : outc a n ∨ a < nI n - nI 64) : Rn zs (d + 8) 94 (aB 94 0) [(0, .inr (14, 0)), (1, .inl (nI r)), (2, .inl a), (3, .inl x)] [] S (rE (some (.inl (-1))) (mTh S)) := by
  refine Rn.cd 6 (fun _ => rfl) (m_isPair (S := mTh S) (c := 0) (by omega) hr) ?_
  refine Rn.s 1 (fun _ => rfl) ?_
  refine Rn.b 2 (fun _ => rfl) (fun c1 => ?_) (fun c1 => ?_)
  · exact Rn.r 2 (fun _ => rfl) ⟨rfl, rfl⟩
  · refine Rn.g 5 (fun _ => rfl) (by rw [nI_toInt (by omega)]; omega) ?_
    rw [nI_clamp (by omega), mTh_ne S (by decide), hn]
    refine Rn.b 1 (fun _ => rfl) (fun c2 => ?_) (fun c2 => ?_)
    · exact Rn.r 2 (fun _ => rfl) ⟨rfl, rfl⟩
    · refine Rn.g 5 (fun _ => rfl) (by rw [nI_toInt (by omega)]; omega) ?_
      rw [nI_clamp (by omega), mTh_ne S (by decide), hn]
      refine Rn.b 3 (fun _ => rfl) (fun c3 => ?_) (fun c3 => ?_)
      · exact absurd h (fun q => q.elim (fun q => q.elim c1 c2) (fun q => absurd c3 (Int32.not_le.mpr q)))
      · exact Rn.r 2 (fun _ => rfl) ⟨rfl, rfl⟩
theorem m_done {r n i : Nat} {x : Int32} (hr : r < 4) (hn : S 32 0 r = nI n) (hn2 : n < 2 ^ 30) (hi : i < n) (h64 : n ≤ i + 64) : Rn zs (d + 8) 94 (aB 94 0) [(0, .inr (14, 0)), (1, .inl (nI r)), (2, .inl (nI i)), (3, .inl x)] [] S (rE (some (.inl (if x = 0 then S 33 0 (64 * r + i % 64) else if x = nI 1 then S 34 0 (64 * r + i % 64) else -1))) (mTh S)) := by
  have e := pk_rem (a := i) (d := 64) (by omega) (by omega) (by omega)
  have hm : i % 64 < 64 := Nat.mod_lt _ (by omega)
  refine Rn.cd 6 (fun _ => rfl) (m_isPair (S := mTh S) (c := 0) (by omega) hr) ?_
  refine Rn.s 1 (fun _ => rfl) ?_
  refine Rn.b 2 (fun _ => rfl) (fun c1 => absurd c1 (nI_pos (by omega))) (fun c1 => ?_)
  refine Rn.g 5 (fun _ => rfl) (by rw [nI_toInt (by omega)]; omega) ?_
  rw [nI_clamp (by omega), mTh_ne S (by decide), hn]
  refine Rn.b 1 (fun _ => rfl) (fun c2 => absurd c2 (nI_ge hi (by omega))) (fun c2 => ?_)
  refine Rn.g 5 (fun _ => rfl) (by rw [nI_toInt (by omega)]; omega) ?_
  rw [nI_clamp (by omega), mTh_ne S (by decide), hn]
  refine Rn.b 3 (fun _ => rfl) (fun c3 => ?_) (fun c3 => ?_)
  · refine Rn.s 8 (fun _ => rfl) ?_
    rw [e, pk_mul, nI_add]
    refine Rn.b 2 (fun _ => rfl) (fun c4 => ?_) (fun c4 => ?_)
    · rw [if_neg c4]
      refine Rn.b 3 (fun _ => rfl) (fun c5 => ?_) (fun c5 => ?_)
      · rw [if_neg c5]
        exact Rn.r 2 (fun _ => rfl) ⟨rfl, rfl⟩
      · rw [if_pos (Classical.byContradiction c5)]
        refine Rn.g 4 (fun _ => rfl) (by rw [nI_toInt (by omega)]; omega) ?_
        rw [nI_clamp (by omega), mTh_ne S (by decide)]
        exact Rn.r 2 (fun _ => rfl) ⟨rfl, rfl⟩
    · rw [if_pos (Classical.byContradiction c4)]
      refine Rn.g 4 (fun _ => rfl) (by rw [nI_toInt (by omega)]; omega) ?_
      rw [nI_clamp (by omega), mTh_ne S (by decide)]
      exact Rn.r 2 (fun _ => rfl) ⟨rfl, rfl⟩
  · exfalso
    have := Int32.not_le.mp c3
    have := Int32.lt_iff_toInt_lt.mp this
    rw [pk_sub_toInt (by omega) (by omega), nI_toInt (by omega)] at this
    omega
-- vote
theorem m_vote_no1 {a b x : Int32} (h : outc a 15) : Rn zs (d + 8) 92 (aB 92 0) [(0, .inr (14, 0)), (1, .inl a), (2, .inl b), (3, .inl x)] [] S (rE (some (.inl (-1))) (mTh S)) := by
  refine Rn.cd 5 (fun _ => rfl) (m_isArbiter_no (S := mTh S) h) ?_
  exact Rn.r 3 (fun _ => rfl) ⟨rfl, rfl⟩
theorem m_vote_no2 {a : Nat} {b x : Int32} (ha : a < 15) (h : outc b 4) : Rn zs (d + 8) 92 (aB 92 0) [(0, .inr (14, 0)), (1, .inl (nI a)), (2, .inl b), (3, .inl x)] [] S (rE (some (.inl (-1))) (mTh S)) := by
  refine Rn.cd 5 (fun _ => rfl) (m_isArbiter (S := mTh S) ha) ?_
  refine Rn.s 1 (fun _ => rfl) ?_
  refine Rn.cd 3 (fun _ => rfl) (m_isPair_no (nop0 h)) ?_
  exact Rn.r 3 (fun _ => rfl) ⟨rfl, rfl⟩
theorem m_vote_at {a r : Nat} {x : Int32} {Q : Option aV → aS → Prop} (ha : a < 15) (hr : r < 4) (K : Rn zs (d + 8) 92 (aB 92 (tsel x 30 144 0 [34, 59, 84, 92, 116])) [(0, .inr (14, 0)), (1, .inl (nI a)), (2, .inl (nI r)), (3, .inl x), (4, .inl (nI (4 * a + r)))] [] (mTh S) Q) : Rn zs (d + 8) 92 (aB 92 0) [(0, .inr (14, 0)), (1, .inl (nI a)), (2, .inl (nI r)), (3, .inl x)] [] S Q := by
  refine Rn.cd 5 (fun _ => rfl) (m_isArbiter (S := mTh S) ha) ?_
  refine Rn.s 1 (fun _ => rfl) ?_
  refine Rn.cd 3 (fun _ => rfl) (m_isPair (c := 0) (by omega) hr) ?_
  refine Rn.s 1 (fun _ => rfl) ?_
  refine Rn.s 6 (fun _ => rfl) ?_
  rw [i4]
  refine Rn.s 2 (fun _ => rfl) ?_
  exact K
theorem m_vote_def {a r : Nat} {x : Int32} (ha : a < 15) (hr : r < 4) (h : x ≠ 0 ∧ x ≠ 1 ∧ x ≠ 2 ∧ x ≠ 3 ∧ x ≠ 4) : Rn zs (d + 8) 92 (aB 92 0) [(0, .inr (14, 0)), (1, .inl (nI a)), (2, .inl (nI r)), (3, .inl x)] [] S (rE (some (.inl (-1))) (mTh S)) := by
  refine m_vote_at ha hr ?_
  have e : tsel x 30 144 0 [34, 59, 84, 92, 116] = 174 := by
    unfold tsel tsel tsel tsel tsel tsel
    rw [if_neg (show ¬ x = Int32.ofInt 0 from h.1), if_neg (show ¬ x = Int32.ofInt (0 + 1) from h.2.1), if_neg (show ¬ x = Int32.ofInt (0 + 1 + 1) from h.2.2.1), if_neg (show ¬ x = Int32.ofInt (0 + 1 + 1 + 1) from h.2.2.2.1), if_neg (show ¬ x = Int32.ofInt (0 + 1 + 1 + 1 + 1) from h.2.2.2.2)]
    rfl
  rw [e]
  exact Rn.r 2 (fun _ => rfl) ⟨rfl, rfl⟩
theorem m_vote_0 {a r m : Nat} (ha : a < 15) (hr : r < 4) (hm : S 28 0 (4 * a + r) = nI m) (hm2 : m ≤ 17) : Rn zs (d + 8) 92 (aB 92 0) [(0, .inr (14, 0)), (1, .inl (nI a)), (2, .inl (nI r)), (3, .inl 0)] [] S (rE (some (.inl (if m = 0 then -1 else S 26 0 (17 * (4 * a + r))))) (mTh S)) := by
  refine m_vote_at ha hr ?_
  refine Rn.g 4 (fun _ => rfl) (by rw [nI_toInt (by omega)]; omega) ?_
  rw [nI_clamp (by omega), mTh_ne S (by decide), hm]
  refine Rn.b 1 (fun _ => rfl) (fun c1 => ?_) (fun c1 => ?_)
  · rw [if_pos (by
      have := (nI_leI (a := m) (b := 0) (by omega) (by omega)).mp c1
      omega)]
    exact Rn.r 2 (fun _ => rfl) ⟨rfl, rfl⟩
  · rw [if_neg (fun q => c1 (by rw [q]; decide))]
    refine Rn.g 6 (fun _ => rfl) (by rw [pk_mul, nI_toInt (by omega)]; omega) ?_
    rw [pk_mul, nI_clamp (by omega), mTh_ne S (by decide)]
    exact Rn.r 2 (fun _ => rfl) ⟨rfl, rfl⟩
theorem m_vote_1 {a r m : Nat} (ha : a < 15) (hr : r < 4) (hm : S 28 0 (4 * a + r) = nI m) (hm2 : m ≤ 17) : Rn zs (d + 8) 92 (aB 92 0) [(0, .inr (14, 0)), (1, .inl (nI a)), (2, .inl (nI r)), (3, .inl 1)] [] S (rE (some (.inl (if m = 0 then -1 else S 27 0 (17 * (4 * a + r))))) (mTh S)) := by
  refine m_vote_at ha hr ?_
  refine Rn.g 4 (fun _ => rfl) (by rw [nI_toInt (by omega)]; omega) ?_
  rw [nI_clamp (by omega), mTh_ne S (by decide), hm]
  refine Rn.b 1 (fun _ => rfl) (fun c1 => ?_) (fun c1 => ?_)
  · rw [if_pos (by
      have := (nI_leI (a := m) (b := 0) (by omega) (by omega)).mp c1
      omega)]
    exact Rn.r 2 (fun _ => rfl) ⟨rfl, rfl⟩
  · rw [if_neg (fun q => c1 (by rw [q]; decide))]
    refine Rn.g 6 (fun _ => rfl) (by rw [pk_mul, nI_toInt (by omega)]; omega) ?_
    rw [pk_mul, nI_clamp (by omega), mTh_ne S (by decide)]
    exact Rn.r 2 (fun _ => rfl) ⟨rfl, rfl⟩
theorem m_vote_2 {a r : Nat} (ha : a < 15) (hr : r < 4) : Rn zs (d + 8) 92 (aB 92 0) [(0, .inr (14, 0)), (1, .inl (nI a)), (2, .inl (nI r)), (3, .inl 2)] [] S (rE (some (.inl (S 29 0 (4 * a + r)))) (mTh S)) := by
  refine m_vote_at ha hr ?_
  refine Rn.g 4 (fun _ => rfl) (by rw [nI_toInt (by omega)]; omega) ?_
  rw [nI_clamp (by omega), mTh_ne S (by decide)]
  exact Rn.r 1 (fun _ => rfl) ⟨rfl, rfl⟩
theorem m_vote_3 {a r m : Nat} (ha : a < 15) (hr : r < 4) (hm : S 28 0 (4 * a + r) = nI m) (hm2 : m ≤ 17) : Rn zs (d + 8) 92 (aB 92 0) [(0, .inr (14, 0)), (1, .inl (nI a)), (2, .inl (nI r)), (3, .inl 3)] [] S (rE (some (.inl (nI (m - 1)))) (mTh S)) := by
  refine m_vote_at ha hr ?_
  refine Rn.g 4 (fun _ => rfl) (by rw [nI_toInt (by omega)]; omega) ?_
  rw [nI_clamp (by omega), mTh_ne S (by decide), hm]
  refine Rn.b 1 (fun _ => rfl) (fun c1 => ?_) (fun c1 => ?_)
  · have : m = 0 := by
      have := (nI_leI (a := m) (b := 0) (by omega) (by omega)).mp c1
      omega
    subst this
    exact Rn.r 2 (fun _ => rfl) ⟨rfl, rfl⟩
  · have h0 : 0 < m := by
      rcases Nat.eq_zero_or_pos m with q | q
      · exact absurd (by rw [q]; decide) c1
      · exact q
    refine Rn.g 4 (fun _ => rfl) (by rw [nI_toInt (by omega)]; omega) ?_
    rw [nI_clamp (by omega), mTh_ne S (by decide), hm]
    refine Rn.s 2 (fun _ => rfl) ?_
    rw [pk_sub h0]
    exact Rn.r 2 (fun _ => rfl) ⟨rfl, rfl⟩
theorem m_vote_4 {a r m : Nat} (ha : a < 15) (hr : r < 4) (hm : S 28 0 (4 * a + r) = nI m) (hm2 : m ≤ 17) : Rn zs (d + 8) 92 (aB 92 0) [(0, .inr (14, 0)), (1, .inl (nI a)), (2, .inl (nI r)), (3, .inl 4)] [] S (rE (some (.inl (if m ≤ 1 then -1 else S 26 0 (17 * (4 * a + r) + 1)))) (mTh S)) := by
  refine m_vote_at ha hr ?_
  refine Rn.g 4 (fun _ => rfl) (by rw [nI_toInt (by omega)]; omega) ?_
  rw [nI_clamp (by omega), mTh_ne S (by decide), hm]
  refine Rn.b 2 (fun _ => rfl) (fun c1 => ?_) (fun c1 => ?_)
  · rw [if_pos ((nI_leI (by omega) (by omega)).mp c1)]
    exact Rn.r 2 (fun _ => rfl) ⟨rfl, rfl⟩
  · rw [if_neg (fun q => c1 (nI_le q (by omega)))]
    refine Rn.g 8 (fun _ => rfl) (by rw [pk_mul, nI_add, nI_toInt (by omega)]; omega) ?_
    rw [pk_mul, nI_add, nI_clamp (by omega), mTh_ne S (by decide)]
    exact Rn.r 2 (fun _ => rfl) ⟨rfl, rfl⟩
end MP
