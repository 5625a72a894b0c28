/-! THE REFERENCE: its post, its rows, deliver, breakPermit, drop, copy -/
/-- the post's cells from 8 i up to K moved down by one letter -/
def mShift (S : aS) (i K : Nat) : aS := fun t j f => if t = 35 ∧ j = 0 ∧ 8 * i ≤ f ∧ f < K then S 35 0 (f + 8) else S t j f
def mRem (S : aS) (n i : Nat) : aS := mShift (au S 14 0 21 (nI n)) i (8 * n)
theorem mShift_0 (S : aS) (i : Nat) : mShift S i (8 * i) = S := by
  funext t j f
  unfold mShift
  rw [if_neg (by omega)]
theorem mShift_step (S : aS) {i K : Nat} (h : 8 * i ≤ K) : au (mShift S i K) 35 0 K (mShift S i K 35 0 (K + 8)) = mShift S i (K + 1) := by
  funext t j f
  unfold au
  have e : mShift S i K 35 0 (K + 8) = S 35 0 (K + 8) := by unfold mShift; rw [if_neg (by omega)]
  rw [e]
  unfold mShift
  by_cases h1 : t = 35 ∧ j = 0 ∧ f = K
  · obtain ⟨rfl, rfl, rfl⟩ := h1
    rw [if_pos ⟨rfl, rfl, rfl⟩, if_pos ⟨rfl, rfl, h, by omega⟩]
  · rw [if_neg h1]
    by_cases h2 : t = 35 ∧ j = 0 ∧ 8 * i ≤ f ∧ f < K
    · rw [if_pos h2, if_pos ⟨h2.1, h2.2.1, h2.2.2.1, by omega⟩]
    · rw [if_neg h2, if_neg (fun q => h2 ⟨q.1, q.2.1, q.2.2.1, by
        have : f ≠ K := fun e => h1 ⟨q.1, q.2.1, e⟩
        omega⟩)]
theorem mShift_ne (S : aS) (i K : Nat) {t j f : Nat} (h : t ≠ 35) : mShift S i K t j f = S t j f := by unfold mShift; rw [if_neg (fun q => h q.1)]
theorem mRem_ne (S : aS) (n i : Nat) {t j f : Nat} (h : t ≠ 35) (h2 : t ≠ 14) : mRem S n i t j f = S t j f := by
  unfold mRem
  rw [mShift_ne _ _ _ h]
  simp [au, h2]
theorem mRem_l (S : aS) (n i : Nat) : mRem S n i 14 0 21 = nI n := by
  unfold mRem
  rw [mShift_ne _ _ _ (by decide)]
  simp [au]
/-- a place of a row: the first from i on, of m -/
def mfnd (S : aS) (v : Nat) (c r : Int32) : Nat → Nat → Option Nat
  | 0, _ => none
  | m + 1, i => if S 26 0 (17 * v + i) = c ∧ S 27 0 (17 * v + i) = r then some i else mfnd S v c r m (i + 1)
theorem mfnd_some {S : aS} {v : Nat} {c r : Int32} : ∀ {m i k : Nat}, mfnd S v c r m i = some k → i ≤ k ∧ k < i + m ∧ (S 26 0 (17 * v + k) = c ∧ S 27 0 (17 * v + k) = r) ∧ ∀ j, i ≤ j → j < k → ¬ (S 26 0 (17 * v + j) = c ∧ S 27 0 (17 * v + j) = r)
  | 0, i, k, h => by cases h
  | m + 1, i, k, h => by
    unfold mfnd at h
    by_cases e : S 26 0 (17 * v + i) = c ∧ S 27 0 (17 * v + i) = r
    · rw [if_pos e] at h
      cases h
      exact ⟨Nat.le_refl _, by omega, e, fun j h1 h2 => by omega⟩
    · rw [if_neg e] at h
      obtain ⟨h1, h2, h3, h4⟩ := mfnd_some h
      refine ⟨by omega, by omega, h3, fun j h5 h6 => ?_⟩
      by_cases q : j = i
      · rw [q]; exact e
      · exact h4 j (by omega) h6
theorem mfnd_none {S : aS} {v : Nat} {c r : Int32} : ∀ {m i : Nat}, mfnd S v c r m i = none → ∀ j, i ≤ j → j < i + m → ¬ (S 26 0 (17 * v + j) = c ∧ S 27 0 (17 * v + j) = r)
  | 0, i, h => fun j h1 h2 => by omega
  | m + 1, i, h => fun j h1 h2 => by
    unfold mfnd at h
    by_cases e : S 26 0 (17 * v + i) = c ∧ S 27 0 (17 * v + i) = r
    · rw [if_pos e] at h
      cases h
    · rw [if_neg e] at h
      by_cases q : j = i
      · rw [q]; exact e
      · exact mfnd_none h j (by omega) (by omega)
/-- the rows' places from 'at' up to K moved down by one -/
def mRow (S : aS) (v p K : Nat) : aS := fun t j f => if (t = 26 ∨ t = 27) ∧ j = 0 ∧ 17 * v + p ≤ f ∧ f < 17 * v + K then S t 0 (f + 1) else S t j f
theorem mRow_0 (S : aS) (v p : Nat) : mRow S v p p = S := by
  funext t j f
  unfold mRow
  rw [if_neg (by omega)]
theorem mRow_step (S : aS) {v p K : Nat} (h : p ≤ K) : au (au (mRow S v p K) 26 0 (17 * v + K) (mRow S v p K 26 0 (17 * v + K + 1))) 27 0 (17 * v + K) (au (mRow S v p K) 26 0 (17 * v + K) (mRow S v p K 26 0 (17 * v + K + 1)) 27 0 (17 * v + K + 1)) = mRow S v p (K + 1) := by
  have e1 : mRow S v p K 26 0 (17 * v + K + 1) = S 26 0 (17 * v + K + 1) := by unfold mRow; rw [if_neg (by omega)]
  have e2 : au (mRow S v p K) 26 0 (17 * v + K) (S 26 0 (17 * v + K + 1)) 27 0 (17 * v + K + 1) = S 27 0 (17 * v + K + 1) := by
    simp [au]
    unfold mRow
    rw [if_neg (by omega)]
  rw [e1, e2]
  funext t j f
  unfold au mRow
  by_cases h1 : t = 27 ∧ j = 0 ∧ f = 17 * v + K
  · obtain ⟨rfl, rfl, rfl⟩ := h1
    rw [if_pos ⟨rfl, rfl, rfl⟩, if_pos ⟨Or.inr rfl, rfl, by omega, by omega⟩]
  · rw [if_neg h1]
    by_cases h2 : t = 26 ∧ j = 0 ∧ f = 17 * v + K
    · obtain ⟨rfl, rfl, rfl⟩ := h2
      rw [if_pos ⟨rfl, rfl, rfl⟩, if_pos ⟨Or.inl rfl, rfl, by omega, by omega⟩]
    · rw [if_neg h2]
      by_cases h3 : (t = 26 ∨ t = 27) ∧ j = 0 ∧ 17 * v + p ≤ f ∧ f < 17 * v + K
      · rw [if_pos h3, if_pos ⟨h3.1, h3.2.1, h3.2.2.1, by omega⟩]
      · rw [if_neg h3, if_neg (fun q => h3 ⟨q.1, q.2.1, q.2.2.1, by
          have : f ≠ 17 * v + K := fun e => q.1.elim (fun z => h2 ⟨z, q.2.1, e⟩) (fun z => h1 ⟨z, q.2.1, e⟩)
          omega⟩)]
theorem mRow_ne (S : aS) (v p K : Nat) {t j f : Nat} (h : t ≠ 26) (h2 : t ≠ 27) : mRow S v p K t j f = S t j f := by unfold mRow; rw [if_neg (fun q => q.1.elim h h2)]
section MD
variable {zs : Nat × (Nat → Int32)} {d : Nat} {S : aS}
theorem m_remove_loop {n i : Nat} {T : aS} (hT : T 14 0 21 = nI n) (h240 : n < 240) (hi : i ≤ n) : ∀ (m K : Nat), K + m = 8 * n → 8 * i ≤ K → Rn zs d 80 (aB 80 15) [(0, .inr (14, 0)), (1, .inl (nI i)), (2, .inl (nI K))] [] (mShift T i K) (rE none (mShift T i (8 * n)))
  | 0, K, h, hK => by
    have e : nI 8 * mShift T i K 14 0 21 = nI (8 * n) := by rw [mShift_ne _ _ _ (by decide), hT, pk_mul]
    refine Rn.b 6 (fun _ => rfl) (fun c1 => ?_) (fun c1 => absurd (by rw [e]; exact nI_le (by omega) (by omega)) c1)
    refine Rn.r 1 (fun _ => rfl) ⟨rfl, ?_⟩
    rw [show K = 8 * n by omega]
  | m + 1, K, h, hK => by
    have e : nI 8 * mShift T i K 14 0 21 = nI (8 * n) := by rw [mShift_ne _ _ _ (by decide), hT, pk_mul]
    refine Rn.b 6 (fun _ => rfl) (fun c1 => absurd (by rw [e] at c1; exact c1) (nI_ge (by omega) (by omega))) (fun c1 => ?_)
    refine Rn.g 9 (fun _ => rfl) (by rw [nI_add, nI_toInt (by omega)]; omega) ?_
    rw [nI_add, nI_clamp (by omega)]
    refine Rn.g 1 (fun _ => rfl) (by rw [nI_toInt (by omega)]; omega) ?_
    rw [nI_clamp (by omega), mShift_step T hK]
    refine Rn.s 2 (fun _ => rfl) ?_
    rw [nI_add]
    exact m_remove_loop hT h240 hi m (K + 1) (by omega) (by omega)
theorem m_remove {n i : Nat} (hn : S 14 0 21 = nI (n + 1)) (h240 : n + 1 ≤ 240) (hi : i ≤ n) : Rn zs d 80 (aB 80 0) [(0, .inr (14, 0)), (1, .inl (nI i))] [] S (rE none (mRem S n i)) := by
  have e0 : S 14 0 21 - nI 1 = nI n := by rw [hn, pk_sub (by omega), Nat.add_sub_cancel]
  refine Rn.s 6 (fun _ => rfl) ?_
  rw [e0]
  refine Rn.s 4 (fun _ => rfl) ?_
  rw [pk_mul]
  have h := m_remove_loop (zs := zs) (d := d) (T := au S 14 0 21 (nI n)) (n := n) (i := i) (by simp [au]) (by omega) hi (8 * n - 8 * i) (8 * i) (by omega) (Nat.le_refl _)
  rw [mShift_0] at h
  exact h
theorem m_drop_no {a : Int32} (hP : QOK S) (h : outc a (qn S)) : Rn zs (d + 8) 87 (aB 87 0) [(0, .inr (14, 0)), (1, .inl a)] [] S (rE (some (.inl (nI 0))) (mTh S)) := by
  refine Rn.cd 6 (fun _ => rfl) (m_isLetter_no (S := mTh S) (mTh_qok hP) (by rw [mTh_qn]; exact h)) ?_
  exact Rn.r 3 (fun _ => rfl) ⟨rfl, rfl⟩
theorem m_drop {n i : Nat} (hn : S 14 0 21 = nI (n + 1)) (h240 : n + 1 ≤ 240) (hi : i ≤ n) : Rn zs (d + 8) 87 (aB 87 0) [(0, .inr (14, 0)), (1, .inl (nI i))] [] S (rE (some (.inl (nI 1))) (mRem (mTh S) n i)) := by
  have hp := qn_of hn h240
  refine Rn.cd 6 (fun _ => rfl) (m_isLetter (S := mTh S) (mTh_qok hp.2) (by rw [mTh_qn, hp.1]; omega)) ?_
  refine Rn.s 1 (fun _ => rfl) ?_
  refine Rn.cd 3 (fun _ => rfl) (m_remove (S := mTh S) (by rw [mTh_l]; exact hn) h240 hi) ?_
  exact Rn.r 2 (fun _ => rfl) ⟨rfl, rfl⟩
theorem m_find_loop {v m : Nat} {c r : Int32} (hv : v < 60) (hm : S 28 0 v = nI m) (h17 : m ≤ 17) : ∀ k i : Nat, i + k = m → Rn zs d 84 (aB 84 3) [(0, .inr (14, 0)), (1, .inl (nI v)), (2, .inl c), (3, .inl r), (4, .inl (nI i))] [] S (rE (some (.inl (oI (mfnd S v c r k i)))) S)
  | 0, i, h => by
    refine Rn.g 5 (fun _ => rfl) (by rw [nI_toInt (by omega)]; omega) ?_
    rw [nI_clamp (by omega), hm]
    refine Rn.b 1 (fun _ => rfl) (fun c1 => ?_) (fun c1 => absurd (nI_le (by omega) (by omega)) c1)
    exact Rn.r 2 (fun _ => rfl) ⟨rfl, rfl⟩
  | k + 1, i, h => by
    have e : nI 17 * nI v + nI i = nI (17 * v + i) := by rw [pk_mul, nI_add]
    refine Rn.g 5 (fun _ => rfl) (by rw [nI_toInt (by omega)]; omega) ?_
    rw [nI_clamp (by omega), hm]
    refine Rn.b 1 (fun _ => rfl) (fun c1 => absurd c1 (nI_ge (by omega) (by omega))) (fun c1 => ?_)
    refine Rn.g 8 (fun _ => rfl) (by rw [e, nI_toInt (by omega)]; omega) ?_
    rw [e, nI_clamp (by omega)]
    unfold mfnd
    refine Rn.b 2 (fun _ => rfl) (fun c2 => ?_) (fun c2 => ?_)
    · rw [if_neg (fun q => c2 q.1)]
      refine Rn.s 2 (fun _ => rfl) ?_
      rw [nI_add]
      exact m_find_loop hv hm h17 k (i + 1) (by omega)
    · refine Rn.g 8 (fun _ => rfl) (by rw [e, nI_toInt (by omega)]; omega) ?_
      rw [e, nI_clamp (by omega)]
      refine Rn.b 2 (fun _ => rfl) (fun c3 => ?_) (fun c3 => ?_)
      · rw [if_neg (fun q => c3 q.2)]
        refine Rn.s 2 (fun _ => rfl) ?_
        rw [nI_add]
        exact m_find_loop hv hm h17 k (i + 1) (by omega)
      · rw [if_pos ⟨Classical.byContradiction c2, Classical.byContradiction c3⟩]
        exact Rn.r 2 (fun _ => rfl) ⟨rfl, rfl⟩
theorem m_find {v m : Nat} (c r : Int32) (hv : v < 60) (hm : S 28 0 v = nI m) (h17 : m ≤ 17) : Rn zs d 84 (aB 84 0) [(0, .inr (14, 0)), (1, .inl (nI v)), (2, .inl c), (3, .inl r)] [] S (rE (some (.inl (oI (mfnd S v c r m 0)))) S) := by
  refine Rn.s 2 (fun _ => rfl) ?_
  exact m_find_loop hv hm h17 m 0 (by omega)
def mVotes (S : aS) (v : Nat) : aS := mSend S (nI 2) (S 26 0 (17 * v)) (nI (v % 4)) (S 27 0 (17 * v)) (nI (v / 4)) (S 29 0 v) (nI 0)
theorem m_votes {v : Nat} (hv : v < 60) (hP : QOK S) : Rn zs (d + 1) 85 (aB 85 0) [(0, .inr (14, 0)), (1, .inl (nI v))] [] S (rE none (mVotes S v)) := by
  refine Rn.g 8 (fun _ => rfl) (by rw [pk_mul, nI_toInt (by omega)]; omega) ?_
  rw [pk_mul, nI_clamp (by omega)]
  refine Rn.s 3 (fun _ => rfl) ?_
  rw [pk_rem (a := v) (d := 4) (by omega) (by omega) (by omega)]
  refine Rn.g 6 (fun _ => rfl) (by rw [pk_mul, nI_toInt (by omega)]; omega) ?_
  rw [pk_mul, nI_clamp (by omega)]
  refine Rn.s 3 (fun _ => rfl) ?_
  rw [pk_div (a := v) (d := 4) (by omega) (by omega) (by omega)]
  refine Rn.g 4 (fun _ => rfl) (by rw [nI_toInt (by omega)]; omega) ?_
  rw [nI_clamp (by omega)]
  refine Rn.cd 2 (fun _ => rfl) (m_send hP (nI 2) (S 26 0 (17 * v)) (nI (v % 4)) (S 27 0 (17 * v)) (nI (v / 4)) (S 29 0 v) (nI 0)) ?_
  exact Rn.r 1 (fun _ => rfl) ⟨rfl, rfl⟩
theorem m_row_loop {v m p : Nat} {c r : Int32} {T : aS} {Q : Option aV → aS → Prop} (hv : v < 60) (hm : T 28 0 v = nI m) (h17 : m ≤ 16) (hp : p ≤ m) (K : ∀ x5 : Int32, Rn zs d 86 (aB 86 99) [(0, .inr (14, 0)), (1, .inl (nI v)), (2, .inl c), (3, .inl r), (4, .inl (nI p)), (5, .inl x5)] [] (mRow T v p m) Q) : ∀ (k i : Nat), i + k = m → p ≤ i → Rn zs d 86 (aB 86 30) [(0, .inr (14, 0)), (1, .inl (nI v)), (2, .inl c), (3, .inl r), (4, .inl (nI p)), (5, .inl (nI i))] [] (mRow T v p i) Q
  | 0, i, h, hpi => by
    refine Rn.g 5 (fun _ => rfl) (by rw [nI_toInt (by omega)]; omega) ?_
    rw [nI_clamp (by omega), mRow_ne T _ _ _ (by decide) (by decide), hm]
    refine Rn.b 1 (fun _ => rfl) (fun c1 => ?_) (fun c1 => absurd (nI_le (by omega) (by omega)) c1)
    rw [show i = m by omega]
    exact K _
  | k + 1, i, h, hpi => by
    have e : nI 17 * nI v + nI i = nI (17 * v + i) := by rw [pk_mul, nI_add]
    refine Rn.g 5 (fun _ => rfl) (by rw [nI_toInt (by omega)]; omega) ?_
    rw [nI_clamp (by omega), mRow_ne T _ _ _ (by decide) (by decide), hm]
    refine Rn.b 1 (fun _ => rfl) (fun c1 => absurd c1 (nI_ge (by omega) (by omega))) (fun c1 => ?_)
    refine Rn.g 17 (fun _ => rfl) (by rw [e, nI_add, nI_toInt (by omega)]; omega) ?_
    rw [e, nI_add, nI_clamp (by omega)]
    refine Rn.g 1 (fun _ => rfl) (by rw [nI_toInt (by omega)]; omega) ?_
    rw [nI_clamp (by omega)]
    refine Rn.g 17 (fun _ => rfl) (by rw [e, nI_add, nI_toInt (by omega)]; omega) ?_
    rw [e, nI_add, nI_clamp (by omega)]
    refine Rn.g 1 (fun _ => rfl) (by rw [nI_toInt (by omega)]; omega) ?_
    rw [nI_clamp (by omega), mRow_step T hpi]
    refine Rn.s 2 (fun _ => rfl) ?_
    rw [nI_add]
    exact m_row_loop hv hm h17 hp K k (i + 1) (by omega) (by omega)
/-- the place p leaves the row of m + 1 -/
def mLeave (S : aS) (v m p : Nat) : aS := mRow (au S 28 0 v (nI m)) v p m
theorem mLeave_ne (S : aS) (v m p : Nat) {t j f : Nat} (h : t ≠ 26) (h2 : t ≠ 27) (h3 : t ≠ 28) : mLeave S v m p t j f = S t j f := by
  unfold mLeave
  rw [mRow_ne _ _ _ _ h h2]
  simp [au, h3]
theorem mLeave_m (S : aS) (v m p : Nat) : mLeave S v m p 28 0 v = nI m := by
  unfold mLeave
  rw [mRow_ne _ _ _ _ (by decide) (by decide)]
  simp [au]
theorem m_leaves_none {v m : Nat} {c r : Int32} (hv : v < 60) (hm : S 28 0 v = nI m) (h17 : m ≤ 17) (hf : mfnd S v c r m 0 = none) : Rn zs (d + 2) 86 (aB 86 0) [(0, .inr (14, 0)), (1, .inl (nI v)), (2, .inl c), (3, .inl r)] [] S (rE none S) := by
  have h := m_find (zs := zs) (d := d + 1) c r hv hm h17
  rw [hf] at h
  refine Rn.cd 5 (fun _ => rfl) h ?_
  refine Rn.s 4 (fun _ => rfl) ?_
  exact Rn.r 1 (fun _ => rfl) ⟨rfl, rfl⟩
theorem nI_nm1 {p : Nat} (h : p < 2 ^ 31) : ¬ nI p = -1 := fun q => by
  have e2 := congrArg Int32.toInt q
  rw [nI_toInt h] at e2
  have : (-1 : Int32).toInt = -1 := by decide
  omega
theorem m_leaves_some {v m p : Nat} {c r : Int32} (hv : v < 60) (hP : QOK S) (hm : S 28 0 v = nI (m + 1)) (h17 : m + 1 ≤ 17) (hf : mfnd S v c r (m + 1) 0 = some p) : Rn zs (d + 2) 86 (aB 86 0) [(0, .inr (14, 0)), (1, .inl (nI v)), (2, .inl c), (3, .inl r)] [] S (rE none (if p = 0 ∧ 0 < m then mVotes (mLeave S v m p) v else mLeave S v m p)) := by
  have hp := mfnd_some hf
  have h := m_find (zs := zs) (d := d + 1) c r hv hm h17
  rw [hf] at h
  refine Rn.cd 5 (fun _ => rfl) h ?_
  refine Rn.s 1 (fun _ => rfl) ?_
  refine Rn.b 3 (fun _ => rfl) (fun c1 => ?_) (fun c1 => absurd (nI_nm1 (by omega)) c1)
  refine Rn.g 5 (fun _ => rfl) (by rw [nI_toInt (by omega)]; omega) ?_
  rw [nI_clamp (by omega), hm]
  refine Rn.g 3 (fun _ => rfl) (by rw [nI_toInt (by omega)]; omega) ?_
  rw [nI_clamp (by omega), pk_sub (by omega), Nat.add_sub_cancel]
  refine Rn.s 2 (fun _ => rfl) ?_
  have hl := m_row_loop (zs := zs) (d := d + 2) (T := au S 28 0 v (nI m)) (c := c) (r := r) (Q := rE none (if p = 0 ∧ 0 < m then mVotes (mLeave S v m p) v else mLeave S v m p)) hv (m := m) (p := p) (by simp [au]) (by omega) (by omega) ?_ (m - p) p (by omega) (Nat.le_refl _)
  · rw [mRow_0] at hl
    exact hl
  · intro x5
    have hz : mRow (au S 28 0 v (nI m)) v p m = mLeave S v m p := rfl
    rw [hz]
    by_cases h0 : p = 0
    · subst h0
      refine Rn.s 2 (fun _ => rfl) ?_
      refine Rn.g 4 (fun _ => rfl) (by rw [nI_toInt (by omega)]; omega) ?_
      rw [nI_clamp (by omega), mLeave_m]
      refine Rn.b 1 (fun _ => rfl) (fun c2 => ?_) (fun c2 => ?_)
      · rw [if_neg (fun q => by
          have := (nI_leI (a := m) (b := 0) (by omega) (by omega)).mp c2
          omega)]
        exact Rn.r 1 (fun _ => rfl) ⟨rfl, rfl⟩
      · rw [if_pos ⟨rfl, by
          rcases Nat.eq_zero_or_pos m with q | q
          · exact absurd (by rw [q]; decide) c2
          · exact q⟩]
        refine Rn.cd 3 (fun _ => rfl) (m_votes hv (QOK_eq hP (mLeave_ne S v m 0 (by decide) (by decide) (by decide)))) ?_
        exact Rn.r 1 (fun _ => rfl) ⟨rfl, rfl⟩
    · rw [if_neg (fun q => h0 q.1)]
      refine Rn.b 2 (fun _ => rfl) (fun c2 => ?_) (fun c2 => absurd (nI_ne0 (by omega) (by omega)) c2)
      exact Rn.r 1 (fun _ => rfl) ⟨rfl, rfl⟩
-- comes
def mAdd (S : aS) (v m : Nat) (c r : Int32) : aS := au (au (au S 26 0 (17 * v + m) c) 27 0 (17 * v + m) r) 28 0 v (nI (m + 1))
theorem m_comes1_no {v m : Nat} {c r num : Int32} (hv : v < 60) (hm : S 28 0 v = nI m) (h17 : m ≤ 17) (h : mfnd S v c r m 0 ≠ none ∨ m = 17) : Rn zs (d + 3) 83 (aB 83 0) [(0, .inr (14, 0)), (1, .inl (nI 1)), (2, .inl (nI v)), (3, .inl c), (4, .inl r), (5, .inl num)] [] S (rE none S) := by
  refine Rn.cd 5 (fun _ => rfl) (m_find c r hv hm h17) ?_
  refine Rn.s 4 (fun _ => rfl) ?_
  cases hf : mfnd S v c r m 0 with
  | some p =>
    have hp := mfnd_some hf
    refine Rn.b 3 (fun _ => rfl) (fun c1 => ?_) (fun c1 => absurd (nI_nm1 (p := p) (by omega)) c1)
    refine Rn.s 3 (fun _ => rfl) ?_
    refine Rn.s 3 (fun _ => rfl) ?_
    exact Rn.r 1 (fun _ => rfl) ⟨rfl, rfl⟩
  | none =>
    refine Rn.s 3 (fun _ => rfl) ?_
    refine Rn.g 4 (fun _ => rfl) (by rw [nI_toInt (by omega)]; omega) ?_
    rw [nI_clamp (by omega), hm]
    refine Rn.b 2 (fun _ => rfl) (fun c2 => ?_) (fun c2 => ?_)
    · refine Rn.s 3 (fun _ => rfl) ?_
      refine Rn.s 3 (fun _ => rfl) ?_
      exact Rn.r 1 (fun _ => rfl) ⟨rfl, rfl⟩
    · rcases h with h | h
      · exact absurd hf h
      · exact absurd (by rw [h]; exact nI_le (Nat.le_refl _) (by omega)) c2
theorem m_comes1_add {v m : Nat} {c r num : Int32} (hv : v < 60) (hP : QOK S) (hm : S 28 0 v = nI m) (h17 : m < 17) (hf : mfnd S v c r m 0 = none) : Rn zs (d + 3) 83 (aB 83 0) [(0, .inr (14, 0)), (1, .inl (nI 1)), (2, .inl (nI v)), (3, .inl c), (4, .inl r), (5, .inl num)] [] S (rE none (if m = 0 then mVotes (mAdd S v m c r) v else mAdd S v m c r)) := by
  have e : nI 17 * nI v + nI m = nI (17 * v + m) := by rw [pk_mul, nI_add]
  refine Rn.cd 5 (fun _ => rfl) (m_find c r hv hm (by omega)) ?_
  rw [hf]
  refine Rn.s 4 (fun _ => rfl) ?_
  refine Rn.s 3 (fun _ => rfl) ?_
  refine Rn.g 4 (fun _ => rfl) (by rw [nI_toInt (by omega)]; omega) ?_
  rw [nI_clamp (by omega), hm]
  refine Rn.b 2 (fun _ => rfl) (fun c2 => absurd c2 (nI_ge h17 (by omega))) (fun c2 => ?_)
  refine Rn.g 9 (fun _ => rfl) (by rw [nI_toInt (by omega)]; omega) ?_
  rw [nI_clamp (by omega), hm]
  refine Rn.g 3 (fun _ => rfl) (by rw [e, nI_toInt (by omega)]; omega) ?_
  rw [e, nI_clamp (by omega)]
  refine Rn.g 9 (fun _ => rfl) (by rw [nI_toInt (by omega)]; omega) ?_
  rw [nI_clamp (by omega), show au S 26 0 (17 * v + m) c 28 0 v = nI m by simp [au, hm]]
  refine Rn.g 3 (fun _ => rfl) (by rw [e, nI_toInt (by omega)]; omega) ?_
  rw [e, nI_clamp (by omega)]
  refine Rn.g 5 (fun _ => rfl) (by rw [nI_toInt (by omega)]; omega) ?_
  rw [nI_clamp (by omega), show au (au S 26 0 (17 * v + m) c) 27 0 (17 * v + m) r 28 0 v = nI m by simp [au, hm]]
  refine Rn.g 3 (fun _ => rfl) (by rw [nI_toInt (by omega)]; omega) ?_
  rw [nI_clamp (by omega), nI_add]
  refine Rn.g 4 (fun _ => rfl) (by rw [nI_toInt (by omega)]; omega) ?_
  rw [nI_clamp (by omega), show au (au (au S 26 0 (17 * v + m) c) 27 0 (17 * v + m) r) 28 0 v (nI (m + 1)) 28 0 v = nI (m + 1) by simp [au]]
  refine Rn.b 2 (fun _ => rfl) (fun c3 => ?_) (fun c3 => ?_)
  · rw [if_neg (fun q => c3 (by rw [q]))]
    exact Rn.r 1 (fun _ => rfl) ⟨rfl, rfl⟩
  · rw [if_pos (by
      have := (nI_eq (by omega) (by omega)).mp (Classical.byContradiction c3)
      omega)]
    refine Rn.cd 3 (fun _ => rfl) (m_votes (S := mAdd S v m c r) hv (QOK_eq hP (by simp [mAdd, au]))) ?_
    exact Rn.r 2 (fun _ => rfl) ⟨rfl, rfl⟩
theorem m_comes3_no {v m : Nat} {c r num : Int32} (hv : v < 60) (hm : S 28 0 v = nI m) (h17 : m ≤ 17) (h : mfnd S v c r m 0 ≠ some 0) : Rn zs (d + 3) 83 (aB 83 0) [(0, .inr (14, 0)), (1, .inl (nI 3)), (2, .inl (nI v)), (3, .inl c), (4, .inl r), (5, .inl num)] [] S (rE none S) := by
  refine Rn.cd 5 (fun _ => rfl) (m_find c r hv hm h17) ?_
  refine Rn.s 4 (fun _ => rfl) ?_
  refine Rn.s 3 (fun _ => rfl) ?_
  have hne : ¬ oI (mfnd S v c r m 0) = 0 := by
    cases hf : mfnd S v c r m 0 with
    | some p =>
      have hp := mfnd_some hf
      exact nI_ne0 (by
        rcases Nat.eq_zero_or_pos p with q | q
        · exact absurd (by rw [hf, q]) h
        · exact q) (by omega)
    | none => exact (by decide : ¬ (-1 : Int32) = 0)
  refine Rn.b 2 (fun _ => rfl) (fun c1 => ?_) (fun c1 => absurd hne c1)
  refine Rn.s 3 (fun _ => rfl) ?_
  exact Rn.r 1 (fun _ => rfl) ⟨rfl, rfl⟩
theorem m_comes3 {v m : Nat} {c r num : Int32} (hv : v < 60) (hP : QOK S) (hm : S 28 0 v = nI m) (h17 : m ≤ 17) (h : mfnd S v c r m 0 = some 0) : Rn zs (d + 3) 83 (aB 83 0) [(0, .inr (14, 0)), (1, .inl (nI 3)), (2, .inl (nI v)), (3, .inl c), (4, .inl r), (5, .inl num)] [] S (rE none (mSend (au S 29 0 v (if num ≤ S 29 0 v then S 29 0 v else num)) (nI 4) c (nI (v % 4)) r (nI (v / 4)) (nI 0) (nI 0))) := by
  refine Rn.cd 5 (fun _ => rfl) (m_find c r hv hm h17) ?_
  rw [h]
  refine Rn.s 4 (fun _ => rfl) ?_
  refine Rn.s 3 (fun _ => rfl) ?_
  refine Rn.s 2 (fun _ => rfl) ?_
  have fin : ∀ x : Int32, x = (if num ≤ S 29 0 v then S 29 0 v else num) → Rn zs (d + 3) 83 ((aB 83 132)) [(0, .inr (14, 0)), (1, .inl (nI 3)), (2, .inl (nI v)), (3, .inl c), (4, .inl r), (5, .inl num), (6, .inl (nI 0))] [.inl x, .inl (nI v), .inr (29, 0)] S (rE none (mSend (au S 29 0 v (if num ≤ S 29 0 v then S 29 0 v else num)) (nI 4) c (nI (v % 4)) r (nI (v / 4)) (nI 0) (nI 0))) := by
    intro x hx
    subst hx
    refine Rn.g 1 (fun _ => rfl) (by rw [nI_toInt (by omega)]; omega) ?_
    rw [nI_clamp (by omega)]
    refine Rn.s 6 (fun _ => rfl) ?_
    rw [pk_rem (a := v) (d := 4) (by omega) (by omega) (by omega)]
    refine Rn.s 4 (fun _ => rfl) ?_
    rw [pk_div (a := v) (d := 4) (by omega) (by omega) (by omega)]
    refine Rn.cd 3 (fun _ => rfl) (m_send (QOK_au hP (by decide)) (nI 4) c (nI (v % 4)) r (nI (v / 4)) (nI 0) (nI 0)) ?_
    exact Rn.r 2 (fun _ => rfl) ⟨rfl, rfl⟩
  refine Rn.g 8 (fun _ => rfl) (by rw [nI_toInt (by omega)]; omega) ?_
  rw [nI_clamp (by omega)]
  refine Rn.b 1 (fun _ => rfl) (fun c1 => ?_) (fun c1 => ?_)
  · refine Rn.g 4 (fun _ => rfl) (by rw [nI_toInt (by omega)]; omega) ?_
    rw [nI_clamp (by omega)]
    exact fin _ (by rw [if_pos c1])
  · refine Rn.s 2 (fun _ => rfl) ?_
    exact fin _ (by rw [if_neg c1])
theorem m_comes5 {v m κ : Nat} {c r num : Int32} {T : aS} (hκ : κ = 5 ∨ κ = 6) (hv : v < 60) (hm : S 28 0 v = nI m) (h17 : m ≤ 17) (hs : Rn zs (d + 2) 86 (aB 86 0) [(0, .inr (14, 0)), (1, .inl (nI v)), (2, .inl c), (3, .inl r)] [] S (rE none T)) : Rn zs (d + 3) 83 (aB 83 0) [(0, .inr (14, 0)), (1, .inl (nI κ)), (2, .inl (nI v)), (3, .inl c), (4, .inl r), (5, .inl num)] [] S (rE none T) := by
  refine Rn.cd 5 (fun _ => rfl) (m_find c r hv hm h17) ?_
  rcases hκ with rfl | rfl
  all_goals
    refine Rn.s 4 (fun _ => rfl) ?_
    refine Rn.s 3 (fun _ => rfl) ?_
    refine Rn.s 3 (fun _ => rfl) ?_
    refine Rn.cd 5 (fun _ => rfl) hs ?_
    exact Rn.r 1 (fun _ => rfl) ⟨rfl, rfl⟩
end MD
