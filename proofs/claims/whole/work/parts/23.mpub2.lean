/-! THE REFERENCE: told, obeys, deliver, breakPermit, copy -/
def mTold1 (S : aS) (q a : Nat) (num : Int32) : aS := au (au S 21 0 q (S 21 0 q ||| (nI 1 <<< (nI a &&& 31)))) 25 0 (15 * q + a) num
def mSto (S : aS) (q : Nat) (arb : Int32) : aS := au (au S 23 0 q (S 23 0 q ||| ((nI 1 <<< (arb &&& 31)) &&& S 22 0 q))) 17 0 q (if S 23 0 q ||| ((nI 1 <<< (arb &&& 31)) &&& S 22 0 q) = S 22 0 q then nI 3 else nI 2)
def mObey (S : aS) (r : Nat) (a b : Int32) (n : Nat) : aS := au (au (au (au S 30 0 r a) 33 0 (64 * r + n % 64) a) 34 0 (64 * r + n % 64) b) 32 0 r (nI (n + 1))
def mCom (S : aS) (i K : Nat) : aS := fun t j f => if t = 36 ∧ j = 0 ∧ f < K then S 35 0 (8 * i + f) else S t j f
theorem mCom_ne (S : aS) (i K : Nat) {t j f : Nat} (h : t ≠ 36) : mCom S i K t j f = S t j f := by unfold mCom; rw [if_neg (fun q => h q.1)]
theorem mCom_0 (S : aS) (i : Nat) : mCom S i 0 = S := by
  funext t j f
  unfold mCom
  rw [if_neg (by omega)]
theorem mCom_step (S : aS) (i K : Nat) : au (mCom S i K) 36 0 K (S 35 0 (8 * i + K)) = mCom S i (K + 1) := by
  funext t j f
  unfold au mCom
  by_cases h1 : t = 36 ∧ j = 0 ∧ f = K
  · obtain ⟨rfl, rfl, rfl⟩ := h1
    rw [if_pos ⟨rfl, rfl, rfl⟩, if_pos ⟨rfl, rfl, by omega⟩]
  · rw [if_neg h1]
    by_cases h2 : t = 36 ∧ j = 0 ∧ f < K
    · rw [if_pos h2, if_pos ⟨h2.1, h2.2.1, by omega⟩]
    · rw [if_neg h2, if_neg (fun q => h2 ⟨q.1, q.2.1, by
        have : f ≠ K := fun e => h1 ⟨q.1, q.2.1, e⟩
        omega⟩)]
def mCpy (S : aS) (n i K : Nat) : aS := fun t j f => if t = 35 ∧ j = 0 ∧ 8 * n ≤ f ∧ f < 8 * n + K then S 35 0 (8 * i + (f - 8 * n)) else S t j f
theorem mCpy_ne (S : aS) (n i K : Nat) {t j f : Nat} (h : t ≠ 35) : mCpy S n i K t j f = S t j f := by unfold mCpy; rw [if_neg (fun q => h q.1)]
theorem mCpy_0 (S : aS) (n i : Nat) : mCpy S n i 0 = S := by
  funext t j f
  unfold mCpy
  rw [if_neg (by omega)]
theorem mCpy_step (S : aS) {n i K : Nat} (hi : i < n) (hK : K < 8) : au (mCpy S n i K) 35 0 (8 * n + K) (mCpy S n i K 35 0 (8 * i + K)) = mCpy S n i (K + 1) := by
  have e : mCpy S n i K 35 0 (8 * i + K) = S 35 0 (8 * i + K) := by unfold mCpy; rw [if_neg (by omega)]
  rw [e]
  funext t j f
  unfold au mCpy
  by_cases h1 : t = 35 ∧ j = 0 ∧ f = 8 * n + K
  · obtain ⟨rfl, rfl, rfl⟩ := h1
    rw [if_pos ⟨rfl, rfl, rfl⟩, if_pos ⟨rfl, rfl, by omega, by omega⟩, show 8 * n + K - 8 * n = K by omega]
  · rw [if_neg h1]
    by_cases h2 : t = 35 ∧ j = 0 ∧ 8 * n ≤ f ∧ f < 8 * n + K
    · rw [if_pos h2, if_pos ⟨h2.1, h2.2.1, h2.2.2.1, by omega⟩]
    · rw [if_neg h2, if_neg (fun q => h2 ⟨q.1, q.2.1, q.2.2.1, by
        have : f ≠ 8 * n + K := fun e => h1 ⟨q.1, q.2.1, e⟩
        omega⟩)]
def bpG (S : aS) (r : Nat) (num : Int32) : Nat → Nat → Option Nat
  | 0, _ => none
  | m + 1, c => if S 17 0 (4 * c + r) = nI 3 ∧ S 24 0 (4 * c + r) = num then some c else bpG S r num m (c + 1)
def mBreak (S : aS) (c r : Nat) (num : Int32) : aS := mSend (mSA (4 * c + r) (nI 6) (nI 32767) num 15 0 (au S 17 0 (4 * c + r) (nI 4))) (nI 7) (nI c) (nI r) (S 18 0 (4 * c + r)) (-1) num (nI 0)
section M2
variable {zs : Nat × (Nat → Int32)} {d : Nat} {S : aS}
theorem m_told_head {q : Nat} {kind r arb num : Int32} {Q : Option aV → aS → Prop} (hq : q < 32) (K1 : (S 17 0 q = 0 ∨ S 18 0 q ≠ r) → Rn zs (d + 4) 81 ((aB 81 24).drop 1) [(0, .inr (14, 0)), (1, .inl kind), (2, .inl (nI q)), (3, .inl r), (4, .inl arb), (5, .inl num), (6, .inl (nI 1))] [] S Q) (K0 : ¬ (S 17 0 q = 0 ∨ S 18 0 q ≠ r) → Rn zs (d + 4) 81 ((aB 81 24).drop 1) [(0, .inr (14, 0)), (1, .inl kind), (2, .inl (nI q)), (3, .inl r), (4, .inl arb), (5, .inl num), (6, .inl (nI 0))] [] S Q) : Rn zs (d + 4) 81 (aB 81 0) [(0, .inr (14, 0)), (1, .inl kind), (2, .inl (nI q)), (3, .inl r), (4, .inl arb), (5, .inl num)] [] S Q := by
  refine Rn.g 4 (fun _ => rfl) (by rw [nI_toInt (by omega)]; omega) ?_
  rw [nI_clamp (by omega)]
  refine Rn.b 1 (fun _ => rfl) (fun c1 => ?_) (fun c1 => ?_)
  · refine Rn.s 3 (fun _ => rfl) ?_
    exact K1 (Or.inl c1)
  · refine Rn.g 4 (fun _ => rfl) (by rw [nI_toInt (by omega)]; omega) ?_
    rw [nI_clamp (by omega)]
    refine Rn.b 2 (fun _ => rfl) (fun c2 => ?_) (fun c2 => ?_)
    · refine Rn.s 2 (fun _ => rfl) ?_
      exact K0 (fun z => z.elim c1 (fun z => z c2))
    · refine Rn.s 3 (fun _ => rfl) ?_
      exact K1 (Or.inr c2)
theorem m_told_late {q : Nat} {r arb num : Int32} (hq : q < 32) (hP : QOK S) (h : S 17 0 q = 0 ∨ S 18 0 q ≠ r) : Rn zs (d + 4) 81 (aB 81 0) [(0, .inr (14, 0)), (1, .inl (nI 2)), (2, .inl (nI q)), (3, .inl r), (4, .inl arb), (5, .inl num)] [] S (rE none (mSend S (nI 5) (nI (q / 4)) (nI (q % 4)) r arb (nI 0) (nI 0))) := by
  refine m_told_head hq (fun _ => ?_) (fun z => absurd h z)
  refine Rn.s 3 (fun _ => rfl) ?_
  refine Rn.s 2 (fun _ => rfl) ?_
  refine Rn.s 8 (fun _ => rfl) ?_
  rw [pk_rem (a := q) (d := 4) (by omega) (by omega) (by omega), pk_div (a := q) (d := 4) (by omega) (by omega) (by omega)]
  refine Rn.cd 5 (fun _ => rfl) (m_send hP (nI 5) (nI (q / 4)) (nI (q % 4)) r arb (nI 0) (nI 0)) ?_
  exact Rn.r 2 (fun _ => rfl) ⟨rfl, rfl⟩
theorem m_told_other {q : Nat} {r arb num : Int32} (hq : q < 32) (h : ¬ (S 17 0 q = 0 ∨ S 18 0 q ≠ r)) (h1 : S 17 0 q ≠ nI 1) : Rn zs (d + 4) 81 (aB 81 0) [(0, .inr (14, 0)), (1, .inl (nI 2)), (2, .inl (nI q)), (3, .inl r), (4, .inl arb), (5, .inl num)] [] S (rE none S) := by
  refine m_told_head hq (fun z => absurd z h) (fun _ => ?_)
  refine Rn.s 3 (fun _ => rfl) ?_
  refine Rn.s 2 (fun _ => rfl) ?_
  refine Rn.s 3 (fun _ => rfl) ?_
  refine Rn.g 4 (fun _ => rfl) (by rw [nI_toInt (by omega)]; omega) ?_
  rw [nI_clamp (by omega)]
  refine Rn.b 2 (fun _ => rfl) (fun c1 => ?_) (fun c1 => absurd h1 c1)
  refine Rn.s 3 (fun _ => rfl) ?_
  exact Rn.r 1 (fun _ => rfl) ⟨rfl, rfl⟩
theorem m_told_ask {q a : Nat} {r num : Int32} (hq : q < 32) (ha : a < 15) (hP : QOK S) (h : ¬ (S 17 0 q = 0 ∨ S 18 0 q ≠ r)) (h1 : S 17 0 q = nI 1) : Rn zs (d + 4) 81 (aB 81 0) [(0, .inr (14, 0)), (1, .inl (nI 2)), (2, .inl (nI q)), (3, .inl r), (4, .inl (nI a)), (5, .inl num)] [] S (rE none (mWrites (mTold1 S q a num) q)) := by
  have e : nI 15 * nI q + nI a = nI (15 * q + a) := by rw [pk_mul, nI_add]
  refine m_told_head hq (fun z => absurd z h) (fun _ => ?_)
  refine Rn.s 3 (fun _ => rfl) ?_
  refine Rn.s 2 (fun _ => rfl) ?_
  refine Rn.s 3 (fun _ => rfl) ?_
  refine Rn.g 4 (fun _ => rfl) (by rw [nI_toInt (by omega)]; omega) ?_
  rw [nI_clamp (by omega)]
  refine Rn.b 2 (fun _ => rfl) (fun c1 => absurd h1 c1) (fun c1 => ?_)
  refine Rn.g 5 (fun _ => rfl) (by rw [nI_toInt (by omega)]; omega) ?_
  rw [nI_clamp (by omega)]
  refine Rn.g 5 (fun _ => rfl) (by rw [nI_toInt (by omega)]; omega) ?_
  rw [nI_clamp (by omega)]
  refine Rn.g 9 (fun _ => rfl) (by rw [e, nI_toInt (by omega)]; omega) ?_
  rw [e, nI_clamp (by omega)]
  refine Rn.cd 3 (fun _ => rfl) (m_writes (S := mTold1 S q a num) hq (QOK_au (QOK_au hP (by decide)) (by decide))) ?_
  exact Rn.r 2 (fun _ => rfl) ⟨rfl, rfl⟩
theorem m_told_sno {q : Nat} {r arb num : Int32} (hq : q < 32) (h : (S 17 0 q = 0 ∨ S 18 0 q ≠ r) ∨ S 17 0 q ≠ nI 2) : Rn zs (d + 4) 81 (aB 81 0) [(0, .inr (14, 0)), (1, .inl (nI 4)), (2, .inl (nI q)), (3, .inl r), (4, .inl arb), (5, .inl num)] [] S (rE none S) := by
  refine m_told_head hq (fun _ => ?_) (fun h0 => ?_)
  · refine Rn.s 3 (fun _ => rfl) ?_
    refine Rn.s 3 (fun _ => rfl) ?_
    refine Rn.s 3 (fun _ => rfl) ?_
    refine Rn.s 2 (fun _ => rfl) ?_
    exact Rn.r 1 (fun _ => rfl) ⟨rfl, rfl⟩
  · refine Rn.s 3 (fun _ => rfl) ?_
    refine Rn.s 3 (fun _ => rfl) ?_
    refine Rn.s 3 (fun _ => rfl) ?_
    refine Rn.s 2 (fun _ => rfl) ?_
    refine Rn.g 4 (fun _ => rfl) (by rw [nI_toInt (by omega)]; omega) ?_
    rw [nI_clamp (by omega)]
    refine Rn.b 2 (fun _ => rfl) (fun c1 => ?_) (fun c1 => absurd (h.resolve_left h0) c1)
    exact Rn.r 1 (fun _ => rfl) ⟨rfl, rfl⟩
theorem m_told_sto {q : Nat} {r arb num : Int32} (hq : q < 32) (h : ¬ (S 17 0 q = 0 ∨ S 18 0 q ≠ r)) (h2 : S 17 0 q = nI 2) : Rn zs (d + 4) 81 (aB 81 0) [(0, .inr (14, 0)), (1, .inl (nI 4)), (2, .inl (nI q)), (3, .inl r), (4, .inl arb), (5, .inl num)] [] S (rE none (mSto S q arb)) := by
  refine m_told_head hq (fun z => absurd z h) (fun _ => ?_)
  refine Rn.s 3 (fun _ => rfl) ?_
  refine Rn.s 3 (fun _ => rfl) ?_
  refine Rn.s 3 (fun _ => rfl) ?_
  refine Rn.s 2 (fun _ => rfl) ?_
  refine Rn.g 4 (fun _ => rfl) (by rw [nI_toInt (by omega)]; omega) ?_
  rw [nI_clamp (by omega)]
  refine Rn.b 2 (fun _ => rfl) (fun c1 => absurd h2 c1) (fun c1 => ?_)
  refine Rn.g 5 (fun _ => rfl) (by rw [nI_toInt (by omega)]; omega) ?_
  rw [nI_clamp (by omega)]
  refine Rn.g 7 (fun _ => rfl) (by rw [nI_toInt (by omega)]; omega) ?_
  rw [nI_clamp (by omega)]
  refine Rn.g 3 (fun _ => rfl) (by rw [nI_toInt (by omega)]; omega) ?_
  rw [nI_clamp (by omega)]
  have e23 : au S 23 0 q (S 23 0 q ||| nI 1 <<< (arb &&& 31) &&& S 22 0 q) 23 0 q = S 23 0 q ||| nI 1 <<< (arb &&& 31) &&& S 22 0 q := by simp [au]
  have e22 : au S 23 0 q (S 23 0 q ||| nI 1 <<< (arb &&& 31) &&& S 22 0 q) 22 0 q = S 22 0 q := by simp [au]
  refine Rn.g 7 (fun _ => rfl) (by rw [nI_toInt (by omega)]; omega) ?_
  rw [nI_clamp (by omega), e23]
  refine Rn.g 4 (fun _ => rfl) (by rw [nI_toInt (by omega)]; omega) ?_
  rw [nI_clamp (by omega), e22]
  unfold mSto
  refine Rn.b 1 (fun _ => rfl) (fun c2 => ?_) (fun c2 => ?_)
  · rw [if_neg c2]
    refine Rn.g 2 (fun _ => rfl) (by rw [nI_toInt (by omega)]; omega) ?_
    rw [nI_clamp (by omega)]
    exact Rn.r 1 (fun _ => rfl) ⟨rfl, rfl⟩
  · rw [if_pos (Classical.byContradiction c2)]
    refine Rn.g 3 (fun _ => rfl) (by rw [nI_toInt (by omega)]; omega) ?_
    rw [nI_clamp (by omega)]
    exact Rn.r 1 (fun _ => rfl) ⟨rfl, rfl⟩
theorem m_obeys_no {r : Nat} {a b : Int32} (hr : r < 4) (h : a < S 30 0 r ∨ a ≤ S 31 0 r) : Rn zs (d + 1) 82 (aB 82 0) [(0, .inr (14, 0)), (1, .inl (nI r)), (2, .inl a), (3, .inl b)] [] S (rE none S) := by
  refine Rn.g 5 (fun _ => rfl) (by rw [nI_toInt (by omega)]; omega) ?_
  rw [nI_clamp (by omega)]
  refine Rn.b 1 (fun _ => rfl) (fun c1 => ?_) (fun c1 => ?_)
  · exact Rn.r 1 (fun _ => rfl) ⟨rfl, rfl⟩
  · refine Rn.g 5 (fun _ => rfl) (by rw [nI_toInt (by omega)]; omega) ?_
    rw [nI_clamp (by omega)]
    refine Rn.b 1 (fun _ => rfl) (fun c2 => ?_) (fun c2 => ?_)
    · exact absurd h (fun q => q.elim c1 (Int32.not_le.mpr c2))
    · exact Rn.r 1 (fun _ => rfl) ⟨rfl, rfl⟩
theorem m_obeys {r n : Nat} {a b : Int32} (hr : r < 4) (h1 : ¬ a < S 30 0 r) (h2 : ¬ a ≤ S 31 0 r) (hn : S 32 0 r = nI n) (hn2 : n < 2 ^ 30) : Rn zs (d + 1) 82 (aB 82 0) [(0, .inr (14, 0)), (1, .inl (nI r)), (2, .inl a), (3, .inl b)] [] S (rE none (mObey S r a b n)) := by
  have e := pk_rem (a := n) (d := 64) (by omega) (by omega) (by omega)
  have hm : n % 64 < 64 := Nat.mod_lt _ (by omega)
  refine Rn.g 5 (fun _ => rfl) (by rw [nI_toInt (by omega)]; omega) ?_
  rw [nI_clamp (by omega)]
  refine Rn.b 1 (fun _ => rfl) (fun c1 => absurd c1 h1) (fun c1 => ?_)
  refine Rn.g 5 (fun _ => rfl) (by rw [nI_toInt (by omega)]; omega) ?_
  rw [nI_clamp (by omega)]
  refine Rn.b 1 (fun _ => rfl) (fun c2 => ?_) (fun c2 => absurd (Int32.not_le.mp h2) c2)
  refine Rn.g 5 (fun _ => rfl) (by rw [nI_toInt (by omega)]; omega) ?_
  rw [nI_clamp (by omega)]
  refine Rn.g 7 (fun _ => rfl) (by rw [nI_toInt (by omega)]; omega) ?_
  rw [nI_clamp (by omega), show au S 30 0 r a 32 0 r = nI n by simp [au, hn]]
  refine Rn.s 4 (fun _ => rfl) ?_
  rw [e, pk_mul, nI_add]
  refine Rn.g 5 (fun _ => rfl) (by rw [nI_toInt (by omega)]; omega) ?_
  rw [nI_clamp (by omega)]
  refine Rn.g 5 (fun _ => rfl) (by rw [nI_toInt (by omega)]; omega) ?_
  rw [nI_clamp (by omega)]
  refine Rn.g 5 (fun _ => rfl) (by rw [nI_toInt (by omega)]; omega) ?_
  rw [nI_clamp (by omega), show au (au (au S 30 0 r a) 33 0 (64 * r + n % 64) a) 34 0 (64 * r + n % 64) b 32 0 r = nI n by simp [au, hn]]
  refine Rn.g 3 (fun _ => rfl) (by rw [nI_toInt (by omega)]; omega) ?_
  rw [nI_clamp (by omega), nI_add]
  exact Rn.r 1 (fun _ => rfl) ⟨rfl, rfl⟩
-- deliver
theorem m_deliver_no {a : Int32} (hP : QOK S) (h : outc a (qn S)) : Rn zs (d + 8) 79 (aB 79 0) [(0, .inr (14, 0)), (1, .inl a)] [] S (rE (some (.inl (nI 0))) (mTh S)) := by
  refine Rn.cd 6 (fun _ => rfl) (m_isLetter_no (S := mTh S) (mTh_qok hP) (by rw [mTh_qn]; exact h)) ?_
  exact Rn.r 3 (fun _ => rfl) ⟨rfl, rfl⟩
theorem m_com_loop {i : Nat} {T : aS} {Q : Option aV → aS → Prop} (hi : i < 240) (K : ∀ x2 : Int32, Rn zs (d + 8) 79 (aB 79 46) [(0, .inr (14, 0)), (1, .inl (nI i)), (2, .inl x2)] [] (mCom T i 8) Q) : ∀ (m k : Nat), k + m = 8 → Rn zs (d + 8) 79 (aB 79 17) [(0, .inr (14, 0)), (1, .inl (nI i)), (2, .inl (nI k))] [] (mCom T i k) Q
  | 0, k, h => by
    refine Rn.b 3 (fun _ => rfl) (fun c1 => ?_) (fun c1 => absurd (nI_le (by omega) (by omega)) c1)
    rw [show k = 8 by omega]
    exact K _
  | m + 1, k, h => by
    have e : nI 8 * nI i + nI k = nI (8 * i + k) := by rw [pk_mul, nI_add]
    refine Rn.b 3 (fun _ => rfl) (fun c1 => absurd c1 (nI_ge (by omega) (by omega))) (fun c1 => ?_)
    refine Rn.g 11 (fun _ => rfl) (by rw [e, nI_toInt (by omega)]; omega) ?_
    rw [e, nI_clamp (by omega), mCom_ne T i k (by decide)]
    refine Rn.g 1 (fun _ => rfl) (by rw [nI_toInt (by omega)]; omega) ?_
    rw [nI_clamp (by omega), mCom_step]
    refine Rn.s 2 (fun _ => rfl) ?_
    rw [nI_add]
    exact m_com_loop hi K m (k + 1) (by omega)
/-- the cells behind the letter's leaving -/
def mX (S : aS) (n i : Nat) : aS := mRem (mCom (mTh S) i 8) n i
theorem mX_36 (S : aS) (n i : Nat) {k : Nat} (hk : k < 8) : mX S n i 36 0 k = S 35 0 (8 * i + k) := by
  unfold mX
  rw [mRem_ne _ _ _ (by decide) (by decide)]
  unfold mCom
  rw [if_pos ⟨rfl, rfl, hk⟩, mTh_ne S (by decide)]
theorem m_deliver_head {n i : Nat} {Q : Option aV → aS → Prop} (hn : S 14 0 21 = nI (n + 1)) (h240 : n + 1 ≤ 240) (hi : i ≤ n) (K : Rn zs (d + 8) 79 ((aB 79 46).drop 18) [(0, .inr (14, 0)), (1, .inl (nI i)), (2, .inl (S 35 0 (8 * i + 0))), (3, .inl (S 35 0 (8 * i + 2))), (4, .inl (S 35 0 (8 * i + 5)))] [] (mX S n i) Q) : Rn zs (d + 8) 79 (aB 79 0) [(0, .inr (14, 0)), (1, .inl (nI i))] [] S Q := by
  have hp := qn_of hn h240
  refine Rn.cd 6 (fun _ => rfl) (m_isLetter (S := mTh S) (mTh_qok hp.2) (by rw [mTh_qn, hp.1]; omega)) ?_
  refine Rn.s 1 (fun _ => rfl) ?_
  refine Rn.s 2 (fun _ => rfl) ?_
  have hl := m_com_loop (zs := zs) (d := d) (T := mTh S) (i := i) (Q := Q) (by omega) ?_ 8 0 rfl
  · rw [mCom_0] at hl
    exact hl
  · intro x2
    refine Rn.cd 3 (fun _ => rfl) (m_remove (S := mCom (mTh S) i 8) (n := n) (i := i) (by rw [mCom_ne _ _ _ (by decide), mTh_l]; exact hn) h240 hi) ?_
    have e0 := mX_36 S n i (k := 0) (by omega)
    have e2 := mX_36 S n i (k := 2) (by omega)
    have e5 := mX_36 S n i (k := 5) (by omega)
    refine Rn.s 4 (fun _ => rfl) ?_
    rw [show (nI 0).toNatClampNeg = 0 by decide, show mRem (mCom (mTh S) i 8) n i 36 0 0 = S 35 0 (8 * i + 0) from e0]
    refine Rn.s 5 (fun _ => rfl) ?_
    rw [show (nI 2).toNatClampNeg = 2 by decide, show mRem (mCom (mTh S) i 8) n i 36 0 2 = S 35 0 (8 * i + 2) from e2]
    refine Rn.s 5 (fun _ => rfl) ?_
    rw [show (nI 5).toNatClampNeg = 5 by decide, show mRem (mCom (mTh S) i 8) n i 36 0 5 = S 35 0 (8 * i + 5) from e5]
    refine Rn.s 1 (fun _ => rfl) ?_
    exact K
end M2
