/-! THE REFERENCE: letters to all, writes, asks, ends; want, timeout, giveUp, release, order -/
def mSA (q : Nat) (kind set num : Int32) : Nat → Nat → aS → aS
  | 0, _, S => S
  | m + 1, k, S => mSA q kind set num m (k + 1) (if bt set (nI k) = 0 then S else mSend S kind (nI (q / 4)) (nI (q % 4)) (S 18 0 q) (nI k) num (nI 0))
theorem mSA_ne (q : Nat) (kind set num : Int32) {t j i : Nat} (h3 : t ≠ 35) (h2 : t ≠ 14) : ∀ (m k : Nat) (S : aS), mSA q kind set num m k S t j i = S t j i
  | 0, _, _ => rfl
  | m + 1, k, S => by
    unfold mSA
    rw [mSA_ne q kind set num h3 h2 m]
    split
    · rfl
    · exact mSend_ne S _ _ _ _ _ _ _ h3 h2
theorem mSA_qok (q : Nat) (kind set num : Int32) : ∀ (m k : Nat) (S : aS), QOK S → QOK (mSA q kind set num m k S)
  | 0, _, _, h => h
  | m + 1, k, S, h => by
    unfold mSA
    refine mSA_qok q kind set num m _ _ ?_
    split
    · exact h
    · exact mSend_qok h _ _ _ _ _ _ _
/-- the greatest told number, from arbiter a on -/
def mMx (S : aS) (q : Nat) : Nat → Nat → Int32 → Int32
  | 0, _, n => n
  | m + 1, a, n => mMx S q m (a + 1) (if bt (S 21 0 q) (nI a) = 0 then n else if S 25 0 (15 * q + a) ≤ n then n else S 25 0 (15 * q + a))
def mWr1 (S : aS) (q : Nat) (set n : Int32) : aS := au (au (au (au S 17 0 q (nI 2)) 22 0 q set) 23 0 q (nI 0)) 24 0 q (n + nI 1)
def mWrites (S : aS) (q : Nat) : aS := if ry (S 19 0 q) 0 = -1 ∨ S 21 0 q &&& ry (S 19 0 q) 0 ≠ ry (S 19 0 q) 0 then mRt S (S 19 0 q) 0 else mSA q (nI 3) (ry (S 19 0 q) 0) (mMx S q 15 0 (nI 0) + nI 1) 15 0 (mWr1 (mRt S (S 19 0 q) 0) q (ry (S 19 0 q) 0) (mMx S q 15 0 (nI 0)))
def mAsk1 (S : aS) (q : Nat) : aS := au (mRt S (S 19 0 q) 0) 20 0 q (S 20 0 q ||| (ry (S 19 0 q) 0 &&& (S 20 0 q ^^^ -1)))
def mAsks (S : aS) (q : Nat) : aS := if ry (S 19 0 q) 0 = -1 then mRt S (S 19 0 q) 0 else mWrites (mSA q (nI 1) (ry (S 19 0 q) 0 &&& (S 20 0 q ^^^ -1)) (nI 0) 15 0 (mAsk1 S q)) q
def mEnds (S : aS) (q : Nat) : aS := au (mSA q (nI 5) (S 20 0 q) (nI 0) 15 0 S) 17 0 q (nI 0)
/-- 'thrown = 0' -/
def mTh (S : aS) : aS := au S 14 0 0 (nI 0)
theorem mTh_ne (S : aS) {t j i : Nat} (h : t ≠ 14) : mTh S t j i = S t j i := by simp [mTh, au, h]
theorem mTh_l (S : aS) : mTh S 14 0 21 = S 14 0 21 := by simp [mTh, au]
theorem mTh_qok {S : aS} (h : QOK S) : QOK (mTh S) := QOK_eq h (mTh_l S)
theorem mRt_qok {S : aS} (h : QOK S) (s : Int32) (k : Nat) : QOK (mRt S s k) := QOK_eq h (mRt_ne S s k (by decide))
section MT
variable {zs : Nat × (Nat → Int32)} {d : Nat} {S : aS}
theorem m_sendAll_loop {q : Nat} {kind set num : Int32} (hq : q < 32) : ∀ (m k : Nat) (S : aS), k + m = 15 → QOK S → Rn zs (d + 1) 64 (aB 64 3) [(0, .inr (14, 0)), (1, .inl kind), (2, .inl (nI q)), (3, .inl set), (4, .inl num), (5, .inl (nI k))] [] S (rE none (mSA q kind set num m k S))
  | 0, k, S, h, hP => by
    refine Rn.b 3 (fun _ => rfl) (fun c1 => ?_) (fun c1 => absurd (nI_le (by omega) (by omega)) c1)
    exact Rn.r 1 (fun _ => rfl) ⟨rfl, rfl⟩
  | m + 1, k, S, h, hP => by
    refine Rn.b 3 (fun _ => rfl) (fun c1 => absurd c1 (nI_ge (by omega) (by omega))) (fun c1 => ?_)
    unfold mSA
    refine Rn.b 7 (fun _ => rfl) (fun c2 => ?_) (fun c2 => ?_)
    · have hb : bt set (nI k) = 0 := (bt01 set (nI k)).resolve_right c2
      rw [if_pos hb]
      refine Rn.s 2 (fun _ => rfl) ?_
      rw [nI_add]
      exact m_sendAll_loop hq m (k + 1) S (by omega) hP
    · have hb : ¬ bt set (nI k) = 0 := bt_one (Classical.byContradiction c2)
      rw [if_neg hb]
      refine Rn.s 8 (fun _ => rfl) ?_
      rw [pk_rem (a := q) (d := 4) (by omega) (by omega) (by omega), pk_div (a := q) (d := 4) (by omega) (by omega) (by omega)]
      refine Rn.g 4 (fun _ => rfl) (by rw [nI_toInt (by omega)]; omega) ?_
      rw [nI_clamp (by omega)]
      refine Rn.cd 4 (fun _ => rfl) (m_send hP kind (nI (q / 4)) (nI (q % 4)) (S 18 0 q) (nI k) num (nI 0)) ?_
      refine Rn.s 2 (fun _ => rfl) ?_
      rw [nI_add]
      exact m_sendAll_loop hq m (k + 1) _ (by omega) (mSend_qok hP _ _ _ _ _ _ _)
theorem m_sendAll {q : Nat} (kind set num : Int32) (hq : q < 32) (hP : QOK S) : Rn zs (d + 1) 64 (aB 64 0) [(0, .inr (14, 0)), (1, .inl kind), (2, .inl (nI q)), (3, .inl set), (4, .inl num)] [] S (rE none (mSA q kind set num 15 0 S)) := by
  refine Rn.s 2 (fun _ => rfl) ?_
  exact m_sendAll_loop hq 15 0 S rfl hP
theorem m_max_loop {q : Nat} {s2 : Int32} (hq : q < 32) {Q : Option aV → aS → Prop} (K : ∀ (x4 : Int32) (L : aL) (z : Int32), Rn zs d 66 (aB 66 107) [(0, .inr (14, 0)), (1, .inl (nI q)), (2, .inl s2), (3, .inl (mMx S q 15 0 (nI 0))), (4, .inl x4), (5, .inl z)] [] S Q) : ∀ (m a : Nat) (n : Int32) (L : aL), a + m = 15 → mMx S q m a n = mMx S q 15 0 (nI 0) → ((L = [] ∧ 0 < m) ∨ ∃ z, L = [(5, .inl z)]) → Rn zs d 66 (aB 66 34) ([(0, .inr (14, 0)), (1, .inl (nI q)), (2, .inl s2), (3, .inl n), (4, .inl (nI a))] ++ L) [] S Q
  | 0, a, n, L, h, hm, hL => by
    rcases hL with ⟨-, hz⟩ | ⟨z, rfl⟩
    · exact absurd hz (by omega)
    · refine Rn.b 3 (fun _ => rfl) (fun c1 => ?_) (fun c1 => absurd (nI_le (by omega) (by omega)) c1)
      have e : n = mMx S q 15 0 (nI 0) := hm
      rw [e]
      exact K _ [] z
  | m + 1, a, n, L, h, hm, hL => by
    have e15 : nI 15 * nI q + nI a = nI (15 * q + a) := by rw [pk_mul, nI_add]
    unfold mMx at hm
    have tail : ∀ (b n' : Int32), mMx S q m (a + 1) n' = mMx S q 15 0 (nI 0) → Rn zs d 66 (aB 66 100) [(0, .inr (14, 0)), (1, .inl (nI q)), (2, .inl s2), (3, .inl n), (4, .inl (nI a)), (5, .inl b)] [.inl n'] S Q := fun b n' h' => by
      refine Rn.s 3 (fun _ => rfl) ?_
      rw [nI_add]
      exact m_max_loop hq K m (a + 1) n' [(5, .inl b)] (by omega) h' (Or.inr ⟨_, rfl⟩)
    have at63 : ∀ b : Int32, (b = nI 0 ∧ bt (S 21 0 q) (nI a) = 0 ∨ b = nI 1 ∧ ¬ bt (S 21 0 q) (nI a) = 0) → Rn zs d 66 ((aB 66 61).drop 1) [(0, .inr (14, 0)), (1, .inl (nI q)), (2, .inl s2), (3, .inl n), (4, .inl (nI a)), (5, .inl b)] [] S Q := by
      intro b hb
      rcases hb with ⟨rfl, hb⟩ | ⟨rfl, hb⟩
      · rw [if_pos hb] at hm
        refine Rn.s 2 (fun _ => rfl) ?_
        refine Rn.s 1 (fun _ => rfl) ?_
        exact tail (nI 0) n hm
      · rw [if_neg hb] at hm
        refine Rn.s 2 (fun _ => rfl) ?_
        refine Rn.g 8 (fun _ => rfl) (by rw [e15, nI_toInt (by omega)]; omega) ?_
        rw [e15, nI_clamp (by omega)]
        refine Rn.b 2 (fun _ => rfl) (fun c3 => ?_) (fun c3 => ?_)
        · rw [if_pos c3] at hm
          refine Rn.s 1 (fun _ => rfl) ?_
          exact tail (nI 1) n hm
        · rw [if_neg c3] at hm
          refine Rn.g 8 (fun _ => rfl) (by rw [e15, nI_toInt (by omega)]; omega) ?_
          rw [e15, nI_clamp (by omega)]
          refine Rn.s 1 (fun _ => rfl) ?_
          exact tail (nI 1) _ hm
    rcases hL with ⟨rfl, -⟩ | ⟨z, rfl⟩
    all_goals
      refine Rn.b 3 (fun _ => rfl) (fun c1 => absurd c1 (nI_ge (by omega) (by omega))) (fun c1 => ?_)
      refine Rn.g 4 (fun _ => rfl) (by rw [nI_toInt (by omega)]; omega) ?_
      rw [nI_clamp (by omega)]
      refine Rn.b 6 (fun _ => rfl) (fun c2 => ?_) (fun c2 => ?_)
      · have hb : bt (S 21 0 q) (nI a) = 0 := (bt01 _ _).resolve_right c2
        refine Rn.s 2 (fun _ => rfl) ?_
        exact at63 (nI 0) (Or.inl ⟨rfl, hb⟩)
      · have hb : ¬ bt (S 21 0 q) (nI a) = 0 := bt_one (Classical.byContradiction c2)
        refine Rn.s 3 (fun _ => rfl) ?_
        exact at63 (nI 1) (Or.inr ⟨rfl, hb⟩)
theorem mMx_congr {S S' : aS} {q : Nat} (h1 : S' 21 0 q = S 21 0 q) (h2 : ∀ i, S' 25 0 i = S 25 0 i) : ∀ (m a : Nat) (n : Int32), mMx S' q m a n = mMx S q m a n
  | 0, _, _ => rfl
  | m + 1, a, n => by
    unfold mMx
    rw [h1, h2]
    exact mMx_congr h1 h2 m (a + 1) _
theorem m_writes {q : Nat} (hq : q < 32) (hP : QOK S) : Rn zs (d + 2) 66 (aB 66 0) [(0, .inr (14, 0)), (1, .inl (nI q))] [] S (rE none (mWrites S q)) := by
  refine Rn.g 5 (fun _ => rfl) (by rw [nI_toInt (by omega)]; omega) ?_
  rw [nI_clamp (by omega)]
  refine Rn.cd 1 (fun _ => rfl) (m_route (S 19 0 q)) ?_
  unfold mWrites
  have e21 : mRt S (S 19 0 q) 0 21 0 q = S 21 0 q := mRt_ne S _ _ (by decide)
  refine Rn.b 4 (fun _ => rfl) (fun c1 => ?_) (fun c1 => ?_)
  · rw [if_pos (Or.inl c1)]
    exact Rn.r 1 (fun _ => rfl) ⟨rfl, rfl⟩
  · refine Rn.g 4 (fun _ => rfl) (by rw [nI_toInt (by omega)]; omega) ?_
    rw [nI_clamp (by omega), e21]
    refine Rn.b 4 (fun _ => rfl) (fun c2 => ?_) (fun c2 => ?_)
    · rw [if_neg (fun z => z.elim c1 (fun z => z c2))]
      refine Rn.s 4 (fun _ => rfl) ?_
      have em : mMx (mRt S (S 19 0 q) 0) q 15 0 (nI 0) = mMx S q 15 0 (nI 0) := mMx_congr e21 (fun i => mRt_ne S _ _ (by decide)) 15 0 (nI 0)
      refine m_max_loop (S := mRt S (S 19 0 q) 0) (s2 := ry (S 19 0 q) 0) hq (fun x4 L z => ?_) 15 0 (nI 0) [] rfl rfl (Or.inl ⟨rfl, by omega⟩)
      rw [em]
      refine Rn.g 5 (fun _ => rfl) (by rw [nI_toInt (by omega)]; omega) ?_
      rw [nI_clamp (by omega)]
      refine Rn.g 5 (fun _ => rfl) (by rw [nI_toInt (by omega)]; omega) ?_
      rw [nI_clamp (by omega)]
      refine Rn.g 5 (fun _ => rfl) (by rw [nI_toInt (by omega)]; omega) ?_
      rw [nI_clamp (by omega)]
      refine Rn.g 7 (fun _ => rfl) (by rw [nI_toInt (by omega)]; omega) ?_
      rw [nI_clamp (by omega)]
      refine Rn.g 8 (fun _ => rfl) (by rw [nI_toInt (by omega)]; omega) ?_
      rw [nI_clamp (by omega)]
      have e24 : mWr1 (mRt S (S 19 0 q) 0) q (ry (S 19 0 q) 0) (mMx S q 15 0 (nI 0)) 24 0 q = mMx S q 15 0 (nI 0) + nI 1 := by simp [mWr1, au]
      have hs := m_sendAll (zs := zs) (d := d) (q := q) (S := mWr1 (mRt S (S 19 0 q) 0) q (ry (S 19 0 q) 0) (mMx S q 15 0 (nI 0))) (nI 3) (ry (S 19 0 q) 0) (mMx S q 15 0 (nI 0) + nI 1) hq (QOK_eq (mRt_qok hP (S 19 0 q) 0) (by simp [mWr1, au]))
      rw [show au (au (au (au (mRt S (S 19 0 q) 0) 17 0 q (nI 2)) 22 0 q (ry (S 19 0 q) 0)) 23 0 q (nI 0)) 24 0 q (mMx S q 15 0 (nI 0) + nI 1) 24 0 q = mMx S q 15 0 (nI 0) + nI 1 from e24]
      refine Rn.cd 1 (fun _ => rfl) hs ?_
      exact Rn.r 1 (fun _ => rfl) ⟨rfl, rfl⟩
    · rw [if_pos (Or.inr c2)]
      exact Rn.r 1 (fun _ => rfl) ⟨rfl, rfl⟩
theorem m_asks {q : Nat} (hq : q < 32) (hP : QOK S) : Rn zs (d + 3) 62 (aB 62 0) [(0, .inr (14, 0)), (1, .inl (nI q))] [] S (rE none (mAsks S q)) := by
  refine Rn.g 5 (fun _ => rfl) (by rw [nI_toInt (by omega)]; omega) ?_
  rw [nI_clamp (by omega)]
  refine Rn.cd 1 (fun _ => rfl) (m_route (S 19 0 q)) ?_
  unfold mAsks
  have e20 : mRt S (S 19 0 q) 0 20 0 q = S 20 0 q := mRt_ne S _ _ (by decide)
  refine Rn.b 4 (fun _ => rfl) (fun c1 => ?_) (fun c1 => ?_)
  · rw [if_neg c1]
    refine Rn.g 5 (fun _ => rfl) (by rw [nI_toInt (by omega)]; omega) ?_
    rw [nI_clamp (by omega), e20]
    refine Rn.s 4 (fun _ => rfl) ?_
    refine Rn.g 5 (fun _ => rfl) (by rw [nI_toInt (by omega)]; omega) ?_
    rw [nI_clamp (by omega), e20]
    refine Rn.g 3 (fun _ => rfl) (by rw [nI_toInt (by omega)]; omega) ?_
    rw [nI_clamp (by omega)]
    have hq1 : QOK (mAsk1 S q) := QOK_au (mRt_qok hP _ _) (by decide)
    refine Rn.cd 6 (fun _ => rfl) (m_sendAll (S := mAsk1 S q) (nI 1) _ (nI 0) hq hq1) ?_
    refine Rn.cd 3 (fun _ => rfl) (m_writes hq (mSA_qok _ _ _ _ _ _ _ hq1)) ?_
    exact Rn.r 1 (fun _ => rfl) ⟨rfl, rfl⟩
  · rw [if_pos (Classical.byContradiction c1)]
    exact Rn.r 1 (fun _ => rfl) ⟨rfl, rfl⟩
theorem m_ends {q : Nat} (hq : q < 32) (hP : QOK S) : Rn zs (d + 2) 70 (aB 70 0) [(0, .inr (14, 0)), (1, .inl (nI q))] [] S (rE none (mEnds S q)) := by
  refine Rn.g 7 (fun _ => rfl) (by rw [nI_toInt (by omega)]; omega) ?_
  rw [nI_clamp (by omega)]
  refine Rn.cd 2 (fun _ => rfl) (m_sendAll (nI 5) (S 20 0 q) (nI 0) hq hP) ?_
  refine Rn.g 5 (fun _ => rfl) (by rw [nI_toInt (by omega)]; omega) ?_
  rw [nI_clamp (by omega)]
  exact Rn.r 1 (fun _ => rfl) ⟨rfl, rfl⟩
end MT
