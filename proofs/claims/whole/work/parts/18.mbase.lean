/-! THE REFERENCE. Kinds: 14 the object (letters: field 21), 15 down, 16 runs, 17 state, 18 run, 19 silent, 20 asked, 21 votes, 22 quorum, 23 stored, 24 permit, 25 told, 26 rowClient, 27 rowRun, 28 many, 29 greatest, 30 highest, 31 broken, 32 orders, 33 doneNumber, 34 doneCode, 35 post, 36 coming, 37 route -/
theorem bt01 (a b : Int32) : bt a b = 0 ∨ bt a b = nI 1 := by
  unfold bt
  obtain ⟨j, hj, e⟩ := pk_andE (a >>> (b &&& 31)) (m := nI 1) 1 (by decide)
  rw [e]
  rcases (show j = 0 ∨ j = 1 by omega) with rfl | rfl
  · exact Or.inl rfl
  · exact Or.inr rfl
theorem bt_ne {a b : Int32} (h : ¬ bt a b = 0) : bt a b = nI 1 := (bt01 a b).resolve_left h
theorem bt_one {a b : Int32} (h : bt a b = nI 1) : ¬ bt a b = 0 := by rw [h]; decide
/-- a letter at place n -/
def mPut (S : aS) (n : Nat) (a b c r e f g : Int32) : aS := au (au (au (au (au (au (au (au S 35 0 (8 * n) a) 35 0 (8 * n + 1) b) 35 0 (8 * n + 2) c) 35 0 (8 * n + 3) r) 35 0 (8 * n + 4) e) 35 0 (8 * n + 5) f) 35 0 (8 * n + 6) g) 14 0 21 (nI (n + 1))
def qn (S : aS) : Nat := (S 14 0 21).toNatClampNeg
def QOK (S : aS) : Prop := S 14 0 21 = nI (qn S) ∧ qn S ≤ 240
def mSend (S : aS) (a b c r e f g : Int32) : aS := if qn S = 240 then S else mPut S (qn S) a b c r e f g
theorem qn_of {S : aS} {n : Nat} (h : S 14 0 21 = nI n) (hn : n ≤ 240) : qn S = n ∧ QOK S := by
  have e : qn S = n := by unfold qn; rw [h, nI_clamp (by omega)]
  exact ⟨e, by unfold QOK; rw [e]; exact ⟨h, hn⟩⟩
theorem mPut_n (S : aS) (n : Nat) (a b c r e f g : Int32) : mPut S n a b c r e f g 14 0 21 = nI (n + 1) := by simp [mPut, au]
theorem mPut_ne (S : aS) (n : Nat) (a b c r e f g : Int32) {t j i : Nat} (h3 : t ≠ 35) (h2 : t ≠ 14) : mPut S n a b c r e f g t j i = S t j i := by simp [mPut, au, h3, h2]
theorem mSend_ne (S : aS) (a b c r e f g : Int32) {t j i : Nat} (h3 : t ≠ 35) (h2 : t ≠ 14) : mSend S a b c r e f g t j i = S t j i := by
  unfold mSend
  split
  · rfl
  · exact mPut_ne S _ a b c r e f g h3 h2
theorem mSend_qok {S : aS} (h : QOK S) (a b c r e f g : Int32) : QOK (mSend S a b c r e f g) := by
  unfold mSend
  split
  · exact h
  · rename_i hn
    exact (qn_of (mPut_n S _ a b c r e f g) (by have := h.2; omega)).2
theorem QOK_eq {S S' : aS} (h : QOK S) (e : S' 14 0 21 = S 14 0 21) : QOK S' := by
  unfold QOK qn at *
  rw [e]
  exact h
theorem QOK_au {S : aS} {t j f : Nat} {v : Int32} (h : QOK S) (ht : t ≠ 14) : QOK (au S t j f v) := QOK_eq h (by simp [au]; intro q; exact absurd q.symm ht)
-- routes
def yLeaf (s : Int32) (k : Nat) : Int32 := if bt s (nI k) = 0 then nI 1 <<< (nI k &&& 31) else -1
def yNode (s : Int32) (k : Nat) (l r : Int32) : Int32 := if bt s (nI k) = 0 then (if l = -1 then (if r = -1 then -1 else (nI 1 <<< (nI k &&& 31)) ||| r) else (nI 1 <<< (nI k &&& 31)) ||| l) else (if l = -1 ∨ r = -1 then -1 else l ||| r)
def ryd (s : Int32) : Nat → Nat → Int32
  | 0, k => yLeaf s k
  | n + 1, k => yNode s k (ryd s n (2 * k + 1)) (ryd s n (2 * k + 2))
def ry (s : Int32) (k : Nat) : Int32 := ryd s (if 7 ≤ k then 0 else if 3 ≤ k then 1 else if 1 ≤ k then 2 else 3) k
theorem ry_leaf (s : Int32) {k : Nat} (h : 7 ≤ k) : ry s k = yLeaf s k := by unfold ry; rw [if_pos h]; rfl
theorem ry_node (s : Int32) {k : Nat} (h : k < 7) : ry s k = yNode s k (ry s (2 * k + 1)) (ry s (2 * k + 2)) := by
  rcases (show k = 0 ∨ k = 1 ∨ k = 2 ∨ k = 3 ∨ k = 4 ∨ k = 5 ∨ k = 6 by omega) with rfl | rfl | rfl | rfl | rfl | rfl | rfl <;> rfl
/-- the scratch row, set from k on -/
def mRt (S : aS) (s : Int32) (k : Nat) : aS := fun t j i => if t = 37 ∧ j = 0 ∧ k ≤ i ∧ i < 15 then ry s i else S t j i
theorem mRt_ne (S : aS) (s : Int32) (k : Nat) {t j i : Nat} (h : t ≠ 37) : mRt S s k t j i = S t j i := by unfold mRt; rw [if_neg (fun q => h q.1)]
theorem mRt_top (S : aS) (s : Int32) : mRt S s 15 = S := by
  funext t j i
  unfold mRt
  rw [if_neg (by omega)]
theorem mRt_step (S : aS) (s : Int32) {k : Nat} (hk : k < 15) : au (mRt S s (k + 1)) 37 0 k (ry s k) = mRt S s k := by
  funext t j i
  unfold au mRt
  by_cases h : t = 37 ∧ j = 0 ∧ i = k
  · obtain ⟨rfl, rfl, rfl⟩ := h
    rw [if_pos ⟨rfl, rfl, rfl⟩, if_pos ⟨rfl, rfl, by omega, hk⟩]
  · rw [if_neg h]
    by_cases h2 : t = 37 ∧ j = 0 ∧ k + 1 ≤ i ∧ i < 15
    · rw [if_pos h2, if_pos ⟨h2.1, h2.2.1, by omega, h2.2.2.2⟩]
    · rw [if_neg h2, if_neg (fun q => h2 ⟨q.1, q.2.1, by
        have : i ≠ k := fun e => h ⟨q.1, q.2.1, e⟩
        omega, q.2.2.2⟩)]
section MB
variable {zs : Nat × (Nat → Int32)} {d : Nat} {S : aS}
theorem m_isPair {c r : Nat} (hc : c < 8) (hr : r < 4) : Rn zs d 61 (aB 61 0) [(0, .inl (nI c)), (1, .inl (nI r))] [] S (rE (some (.inl (nI 1))) S) := by
  refine Rn.b 2 (fun _ => rfl) (fun c1 => absurd c1 (nI_pos (by omega))) (fun c1 => ?_)
  refine Rn.b 3 (fun _ => rfl) (fun c2 => absurd c2 (nI_ge hc (by omega))) (fun c2 => ?_)
  refine Rn.b 2 (fun _ => rfl) (fun c1 => absurd c1 (nI_pos (by omega))) (fun c1 => ?_)
  refine Rn.b 3 (fun _ => rfl) (fun c2 => absurd c2 (nI_ge hr (by omega))) (fun c2 => ?_)
  exact Rn.r 3 (fun _ => rfl) ⟨rfl, rfl⟩
theorem m_isPair_no {a b : Int32} (h : nopair a b) : Rn zs d 61 (aB 61 0) [(0, .inl a), (1, .inl b)] [] S (rE (some (.inl (nI 0))) S) := by
  refine Rn.b 2 (fun _ => rfl) (fun c1 => ?_) (fun c1 => ?_)
  · exact Rn.r 2 (fun _ => rfl) ⟨rfl, rfl⟩
  · refine Rn.b 3 (fun _ => rfl) (fun c2 => ?_) (fun c2 => ?_)
    · exact Rn.r 2 (fun _ => rfl) ⟨rfl, rfl⟩
    · refine Rn.b 2 (fun _ => rfl) (fun c3 => ?_) (fun c3 => ?_)
      · exact Rn.r 2 (fun _ => rfl) ⟨rfl, rfl⟩
      · refine Rn.b 3 (fun _ => rfl) (fun c4 => ?_) (fun c4 => ?_)
        · exact Rn.r 2 (fun _ => rfl) ⟨rfl, rfl⟩
        · exact absurd h (fun q => q.elim (fun q => q.elim c1 c2) (fun q => q.elim c3 c4))
theorem m_isArbiter {a : Nat} (h : a < 15) : Rn zs d 68 (aB 68 0) [(0, .inl (nI a))] [] S (rE (some (.inl (nI 1))) S) := by
  refine Rn.b 2 (fun _ => rfl) (fun c1 => absurd c1 (nI_pos (by omega))) (fun c1 => ?_)
  refine Rn.b 3 (fun _ => rfl) (fun c2 => absurd c2 (nI_ge h (by omega))) (fun c2 => ?_)
  exact Rn.r 3 (fun _ => rfl) ⟨rfl, rfl⟩
theorem m_isArbiter_no {a : Int32} (h : outc a 15) : Rn zs d 68 (aB 68 0) [(0, .inl a)] [] S (rE (some (.inl (nI 0))) S) := by
  refine Rn.b 2 (fun _ => rfl) (fun c1 => ?_) (fun c1 => ?_)
  · exact Rn.r 2 (fun _ => rfl) ⟨rfl, rfl⟩
  · refine Rn.b 3 (fun _ => rfl) (fun c2 => ?_) (fun c2 => ?_)
    · exact Rn.r 2 (fun _ => rfl) ⟨rfl, rfl⟩
    · exact absurd h (fun q => q.elim c1 c2)
theorem m_send (h : QOK S) (a b c r e f g : Int32) : Rn zs d 65 (aB 65 0) [(0, .inr (14, 0)), (1, .inl a), (2, .inl b), (3, .inl c), (4, .inl r), (5, .inl e), (6, .inl f), (7, .inl g)] [] S (rE none (mSend S a b c r e f g)) := by
  obtain ⟨hn, h240⟩ := h
  generalize qn S = n at hn h240
  have hpn := qn_of hn h240
  unfold mSend
  rw [hpn.1]
  refine Rn.b 4 (fun _ => rfl) (fun c1 => ?_) (fun c1 => ?_)
  · have hq : n = 240 := by
      rw [hn] at c1
      have := (nI_leI (by omega) (by omega)).mp c1
      omega
    rw [if_pos hq]
    exact Rn.r 1 (fun _ => rfl) ⟨rfl, rfl⟩
  · have hne : n ≠ 240 := fun q => c1 (by rw [hn, q]; exact nI_le (Nat.le_refl _) (by omega))
    rw [if_neg hne]
    refine Rn.s 5 (fun _ => rfl) ?_
    rw [hn, pk_mul]
    refine Rn.g 5 (fun _ => rfl) (by rw [nI_toInt (by omega)]; omega) ?_
    rw [nI_clamp (by omega)]
    refine Rn.g 7 (fun _ => rfl) (by rw [nI_add, nI_toInt (by omega)]; omega) ?_
    rw [nI_add, nI_clamp (by omega)]
    refine Rn.g 7 (fun _ => rfl) (by rw [nI_add, nI_toInt (by omega)]; omega) ?_
    rw [nI_add, nI_clamp (by omega)]
    refine Rn.g 7 (fun _ => rfl) (by rw [nI_add, nI_toInt (by omega)]; omega) ?_
    rw [nI_add, nI_clamp (by omega)]
    refine Rn.g 7 (fun _ => rfl) (by rw [nI_add, nI_toInt (by omega)]; omega) ?_
    rw [nI_add, nI_clamp (by omega)]
    refine Rn.g 7 (fun _ => rfl) (by rw [nI_add, nI_toInt (by omega)]; omega) ?_
    rw [nI_add, nI_clamp (by omega)]
    refine Rn.g 7 (fun _ => rfl) (by rw [nI_add, nI_toInt (by omega)]; omega) ?_
    rw [nI_add, nI_clamp (by omega)]
    refine Rn.r 7 (fun _ => rfl) ⟨rfl, ?_⟩
    unfold mPut
    congr 1
    rw [← nI_add, ← hn]
    simp [au]
/-- one turn of routeOf's loop; its own locals are there from the first turn on -/
theorem m_route_turn {s x3 x4 x5 : Int32} {k : Nat} {L : aL} (hk : k < 15) (hL : L = [] ∨ L = [(3, .inl x3), (4, .inl x4), (5, .inl x5)]) {Q : Option aV → aS → Prop}
    (K : ∀ y3 y4 y5 : Int32, Rn zs d 63 (aB 63 163) [(0, .inr (14, 0)), (1, .inl s), (2, .inl (nI k)), (3, .inl y3), (4, .inl y4), (5, .inl y5)] [] (mRt S s k) Q) :
    Rn zs d 63 (aB 63 3) ([(0, .inr (14, 0)), (1, .inl s), (2, .inl (nI k))] ++ L) [] (mRt S s (k + 1)) Q := by
  have hrd : ∀ i, k + 1 ≤ i → i < 15 → mRt S s (k + 1) 37 0 i = ry s i := fun i h1 h2 => by unfold mRt; rw [if_pos ⟨rfl, rfl, h1, h2⟩]
  -- behind 'is': local 3 is b
  have at66 : ∀ (b l r : Int32), (b = nI 0 ∧ bt s (nI k) = 0 ∨ b = nI 1 ∧ ¬ bt s (nI k) = 0) → (k < 7 → l = ry s (2 * k + 1) ∧ r = ry s (2 * k + 2)) → Rn zs d 63 ((aB 63 64).drop 1) [(0, .inr (14, 0)), (1, .inl s), (2, .inl (nI k)), (3, .inl b), (4, .inl l), (5, .inl r)] [] (mRt S s (k + 1)) Q := by
    intro b l r hb hlr
    have hst : ∀ (v : Int32), v = ry s k → Rn zs d 63 (aB 63 163) [(0, .inr (14, 0)), (1, .inl s), (2, .inl (nI k)), (3, .inl b), (4, .inl l), (5, .inl r)] [] (au (mRt S s (k + 1)) 37 0 k v) Q := fun v hv => by
      rw [hv, mRt_step S s hk]
      exact K b l r
    refine Rn.b 3 (fun _ => rfl) (fun c1 => ?_) (fun c1 => ?_)
    · have h7 : k < 7 := by
        have := (nI_leI (by omega) (by omega)).mp c1
        omega
      obtain ⟨hl, hr⟩ := hlr h7
      have hy := ry_node s h7
      rw [← hl, ← hr] at hy
      unfold yNode at hy
      rcases hb with ⟨rfl, hb⟩ | ⟨rfl, hb⟩
      · rw [if_pos hb] at hy
        refine Rn.s 2 (fun _ => rfl) ?_
        refine Rn.b 6 (fun _ => rfl) (fun c2 => ?_) (fun c2 => ?_)
        · rw [if_pos c2] at hy
          refine Rn.b 3 (fun _ => rfl) (fun c3 => ?_) (fun c3 => ?_)
          · rw [if_pos c3] at hy
            refine Rn.g 2 (fun _ => rfl) (by rw [nI_toInt (by omega)]; omega) ?_
            rw [nI_clamp (by omega)]
            exact hst _ hy.symm
          · rw [if_neg c3] at hy
            refine Rn.g 7 (fun _ => rfl) (by rw [nI_toInt (by omega)]; omega) ?_
            rw [nI_clamp (by omega)]
            exact hst _ hy.symm
        · rw [if_neg c2] at hy
          refine Rn.g 7 (fun _ => rfl) (by rw [nI_toInt (by omega)]; omega) ?_
          rw [nI_clamp (by omega)]
          exact hst _ hy.symm
      · rw [if_neg hb] at hy
        refine Rn.s 2 (fun _ => rfl) ?_
        refine Rn.b 6 (fun _ => rfl) (fun c2 => ?_) (fun c2 => ?_)
        · rw [if_pos (Or.inl c2)] at hy
          refine Rn.g 3 (fun _ => rfl) (by rw [nI_toInt (by omega)]; omega) ?_
          rw [nI_clamp (by omega)]
          refine Rn.s 1 (fun _ => rfl) ?_
          exact hst _ hy.symm
        · refine Rn.b 3 (fun _ => rfl) (fun c3 => ?_) (fun c3 => ?_)
          · rw [if_neg (fun q => q.elim c2 c3)] at hy
            refine Rn.g 4 (fun _ => rfl) (by rw [nI_toInt (by omega)]; omega) ?_
            rw [nI_clamp (by omega)]
            refine Rn.s 1 (fun _ => rfl) ?_
            exact hst _ hy.symm
          · rw [if_pos (Or.inr (Classical.byContradiction c3))] at hy
            refine Rn.g 3 (fun _ => rfl) (by rw [nI_toInt (by omega)]; omega) ?_
            rw [nI_clamp (by omega)]
            refine Rn.s 1 (fun _ => rfl) ?_
            exact hst _ hy.symm
    · have h7 : 7 ≤ k := by
        rcases Nat.lt_or_ge k 7 with q | q
        · exact absurd (nI_le (by omega) (by omega)) c1
        · exact q
      have hy := ry_leaf s h7
      unfold yLeaf at hy
      rcases hb with ⟨rfl, hb⟩ | ⟨rfl, hb⟩
      · rw [if_pos hb] at hy
        refine Rn.s 5 (fun _ => rfl) ?_
        refine Rn.g 4 (fun _ => rfl) (by rw [nI_toInt (by omega)]; omega) ?_
        rw [nI_clamp (by omega)]
        refine Rn.s 1 (fun _ => rfl) ?_
        exact hst _ hy.symm
      · rw [if_neg hb] at hy
        refine Rn.s 5 (fun _ => rfl) ?_
        refine Rn.g 3 (fun _ => rfl) (by rw [nI_toInt (by omega)]; omega) ?_
        rw [nI_clamp (by omega)]
        refine Rn.s 1 (fun _ => rfl) ?_
        exact hst _ hy.symm
  have at22 : ∀ (b : Int32) (L' : aL), (L' = [] ∨ ∃ z4 z5, L' = [(4, .inl z4), (5, .inl z5)]) → (b = nI 0 ∧ bt s (nI k) = 0 ∨ b = nI 1 ∧ ¬ bt s (nI k) = 0) → Rn zs d 63 ((aB 63 21).drop 1) ([(0, .inr (14, 0)), (1, .inl s), (2, .inl (nI k)), (3, .inl b)] ++ L') [] (mRt S s (k + 1)) Q := by
    intro b L' hL' hb
    have e1 : nI 2 * nI k + nI 1 = nI (2 * k + 1) := by rw [pk_mul, nI_add]
    have e2 : nI 2 * nI k + nI 2 = nI (2 * k + 2) := by rw [pk_mul, nI_add]
    rcases hL' with rfl | ⟨z4, z5, rfl⟩
    all_goals
      refine Rn.b 3 (fun _ => rfl) (fun c1 => ?_) (fun c1 => ?_)
      · have h7 : ¬ k < 7 := fun q => absurd c1 (nI_ge q (by omega))
        refine Rn.s 2 (fun _ => rfl) ?_
        refine Rn.b 3 (fun _ => rfl) (fun c2 => ?_) (fun c2 => absurd c1 c2)
        refine Rn.s 2 (fun _ => rfl) ?_
        exact at66 b (-1) (-1) hb (fun q => absurd q h7)
      · have h7 : k < 7 := by
          rcases Nat.lt_or_ge k 7 with q | q
          · exact q
          · exact absurd (nI_le q (by omega)) c1
        refine Rn.g 8 (fun _ => rfl) (by rw [e1, nI_toInt (by omega)]; omega) ?_
        rw [e1, nI_clamp (by omega), hrd _ (by omega) (by omega)]
        refine Rn.s 2 (fun _ => rfl) ?_
        refine Rn.b 3 (fun _ => rfl) (fun c2 => absurd c2 c1) (fun c2 => ?_)
        refine Rn.g 8 (fun _ => rfl) (by rw [e2, nI_toInt (by omega)]; omega) ?_
        rw [e2, nI_clamp (by omega), hrd _ (by omega) (by omega)]
        refine Rn.s 2 (fun _ => rfl) ?_
        exact at66 b _ _ hb (fun _ => ⟨rfl, rfl⟩)
  rcases hL with rfl | rfl
  · refine Rn.b 2 (fun _ => rfl) (fun c1 => absurd c1 (nI_pos (by omega))) (fun c1 => ?_)
    refine Rn.b 7 (fun _ => rfl) (fun c2 => ?_) (fun c2 => ?_)
    · have hb : bt s (nI k) = 0 := (bt01 s (nI k)).resolve_right c2
      refine Rn.s 2 (fun _ => rfl) ?_
      exact at22 (nI 0) [] (Or.inl rfl) (Or.inl ⟨rfl, hb⟩)
    · have hb : bt s (nI k) = nI 1 := Classical.byContradiction c2
      refine Rn.s 3 (fun _ => rfl) ?_
      exact at22 (nI 1) [] (Or.inl rfl) (Or.inr ⟨rfl, bt_one hb⟩)
  · refine Rn.b 2 (fun _ => rfl) (fun c1 => absurd c1 (nI_pos (by omega))) (fun c1 => ?_)
    refine Rn.b 7 (fun _ => rfl) (fun c2 => ?_) (fun c2 => ?_)
    · have hb : bt s (nI k) = 0 := (bt01 s (nI k)).resolve_right c2
      refine Rn.s 2 (fun _ => rfl) ?_
      exact at22 (nI 0) [(4, .inl x4), (5, .inl x5)] (Or.inr ⟨_, _, rfl⟩) (Or.inl ⟨rfl, hb⟩)
    · have hb : bt s (nI k) = nI 1 := Classical.byContradiction c2
      refine Rn.s 3 (fun _ => rfl) ?_
      exact at22 (nI 1) [(4, .inl x4), (5, .inl x5)] (Or.inr ⟨_, _, rfl⟩) (Or.inr ⟨rfl, bt_one hb⟩)
end MB
