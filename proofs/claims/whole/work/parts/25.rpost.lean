/-! THE RELATION, the post: the class's cells S and the reference's cells M hold the same letters -/
def RP (S M : aS) (n : Nat) : Prop := S 2 0 1 = nI n ∧ M 14 0 21 = nI n ∧ n ≤ 240 ∧ ∀ i, i < n → ∀ j, j < 7 → S 3 0 (i * 7 + j) = M 35 0 (8 * i + j)
/-- each letter of the reference's post has P (kind, client, crane, run, arbiter, number, code) -/
def AL (M : aS) (n : Nat) (P : Int32 → Int32 → Int32 → Int32 → Int32 → Int32 → Prop) : Prop := ∀ i, i < n → P (M 35 0 (8 * i)) (M 35 0 (8 * i + 1)) (M 35 0 (8 * i + 2)) (M 35 0 (8 * i + 3)) (M 35 0 (8 * i + 4)) (M 35 0 (8 * i + 5))
theorem RP.congr {S M S' M' : aS} {n : Nat} (h : RP S M n) (h1 : S' 2 0 1 = S 2 0 1) (h2 : M' 14 0 21 = M 14 0 21) (h3 : ∀ i, S' 3 0 i = S 3 0 i) (h4 : ∀ i, M' 35 0 i = M 35 0 i) : RP S' M' n := by
  obtain ⟨a, b, c, e⟩ := h
  exact ⟨h1.trans a, h2.trans b, c, fun i hi j hj => by rw [h3, h4]; exact e i hi j hj⟩
theorem AL.congr {M M' : aS} {n : Nat} {P P' : Int32 → Int32 → Int32 → Int32 → Int32 → Int32 → Prop} (h : AL M n P) (h4 : ∀ i, M' 35 0 i = M 35 0 i) (hP : ∀ k c r u a z, P k c r u a z → P' k c r u a z) : AL M' n P' := fun i hi => by
  rw [h4, h4, h4, h4, h4, h4]
  exact hP _ _ _ _ _ _ (h i hi)
theorem RP.pok {S M : aS} {n : Nat} (h : RP S M n) : POK S ∧ pn S = n ∧ QOK M ∧ qn M = n := by
  have h1 := pn_of h.1 h.2.2.1
  have h2 := qn_of h.2.1 h.2.2.1
  exact ⟨h1.2, h1.1, h2.2, h2.1⟩
theorem xPut_cell (S : aS) (n : Nat) (a b c r e f g : Int32) (x : Nat) : xPut S n a b c r e f g 3 0 x = if x = n * 7 + 6 then g else if x = n * 7 + 5 then f else if x = n * 7 + 4 then e else if x = n * 7 + 3 then r else if x = n * 7 + 2 then c else if x = n * 7 + 1 then b else if x = n * 7 then a else S 3 0 x := by
  simp [xPut, au]
theorem mPut_cell (S : aS) (n : Nat) (a b c r e f g : Int32) (x : Nat) : mPut S n a b c r e f g 35 0 x = if x = 8 * n + 6 then g else if x = 8 * n + 5 then f else if x = 8 * n + 4 then e else if x = 8 * n + 3 then r else if x = 8 * n + 2 then c else if x = 8 * n + 1 then b else if x = 8 * n then a else S 35 0 x := by
  simp [mPut, au]
/-- a letter that both send -/
theorem RP.send {S M : aS} {n : Nat} (h : RP S M n) (a b c r e f g : Int32) : ∃ n', RP (xSend S a b c r e f g) (mSend M a b c r e f g) n' ∧ ∀ P, AL M n P → P a b c r e f → AL (mSend M a b c r e f g) n' P := by
  obtain ⟨-, e1, -, e2⟩ := h.pok
  unfold xSend mSend
  rw [e1, e2]
  by_cases hn : n = 240
  · rw [if_pos hn, if_pos hn]
    exact ⟨n, h, fun P hA _ => hA⟩
  · rw [if_neg hn, if_neg hn]
    obtain ⟨h1, h2, h3, h4⟩ := h
    refine ⟨n + 1, ⟨xPut_n S n a b c r e f g, mPut_n M n a b c r e f g, by omega, fun i hi j hj => ?_⟩, fun P hA hp i hi => ?_⟩
    · rw [xPut_cell, mPut_cell]
      by_cases hin : i = n
      · subst hin
        rcases (show j = 0 ∨ j = 1 ∨ j = 2 ∨ j = 3 ∨ j = 4 ∨ j = 5 ∨ j = 6 by omega) with rfl | rfl | rfl | rfl | rfl | rfl | rfl <;> simp <;> (repeat rw [if_neg (by omega)]) <;> rfl
      · rw [if_neg (by omega), if_neg (by omega), if_neg (by omega), if_neg (by omega), if_neg (by omega), if_neg (by omega), if_neg (by omega), if_neg (by omega), if_neg (by omega), if_neg (by omega), if_neg (by omega), if_neg (by omega), if_neg (by omega), if_neg (by omega)]
        exact h4 i (by omega) j hj
    · by_cases hin : i = n
      · subst hin
        have t0 : mPut M i a b c r e f g 35 0 (8 * i) = a := by rw [mPut_cell]; (repeat rw [if_neg (by omega)]); rw [if_pos rfl]
        have t1 : mPut M i a b c r e f g 35 0 (8 * i + 1) = b := by rw [mPut_cell]; (repeat rw [if_neg (by omega)]); rw [if_pos rfl]
        have t2 : mPut M i a b c r e f g 35 0 (8 * i + 2) = c := by rw [mPut_cell]; (repeat rw [if_neg (by omega)]); rw [if_pos rfl]
        have t3 : mPut M i a b c r e f g 35 0 (8 * i + 3) = r := by rw [mPut_cell]; (repeat rw [if_neg (by omega)]); rw [if_pos rfl]
        have t4 : mPut M i a b c r e f g 35 0 (8 * i + 4) = e := by rw [mPut_cell]; (repeat rw [if_neg (by omega)]); rw [if_pos rfl]
        have t5 : mPut M i a b c r e f g 35 0 (8 * i + 5) = f := by rw [mPut_cell]; (repeat rw [if_neg (by omega)]); rw [if_pos rfl]
        rw [t0, t1, t2, t3, t4, t5]
        exact hp
      · have tt : ∀ j, j < 7 → mPut M n a b c r e f g 35 0 (8 * i + j) = M 35 0 (8 * i + j) := fun j hj => by
          rw [mPut_cell, if_neg (by omega), if_neg (by omega), if_neg (by omega), if_neg (by omega), if_neg (by omega), if_neg (by omega), if_neg (by omega)]
        have t0 := tt 0 (by omega)
        rw [Nat.add_zero] at t0
        rw [t0, tt 1 (by omega), tt 2 (by omega), tt 3 (by omega), tt 4 (by omega), tt 5 (by omega)]
        exact hA i (by omega)
/-- letters that both send to each -/
theorem RP.sendAll {q : Nat} {kind set num : Int32} : ∀ (m k : Nat) {S M : aS} {n : Nat}, RP S M n → S 8 q 0 = nI (q / 4) → S 8 q 1 = nI (q % 4) → S 8 q 3 = M 18 0 q → ∃ n', RP (xSA q kind set num m k S) (mSA q kind set num m k M) n' ∧ ∀ P : Int32 → Int32 → Int32 → Int32 → Int32 → Int32 → Prop, AL M n P → (∀ a, k ≤ a → a < k + m → ¬ bt set (nI a) = 0 → P kind (nI (q / 4)) (nI (q % 4)) (M 18 0 q) (nI a) num) → AL (mSA q kind set num m k M) n' P
  | 0, k, S, M, n, h, _, _, _ => ⟨n, h, fun P hA _ => hA⟩
  | m + 1, k, S, M, n, h, h0, h1, h3 => by
    unfold xSA mSA
    by_cases hb : bt set (nI k) = 0
    · rw [if_pos hb, if_pos hb]
      obtain ⟨n', a1, a2⟩ := RP.sendAll m (k + 1) h h0 h1 h3
      exact ⟨n', a1, fun P hA hp => a2 P hA (fun a q1 q2 q3 => hp a (by omega) (by omega) q3)⟩
    · rw [if_neg hb, if_neg hb, h0, h1, h3]
      obtain ⟨n1, b1, b2⟩ := h.send kind (nI (q / 4)) (nI (q % 4)) (M 18 0 q) (nI k) num (nI 0)
      have e18 : mSend M kind (nI (q / 4)) (nI (q % 4)) (M 18 0 q) (nI k) num (nI 0) 18 0 q = M 18 0 q := mSend_ne M _ _ _ _ _ _ _ (by decide) (by decide)
      obtain ⟨n', a1, a2⟩ := RP.sendAll (kind := kind) (set := set) (num := num) m (k + 1) b1 ((xSend_ne S _ _ _ _ _ _ _ (by decide) (by decide)).trans h0) ((xSend_ne S _ _ _ _ _ _ _ (by decide) (by decide)).trans h1) ((xSend_ne S _ _ _ _ _ _ _ (by decide) (by decide)).trans (h3.trans e18.symm))
      refine ⟨n', a1, fun P hA hp => a2 P (b2 P hA (hp k (by omega) (by omega) hb)) (fun a q1 q2 q3 => ?_)⟩
      rw [e18]
      exact hp a (by omega) (by omega) q3
/-- a letter that leaves both posts -/
theorem RP.rem {S M : aS} {n i : Nat} (h : RP S M (n + 1)) (hi : i ≤ n) : RP (xRem S n i) (mRem M n i) n ∧ ∀ P, AL M (n + 1) P → AL (mRem M n i) n P := by
  obtain ⟨h1, h2, h3, h4⟩ := h
  have hm : ∀ x, mRem M n i 35 0 x = if 8 * i ≤ x ∧ x < 8 * n then M 35 0 (x + 8) else M 35 0 x := fun x => by
    unfold mRem mShift
    by_cases hx : 8 * i ≤ x ∧ x < 8 * n
    · rw [if_pos ⟨rfl, rfl, hx.1, hx.2⟩, if_pos hx]
      simp [au]
    · rw [if_neg (fun q => hx q.2.2), if_neg hx]
      simp [au]
  have hxx : ∀ x, xRem S n i 3 0 x = if i * 7 ≤ x ∧ x < i * 7 + (n - i) * 7 then S 3 0 (x + 7) else S 3 0 x := fun x => by
    have e : xRem S n i 3 0 = va_cpy (S 3 0) (S 3 0) ((i + 1) * 7) (i * 7) ((n - i) * 7) := by
      unfold xRem
      rw [acp_at]
      have : au S 2 0 1 (nI n) 3 0 = S 3 0 := by funext f; simp [au]
      rw [this]
    rw [e]
    unfold va_cpy
    split
    · rename_i hx
      rw [show (i + 1) * 7 + (x - i * 7) = x + 7 by omega]
    · rfl
  refine ⟨⟨by simp [xRem, acp, au], mRem_l M n i, by omega, fun k hk j hj => ?_⟩, fun P hA k hk => ?_⟩
  · rw [hxx, hm]
    by_cases hki : i ≤ k
    · rw [if_pos (by omega), if_pos (by omega), show k * 7 + j + 7 = (k + 1) * 7 + j by omega, show 8 * k + j + 8 = 8 * (k + 1) + j by omega]
      exact h4 (k + 1) (by omega) j hj
    · rw [if_neg (by omega), if_neg (by omega)]
      exact h4 k (by omega) j hj
  · by_cases hki : i ≤ k
    · have tt : ∀ j, j < 8 → mRem M n i 35 0 (8 * k + j) = M 35 0 (8 * (k + 1) + j) := fun j hj => by
        rw [hm, if_pos (by omega), show 8 * k + j + 8 = 8 * (k + 1) + j by omega]
      have t0 := tt 0 (by omega)
      rw [Nat.add_zero, Nat.add_zero] at t0
      rw [t0, tt 1 (by omega), tt 2 (by omega), tt 3 (by omega), tt 4 (by omega), tt 5 (by omega)]
      exact hA (k + 1) (by omega)
    · have tt : ∀ j, j < 8 → mRem M n i 35 0 (8 * k + j) = M 35 0 (8 * k + j) := fun j hj => by
        rw [hm, if_neg (by omega)]
      have t0 := tt 0 (by omega)
      rw [Nat.add_zero] at t0
      rw [t0, tt 1 (by omega), tt 2 (by omega), tt 3 (by omega), tt 4 (by omega), tt 5 (by omega)]
      exact hA k (by omega)
/-- a letter that comes once more in both posts -/
theorem RP.copy {S M : aS} {n i : Nat} (h : RP S M n) (hn : n < 240) (hi : i < n) : RP (xRep S n i) (mCopy M n i) (n + 1) ∧ ∀ P, AL M n P → AL (mCopy M n i) (n + 1) P := by
  obtain ⟨h1, h2, h3, h4⟩ := h
  have hm : ∀ x, mCopy M n i 35 0 x = if 8 * n ≤ x ∧ x < 8 * n + 8 then M 35 0 (8 * i + (x - 8 * n)) else M 35 0 x := fun x => by
    have e : mCopy M n i 35 0 x = mCpy (mTh M) n i 8 35 0 x := by simp [mCopy, au]
    rw [e]
    unfold mCpy
    by_cases hx : 8 * n ≤ x ∧ x < 8 * n + 8
    · rw [if_pos ⟨rfl, rfl, hx.1, hx.2⟩, if_pos hx]
      exact mTh_ne M (by decide)
    · rw [if_neg (fun q => hx q.2.2), if_neg hx]
      exact mTh_ne M (by decide)
  have hxx : ∀ x, xRep S n i 3 0 x = if n * 7 ≤ x ∧ x < n * 7 + 7 then S 3 0 (i * 7 + (x - n * 7)) else S 3 0 x := fun x => by
    have e : xRep S n i 3 0 x = va_cpy (S 3 0) (S 3 0) (i * 7) (n * 7) 7 x := by
      unfold xRep
      rw [au_ne _ _ _ (by omega), acp_at]
    rw [e]
    rfl
  refine ⟨⟨by simp [xRep, au], by simp [mCopy, au], by omega, fun k hk j hj => ?_⟩, fun P hA k hk => ?_⟩
  · rw [hxx, hm]
    by_cases hki : k = n
    · subst hki
      rw [if_pos (by omega), if_pos (by omega), show k * 7 + j - k * 7 = j by omega, show 8 * k + j - 8 * k = j by omega]
      exact h4 i hi j hj
    · rw [if_neg (by omega), if_neg (by omega)]
      exact h4 k (by omega) j hj
  · by_cases hki : k = n
    · subst hki
      have tt : ∀ j, j < 8 → mCopy M k i 35 0 (8 * k + j) = M 35 0 (8 * i + j) := fun j hj => by
        rw [hm, if_pos (by omega), show 8 * k + j - 8 * k = j by omega]
      have t0 := tt 0 (by omega)
      rw [Nat.add_zero, Nat.add_zero] at t0
      rw [t0, tt 1 (by omega), tt 2 (by omega), tt 3 (by omega), tt 4 (by omega), tt 5 (by omega)]
      exact hA i hi
    · have tt : ∀ j, j < 8 → mCopy M n i 35 0 (8 * k + j) = M 35 0 (8 * k + j) := fun j hj => by
        rw [hm, if_neg (by omega)]
      have t0 := tt 0 (by omega)
      rw [Nat.add_zero] at t0
      rw [t0, tt 1 (by omega), tt 2 (by omega), tt 3 (by omega), tt 4 (by omega), tt 5 (by omega)]
      exact hA k (by omega)
