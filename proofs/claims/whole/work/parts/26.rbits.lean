/-! BITS (rows of kit/laws/BITS.to-paste, turned to this claim's names), and: the class's route is the reference's -/
def gb (x : Int32) (i : Nat) : Bool := x.toBitVec.getLsbD i
theorem gb_ext {x y : Int32} (h : ∀ i, i < 32 → gb x i = gb y i) : x = y := Int32.toBitVec_inj.mp (BitVec.eq_of_getLsbD_eq (fun i hi => h i hi))
theorem gb_or (x y : Int32) (i : Nat) : gb (x ||| y) i = (gb x i || gb y i) := by unfold gb; rw [Int32.toBitVec_or, BitVec.getLsbD_or]
theorem gb_and (x y : Int32) (i : Nat) : gb (x &&& y) i = (gb x i && gb y i) := by unfold gb; rw [Int32.toBitVec_and, BitVec.getLsbD_and]
theorem gb_xor (x y : Int32) (i : Nat) : gb (x ^^^ y) i = (gb x i ^^ gb y i) := by unfold gb; rw [Int32.toBitVec_xor, BitVec.getLsbD_xor]
theorem gb_m1 : ∀ i, i < 32 → gb (-1) i = true := by decide +kernel
theorem gb_0 (i : Nat) : gb 0 i = false := BitVec.getLsbD_zero
theorem gb_1 : ∀ i, i < 32 → gb (nI 1) i = decide (i = 0) := by decide +kernel
theorem gs_l : ∀ n, n < 32 → ((nI n &&& 31).toBitVec.smod 32).toNat = n := by decide +kernel
theorem gb_sshr (n : Nat) (hn : n < 32) (x : Int32) {i : Nat} (hi : i < 32) : gb (x >>> (nI n &&& 31)) i = if n + i < 32 then gb x (n + i) else gb x 31 := by
  unfold gb
  rw [Int32.toBitVec_shiftRight]
  show (x.toBitVec.sshiftRight ((nI n &&& 31).toBitVec.smod 32).toNat).getLsbD i = _
  rw [gs_l n hn, BitVec.getLsbD_sshiftRight, BitVec.msb_eq_getLsbD_last]
  simp [hi]
theorem gb_shl1 : ∀ a, a < 15 → ∀ i, i < 32 → gb (nI 1 <<< (nI a &&& 31)) i = decide (i = a) := by decide +kernel
theorem bt_bit (x : Int32) {b : Nat} (hb : b < 31) : bt x (nI b) = 0 ↔ gb x b = false := by
  have key : ∀ i, i < 32 → gb (bt x (nI b)) i = (decide (i = 0) && gb x b) := by
    intro i hi
    unfold bt
    rw [gb_and, gb_1 i hi, gb_sshr b (by omega) x hi]
    by_cases h0 : i = 0
    · subst h0
      simp
      intro h
      omega
    · simp [h0]
  constructor
  · intro h
    have := key 0 (by omega)
    rw [h, gb_0] at this
    simpa using this.symm
  · intro h
    apply gb_ext
    intro i hi
    rw [key i hi, h, gb_0]
    simp
theorem bt_set (x : Int32) {a b : Nat} (ha : a < 15) (hb : b < 15) : bt (x ||| (nI 1 <<< (nI a &&& 31))) (nI b) = 0 ↔ bt x (nI b) = 0 ∧ b ≠ a := by
  rw [bt_bit _ (by omega), bt_bit _ (by omega), gb_or, gb_shl1 a ha b (by omega)]
  cases gb x b <;> simp
theorem bt_clr (x : Int32) {a b : Nat} (ha : a < 15) (hb : b < 15) : bt (x &&& ((nI 1 <<< (nI a &&& 31)) ^^^ -1)) (nI b) = 0 ↔ bt x (nI b) = 0 ∨ b = a := by
  rw [bt_bit _ (by omega), bt_bit _ (by omega), gb_and, gb_xor, gb_shl1 a ha b (by omega), gb_m1 b (by omega)]
  cases gb x b <;> simp
theorem bt_zero (b : Nat) (hb : b < 15) : bt (nI 0) (nI b) = 0 := (bt_bit _ (by omega)).mpr (gb_0 b)
/-- the two tests that all have voted -/
theorem voted_iff (w v : Int32) : w &&& (v ^^^ -1) = 0 ↔ v &&& w = w := by
  constructor
  · intro h
    apply gb_ext
    intro i hi
    have := congrArg (fun z => gb z i) h
    simp only [gb_and, gb_xor, gb_m1 i hi, gb_0] at this ⊢
    revert this
    cases gb w i <;> cases gb v i <;> simp
  · intro h
    apply gb_ext
    intro i hi
    have := congrArg (fun z => gb z i) h
    simp only [gb_and, gb_xor, gb_m1 i hi, gb_0] at this ⊢
    revert this
    cases gb w i <;> cases gb v i <;> simp
/-- one arbiter's bit in a set, stored: the two ways to write it -/
theorem sto_in (t w : Int32) {a : Nat} (ha : a < 15) (h : ¬ bt w (nI a) = 0) : t ||| ((nI 1 <<< (nI a &&& 31)) &&& w) = t ||| (nI 1 <<< (nI a &&& 31)) := by
  have hw : gb w a = true := by
    cases hg : gb w a with
    | true => rfl
    | false => exact absurd ((bt_bit w (by omega)).mpr hg) h
  apply gb_ext
  intro i hi
  rw [gb_or, gb_or, gb_and, gb_shl1 a ha i hi]
  by_cases e : i = a
  · subst e
    rw [hw]
    simp
  · simp [e]
theorem sto_out (t w : Int32) {a : Nat} (ha : a < 15) (h : bt w (nI a) = 0) : t ||| ((nI 1 <<< (nI a &&& 31)) &&& w) = t := by
  have hw := (bt_bit w (b := a) (by omega)).mp h
  apply gb_ext
  intro i hi
  rw [gb_or, gb_and, gb_shl1 a ha i hi]
  by_cases e : i = a
  · subst e
    rw [hw]
    simp
  · simp [e]
-- routes
def rP (x y : Int32) : Prop := (x = 0 ∧ y = -1) ∨ ∃ m : Nat, 0 < m ∧ m < 2 ^ 15 ∧ x = nI m ∧ y = nI m
theorem pow_nI : ∀ k, k < 15 → nI 1 <<< (nI k &&& 31) = nI (2 ^ k) := by decide +kernel
theorem rP_ne {m : Nat} (h0 : 0 < m) (h : m < 2 ^ 15) : ¬ nI m = 0 ∧ ¬ nI m = -1 := ⟨nI_ne0 h0 (by omega), nI_nm1 (by omega)⟩
theorem rP_leaf (s : Int32) {k : Nat} (hk : k < 15) : rP (rLeaf s k) (yLeaf s k) := by
  unfold rLeaf yLeaf
  by_cases hb : bt s (nI k) = 0
  · rw [if_pos hb, if_pos hb, pow_nI k hk]
    exact Or.inr ⟨2 ^ k, Nat.two_pow_pos k, Nat.pow_lt_pow_right (by omega) hk, rfl, rfl⟩
  · rw [if_neg hb, if_neg hb]
    exact Or.inl ⟨rfl, rfl⟩
theorem rP_or {a b : Nat} (ha : 0 < a) (h1 : a < 2 ^ 15) (h2 : b < 2 ^ 15) : rP (nI a ||| nI b) (nI a ||| nI b) := by
  rw [nx_or]
  refine Or.inr ⟨a ||| b, ?_, Nat.or_lt_two_pow h1 h2, rfl, rfl⟩
  have := Nat.left_le_or (n := a) (m := b)
  omega
theorem rP_node (s : Int32) {k : Nat} (hk : k < 15) {l r l' r' : Int32} (hl : rP l l') (hr : rP r r') : rP (rNode s k l r) (yNode s k l' r') := by
  have hp : 0 < 2 ^ k := Nat.two_pow_pos k
  have hp2 : 2 ^ k < 2 ^ 15 := Nat.pow_lt_pow_right (by omega) hk
  unfold rNode yNode
  rcases hl with ⟨rfl, rfl⟩ | ⟨m, m0, m1, rfl, rfl⟩
  · rcases hr with ⟨rfl, rfl⟩ | ⟨n, n0, n1, rfl, rfl⟩
    · by_cases hb : bt s (nI k) = 0
      · rw [if_pos hb, if_pos hb, if_pos rfl, if_pos rfl, if_pos rfl, if_pos rfl]
        exact Or.inl ⟨rfl, rfl⟩
      · rw [if_neg hb, if_neg hb, if_pos (Or.inl rfl), if_pos (Or.inl rfl)]
        exact Or.inl ⟨rfl, rfl⟩
    · by_cases hb : bt s (nI k) = 0
      · rw [if_pos hb, if_pos hb, if_pos rfl, if_neg (rP_ne n0 n1).1, if_pos rfl, if_neg (rP_ne n0 n1).2, pow_nI k hk]
        exact rP_or hp hp2 n1
      · rw [if_neg hb, if_neg hb, if_pos (Or.inl rfl), if_pos (Or.inl rfl)]
        exact Or.inl ⟨rfl, rfl⟩
  · rcases hr with ⟨rfl, rfl⟩ | ⟨n, n0, n1, rfl, rfl⟩
    · by_cases hb : bt s (nI k) = 0
      · rw [if_pos hb, if_pos hb, if_neg (rP_ne m0 m1).1, if_neg (rP_ne m0 m1).1, if_neg (rP_ne m0 m1).2, pow_nI k hk]
        exact rP_or hp hp2 m1
      · rw [if_neg hb, if_neg hb, if_pos (Or.inr rfl), if_pos (Or.inr rfl)]
        exact Or.inl ⟨rfl, rfl⟩
    · by_cases hb : bt s (nI k) = 0
      · rw [if_pos hb, if_pos hb, if_neg (rP_ne m0 m1).1, if_neg (rP_ne m0 m1).1, if_neg (rP_ne m0 m1).2, pow_nI k hk]
        exact rP_or hp hp2 m1
      · rw [if_neg hb, if_neg hb, if_neg (fun q => q.elim (rP_ne m0 m1).1 (rP_ne n0 n1).1), if_neg (fun q => q.elim (rP_ne m0 m1).2 (rP_ne n0 n1).2)]
        exact rP_or m0 m1 n1
theorem rP_all (s : Int32) : ∀ (n k : Nat), (n = 0 → k < 15) → (n = 1 → k < 7) → (n = 2 → k < 3) → (n = 3 → k < 1) → n ≤ 3 → rP (rx s n k) (ryd s n k)
  | 0, k, h, _, _, _, _ => rP_leaf s (h rfl)
  | n + 1, k, h0, h1, h2, h3, h => by
    unfold rx ryd
    refine rP_node s ?_ (rP_all s n (2 * k + 1) ?_ ?_ ?_ ?_ (by omega)) (rP_all s n (2 * k + 2) ?_ ?_ ?_ ?_ (by omega))
    · rcases (show n = 0 ∨ n = 1 ∨ n = 2 by omega) with rfl | rfl | rfl
      · have := h1 rfl; omega
      · have := h2 rfl; omega
      · have := h3 rfl; omega
    · intro e; subst e; have := h1 rfl; omega
    · intro e; subst e; have := h2 rfl; omega
    · intro e; subst e; have := h3 rfl; omega
    · intro e; omega
    · intro e; subst e; have := h1 rfl; omega
    · intro e; subst e; have := h2 rfl; omega
    · intro e; subst e; have := h3 rfl; omega
    · intro e; omega
/-- the class's route and the reference's -/
theorem route_rel (s : Int32) : rP (rx s 3 0) (ry s 0) := by
  have e : ry s 0 = ryd s 3 0 := by unfold ry; rw [if_neg (by omega), if_neg (by omega), if_neg (by omega)]
  rw [e]
  exact rP_all s 3 0 (by omega) (by omega) (by omega) (by omega) (by omega)
theorem route_cases (s : Int32) : (rx s 3 0 = 0 ∧ ry s 0 = -1) ∨ (rx s 3 0 = ry s 0 ∧ ¬ ry s 0 = 0 ∧ ¬ ry s 0 = -1) := by
  rcases route_rel s with h | ⟨m, m0, m1, h1, h2⟩
  · exact Or.inl h
  · refine Or.inr ⟨h1.trans h2.symm, ?_, ?_⟩
    · rw [h2]; exact (rP_ne m0 m1).1
    · rw [h2]; exact (rP_ne m0 m1).2
-- the greatest number
/-- z is the greatest of 0 and f a over the bits a of v -/
def IsMx (z v : Int32) (f : Nat → Int32) : Prop := 0 ≤ z ∧ (∀ a, a < 15 → ¬ bt v (nI a) = 0 → f a ≤ z) ∧ (z = 0 ∨ ∃ a, a < 15 ∧ ¬ bt v (nI a) = 0 ∧ z = f a)
theorem IsMx.uniq {z z' v : Int32} {f : Nat → Int32} (h : IsMx z v f) (h' : IsMx z' v f) : z = z' := by
  have key : ∀ {x y : Int32}, IsMx x v f → IsMx y v f → x ≤ y := fun {x y} hx hy => by
    rcases hx.2.2 with e | ⟨a, ha, hb, e⟩
    · rw [e]; exact hy.1
    · rw [e]; exact hy.2.1 a ha hb
  exact Int32.le_antisymm (key h h') (key h' h)
theorem IsMx.zero (f : Nat → Int32) : IsMx (nI 0) (nI 0) f := ⟨by decide, fun a ha h => absurd (bt_zero a ha) h, Or.inl rfl⟩
theorem le_total32 (x y : Int32) : x ≤ y ∨ y ≤ x := by
  rcases Int.le_total x.toInt y.toInt with h | h
  · exact Or.inl (Int32.le_iff_toInt_le.mpr h)
  · exact Or.inr (Int32.le_iff_toInt_le.mpr h)
/-- a further vote -/
theorem IsMx.add {z v : Int32} {f f' : Nat → Int32} {a : Nat} {n : Int32} (ha : a < 15) (h : IsMx z v f) (hf : ∀ b, b ≠ a → f' b = f b) (hn : f' a = n) (hold : ¬ bt v (nI a) = 0 → f a = n) : IsMx (if z < n then n else z) (v ||| (nI 1 <<< (nI a &&& 31))) f' := by
  obtain ⟨h0, h1, h2⟩ := h
  have hz : ∀ b, b < 15 → ¬ bt v (nI b) = 0 → f' b = f b := fun b hb hv => by
    by_cases e : b = a
    · subst e
      rw [hn, hold hv]
    · exact hf b e
  have hbit : ∀ b, b < 15 → (¬ bt (v ||| (nI 1 <<< (nI a &&& 31))) (nI b) = 0 ↔ ¬ bt v (nI b) = 0 ∨ b = a) := fun b hb => by
    rw [bt_set v ha hb]
    by_cases e1 : bt v (nI b) = 0 <;> by_cases e2 : b = a <;> simp [e1, e2]
  by_cases hlt : z < n
  · rw [if_pos hlt]
    have hle : z ≤ n := Int32.le_of_lt hlt
    refine ⟨Int32.le_trans h0 hle, fun b hb hv => ?_, Or.inr ⟨a, ha, (hbit a ha).mpr (Or.inr rfl), hn.symm⟩⟩
    rcases (hbit b hb).mp hv with hv | rfl
    · rw [hz b hb hv]
      exact Int32.le_trans (h1 b hb hv) hle
    · rw [hn]
      exact Int32.le_refl _
  · rw [if_neg hlt]
    have hle : n ≤ z := Int32.not_lt.mp hlt
    refine ⟨h0, fun b hb hv => ?_, ?_⟩
    · rcases (hbit b hb).mp hv with hv | rfl
      · rw [hz b hb hv]
        exact h1 b hb hv
      · rw [hn]
        exact hle
    · rcases h2 with e | ⟨b, hb, hv, e⟩
      · exact Or.inl e
      · exact Or.inr ⟨b, hb, (hbit b hb).mpr (Or.inl hv), by rw [hz b hb hv]; exact e⟩
theorem mMx_is (M : aS) (q : Nat) : ∀ (m a : Nat) (n : Int32), a + m = 15 → 0 ≤ n → (∀ b, b < a → ¬ bt (M 21 0 q) (nI b) = 0 → M 25 0 (15 * q + b) ≤ n) → (n = 0 ∨ ∃ b, b < 15 ∧ ¬ bt (M 21 0 q) (nI b) = 0 ∧ n = M 25 0 (15 * q + b)) → IsMx (mMx M q m a n) (M 21 0 q) (fun b => M 25 0 (15 * q + b))
  | 0, a, n, h, h0, h1, h2 => ⟨h0, fun b hb hv => h1 b (by omega) hv, h2⟩
  | m + 1, a, n, h, h0, h1, h2 => by
    unfold mMx
    by_cases hb : bt (M 21 0 q) (nI a) = 0
    · rw [if_pos hb]
      refine mMx_is M q m (a + 1) n (by omega) h0 (fun b hba hv => ?_) h2
      by_cases e : b = a
      · subst e; exact absurd hb hv
      · exact h1 b (by omega) hv
    · rw [if_neg hb]
      by_cases hle : M 25 0 (15 * q + a) ≤ n
      · rw [if_pos hle]
        refine mMx_is M q m (a + 1) n (by omega) h0 (fun b hba hv => ?_) h2
        by_cases e : b = a
        · subst e; exact hle
        · exact h1 b (by omega) hv
      · rw [if_neg hle]
        have hge : n ≤ M 25 0 (15 * q + a) := (le_total32 _ _).resolve_left hle
        refine mMx_is M q m (a + 1) _ (by omega) (Int32.le_trans h0 hge) (fun b hba hv => ?_) (Or.inr ⟨a, by omega, hb, rfl⟩)
        by_cases e : b = a
        · subst e; exact Int32.le_refl _
        · exact Int32.le_trans (h1 b (by omega) hv) hge
theorem mMx_eq {M : aS} {q : Nat} {z : Int32} (h : IsMx z (M 21 0 q) (fun b => M 25 0 (15 * q + b))) : mMx M q 15 0 (nI 0) = z :=
  (mMx_is M q 15 0 (nI 0) rfl (by decide) (fun b hb => absurd hb (by omega)) (Or.inl rfl)).uniq h
