/-! THE RELATION is kept: letters that come to arbiters -/
/-- the class has changed its own alone -/
def XF (S T : aS) : Prop := ∀ k j i, 14 ≤ k → T k j i = S k j i
/-- the reference has changed its own alone -/
def MF (M T : aS) : Prop := ∀ k j i, k ≤ 13 → T k j i = M k j i
def MA (M M0 : aS) : Prop := ∀ k i, 15 ≤ k → k ≤ 34 → M k 0 i = M0 k 0 i
theorem XF.rfl' (S : aS) : XF S S := fun _ _ _ _ => rfl
theorem MF.rfl' (S : aS) : MF S S := fun _ _ _ _ => rfl
theorem XF.trans {S T U : aS} (h : XF S T) (h' : XF T U) : XF S U := fun k j i hk => (h' k j i hk).trans (h k j i hk)
theorem MF.trans {S T U : aS} (h : MF S T) (h' : MF T U) : MF S U := fun k j i hk => (h' k j i hk).trans (h k j i hk)
theorem XF.au (S : aS) {t j f : Nat} {v : Int32} (ht : t ≤ 13) : XF S (au S t j f v) := fun k j' i hk => by rw [au_ne _ _ _ (by omega)]
theorem MF.au (S : aS) {t j f : Nat} {v : Int32} (ht : 14 ≤ t) : MF S (au S t j f v) := fun k j' i hk => by rw [au_ne _ _ _ (by omega)]
theorem XF.send (S : aS) (a b c r e f g : Int32) : XF S (xSend S a b c r e f g) := fun k j i hk => xSend_ne S _ _ _ _ _ _ _ (by omega) (by omega)
theorem MF.send (S : aS) (a b c r e f g : Int32) : MF S (mSend S a b c r e f g) := fun k j i hk => mSend_ne S _ _ _ _ _ _ _ (by omega) (by omega)
theorem XF.leave (S : aS) (v w i : Nat) : XF S (xLeave S v w i) := fun k j x hk => by
  unfold xLeave
  rw [acp_ne _ _ _ _ (by omega), au_ne _ _ _ (by omega)]
theorem MF.leave (S : aS) (v m p : Nat) : MF S (mLeave S v m p) := fun k j x hk => mLeave_ne S v m p (by omega) (by omega) (by omega)
theorem MF.add (S : aS) (v m : Nat) (c r : Int32) : MF S (mAdd S v m c r) := ((MF.au S (by omega)).trans (MF.au _ (by omega))).trans (MF.au _ (by omega))
theorem MF.votes (S : aS) (v : Nat) : MF S (mVotes S v) := MF.send _ _ _ _ _ _ _ _
theorem LV.gen {t : Nat} {M M' : aS} {k c r u a z : Int32} (h : LV t M k c r u a z) (h16 : ∀ i, M' 16 0 i = M 16 0 i) (h17 : ∀ i, M' 17 0 i = M 17 0 i) (h18 : ∀ i, M' 18 0 i = M 18 0 i) (hh : ∀ γ ρ ν α, γ < 8 → ρ < 4 → α < 15 → M 17 0 (4 * γ + ρ) = nI 1 → M 18 0 (4 * γ + ρ) = nI ν → Hd M (4 * α + ρ) γ ν → Hd M' (4 * α + ρ) γ ν ∧ M' 29 0 (4 * α + ρ) = M 29 0 (4 * α + ρ)) : LV t M' k c r u a z := by
  obtain ⟨κ, γ, ρ, ν, e1, e2, e3, e4, e5, e6, e7, ⟨w, e8, e9, e10⟩, e11, e12⟩ := h
  refine ⟨κ, γ, ρ, ν, e1, e2, e3, e4, e5, e6, e7, ⟨w, by rw [h16]; exact e8, e9, by omega⟩, e11, fun q1 q2 => ?_⟩
  rw [h17] at q1
  rw [h18] at q2
  obtain ⟨b1, b2, b3, b4⟩ := e12 q1 q2
  refine ⟨b1, b2, b3, fun hk α hα ha => ?_⟩
  obtain ⟨c1, c2⟩ := b4 hk α hα ha
  obtain ⟨d1, d2⟩ := hh γ ρ ν α e5 e6 hα q1 q2 c1
  exact ⟨d1, by rw [d2]; exact c2⟩
/-- one row has changed -/
theorem Inv.row {t : Nat} {S S' M M' : aS} {v : Nat} (h : Inv t S M) (hS : ∀ k j i, k ≤ 13 → ¬ ((k = 9 ∨ k = 10) ∧ j = v) → S' k j i = S k j i) (hM : ∀ k i, 14 ≤ k → k ≤ 35 → ¬ ((k = 26 ∨ k = 27) ∧ 17 * v ≤ i ∧ i < 17 * v + 17) → ¬ ((k = 28 ∨ k = 29) ∧ i = v) → M' k 0 i = M k 0 i) (hB : BV t S' M' v) (hp : ∀ γ ν, γ < 8 → M 17 0 (4 * γ + v % 4) = nI 1 → M 18 0 (4 * γ + v % 4) = nI ν → Hd M v γ ν → Hd M' v γ ν ∧ M' 29 0 v = M 29 0 v) : Inv t S' M' := by
  have m0 : ∀ k i, 14 ≤ k → k ≤ 35 → k ≠ 26 → k ≠ 27 → k ≠ 28 → k ≠ 29 → M' k 0 i = M k 0 i := fun k i h1 h2 h3 h4 h5 h6 => hM k i h1 h2 (by omega) (by omega)
  have hd : ∀ v' γ ν, v' ≠ v → Hd M v' γ ν → Hd M' v' γ ν := fun v' γ ν hne hh => by
    unfold Hd
    rw [hM 26 (17 * v') (by omega) (by omega) (by omega) (by omega), hM 27 (17 * v') (by omega) (by omega) (by omega) (by omega), hM 28 v' (by omega) (by omega) (by omega) (by omega)]
    exact hh
  obtain ⟨⟨n, p1, p2⟩, hQ, hV, hL, hU, hD⟩ := h
  refine ⟨⟨n, p1.congr (hS 2 _ _ (by omega) (by omega)) (m0 14 _ (by omega) (by omega) (by omega) (by omega) (by omega) (by omega)) (fun i => hS 3 _ _ (by omega) (by omega)) (fun i => m0 35 i (by omega) (by omega) (by omega) (by omega) (by omega) (by omega)), p2.congr (fun i => m0 35 i (by omega) (by omega) (by omega) (by omega) (by omega) (by omega)) (fun k c r u a z hz => hz.gen (fun i => m0 16 i (by omega) (by omega) (by omega) (by omega) (by omega) (by omega)) (fun i => m0 17 i (by omega) (by omega) (by omega) (by omega) (by omega) (by omega)) (fun i => m0 18 i (by omega) (by omega) (by omega) (by omega) (by omega) (by omega)) (fun γ ρ ν α g1 g2 g3 g4 g5 g6 => ?_))⟩, fun x hx => (hQ x hx).gen (fun i => hS 8 _ _ (by omega) (by omega)) (fun k h1 h2 => m0 k x (by omega) (by omega) (by omega) (by omega) (by omega) (by omega)) (fun i => m0 16 i (by omega) (by omega) (by omega) (by omega) (by omega) (by omega)) (fun b hb => m0 25 _ (by omega) (by omega) (by omega) (by omega) (by omega) (by omega)) (fun a ν g1 g2 g3 g4 => ?_), fun x hx => ?_, fun r hr => (hL r hr).congr (Nat.le_refl t) (fun i => hS 11 _ _ (by omega) (by omega)) (fun i => hS 12 _ _ (by omega) (by omega)) (fun i => hS 13 _ _ (by omega) (by omega)) (fun k h1 h2 i => m0 k i (by omega) (by omega) (by omega) (by omega) (by omega) (by omega)), fun c hc => ?_, fun b hb => ?_⟩
  · by_cases e : 4 * α + ρ = v
    · rw [e] at g6 ⊢
      have hρ : v % 4 = ρ := by omega
      exact hp γ ν g1 (by rw [hρ]; exact g4) (by rw [hρ]; exact g5) g6
    · exact ⟨hd _ _ _ e g6, hM 29 _ (by omega) (by omega) (by omega) (by omega)⟩
  · by_cases e : 4 * a + x % 4 = v
    · rw [e] at g4 ⊢
      have hρ : 4 * (x / 4) + v % 4 = x := by omega
      exact hp (x / 4) ν (by omega) (by rw [hρ]; exact g2) (by rw [hρ]; exact g3) g4
    · exact ⟨hd _ _ _ e g4, hM 29 _ (by omega) (by omega) (by omega) (by omega)⟩
  · by_cases e : x = v
    · rw [e]; exact hB
    · obtain ⟨a1, m, a2, a3, a4, a5, a6⟩ := hV x hx
      refine ⟨by rw [hS 9 _ _ (by omega) (by omega), hM 29 _ (by omega) (by omega) (by omega) (by omega)]; exact a1, m, a2, by rw [hM 28 _ (by omega) (by omega) (by omega) (by omega)]; exact a3, by rw [hS 9 _ _ (by omega) (by omega)]; exact a4, fun hm => by rw [hS 9 _ _ (by omega) (by omega)]; exact a5 hm, fun i hi => ?_⟩
      obtain ⟨γ, ν, b1, b2, ⟨w, c1, c2, c3⟩, b4, b5, b6⟩ := a6 i hi
      refine ⟨γ, ν, b1, b2, ⟨w, by rw [m0 16 _ (by omega) (by omega) (by omega) (by omega) (by omega) (by omega)]; exact c1, c2, c3⟩, by rw [hM 26 _ (by omega) (by omega) (by omega) (by omega)]; exact b4, by rw [hM 27 _ (by omega) (by omega) (by omega) (by omega)]; exact b5, ?_⟩
      unfold xRow at b6 ⊢
      rw [hS 9 _ _ (by omega) (by omega), hS 10 _ _ (by omega) (by omega)]
      exact b6
  · obtain ⟨w, a1, a2, a3⟩ := hU c hc
    exact ⟨w, a1, by rw [m0 16 _ (by omega) (by omega) (by omega) (by omega) (by omega) (by omega)]; exact a2, by rw [hS 7 _ _ (by omega) (by omega)]; exact a3⟩
  · unfold BD
    rw [m0 15 _ (by omega) (by omega) (by omega) (by omega) (by omega) (by omega), hS 1 _ _ (by omega) (by omega)]
    exact hD b hb
theorem ent_iff {t : Nat} {S M : aS} {v m i γ ν : Nat} (ht : t < 1000) (hV : BV t S M v) (hm : M 28 0 v = nI m) (h17 : m ≤ 17) (hi : i < m) (hγ : γ < 8) (hν : ν ≤ t) : (M 26 0 (17 * v + i) = nI γ ∧ M 27 0 (17 * v + i) = nI ν) ↔ xRow S v i = nI (8 * ν + γ) := by
  obtain ⟨a1, m', a2, a3, a4, a5, a6⟩ := hV
  have : m' = m := (nI_eq (by omega) (by omega)).mp (a3.symm.trans hm)
  subst this
  obtain ⟨γ', ν', b1, b2, ⟨w, b3, b3', b3''⟩, b4, b5, b6⟩ := a6 i hi
  rw [b4, b5, b6, nI_eq (by omega) (by omega), nI_eq (by omega) (by omega), nI_eq (by omega) (by omega)]
  omega
theorem mfnd_fnd {M : aS} {v : Nat} {c r e : Int32} {f : Nat → Int32} : ∀ k i : Nat, (∀ j, i ≤ j → j < i + k → ((M 26 0 (17 * v + (j + 1)) = c ∧ M 27 0 (17 * v + (j + 1)) = r) ↔ f j = e)) → mfnd M v c r k (i + 1) = (fnd f e k i).map (· + 1)
  | 0, _, _ => rfl
  | k + 1, i, h => by
    unfold mfnd fnd
    have := h i (by omega) (by omega)
    by_cases e1 : f i = e
    · rw [if_pos (this.mpr e1), if_pos e1]
      rfl
    · rw [if_neg (fun z => e1 (this.mp z)), if_neg e1]
      exact mfnd_fnd k (i + 1) (fun j h1 h2 => h j (by omega) (by omega))
theorem row_find {t : Nat} {S M : aS} {v w γ ν : Nat} (ht : t < 1000) (hV : BV t S M v) (hm : M 28 0 v = nI (w + 1)) (h17 : w + 1 ≤ 17) (hγ : γ < 8) (hν : ν ≤ t) : mfnd M v (nI γ) (nI ν) (w + 1) 0 = if S 9 v 0 = nI (8 * ν + γ) then some 0 else (fnd (S 10 v) (nI (8 * ν + γ)) w 0).map (· + 1) := by
  have h0 := ent_iff (i := 0) ht hV hm h17 (by omega) hγ hν
  have hx : xRow S v 0 = S 9 v 0 := if_pos rfl
  rw [hx] at h0
  unfold mfnd
  by_cases e : S 9 v 0 = nI (8 * ν + γ)
  · rw [if_pos (h0.mpr e), if_pos e]
  · rw [if_neg (fun z => e (h0.mp z)), if_neg e]
    refine mfnd_fnd w 0 (fun j _ h2 => ?_)
    have hj := ent_iff (i := j + 1) ht hV hm h17 (by omega) hγ hν
    rw [show xRow S v (j + 1) = S 10 v j by unfold xRow; rw [if_neg (by omega)]; rfl] at hj
    exact hj
/-- a vote that is sent to a row's head -/
theorem lv_vote {t : Nat} {M : aS} {a r γ ν : Nat} (ha : a < 15) (hr : r < 4) (hγ : γ < 8) (h1 : 1 ≤ ν) (hw : ∃ w, M 16 0 γ = nI w ∧ ν ≤ w ∧ w ≤ t) (hd : Hd M (4 * a + r) γ ν) : LV t M (nI 2) (nI γ) (nI r) (nI ν) (nI a) (M 29 0 (4 * a + r)) := by
  refine ⟨2, γ, r, ν, rfl, rfl, rfl, rfl, hγ, hr, h1, hw, Or.inr ⟨by omega, by omega, a, ha, rfl⟩, fun _ _ => ⟨by omega, by omega, by omega, fun _ α hα e => ?_⟩⟩
  have : a = α := (nI_eq (by omega) (by omega)).mp e
  subst this
  exact ⟨hd, rfl⟩
theorem mAdd_ne (M : aS) (v m : Nat) (c r : Int32) {k i : Nat} (h1 : ¬ ((k = 26 ∨ k = 27) ∧ i = 17 * v + m)) (h2 : ¬ (k = 28 ∧ i = v)) : mAdd M v m c r k 0 i = M k 0 i := by
  unfold mAdd au
  rw [if_neg (by omega), if_neg (by omega), if_neg (by omega)]
section RA
variable {zs : Nat × (Nat → Int32)} {d : Nat}
theorem Inv.reach1 {t : Nat} {S M0 : aS} {a r γ ν : Nat} {num : Int32} (ht : t < 1000) (ha : a < 15) (hr : r < 4) (hγ : γ < 8) (hν : 1 ≤ ν) (hw : ∃ w, M0 16 0 γ = nI w ∧ ν ≤ w ∧ w ≤ t) (h : Inv t S M0) : ∃ T, Rn zs (d + 4) 36 (aB 36 0) [(0, .inr (1, 0)), (1, .inl (nI 1)), (2, .inl (nI a)), (3, .inl (nI r)), (4, .inl (nI (8 * ν + γ))), (5, .inl num)] [] S (rE none T) ∧ XF S T ∧ ∀ M, MA M M0 → Inv t S M → ∃ T', Rn zs (d + 4) 83 (aB 83 0) [(0, .inr (14, 0)), (1, .inl (nI 1)), (2, .inl (nI (4 * a + r))), (3, .inl (nI γ)), (4, .inl (nI ν)), (5, .inl num)] [] M (rE none T') ∧ MF M T' ∧ Inv t T T' := by
  have hv : 4 * a + r < 60 := by omega
  obtain ⟨n, hP, -⟩ := h.1
  obtain ⟨hP, -, -, -⟩ := hP.pok
  have hVe := h.2.2.1 (4 * a + r) hv
  have hV := hVe
  obtain ⟨a1, m, a2, a3, a4, a5, a6⟩ := hVe
  obtain ⟨w0, w1, w2, w3⟩ := hw
  have e8 : (8 * ν + γ) % 8 = γ := by omega
  have e9 : (8 * ν + γ) / 8 = ν := by omega
  have r4 : (4 * a + r) % 4 = r := by omega
  have r5 : (4 * a + r) / 4 = a := by omega
  rcases m with _ | w
  · refine ⟨_, x_reach1_new ha hr hP (a5 rfl) (by omega) (by omega), (XF.au _ (by omega)).trans (XF.send _ _ _ _ _ _ _ _), fun M hM hI => ?_⟩
    obtain ⟨n', hQ, -⟩ := hI.1
    obtain ⟨-, -, hQ, -⟩ := hQ.pok
    have hm : M (28) 0 (4 * a + r) = nI 0 := (hM 28 _ (by omega) (by omega)).trans a3
    have h29 : S 9 (4 * a + r) 1 = M 29 0 (4 * a + r) := a1.trans (hM 29 _ (by omega) (by omega)).symm
    refine ⟨_, m_comes1_add hv hQ hm (by omega) rfl, ?_, ?_⟩
    · rw [if_pos rfl]
      exact (MF.add _ _ _ _ _).trans (MF.votes _ _)
    rw [if_pos rfl]
    unfold mVotes
    generalize hv' : 4 * a + r = v at *
    have g26 : mAdd M v 0 (nI γ) (nI ν) 26 0 (17 * v) = nI γ := by simp [mAdd, au]
    have g27 : mAdd M v 0 (nI γ) (nI ν) 27 0 (17 * v) = nI ν := by simp [mAdd, au]
    have g28 : mAdd M v 0 (nI γ) (nI ν) 28 0 v = nI 1 := by simp [mAdd, au]
    have g29 : mAdd M v 0 (nI γ) (nI ν) 29 0 v = M 29 0 v := mAdd_ne _ _ _ _ _ (by omega) (by omega)
    have g16 : mAdd M v 0 (nI γ) (nI ν) 16 0 γ = nI w0 := (mAdd_ne _ _ _ _ _ (by omega) (by omega)).trans ((hM 16 _ (by omega) (by omega)).trans w1)
    have key : Inv t (au S 9 v 0 (nI (8 * ν + γ))) (mAdd M v 0 (nI γ) (nI ν)) := by
      refine hI.row (v := v) (fun k j i h1 h2 => by rw [au_ne _ _ _ (by omega)]) (fun k i h1 h2 h3 h4 => mAdd_ne _ _ _ _ _ (by omega) (by omega)) ⟨?_, 1, by omega, g28, ?_, fun z => absurd z (by omega), fun i hi => ?_⟩ (fun γ' ν' _ _ _ hd => ?_)
      · rw [g29]; simp [au]; exact h29
      · simp [au]; exact a4
      · have : i = 0 := by omega
        subst this
        exact ⟨γ, ν, hγ, hν, ⟨w0, g16, w2, w3⟩, g26, g27, by simp [xRow, au]⟩
      · obtain ⟨⟨m, q1, q2, q3⟩, -⟩ := hd
        have := (nI_eq (by omega) (by omega)).mp (q3.symm.trans hm)
        omega
    have hl := lv_vote (t := t) (M := mAdd M v 0 (nI γ) (nI ν)) ha hr hγ hν ⟨w0, g16, w2, w3⟩ (by rw [hv']; exact ⟨⟨1, by omega, by omega, g28⟩, g26, g27⟩)
    rw [hv', g29] at hl
    rw [g26, g27, g29, e8, e9, r4, r5, h29]
    exact key.send hl
  · have hne : S 9 (4 * a + r) 0 ≠ 0 := by
      obtain ⟨γ', ν', b1, b2, ⟨w', b3, b3', b3''⟩, b4, b5, b6⟩ := a6 0 (by omega)
      rw [show xRow S (4 * a + r) 0 = S 9 (4 * a + r) 0 from if_pos rfl] at b6
      rw [b6]
      exact nI_ne0 (by omega) (by omega)
    by_cases hno : S 9 (4 * a + r) 0 = nI (8 * ν + γ) ∨ fnd (S 10 (4 * a + r)) (nI (8 * ν + γ)) w 0 ≠ none ∨ w = 16
    · refine ⟨_, x_reach1_no ha hr hne a4 (by omega) hno, XF.rfl' _, fun M hM hI => ?_⟩
      have hm : M (28) 0 (4 * a + r) = nI (w + 1) := (hM 28 _ (by omega) (by omega)).trans a3
      refine ⟨_, m_comes1_no hv hm (by omega) ?_, MF.rfl' _, hI⟩
      rw [row_find ht (hI.2.2.1 _ hv) hm (by omega) hγ (by omega)]
      rcases hno with e | e | e
      · rw [if_pos e]; exact Or.inl (fun z => by cases z)
      · by_cases e0 : S 9 (4 * a + r) 0 = nI (8 * ν + γ)
        · rw [if_pos e0]; exact Or.inl (fun z => by cases z)
        · rw [if_neg e0]
          refine Or.inl (fun z => e ?_)
          cases hf : fnd (S 10 (4 * a + r)) (nI (8 * ν + γ)) w 0 with
          | none => rfl
          | some k => rw [hf] at z; cases z
      · exact Or.inr (by omega)
    · have h1 : S 9 (4 * a + r) 0 ≠ nI (8 * ν + γ) := fun z => hno (Or.inl z)
      have h2 : fnd (S 10 (4 * a + r)) (nI (8 * ν + γ)) w 0 = none := Classical.byContradiction (fun z => hno (Or.inr (Or.inl z)))
      have h3 : w < 16 := by
        have : ¬ w = 16 := fun z => hno (Or.inr (Or.inr z))
        omega
      refine ⟨_, x_reach1_add ha hr hne a4 h3 h1 h2, (XF.au _ (by omega)).trans (XF.au _ (by omega)), fun M hM hI => ?_⟩
      obtain ⟨n', hQ, -⟩ := hI.1
      obtain ⟨-, -, hQ, -⟩ := hQ.pok
      have hm : M (28) 0 (4 * a + r) = nI (w + 1) := (hM 28 _ (by omega) (by omega)).trans a3
      have hB := hI.2.2.1 _ hv
      refine ⟨_, m_comes1_add hv hQ hm (by omega) (by rw [row_find ht hB hm (by omega) hγ (by omega), if_neg h1, h2]; rfl), ?_, ?_⟩
      · rw [if_neg (by omega)]
        exact MF.add _ _ _ _ _
      rw [if_neg (by omega)]
      generalize hv' : 4 * a + r = v at *
      have g26 : mAdd M v (w + 1) (nI γ) (nI ν) 26 0 (17 * v + (w + 1)) = nI γ := by simp [mAdd, au]
      have g27 : mAdd M v (w + 1) (nI γ) (nI ν) 27 0 (17 * v + (w + 1)) = nI ν := by simp [mAdd, au]
      have g28 : mAdd M v (w + 1) (nI γ) (nI ν) 28 0 v = nI (w + 2) := by simp [mAdd, au]
      have g16 : mAdd M v (w + 1) (nI γ) (nI ν) 16 0 γ = nI w0 := (mAdd_ne _ _ _ _ _ (by omega) (by omega)).trans ((hM 16 _ (by omega) (by omega)).trans w1)
      refine hI.row (v := v) (fun k j i h1 h2 => by rw [au_ne _ _ _ (by omega), au_ne _ _ _ (by omega)]) (fun k i h1 h2 h3 h4 => mAdd_ne _ _ _ _ _ (by omega) (by omega)) ⟨?_, w + 2, by omega, g28, ?_, fun z => absurd z (by omega), fun i hi => ?_⟩ (fun γ' ν' _ _ _ hd => ?_)
      · rw [mAdd_ne _ _ _ _ _ (by omega) (by omega)]
        simp [au]
        exact hB.1
      · simp [au]
      · by_cases e : i = w + 1
        · subst e
          exact ⟨γ, ν, hγ, hν, ⟨w0, g16, w2, w3⟩, g26, g27, by simp [xRow, au]⟩
        · obtain ⟨f1, m', f2, f3, f4, f5, f6⟩ := hB
          have : m' = w + 1 := (nI_eq (by omega) (by omega)).mp (f3.symm.trans hm)
          subst this
          obtain ⟨γ', ν', b1, b2, ⟨w', b3, b3', b3''⟩, b4, b5, b6⟩ := f6 i (by omega)
          refine ⟨γ', ν', b1, b2, ⟨w', (mAdd_ne _ _ _ _ _ (by omega) (by omega)).trans b3, b3', b3''⟩, (mAdd_ne _ _ _ _ _ (by omega) (by omega)).trans b4, (mAdd_ne _ _ _ _ _ (by omega) (by omega)).trans b5, ?_⟩
          unfold xRow at b6 ⊢
          by_cases e0 : i = 0
          · rw [if_pos e0] at b6 ⊢
            simp [au]
            exact b6
          · rw [if_neg e0] at b6 ⊢
            have : i - 1 ≠ w := by omega
            simp [au, this]
            exact b6
      · obtain ⟨-, q4, q5⟩ := hd
        exact ⟨⟨⟨w + 2, by omega, by omega, g28⟩, (mAdd_ne _ _ _ _ _ (by omega) (by omega)).trans q4, (mAdd_ne _ _ _ _ _ (by omega) (by omega)).trans q5⟩, mAdd_ne _ _ _ _ _ (by omega) (by omega)⟩
end RA
