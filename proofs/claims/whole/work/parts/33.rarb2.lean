/-! THE RELATION is kept: WRITE, GIVE UP, RELEASE at arbiters -/
theorem mLeave_26 (M : aS) {v m p i k : Nat} (hk : k = 26 ∨ k = 27) (hi : i < 17) : mLeave M v m p k 0 (17 * v + i) = if p ≤ i ∧ i < m then M k 0 (17 * v + (i + 1)) else M k 0 (17 * v + i) := by
  unfold mLeave mRow
  by_cases h : p ≤ i ∧ i < m
  · rw [if_pos ⟨hk, rfl, by omega, by omega⟩, if_pos h]
    unfold au
    rw [if_neg (by omega)]
    rfl
  · rw [if_neg (fun q => h (by omega)), if_neg h]
    unfold au
    rw [if_neg (by omega)]
theorem mLeave_far (M : aS) {v m p i k : Nat} (hm : m ≤ 16) (h1 : ¬ ((k = 26 ∨ k = 27) ∧ 17 * v ≤ i ∧ i < 17 * v + 17)) (h2 : ¬ (k = 28 ∧ i = v)) : mLeave M v m p k 0 i = M k 0 i := by
  unfold mLeave mRow
  have : au M 28 0 v (nI m) k 0 i = M k 0 i := by unfold au; rw [if_neg (by omega)]
  rw [if_neg (by omega)]
  exact this
theorem xLeave_10 (S : aS) {v w i j : Nat} : xLeave S v w i 10 v j = if i ≤ j ∧ j < w - 1 then S 10 v (j + 1) else S 10 v j := by
  have e : xLeave S v w i 10 v = va_cpy (S 10 v) (S 10 v) (i + 1) i (w - 1 - i) := by
    unfold xLeave
    rw [acp_at]
    have : au S 9 v 2 (nI (w - 1)) 10 v = S 10 v := by funext f; simp [au]
    rw [this]
  rw [e]
  unfold va_cpy
  by_cases h : i ≤ j ∧ j < w - 1
  · rw [if_pos (by omega), if_pos h, show i + 1 + (j - i) = j + 1 by omega]
  · rw [if_neg (by omega), if_neg h]
theorem xLeave_9 (S : aS) {v w i j : Nat} : xLeave S v w i 9 v j = if j = 2 then nI (w - 1) else S 9 v j := by
  unfold xLeave
  rw [acp_ne _ _ _ _ (by omega)]
  simp [au]
theorem xLeave_ne (S : aS) {v w i k j x : Nat} (h : ¬ ((k = 9 ∨ k = 10) ∧ j = v)) : xLeave S v w i k j x = S k j x := by
  unfold xLeave
  rw [acp_ne _ _ _ _ (by omega), au_ne _ _ _ (by omega)]
/-- the head of a row is one -/
theorem hd_eq {t : Nat} {S M : aS} {v w γ ν γ' ν' : Nat} (ht : t < 1000) (hV : BV t S M v) (hm : M 28 0 v = nI (w + 1)) (h17 : w + 1 ≤ 17) (hγ : γ < 8) (hν : ν ≤ t) (hγ' : γ' < 8) (h0 : S 9 v 0 = nI (8 * ν + γ)) (hd : Hd M v γ' ν') : γ' = γ ∧ M 18 0 (4 * γ' + v % 4) = M 18 0 (4 * γ + v % 4) ∧ nI ν' = nI ν := by
  have := (ent_iff (i := 0) ht hV hm h17 (by omega) hγ hν).mpr (by rw [← h0]; exact if_pos rfl)
  obtain ⟨-, q1, q2⟩ := hd
  have e : γ' = γ := (nI_eq (by omega) (by omega)).mp (q1.symm.trans this.1)
  exact ⟨e, by rw [e], q2.symm.trans this.2⟩
section RB
variable {zs : Nat × (Nat → Int32)} {d : Nat}
theorem Inv.reach3 {t : Nat} {S M0 : aS} {a r γ ν : Nat} {num : Int32} (ht : t < 1000) (ha : a < 15) (hr : r < 4) (hγ : γ < 8) (hν : 1 ≤ ν) (hw : ∃ w, M0 16 0 γ = nI w ∧ ν ≤ w ∧ w ≤ t) (hn : ¬ (M0 17 0 (4 * γ + r) = nI 1 ∧ M0 18 0 (4 * γ + r) = nI ν)) (h : Inv t S M0) : ∃ T, Rn zs (d + 4) 36 (aB 36 0) [(0, .inr (1, 0)), (1, .inl (nI 3)), (2, .inl (nI a)), (3, .inl (nI r)), (4, .inl (nI (8 * ν + γ))), (5, .inl num)] [] S (rE none T) ∧ XF S T ∧ ∀ M, MA M M0 → Inv t S M → ∃ T', Rn zs (d + 4) 83 (aB 83 0) [(0, .inr (14, 0)), (1, .inl (nI 3)), (2, .inl (nI (4 * a + r))), (3, .inl (nI γ)), (4, .inl (nI ν)), (5, .inl num)] [] M (rE none T') ∧ MF M T' ∧ Inv t T T' := by
  have hv : 4 * a + r < 60 := by omega
  obtain ⟨n, hP, -⟩ := h.1
  obtain ⟨hP, -, -, -⟩ := hP.pok
  obtain ⟨a1, m, a2, a3, a4, a5, a6⟩ := h.2.2.1 (4 * a + r) hv
  obtain ⟨w0, w1, w2, w3⟩ := hw
  have e8 : (8 * ν + γ) % 8 = γ := by omega
  have e9 : (8 * ν + γ) / 8 = ν := by omega
  have r4 : (4 * a + r) % 4 = r := by omega
  have r5 : (4 * a + r) / 4 = a := by omega
  by_cases hh : S 9 (4 * a + r) 0 = nI (8 * ν + γ)
  · refine ⟨_, x_reach3 ha hr hP hh (by omega) (by omega), (XF.au _ (by omega)).trans (XF.send _ _ _ _ _ _ _ _), fun M hM hI => ?_⟩
    obtain ⟨n', hQ, -⟩ := hI.1
    obtain ⟨-, -, hQ, -⟩ := hQ.pok
    rcases m with _ | w
    · exact absurd ((a5 rfl).symm.trans hh).symm (nI_ne0 (by omega) (by omega))
    have hm : M (28) 0 (4 * a + r) = nI (w + 1) := (hM 28 _ (by omega) (by omega)).trans a3
    have hB := hI.2.2.1 _ hv
    refine ⟨_, m_comes3 hv hQ hm (by omega) (by rw [row_find ht hB hm (by omega) hγ (by omega), if_pos hh]), (MF.au _ (by omega)).trans (MF.send _ _ _ _ _ _ _ _), ?_⟩
    rw [e8, e9, r4, r5]
    generalize hv' : 4 * a + r = v at *
    have hne : ¬ (M 17 0 (4 * γ + r) = nI 1 ∧ M 18 0 (4 * γ + r) = nI ν) := by
      rw [hM 17 _ (by omega) (by omega), hM 18 _ (by omega) (by omega)]
      exact hn
    rw [mx_eq, hB.1]
    generalize (if num ≤ M 29 0 v then M 29 0 v else num) = Z
    have m0 : ∀ k i, k ≠ 29 → au M 29 0 v Z k 0 i = M k 0 i := fun k i hk => by unfold au; rw [if_neg (by omega)]
    have key : Inv t (au S 9 v 1 Z) (au M 29 0 v Z) := by
      refine hI.row (v := v) (fun k j i h1 h2 => by rw [au_ne _ _ _ (by omega)]) (fun k i h1 h2 h3 h4 => by unfold au; rw [if_neg (by omega)]) ⟨by simp [au], ?_⟩ (fun γ' ν' g1 g2 g3 hd => ?_)
      · obtain ⟨-, m, f2, f3, f4, f5, f6⟩ := hB
        refine ⟨m, f2, by rw [m0 28 _ (by omega)]; exact f3, by simp [au]; exact f4, fun z => by simp [au]; exact f5 z, fun i hi => ?_⟩
        obtain ⟨γ', ν', b1, b2, ⟨w', b3, b3', b3''⟩, b4, b5, b6⟩ := f6 i hi
        refine ⟨γ', ν', b1, b2, ⟨w', by rw [m0 16 _ (by omega)]; exact b3, b3', b3''⟩, by rw [m0 26 _ (by omega)]; exact b4, by rw [m0 27 _ (by omega)]; exact b5, ?_⟩
        unfold xRow at b6 ⊢
        by_cases e0 : i = 0
        · rw [if_pos e0] at b6 ⊢
          simp [au]
          exact b6
        · rw [if_neg e0] at b6 ⊢
          simp [au]
          exact b6
      · exfalso
        obtain ⟨k1, k2, k3⟩ := hd_eq ht hB hm (by omega) hγ (by omega) g1 hh hd
        subst k1
        rw [r4] at g2 g3
        exact hne ⟨g2, g3.trans k3⟩
    refine key.send ⟨4, γ, r, ν, rfl, rfl, rfl, rfl, hγ, hr, hν, ⟨w0, by rw [m0 16 _ (by omega)]; exact (hM 16 _ (by omega) (by omega)).trans w1, w2, w3⟩, Or.inr ⟨by omega, by omega, a, ha, rfl⟩, fun _ _ => ⟨by omega, by omega, by omega, fun z => absurd z (by omega)⟩⟩
  · refine ⟨_, x_reach3_no ha hr hh, XF.rfl' _, fun M hM hI => ?_⟩
    have hm : M (28) 0 (4 * a + r) = nI m := (hM 28 _ (by omega) (by omega)).trans a3
    refine ⟨_, m_comes3_no hv hm (by omega) ?_, MF.rfl' _, hI⟩
    rcases m with _ | w
    · exact fun z => by cases z
    · rw [row_find ht (hI.2.2.1 _ hv) hm (by omega) hγ (by omega), if_neg hh]
      cases fnd (S 10 (4 * a + r)) (nI (8 * ν + γ)) w 0 with
      | none => exact fun z => by cases z
      | some k => exact fun z => by cases z
theorem Inv.reach5 {t : Nat} {S M0 : aS} {a r γ ν κ : Nat} {num : Int32} (hκ : κ = 5 ∨ κ = 6) (ht : t < 1000) (ha : a < 15) (hr : r < 4) (hγ : γ < 8) (hν : 1 ≤ ν) (hw : ∃ w, M0 16 0 γ = nI w ∧ ν ≤ w ∧ w ≤ t) (hn : ¬ (M0 17 0 (4 * γ + r) = nI 1 ∧ M0 18 0 (4 * γ + r) = nI ν)) (h : Inv t S M0) : ∃ T, Rn zs (d + 4) 36 (aB 36 0) [(0, .inr (1, 0)), (1, .inl (nI κ)), (2, .inl (nI a)), (3, .inl (nI r)), (4, .inl (nI (8 * ν + γ))), (5, .inl num)] [] S (rE none T) ∧ XF S T ∧ ∀ M, MA M M0 → Inv t S M → ∃ T', Rn zs (d + 4) 83 (aB 83 0) [(0, .inr (14, 0)), (1, .inl (nI κ)), (2, .inl (nI (4 * a + r))), (3, .inl (nI γ)), (4, .inl (nI ν)), (5, .inl num)] [] M (rE none T') ∧ MF M T' ∧ Inv t T T' := by
  have hv : 4 * a + r < 60 := by omega
  obtain ⟨n, hP, -⟩ := h.1
  obtain ⟨hP, -, -, -⟩ := hP.pok
  obtain ⟨a1, m, a2, a3, a4, a5, a6⟩ := h.2.2.1 (4 * a + r) hv
  obtain ⟨w0, w1, w2, w3⟩ := hw
  have r4 : (4 * a + r) % 4 = r := by omega
  have r5 : (4 * a + r) / 4 = a := by omega
  rcases m with _ | w
  · -- an empty row
    have hh : S 9 (4 * a + r) 0 ≠ nI (8 * ν + γ) := fun z => absurd ((a5 rfl).symm.trans z).symm (nI_ne0 (by omega) (by omega))
    refine ⟨_, x_reach5_other hκ ha hr hh a4 (by omega), XF.rfl' _, fun M hM hI => ?_⟩
    have hm : M (28) 0 (4 * a + r) = nI 0 := (hM 28 _ (by omega) (by omega)).trans a3
    exact ⟨_, m_comes5 hκ hv hm (by omega) (m_leaves_none hv hm (by omega) rfl), MF.rfl' _, hI⟩
  · by_cases hh : S 9 (4 * a + r) 0 = nI (8 * ν + γ)
    · have hgo : ∀ M, MA M M0 → Inv t S M → ∀ γ' ν', γ' < 8 → M 17 0 (4 * γ' + (4 * a + r) % 4) = nI 1 → M 18 0 (4 * γ' + (4 * a + r) % 4) = nI ν' → Hd M (4 * a + r) γ' ν' → False := fun M hM hI γ' ν' g1 g2 g3 hd => by
        have hm : M (28) 0 (4 * a + r) = nI (w + 1) := (hM 28 _ (by omega) (by omega)).trans a3
        obtain ⟨k1, k2, k3⟩ := hd_eq ht (hI.2.2.1 _ hv) hm (by omega) hγ (by omega) g1 hh hd
        subst k1
        rw [r4, hM 17 _ (by omega) (by omega)] at g2
        rw [r4, hM 18 _ (by omega) (by omega)] at g3
        exact hn ⟨g2, g3.trans k3⟩
      by_cases hw0 : w = 0
      · -- the last one
        subst hw0
        refine ⟨_, x_reach5_last hκ ha hr hh a4, XF.au _ (by omega), fun M hM hI => ?_⟩
        obtain ⟨n', hQ, -⟩ := hI.1
        obtain ⟨-, -, hQ, -⟩ := hQ.pok
        have hm : M (28) 0 (4 * a + r) = nI (0 + 1) := (hM 28 _ (by omega) (by omega)).trans a3
        have hB := hI.2.2.1 _ hv
        refine ⟨_, m_comes5 hκ hv hm (by omega) (m_leaves_some hv hQ hm (by omega) (p := 0) (by rw [row_find ht hB hm (by omega) hγ (by omega), if_pos hh])), ?_, ?_⟩
        · rw [if_neg (by omega)]
          exact MF.leave _ _ _ _
        rw [if_neg (by omega)]
        have hg := hgo M hM hI
        generalize hv' : 4 * a + r = v at *
        refine hI.row (v := v) (fun k j i h1 h2 => by rw [au_ne _ _ _ (by omega)]) (fun k i h1 h2 h3 h4 => mLeave_far M (by omega) (by omega) (by omega)) ⟨?_, 0, by omega, mLeave_m _ _ _ _, ?_, fun _ => ?_, fun i hi => by omega⟩ (fun γ' ν' g1 g2 g3 hd => (hg γ' ν' g1 g2 g3 hd).elim)
        · rw [mLeave_far M (by omega) (by omega) (by omega)]
          simp [au]
          exact hB.1
        · simp [au]; exact a4
        · simp [au]; rfl
      · -- the next one
        obtain ⟨γ1, ν1, b1, b2, ⟨w', b3, b3', b3''⟩, b4, b5, b6⟩ := a6 1 (by omega)
        have b6' : S 10 (4 * a + r) 0 = nI (8 * ν1 + γ1) := b6
        refine ⟨_, x_reach5_next hκ ha hr hP hh a4 (by omega) (by omega) b6' (by omega) (by omega), ((XF.au _ (by omega)).trans (XF.leave _ _ _ _)).trans (XF.send _ _ _ _ _ _ _ _), fun M hM hI => ?_⟩
        obtain ⟨n', hQ, -⟩ := hI.1
        obtain ⟨-, -, hQ, -⟩ := hQ.pok
        have hm : M (28) 0 (4 * a + r) = nI (w + 1) := (hM 28 _ (by omega) (by omega)).trans a3
        have hB := hI.2.2.1 _ hv
        refine ⟨_, m_comes5 hκ hv hm (by omega) (m_leaves_some hv hQ hm (by omega) (p := 0) (by rw [row_find ht hB hm (by omega) hγ (by omega), if_pos hh])), ?_, ?_⟩
        · rw [if_pos ⟨rfl, by omega⟩]
          exact (MF.leave _ _ _ _).trans (MF.votes _ _)
        rw [if_pos ⟨rfl, by omega⟩]
        unfold mVotes
        have hg := hgo M hM hI
        rw [show (8 * ν1 + γ1) % 8 = γ1 by omega, show (8 * ν1 + γ1) / 8 = ν1 by omega, r4, r5]
        generalize hv' : 4 * a + r = v at *
        have g26 : mLeave M v w 0 26 0 (17 * v) = nI γ1 := by
          have := mLeave_26 M (v := v) (m := w) (p := 0) (i := 0) (k := 26) (by omega) (by omega)
          rw [if_pos (by omega)] at this
          exact this.trans ((hM 26 _ (by omega) (by omega)).trans b4)
        have g27 : mLeave M v w 0 27 0 (17 * v) = nI ν1 := by
          have := mLeave_26 M (v := v) (m := w) (p := 0) (i := 0) (k := 27) (by omega) (by omega)
          rw [if_pos (by omega)] at this
          exact this.trans ((hM 27 _ (by omega) (by omega)).trans b5)
        have g28 : mLeave M v w 0 28 0 v = nI w := mLeave_m _ _ _ _
        have g29 : mLeave M v w 0 29 0 v = M 29 0 v := mLeave_far M (by omega) (by omega) (by omega)
        have g16 : mLeave M v w 0 16 0 γ1 = nI w' := (mLeave_far M (by omega) (by omega) (by omega)).trans ((hM 16 _ (by omega) (by omega)).trans b3)
        have key : Inv t (xLeave (au S 9 v 0 (nI (8 * ν1 + γ1))) v w 0) (mLeave M v w 0) := by
          refine hI.row (v := v) (fun k j i h1 h2 => by rw [xLeave_ne _ h2, au_ne _ _ _ (by omega)]) (fun k i h1 h2 h3 h4 => mLeave_far M (by omega) (by omega) (by omega)) ⟨?_, w, by omega, g28, ?_, fun z => absurd z hw0, fun i hi => ?_⟩ (fun γ' ν' g1 g2 g3 hd => (hg γ' ν' g1 g2 g3 hd).elim)
          · rw [g29, xLeave_9, if_neg (by omega)]
            simp [au]
            exact hB.1
          · rw [xLeave_9, if_pos rfl]
          · obtain ⟨f1, m', f2, f3, f4, f5, f6⟩ := hB
            have : m' = w + 1 := (nI_eq (by omega) (by omega)).mp (f3.symm.trans hm)
            subst this
            obtain ⟨γ', ν', c1, c2, ⟨w1', c3, c3', c3''⟩, c4, c5, c6⟩ := f6 (i + 1) (by omega)
            refine ⟨γ', ν', c1, c2, ⟨w1', (mLeave_far M (by omega) (by omega) (by omega)).trans c3, c3', c3''⟩, ?_, ?_, ?_⟩
            · rw [mLeave_26 M (by omega) (by omega), if_pos (by omega)]; exact c4
            · rw [mLeave_26 M (by omega) (by omega), if_pos (by omega)]; exact c5
            · unfold xRow at c6 ⊢
              rw [if_neg (by omega)] at c6
              by_cases e0 : i = 0
              · subst e0
                rw [if_pos rfl, xLeave_9, if_neg (by omega)]
                simp [au]
                exact b6'.symm.trans c6
              · rw [if_neg e0, xLeave_10, if_pos (by omega), show i - 1 + 1 = i + 1 - 1 by omega]
                simp [au]
                exact c6
        have hl := lv_vote (t := t) (M := mLeave M v w 0) ha hr b1 b2 ⟨w', g16, b3', b3''⟩ (by rw [hv']; exact ⟨⟨w, by omega, by omega, g28⟩, g26, g27⟩)
        rw [hv', g29] at hl
        rw [g26, g27, g29, hB.1]
        exact key.send hl
    · -- not the head
      cases hf : fnd (S 10 (4 * a + r)) (nI (8 * ν + γ)) w 0 with
      | none =>
        have hx := x_reach5_other (zs := zs) (d := d) (num := num) hκ ha hr hh a4 (by omega)
        rw [show w + 1 - 1 = w from rfl, hf] at hx
        refine ⟨_, hx, XF.rfl' _, fun M hM hI => ?_⟩
        have hm : M (28) 0 (4 * a + r) = nI (w + 1) := (hM 28 _ (by omega) (by omega)).trans a3
        exact ⟨_, m_comes5 hκ hv hm (by omega) (m_leaves_none hv hm (by omega) (by rw [row_find ht (hI.2.2.1 _ hv) hm (by omega) hγ (by omega), if_neg hh, hf]; rfl)), MF.rfl' _, hI⟩
      | some p =>
        have hx := x_reach5_other (zs := zs) (d := d) (num := num) hκ ha hr hh a4 (by omega)
        rw [show w + 1 - 1 = w from rfl, hf] at hx
        refine ⟨_, hx, XF.leave _ _ _ _, fun M hM hI => ?_⟩
        obtain ⟨n', hQ, -⟩ := hI.1
        obtain ⟨-, -, hQ, -⟩ := hQ.pok
        have hm : M (28) 0 (4 * a + r) = nI (w + 1) := (hM 28 _ (by omega) (by omega)).trans a3
        have hB := hI.2.2.1 _ hv
        obtain ⟨-, hp, -, -⟩ := fnd_some hf
        refine ⟨_, m_comes5 hκ hv hm (by omega) (m_leaves_some hv hQ hm (by omega) (p := p + 1) (by rw [row_find ht hB hm (by omega) hγ (by omega), if_neg hh, hf]; rfl)), ?_, ?_⟩
        · rw [if_neg (by omega)]
          exact MF.leave _ _ _ _
        rw [if_neg (by omega)]
        show Inv t (xLeave S (4 * a + r) w p) _
        generalize hv' : 4 * a + r = v at *
        refine hI.row (v := v) (fun k j i h1 h2 => by rw [xLeave_ne _ h2]) (fun k i h1 h2 h3 h4 => mLeave_far M (by omega) (by omega) (by omega)) ⟨?_, w, by omega, mLeave_m _ _ _ _, ?_, fun z => absurd z (by omega), fun i hi => ?_⟩ (fun γ' ν' g1 g2 g3 hd => ?_)
        · rw [mLeave_far M (by omega) (by omega) (by omega), xLeave_9, if_neg (by omega)]
          exact hB.1
        · rw [xLeave_9, if_pos rfl]
        · obtain ⟨f1, m', f2, f3, f4, f5, f6⟩ := hB
          have : m' = w + 1 := (nI_eq (by omega) (by omega)).mp (f3.symm.trans hm)
          subst this
          by_cases hi2 : p + 1 ≤ i
          · obtain ⟨γ', ν', c1, c2, ⟨w1', c3, c3', c3''⟩, c4, c5, c6⟩ := f6 (i + 1) (by omega)
            refine ⟨γ', ν', c1, c2, ⟨w1', (mLeave_far M (by omega) (by omega) (by omega)).trans c3, c3', c3''⟩, ?_, ?_, ?_⟩
            · rw [mLeave_26 M (by omega) (by omega), if_pos (by omega)]; exact c4
            · rw [mLeave_26 M (by omega) (by omega), if_pos (by omega)]; exact c5
            · unfold xRow at c6 ⊢
              rw [if_neg (by omega)] at c6
              rw [if_neg (by omega), xLeave_10, if_pos (by omega), show i - 1 + 1 = i + 1 - 1 by omega]
              exact c6
          · obtain ⟨γ', ν', c1, c2, ⟨w1', c3, c3', c3''⟩, c4, c5, c6⟩ := f6 i (by omega)
            refine ⟨γ', ν', c1, c2, ⟨w1', (mLeave_far M (by omega) (by omega) (by omega)).trans c3, c3', c3''⟩, ?_, ?_, ?_⟩
            · rw [mLeave_26 M (by omega) (by omega), if_neg (by omega)]; exact c4
            · rw [mLeave_26 M (by omega) (by omega), if_neg (by omega)]; exact c5
            · unfold xRow at c6 ⊢
              by_cases e0 : i = 0
              · rw [if_pos e0] at c6 ⊢
                rw [xLeave_9, if_neg (by omega)]
                exact c6
              · rw [if_neg e0] at c6 ⊢
                rw [xLeave_10, if_neg (by omega)]
                exact c6
        · obtain ⟨-, q4, q5⟩ := hd
          have l26 := mLeave_26 M (v := v) (m := w) (p := p + 1) (i := 0) (k := 26) (by omega) (by omega)
          have l27 := mLeave_26 M (v := v) (m := w) (p := p + 1) (i := 0) (k := 27) (by omega) (by omega)
          rw [if_neg (by omega)] at l26 l27
          exact ⟨⟨⟨w, by omega, by omega, mLeave_m _ _ _ _⟩, l26.trans q4, l27.trans q5⟩, mLeave_far M (by omega) (by omega) (by omega)⟩
end RB
