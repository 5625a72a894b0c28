/-! THE RELATION is kept: writing, asking, ending, ordering, breaking -/
theorem st_eq {M : aS} {q s k : Nat} (h1 : M 17 0 q = nI s) (h2 : M 17 0 q = nI k) (hs : s ≤ 4) (hk : k ≤ 4) : s = k := (nI_eq (by omega) (by omega)).mp (h1.symm.trans h2)
theorem lv_new {t : Nat} {M : aS} {q κ a : Nat} {z : Int32} (hq : q < 32) (ha : a < 15) (hr : BR t M q) (h1 : 1 ≤ κ) (h6 : κ ≤ 6) (hs : M 17 0 q = nI 1 → κ = 1) : LV t M (nI κ) (nI (q / 4)) (nI (q % 4)) (M 18 0 q) (nI a) z := by
  obtain ⟨ν, w, e1, e2, e3, e4, e5⟩ := hr
  refine ⟨κ, q / 4, q % 4, ν, rfl, rfl, rfl, e1, by omega, by omega, e2, ⟨w, e4, e3, e5⟩, Or.inr ⟨h1, h6, a, ha, rfl⟩, fun h _ => ?_⟩
  rw [show 4 * (q / 4) + q % 4 = q by omega] at h
  have := hs h
  omega
theorem Inv.write {t : Nat} {S M : aS} {q : Nat} (hq : q < 32) (h : Inv t S M) (hs : M 17 0 q = nI 1) : Inv t (xWrite S q) (mWrites M q) := by
  have h' := h
  obtain ⟨⟨n, p1, p2⟩, hQ, hV, hL, hU, hD⟩ := h'
  obtain ⟨⟨a1, a2, a3, a4, a5, a6⟩, s, b1, b2, b3, b4, b5, b6, b7⟩ := hQ q hq
  obtain rfl := st_eq b3 hs b1 (by omega)
  obtain ⟨c1, c2, c3, c4⟩ := b4 rfl
  have hscr : Inv t S (mRt M (M 19 0 q) 0) := h.scratch (Nat.le_refl t) (fun _ _ _ _ => rfl) (mRt_ne _ _ _ (by decide)) (fun k h1 h2 i => mRt_ne _ _ _ (by omega))
  unfold xWrite mWrites
  rcases route_cases (M 19 0 q) with ⟨r1, r2⟩ | ⟨r1, r2, r3⟩
  · rw [if_pos (Or.inl (c1.trans r1)), if_pos (Or.inl r2)]
    exact hscr
  · rw [r1] at c1
    by_cases hv : M 21 0 q &&& ry (M 19 0 q) 0 = ry (M 19 0 q) 0
    · rw [if_neg (fun z => z.elim (fun z => r2 (c1.symm.trans z)) (fun z => z (by rw [c1, a6]; exact (voted_iff _ _).mpr hv))), if_neg (fun z => z.elim r3 (fun z => z hv)), mMx_eq c2]
      -- both write
      have hx : ∀ k, k ≤ 13 → k ≠ 2 → k ≠ 3 → ∀ j i, ¬ (k = 8 ∧ j = q) → xSA q (nI 3) (S 8 q 7) (S 8 q 5 + nI 1) 15 0 (xWr1 S q) k j i = S k j i := fun k _ k2 k3 j i hk => by
        rw [xSA_ne _ _ _ _ k3 k2]
        unfold xWr1
        rw [au_ne _ _ _ hk, au_ne _ _ _ hk]
      have hx8 : ∀ i, xSA q (nI 3) (S 8 q 7) (S 8 q 5 + nI 1) 15 0 (xWr1 S q) 8 q i = xWr1 S q 8 q i := fun i => xSA_ne _ _ _ _ (by decide) (by decide) _ _ _
      have hm0 : ∀ k, k ≠ 35 → k ≠ 14 → ∀ j i, mSA q (nI 3) (ry (M 19 0 q) 0) (S 8 q 5 + nI 1) 15 0 (mWr1 (mRt M (M 19 0 q) 0) q (ry (M 19 0 q) 0) (S 8 q 5)) k j i = mWr1 (mRt M (M 19 0 q) 0) q (ry (M 19 0 q) 0) (S 8 q 5) k j i := fun k h1 h2 j i => mSA_ne _ _ _ _ h1 h2 _ _ _
      have hw : ∀ k i, k ≠ 37 → ¬ ((k = 17 ∨ k = 22 ∨ k = 23 ∨ k = 24) ∧ i = q) → mWr1 (mRt M (M 19 0 q) 0) q (ry (M 19 0 q) 0) (S 8 q 5) k 0 i = M k 0 i := fun k i h37 hk => by
        unfold mWr1 au
        rw [if_neg (by omega), if_neg (by omega), if_neg (by omega), if_neg (by omega)]
        exact mRt_ne _ _ _ h37
      have w17 : mWr1 (mRt M (M 19 0 q) 0) q (ry (M 19 0 q) 0) (S 8 q 5) 17 0 q = nI 2 := by simp [mWr1, au]
      have w22 : mWr1 (mRt M (M 19 0 q) 0) q (ry (M 19 0 q) 0) (S 8 q 5) 22 0 q = ry (M 19 0 q) 0 := by simp [mWr1, au]
      have w23 : mWr1 (mRt M (M 19 0 q) 0) q (ry (M 19 0 q) 0) (S 8 q 5) 23 0 q = nI 0 := by simp [mWr1, au]
      have w24 : mWr1 (mRt M (M 19 0 q) 0) q (ry (M 19 0 q) 0) (S 8 q 5) 24 0 q = S 8 q 5 + nI 1 := by simp [mWr1, au]
      have hBR : BR t (mSA q (nI 3) (ry (M 19 0 q) 0) (S 8 q 5 + nI 1) 15 0 (mWr1 (mRt M (M 19 0 q) 0) q (ry (M 19 0 q) 0) (S 8 q 5))) q := by
        obtain ⟨ν, w, d1, d2, d3, d4, d5⟩ := b7 (by omega)
        exact ⟨ν, w, by rw [hm0 18 (by omega) (by omega), hw 18 q (by omega) (by omega)]; exact d1, d2, d3, by rw [hm0 16 (by omega) (by omega), hw 16 _ (by omega) (by omega)]; exact d4, d5⟩
      refine h.bid (q := q) hx (fun k h1 h2 i hk => by rw [hm0 k (by omega) (by omega), hw k i (by omega) (by omega)]) ⟨⟨?_, ?_, ?_, ?_, ?_, ?_⟩, 2, by omega, ?_, ?_, fun e => absurd e (by omega), fun _ => ⟨?_, ?_, ?_⟩, fun _ => ?_, fun _ => hBR⟩ ?_
      · rw [hx8]; simp [xWr1, au]; exact a1
      · rw [hx8]; simp [xWr1, au]; exact a2
      · rw [hx8, hm0 18 (by omega) (by omega), hw 18 q (by omega) (by omega)]; simp [xWr1, au]; exact a3
      · rw [hx8, hm0 19 (by omega) (by omega), hw 19 q (by omega) (by omega)]; simp [xWr1, au]; exact a4
      · rw [hx8, hm0 20 (by omega) (by omega), hw 20 q (by omega) (by omega)]; simp [xWr1, au]; exact a5
      · rw [hx8, hm0 21 (by omega) (by omega), hw 21 q (by omega) (by omega)]; simp [xWr1, au]; exact a6
      · rw [hx8]; simp [xWr1, au]
      · rw [hm0 17 (by omega) (by omega), w17]
      · rw [hx8, hm0 22 (by omega) (by omega), w22]; simp [xWr1, au]; exact c1
      · rw [hx8, hm0 23 (by omega) (by omega), w23]; simp [xWr1, au]; exact c3
      · rw [hx8, hm0 24 (by omega) (by omega), w24]; simp [xWr1, au]
      · rw [hx8, hx8]
        simp [xWr1, au]
        rw [c3, c1]
        exact fun z => r2 z.symm
      · -- the posts
        have p1' : RP (xWr1 S q) (mWr1 (mRt M (M 19 0 q) 0) q (ry (M 19 0 q) 0) (S 8 q 5)) n := p1.congr (by simp [xWr1, au]) (by simp [mWr1, au]; exact mRt_ne _ _ _ (by decide)) (fun i => by simp [xWr1, au]) (fun i => hw 35 i (by omega) (by omega))
        obtain ⟨n', q1, q2⟩ := RP.sendAll (q := q) (kind := nI 3) (set := ry (M 19 0 q) 0) (num := S 8 q 5 + nI 1) 15 0 p1' (by simp [xWr1, au]; exact a1) (by simp [xWr1, au]; exact a2) (by rw [hw 18 q (by omega) (by omega)]; simp [xWr1, au]; exact a3)
        rw [c1]
        refine ⟨n', q1, q2 _ (p2.congr (fun i => hw 35 i (by omega) (by omega)) (fun k c r u a z hz => ?_)) (fun a _ ha _ => ?_)⟩
        · refine hz.off (q := q) ?_ ?_ ?_ ?_ ?_ ?_ ?_ ?_
          · rw [hm0 17 (by omega) (by omega), w17]; exact nI_ne (by omega) (by omega) (by omega)
          · intro i; rw [hm0 16 (by omega) (by omega), hw 16 i (by omega) (by omega)]
          · intro i hi; rw [hm0 17 (by omega) (by omega), hw 17 i (by omega) (by omega)]
          · intro i hi; rw [hm0 18 (by omega) (by omega), hw 18 i (by omega) (by omega)]
          · intro i; rw [hm0 26 (by omega) (by omega), hw 26 i (by omega) (by omega)]
          · intro i; rw [hm0 27 (by omega) (by omega), hw 27 i (by omega) (by omega)]
          · intro i; rw [hm0 28 (by omega) (by omega), hw 28 i (by omega) (by omega)]
          · intro i; rw [hm0 29 (by omega) (by omega), hw 29 i (by omega) (by omega)]
        · have := lv_new (κ := 3) (z := S 8 q 5 + nI 1) hq (show a < 15 by omega) hBR (by omega) (by omega) (fun e => by
            rw [hm0 17 (by omega) (by omega), w17] at e
            exact absurd e (nI_ne (by omega) (by omega) (by omega)))
          rw [hm0 18 (by omega) (by omega)] at this
          exact this
    · rw [if_pos (Or.inr (fun z => hv ((voted_iff _ _).mp (by rw [c1, a6] at z; exact z)))), if_pos (Or.inr hv)]
      exact hscr
