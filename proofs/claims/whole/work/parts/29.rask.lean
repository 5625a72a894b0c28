/-! THE RELATION is kept: asking, want, timeout -/
theorem xSA_zero (q : Nat) (kind num : Int32) : ∀ (m k : Nat) (S : aS), k + m ≤ 15 → xSA q kind 0 num m k S = S
  | 0, _, _, _ => rfl
  | m + 1, k, S, h => by
    unfold xSA
    rw [if_pos (show bt 0 (nI k) = 0 from bt_zero k (by omega))]
    exact xSA_zero q kind num m (k + 1) S (by omega)
theorem au_self (S : aS) (t j f : Nat) : au S t j f (S t j f) = S := by
  funext t' j' f'
  unfold au
  split
  · rename_i h
    obtain ⟨rfl, rfl, rfl⟩ := h
    rfl
  · rfl
/-- the class asks -/
def xAskR (S M : aS) (q : Nat) : aS := xSA q (nI 1) (rx (M 19 0 q) 3 0 &&& (M 20 0 q ^^^ -1)) (nI 0) 15 0 (au S 8 q 8 (M 20 0 q ||| (rx (M 19 0 q) 3 0 &&& (M 20 0 q ^^^ -1))))
theorem Inv.ask_none {t : Nat} {S M : aS} {q : Nat} (hq : q < 32) (h : Inv t S M) (hr : rx (M 19 0 q) 3 0 = 0) : Inv t (xAskR S M q) (mRt M (M 19 0 q) 0) := by
  obtain ⟨⟨a1, a2, a3, a4, a5, a6⟩, -⟩ := h.2.1 q hq
  unfold xAskR
  rw [hr, Int32.zero_and, Int32.or_zero, xSA_zero q _ _ 15 0 _ (by omega), ← a5, au_self]
  exact h.scratch (Nat.le_refl t) (fun _ _ _ _ => rfl) (mRt_ne _ _ _ (by decide)) (fun k h1 h2 i => mRt_ne _ _ _ (by omega))
theorem Inv.ask {t : Nat} {S M : aS} {q : Nat} (hq : q < 32) (h : Inv t S M) (hs : M 17 0 q = nI 1) (hr : rx (M 19 0 q) 3 0 = ry (M 19 0 q) 0) : Inv t (xAskR S M q) (mSA q (nI 1) (ry (M 19 0 q) 0 &&& (M 20 0 q ^^^ -1)) (nI 0) 15 0 (mAsk1 M q)) := by
  have h' := h
  obtain ⟨⟨n, p1, p2⟩, hQ, hV, hL, hU, hD⟩ := h'
  obtain ⟨⟨a1, a2, a3, a4, a5, a6⟩, s, b1, b2, b3, b4, b5, b6, b7⟩ := hQ q hq
  obtain rfl := st_eq b3 hs b1 (by omega)
  obtain ⟨c1, c2, c3, c4⟩ := b4 rfl
  unfold xAskR
  rw [hr]
  generalize hu : ry (M 19 0 q) 0 &&& (M 20 0 q ^^^ -1) = un
  have hx8 : ∀ i, xSA q (nI 1) un (nI 0) 15 0 (au S 8 q 8 (M 20 0 q ||| un)) 8 q i = au S 8 q 8 (M 20 0 q ||| un) 8 q i := fun i => xSA_ne _ _ _ _ (by decide) (by decide) _ _ _
  have hm0 : ∀ k, k ≠ 35 → k ≠ 14 → ∀ i, mSA q (nI 1) un (nI 0) 15 0 (mAsk1 M q) k 0 i = mAsk1 M q k 0 i := fun k h1 h2 i => mSA_ne _ _ _ _ h1 h2 _ _ _
  have hw : ∀ k i, k ≠ 37 → ¬ (k = 20 ∧ i = q) → mAsk1 M q k 0 i = M k 0 i := fun k i h37 hk => by
    unfold mAsk1 au
    rw [if_neg (by omega)]
    exact mRt_ne _ _ _ h37
  have w20 : mAsk1 M q 20 0 q = M 20 0 q ||| un := by rw [← hu]; simp [mAsk1, au]
  have hBR : BR t (mSA q (nI 1) un (nI 0) 15 0 (mAsk1 M q)) q := by
    obtain ⟨ν, w, d1, d2, d3, d4, d5⟩ := b7 (by omega)
    exact ⟨ν, w, by rw [hm0 18 (by omega) (by omega), hw 18 q (by omega) (by omega)]; exact d1, d2, d3, by rw [hm0 16 (by omega) (by omega), hw 16 _ (by omega) (by omega)]; exact d4, d5⟩
  have hk : ∀ k, 15 ≤ k → k ≤ 34 → k ≠ 20 → ∀ i, mSA q (nI 1) un (nI 0) 15 0 (mAsk1 M q) k 0 i = M k 0 i := fun k h1 h2 h3 i => by rw [hm0 k (by omega) (by omega), hw k i (by omega) (by omega)]
  refine h.bid (q := q) (fun k _ k2 k3 j i hk => by rw [xSA_ne _ _ _ _ k3 k2, au_ne _ _ _ hk]) (fun k h1 h2 i hk => by rw [hm0 k (by omega) (by omega), hw k i (by omega) (by omega)]) ⟨⟨?_, ?_, ?_, ?_, ?_, ?_⟩, 1, by omega, ?_, ?_, fun _ => ⟨?_, ?_, ?_, fun a ha hb => ?_⟩, fun e => absurd e (by omega), fun e => absurd e (by omega), fun _ => hBR⟩ ?_
  · rw [hx8]; simp [au]; exact a1
  · rw [hx8]; simp [au]; exact a2
  · rw [hx8, hk 18 (by omega) (by omega) (by omega)]; simp [au]; exact a3
  · rw [hx8, hk 19 (by omega) (by omega) (by omega)]; simp [au]; exact a4
  · rw [hx8, hm0 20 (by omega) (by omega), w20]; simp [au]
  · rw [hx8, hk 21 (by omega) (by omega) (by omega)]; simp [au]; exact a6
  · rw [hx8]; simp [au]; exact b2
  · rw [hk 17 (by omega) (by omega) (by omega)]; exact b3
  · rw [hx8, hk 19 (by omega) (by omega) (by omega)]; simp [au]; exact c1
  · rw [hx8, hk 21 (by omega) (by omega) (by omega), show (fun b => mSA q (nI 1) un (nI 0) 15 0 (mAsk1 M q) 25 0 (15 * q + b)) = fun b => M 25 0 (15 * q + b) from funext fun b => hk 25 (by omega) (by omega) (by omega) _]
    simp [au]
    exact c2
  · rw [hx8]; simp [au]; exact c3
  · rw [hk 21 (by omega) (by omega) (by omega)] at hb
    obtain ⟨ν, d1, d2, d3⟩ := c4 a ha hb
    refine ⟨ν, by rw [hk 18 (by omega) (by omega) (by omega)]; exact d1, d2.congr (hk 26 (by omega) (by omega) (by omega)) (hk 27 (by omega) (by omega) (by omega)) (hk 28 (by omega) (by omega) (by omega)), ?_⟩
    rw [hk 25 (by omega) (by omega) (by omega), hk 29 (by omega) (by omega) (by omega)]
    exact d3
  · have p1' : RP (au S 8 q 8 (M 20 0 q ||| un)) (mAsk1 M q) n := p1.congr (by simp [au]) (by simp [mAsk1, au]; exact mRt_ne _ _ _ (by decide)) (fun i => by simp [au]) (fun i => hw 35 i (by omega) (by omega))
    obtain ⟨n', q1, q2⟩ := RP.sendAll (q := q) (kind := nI 1) (set := un) (num := nI 0) 15 0 p1' (by simp [au]; exact a1) (by simp [au]; exact a2) (by rw [hw 18 q (by omega) (by omega)]; simp [au]; exact a3)
    refine ⟨n', q1, q2 _ (p2.congr (fun i => hw 35 i (by omega) (by omega)) (fun k c r u a z hz => hz.same (Nat.le_refl t) (hk 16 (by omega) (by omega) (by omega)) (hk 17 (by omega) (by omega) (by omega)) (hk 18 (by omega) (by omega) (by omega)) (hk 26 (by omega) (by omega) (by omega)) (hk 27 (by omega) (by omega) (by omega)) (hk 28 (by omega) (by omega) (by omega)) (hk 29 (by omega) (by omega) (by omega)))) (fun a _ ha _ => ?_)⟩
    have := lv_new (κ := 1) (z := nI 0) hq (show a < 15 by omega) hBR (by omega) (by omega) (fun _ => rfl)
    rw [hm0 18 (by omega) (by omega)] at this
    exact this
theorem xAsk_eq {S M : aS} {q : Nat} (h6 : S 8 q 6 = M 19 0 q) (h8 : S 8 q 8 = M 20 0 q) : xAsk S q = xAskR (au S 8 q 7 (rx (M 19 0 q) 3 0)) M q := by
  unfold xAsk xAskR xAsk1
  rw [h6, h8]
/-- want -/
theorem Inv.want {t : Nat} {S M : aS} {c r : Nat} (hc : c < 8) (hr : r < 4) (ht : t < 1000) (h : Inv t S M) : Inv (t + 1) (xWant S (4 * c + r) c (S 7 0 c + nI 1)) (mWant M (4 * c + r) c (M 16 0 c + nI 1)) ∧ S 7 0 c + nI 1 = M 16 0 c + nI 1 := by
  have h' := h
  obtain ⟨⟨n, p1, p2⟩, hQ, hV, hL, hU, hD⟩ := h'
  obtain ⟨w, u1, u2, u3⟩ := hU c hc
  have e1 : S 7 0 c + nI 1 = nI (w + 1) := by rw [u3, nI_add]
  have e2 : M 16 0 c + nI 1 = nI (w + 1) := by rw [u2, nI_add]
  refine ⟨?_, e1.trans e2.symm⟩
  rw [e1, e2]
  generalize hqe : 4 * c + r = q
  have hq : q < 32 := by omega
  have hqc : q / 4 = c := by omega
  unfold xWant mWant
  -- the bid has begun, its route is set
  have m1 : ∀ k i, 15 ≤ k → ¬ (k = 16 ∧ i = c) → ¬ ((k = 17 ∨ k = 18 ∨ k = 19 ∨ k = 20 ∨ k = 21) ∧ i = q) → mWant0 M q c (nI (w + 1)) k 0 i = M k 0 i := fun k i h1 h2 h3 => by
    unfold mWant0 au
    rw [if_neg (by omega), if_neg (by omega), if_neg (by omega), if_neg (by omega), if_neg (by omega), if_neg (by omega)]
    exact mTh_ne M (by omega)
  have m16 : mWant0 M q c (nI (w + 1)) 16 0 c = nI (w + 1) := by simp [mWant0, au]
  have m17 : mWant0 M q c (nI (w + 1)) 17 0 q = nI 1 := by simp [mWant0, au]
  have m18 : mWant0 M q c (nI (w + 1)) 18 0 q = nI (w + 1) := by simp [mWant0, au]
  have m19 : mWant0 M q c (nI (w + 1)) 19 0 q = nI 0 := by simp [mWant0, au]
  have m20 : mWant0 M q c (nI (w + 1)) 20 0 q = nI 0 := by simp [mWant0, au]
  have m21 : mWant0 M q c (nI (w + 1)) 21 0 q = nI 0 := by simp [mWant0, au]
  have x8 : ∀ j i, j ≠ q → au (xBegin (au S 7 0 c (nI (w + 1))) q (nI (w + 1))) 8 q 7 (rx (nI 0) 3 0) 8 j i = S 8 j i := fun j i hj => by
    simp [xBegin, au, hj]
  have x0 : ∀ k j i, k ≠ 8 → k ≠ 7 → au (xBegin (au S 7 0 c (nI (w + 1))) q (nI (w + 1))) 8 q 7 (rx (nI 0) 3 0) k j i = S k j i := fun k j i h8 h7 => by
    simp [xBegin, au, h8, h7]
  have hI : Inv (t + 1) (au (xBegin (au S 7 0 c (nI (w + 1))) q (nI (w + 1))) 8 q 7 (rx (nI 0) 3 0)) (mWant0 M q c (nI (w + 1))) := by
    refine ⟨⟨n, p1.congr (x0 2 0 1 (by decide) (by decide)) (by simp [mWant0, au]; exact mTh_l M) (fun i => x0 3 0 i (by decide) (by decide)) (fun i => m1 35 i (by omega) (by omega) (by omega)), p2.congr (fun i => m1 35 i (by omega) (by omega) (by omega)) (fun k c' r' u a z hz => ?_)⟩, fun x hx => ?_, fun v hv => (hV v hv).congr2 (fun γ w0 _ g1 g2 => if e : γ = c then ⟨w + 1, by rw [e]; exact m16, by rw [e] at g1; have := (nI_eq (by omega) (by omega)).mp (g1.symm.trans u2); omega, by omega⟩ else ⟨w0, by rw [m1 16 γ (by omega) (by omega) (by omega)]; exact g1, Nat.le_refl _, by omega⟩) (fun i => x0 9 _ _ (by decide) (by decide)) (fun i => x0 10 _ _ (by decide) (by decide)) (fun k h1 h2 i => m1 k i (by omega) (by omega) (by omega)), fun x hx => (hL x hx).congr (by omega) (fun i => x0 11 _ _ (by decide) (by decide)) (fun i => x0 12 _ _ (by decide) (by decide)) (fun i => x0 13 _ _ (by decide) (by decide)) (fun k h1 h2 i => m1 k i (by omega) (by omega) (by omega)), fun x hx => ?_, fun a ha => ?_⟩
    · obtain ⟨κ, γ, ρ, ν, f1, f2, f3, f4, f5, f6, f7, ⟨w', f8, f9, f10⟩, f11, f12⟩ := hz
      refine ⟨κ, γ, ρ, ν, f1, f2, f3, f4, f5, f6, f7, ?_, f11, fun g1 g2 => ?_⟩
      · by_cases e : γ = c
        · subst e
          have : w' = w := (nI_eq (by omega) (by omega)).mp (f8.symm.trans u2)
          exact ⟨w + 1, m16, by omega, by omega⟩
        · exact ⟨w', by rw [m1 16 γ (by omega) (by omega) (by omega)]; exact f8, f9, by omega⟩
      · by_cases e : 4 * γ + ρ = q
        · exfalso
          rw [e, m18] at g2
          have : γ = c := by omega
          subst this
          have hw' : w' = w := (nI_eq (by omega) (by omega)).mp (f8.symm.trans u2)
          have := (nI_eq (by omega) (by omega)).mp g2
          omega
        · rw [m1 17 _ (by omega) (by omega) (by omega)] at g1
          rw [m1 18 _ (by omega) (by omega) (by omega)] at g2
          obtain ⟨k1, k2, k3, k4⟩ := f12 g1 g2
          refine ⟨k1, k2, k3, fun hk α hα ha => ?_⟩
          obtain ⟨l1, l2⟩ := k4 hk α hα ha
          exact ⟨l1.congr (fun i => m1 26 i (by omega) (by omega) (by omega)) (fun i => m1 27 i (by omega) (by omega) (by omega)) (fun i => m1 28 i (by omega) (by omega) (by omega)), by rw [m1 29 _ (by omega) (by omega) (by omega)]; exact l2⟩
    · by_cases e : x = q
      · subst e
        obtain ⟨⟨a1, a2, -⟩, -⟩ := hQ x hx
        refine ⟨⟨?_, ?_, ?_, ?_, ?_, ?_⟩, 1, by omega, ?_, m17, fun _ => ⟨?_, ?_, ?_, fun a ha hb => absurd (by rw [m21]; exact bt_zero a ha) hb⟩, fun z => absurd z (by omega), fun z => absurd z (by omega), fun _ => ⟨w + 1, w + 1, m18, by omega, by omega, by rw [hqc]; exact m16, by omega⟩⟩
        · simp [xBegin, au]; exact a1
        · simp [xBegin, au]; exact a2
        · rw [m18]; simp [xBegin, au]
        · rw [m19]; simp [xBegin, au]
        · rw [m20]; simp [xBegin, au]
        · rw [m21]; simp [xBegin, au]
        · simp [xBegin, au]
        · rw [m19]; simp [au]
        · rw [m21, show au (xBegin (au S 7 0 c (nI (w + 1))) x (nI (w + 1))) 8 x 7 (rx (nI 0) 3 0) 8 x 5 = nI 0 by simp [xBegin, au]]
          exact IsMx.zero _
        · simp [xBegin, au]
      · have hB := hQ x hx
        obtain ⟨⟨a1, a2, a3, a4, a5, a6⟩, s, b1, b2, b3, b4, b5, b6, b7⟩ := hB
        have h8 : ∀ i, au (xBegin (au S 7 0 c (nI (w + 1))) q (nI (w + 1))) 8 q 7 (rx (nI 0) 3 0) 8 x i = S 8 x i := fun i => x8 x i e
        have hm : ∀ k, 17 ≤ k → k ≤ 24 → mWant0 M q c (nI (w + 1)) k 0 x = M k 0 x := fun k h1 h2 => m1 k x (by omega) (by omega) (by omega)
        have h25 : ∀ i, mWant0 M q c (nI (w + 1)) 25 0 i = M 25 0 i := fun i => m1 25 i (by omega) (by omega) (by omega)
        refine ⟨⟨by rw [h8]; exact a1, by rw [h8]; exact a2, by rw [h8, hm 18 (by omega) (by omega)]; exact a3, by rw [h8, hm 19 (by omega) (by omega)]; exact a4, by rw [h8, hm 20 (by omega) (by omega)]; exact a5, by rw [h8, hm 21 (by omega) (by omega)]; exact a6⟩, s, b1, by rw [h8]; exact b2, by rw [hm 17 (by omega) (by omega)]; exact b3, fun hs => ?_, fun hs => ?_, fun hs => ?_, fun hs => ?_⟩
        · obtain ⟨c1, c2, c3, c4⟩ := b4 hs
          refine ⟨by rw [h8, hm 19 (by omega) (by omega)]; exact c1, ?_, by rw [h8]; exact c3, fun a ha hb => ?_⟩
          · rw [h8, hm 21 (by omega) (by omega), show (fun b => mWant0 M q c (nI (w + 1)) 25 0 (15 * x + b)) = fun b => M 25 0 (15 * x + b) from funext fun b => h25 _]
            exact c2
          · rw [hm 21 (by omega) (by omega)] at hb
            obtain ⟨ν, d1, d2, d3⟩ := c4 a ha hb
            refine ⟨ν, by rw [hm 18 (by omega) (by omega)]; exact d1, d2.congr (fun i => m1 26 i (by omega) (by omega) (by omega)) (fun i => m1 27 i (by omega) (by omega) (by omega)) (fun i => m1 28 i (by omega) (by omega) (by omega)), ?_⟩
            rw [h25, m1 29 _ (by omega) (by omega) (by omega)]
            exact d3
        · rw [h8, h8, h8, hm 22 (by omega) (by omega), hm 23 (by omega) (by omega), hm 24 (by omega) (by omega)]
          exact b5 hs
        · rw [h8, h8]
          exact b6 hs
        · obtain ⟨ν, w', d1, d2, d3, d4, d5⟩ := b7 hs
          by_cases ex : x / 4 = c
          · have : w' = w := (nI_eq (by omega) (by omega)).mp ((by rw [← ex]; exact d4.symm : nI w' = M 16 0 c).trans u2)
            exact ⟨ν, w + 1, by rw [hm 18 (by omega) (by omega)]; exact d1, d2, by omega, by rw [ex]; exact m16, by omega⟩
          · exact ⟨ν, w', by rw [hm 18 (by omega) (by omega)]; exact d1, d2, d3, by rw [m1 16 _ (by omega) (by omega) (by omega)]; exact d4, by omega⟩
    · by_cases e : x = c
      · subst e
        exact ⟨w + 1, by omega, m16, by simp [xBegin, au]⟩
      · obtain ⟨w', a1, a2, a3⟩ := hU x hx
        exact ⟨w', by omega, by rw [m1 16 x (by omega) (by omega) (by omega)]; exact a2, by simp [xBegin, au, e]; exact a3⟩
    · unfold BD
      rw [m1 15 a (by omega) (by omega) (by omega), x0 1 0 5 (by decide) (by decide)]
      exact hD a ha
  have hxe : xAsk (xBegin (au S 7 0 c (nI (w + 1))) q (nI (w + 1))) q = xAskR (au (xBegin (au S 7 0 c (nI (w + 1))) q (nI (w + 1))) 8 q 7 (rx (mWant0 M q c (nI (w + 1)) 19 0 q) 3 0)) (mWant0 M q c (nI (w + 1))) q := xAsk_eq (by rw [m19]; simp [xBegin, au]) (by rw [m20]; simp [xBegin, au])
  rw [hxe]
  have hI' := hI
  rw [← m19] at hI'
  unfold mAsks
  rcases route_cases (mWant0 M q c (nI (w + 1)) 19 0 q) with ⟨r1, r2⟩ | ⟨r1, r2, r3⟩
  · rw [if_pos r2]
    exact hI'.ask_none hq r1
  · rw [if_neg r3]
    have hA := hI'.ask hq m17 r1
    generalize hY : mSA q (nI 1) (ry (mWant0 M q c (nI (w + 1)) 19 0 q) 0 &&& (mWant0 M q c (nI (w + 1)) 20 0 q ^^^ -1)) (nI 0) 15 0 (mAsk1 (mWant0 M q c (nI (w + 1))) q) = Y at hA ⊢
    have y21 : Y 21 0 q = 0 := by
      rw [← hY, mSA_ne _ _ _ _ (by decide) (by decide)]
      simp [mAsk1, au]
      rw [mRt_ne _ _ _ (by decide), m21]
      rfl
    have y19 : Y 19 0 q = mWant0 M q c (nI (w + 1)) 19 0 q := by
      rw [← hY, mSA_ne _ _ _ _ (by decide) (by decide)]
      simp [mAsk1, au]
      exact mRt_ne _ _ _ (by decide)
    unfold mWrites
    rw [y19, y21, Int32.zero_and, if_pos (Or.inr (fun z => r2 z.symm))]
    exact hA.scratch (Nat.le_refl _) (fun _ _ _ _ => rfl) (mRt_ne _ _ _ (by decide)) (fun k h1 h2 i => mRt_ne _ _ _ (by omega))
