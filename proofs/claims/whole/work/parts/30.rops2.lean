/-! THE RELATION is kept: timeout, giveUp, release, order, breakPermit, stop, start, drop, copy -/
theorem Inv.th {t : Nat} {S M : aS} (h : Inv t S M) : Inv t S (mTh M) := h.scratch (Nat.le_refl t) (fun _ _ _ _ => rfl) (mTh_l M) (fun k h1 h2 i => mTh_ne M (by omega))
theorem Inv.timeout {t : Nat} {S M : aS} {q : Nat} {b : Int32} (hq : q < 32) (h : Inv t S M) (hs : M 17 0 q = nI 1) : Inv t (xWrite (xAsk (au S 8 q 6 (S 8 q 6 ||| b)) q) q) (mAsks (au (mTh M) 19 0 q (M 19 0 q ||| b)) q) := by
  have h0 := h.th
  have h' := h0
  obtain ⟨⟨n, p1, p2⟩, hQ, hV, hL, hU, hD⟩ := h'
  obtain ⟨⟨a1, a2, a3, a4, a5, a6⟩, s, b1, b2, b3, b4, b5, b6, b7⟩ := hQ q hq
  have hs' : mTh M 17 0 q = nI 1 := by rw [mTh_ne M (by decide)]; exact hs
  obtain rfl := st_eq b3 hs' b1 (by omega)
  obtain ⟨c1, c2, c3, c4⟩ := b4 rfl
  have a4' : S 8 q 6 = M 19 0 q := by rw [← mTh_ne M (t := 19) (by decide)]; exact a4
  generalize hM1 : au (mTh M) 19 0 q (M 19 0 q ||| b) = M1
  have m0 : ∀ k i, ¬ (k = 19 ∧ i = q) → M1 k 0 i = mTh M k 0 i := fun k i hk => by
    rw [← hM1]
    unfold au
    rw [if_neg (by omega)]
  have m19 : M1 19 0 q = M 19 0 q ||| b := by rw [← hM1]; simp [au]
  have hI : Inv t (au (au S 8 q 6 (S 8 q 6 ||| b)) 8 q 7 (rx (M1 19 0 q) 3 0)) M1 := by
    refine h0.bid (q := q) (fun k _ _ _ j i hk => by rw [au_ne _ _ _ hk, au_ne _ _ _ hk]) (fun k h1 h2 i hk => m0 k i (by omega)) ⟨⟨?_, ?_, ?_, ?_, ?_, ?_⟩, 1, by omega, ?_, ?_, fun _ => ⟨?_, ?_, ?_, fun a ha hb => ?_⟩, fun e => absurd e (by omega), fun e => absurd e (by omega), fun _ => ?_⟩ ⟨n, p1.congr (by simp [au]) (m0 14 21 (by omega)) (fun i => by simp [au]) (fun i => m0 35 i (by omega)), p2.congr (fun i => m0 35 i (by omega)) (fun k c r u a z hz => hz.same (Nat.le_refl t) (fun i => m0 16 i (by omega)) (fun i => m0 17 i (by omega)) (fun i => m0 18 i (by omega)) (fun i => m0 26 i (by omega)) (fun i => m0 27 i (by omega)) (fun i => m0 28 i (by omega)) (fun i => m0 29 i (by omega)))⟩
    · simp [au]; exact a1
    · simp [au]; exact a2
    · rw [m0 18 q (by omega)]; simp [au]; exact a3
    · rw [m19]; simp [au]; rw [a4']
    · rw [m0 20 q (by omega)]; simp [au]; exact a5
    · rw [m0 21 q (by omega)]; simp [au]; exact a6
    · simp [au]; exact b2
    · rw [m0 17 q (by omega)]; exact b3
    · simp [au]
    · rw [m0 21 q (by omega), show (fun b => M1 25 0 (15 * q + b)) = fun b => mTh M 25 0 (15 * q + b) from funext fun b => m0 25 _ (by omega)]
      simp [au]
      exact c2
    · simp [au]; exact c3
    · rw [m0 21 q (by omega)] at hb
      obtain ⟨ν, d1, d2, d3⟩ := c4 a ha hb
      refine ⟨ν, by rw [m0 18 q (by omega)]; exact d1, d2.congr (fun i => m0 26 i (by omega)) (fun i => m0 27 i (by omega)) (fun i => m0 28 i (by omega)), ?_⟩
      rw [m0 25 _ (by omega), m0 29 _ (by omega)]
      exact d3
    · obtain ⟨ν, w, d1, d2, d3, d4, d5⟩ := b7 (by omega)
      exact ⟨ν, w, by rw [m0 18 q (by omega)]; exact d1, d2, d3, by rw [m0 16 _ (by omega)]; exact d4, d5⟩
  have m17 : M1 17 0 q = nI 1 := by rw [m0 17 q (by omega)]; exact b3
  have hxe : xAsk (au S 8 q 6 (S 8 q 6 ||| b)) q = xAskR (au (au S 8 q 6 (S 8 q 6 ||| b)) 8 q 7 (rx (M1 19 0 q) 3 0)) M1 q := xAsk_eq (by rw [m19]; simp [au]; rw [a4']) (by rw [m0 20 q (by omega)]; simp [au]; exact a5)
  rw [hxe]
  unfold mAsks
  rcases route_cases (M1 19 0 q) with ⟨r1, r2⟩ | ⟨r1, r2, r3⟩
  · rw [if_pos r2]
    have hA := hI.ask_none hq r1
    obtain ⟨-, s', f1, f2, f3, f4, -⟩ := hA.2.1 q hq
    have hs1 : s' = 1 := st_eq f3 (by rw [mRt_ne _ _ _ (by decide)]; exact m17) f1 (by omega)
    have f5 := (f4 hs1).1
    rw [mRt_ne _ _ _ (by decide)] at f5
    have f5' := f5.trans r1
    unfold xWrite
    rw [if_pos (Or.inl f5')]
    exact hA
  · rw [if_neg r3]
    have hA := hI.ask hq m17 r1
    refine hA.write hq ?_
    rw [mSA_ne _ _ _ _ (by decide) (by decide)]
    simp [mAsk1, au]
    rw [mRt_ne _ _ _ (by decide)]
    exact m17
theorem Inv.ends {t : Nat} {S M : aS} {q : Nat} (hq : q < 32) (h : Inv t S M) (hb : BR t M q) : Inv t (xEnd S q) (mEnds M q) := by
  have h' := h
  obtain ⟨⟨n, p1, p2⟩, hQ, hV, hL, hU, hD⟩ := h'
  obtain ⟨⟨a1, a2, a3, a4, a5, a6⟩, -⟩ := hQ q hq
  unfold xEnd mEnds
  rw [a5]
  have hm : ∀ k i, k ≠ 35 → k ≠ 14 → ¬ (k = 17 ∧ i = q) → au (mSA q (nI 5) (M 20 0 q) (nI 0) 15 0 M) 17 0 q (nI 0) k 0 i = M k 0 i := fun k i h1 h2 h3 => by
    rw [show au (mSA q (nI 5) (M 20 0 q) (nI 0) 15 0 M) 17 0 q (nI 0) k 0 i = mSA q (nI 5) (M 20 0 q) (nI 0) 15 0 M k 0 i by unfold au; rw [if_neg (by omega)]]
    exact mSA_ne _ _ _ _ h1 h2 _ _ _
  have m17 : au (mSA q (nI 5) (M 20 0 q) (nI 0) 15 0 M) 17 0 q (nI 0) 17 0 q = nI 0 := by simp [au]
  have hx : ∀ i, i ≠ 2 → au (xSA q (nI 5) (M 20 0 q) (nI 0) 15 0 S) 8 q 2 (nI 0) 8 q i = S 8 q i := fun i hi => by
    rw [show au (xSA q (nI 5) (M 20 0 q) (nI 0) 15 0 S) 8 q 2 (nI 0) 8 q i = xSA q (nI 5) (M 20 0 q) (nI 0) 15 0 S 8 q i by unfold au; rw [if_neg (by omega)]]
    exact xSA_ne _ _ _ _ (by decide) (by decide) _ _ _
  have hBR : BR t (au (mSA q (nI 5) (M 20 0 q) (nI 0) 15 0 M) 17 0 q (nI 0)) q := by
    obtain ⟨ν, w, d1, d2, d3, d4, d5⟩ := hb
    exact ⟨ν, w, by rw [hm 18 q (by omega) (by omega) (by omega)]; exact d1, d2, d3, by rw [hm 16 _ (by omega) (by omega) (by omega)]; exact d4, d5⟩
  refine h.bid (q := q) (fun k _ k2 k3 j i hk => by rw [au_ne _ _ _ hk, xSA_ne _ _ _ _ k3 k2]) (fun k h1 h2 i hk => hm k i (by omega) (by omega) (by omega)) ⟨⟨?_, ?_, ?_, ?_, ?_, ?_⟩, 0, by omega, by simp [au], m17, fun e => absurd e (by omega), fun e => absurd e (by omega), fun e => absurd e (by omega), fun e => absurd e (by omega)⟩ ?_
  · rw [hx 0 (by omega)]; exact a1
  · rw [hx 1 (by omega)]; exact a2
  · rw [hx 3 (by omega), hm 18 q (by omega) (by omega) (by omega)]; exact a3
  · rw [hx 6 (by omega), hm 19 q (by omega) (by omega) (by omega)]; exact a4
  · rw [hx 8 (by omega), hm 20 q (by omega) (by omega) (by omega)]; exact a5
  · rw [hx 9 (by omega), hm 21 q (by omega) (by omega) (by omega)]; exact a6
  · obtain ⟨n', q1, q2⟩ := RP.sendAll (q := q) (kind := nI 5) (set := M 20 0 q) (num := nI 0) 15 0 p1 a1 a2 a3
    refine ⟨n', q1.congr (by simp [au]) (by simp [au]) (fun i => by simp [au]) (fun i => by simp [au]), AL.congr (q2 (LV t (au (mSA q (nI 5) (M 20 0 q) (nI 0) 15 0 M) 17 0 q (nI 0))) (fun i hi => ?_) (fun a _ ha _ => ?_)) (fun i => by simp [au]) (fun _ _ _ _ _ _ z => z)⟩
    · refine (p2 i hi).off (q := q) ?_ (fun i => hm 16 i (by omega) (by omega) (by omega)) (fun i hi => hm 17 i (by omega) (by omega) (by omega)) (fun i hi => hm 18 i (by omega) (by omega) (by omega)) (fun i => hm 26 i (by omega) (by omega) (by omega)) (fun i => hm 27 i (by omega) (by omega) (by omega)) (fun i => hm 28 i (by omega) (by omega) (by omega)) (fun i => hm 29 i (by omega) (by omega) (by omega))
      rw [m17]
      exact nI_ne (by omega) (by omega) (by omega)
    · have := lv_new (κ := 5) (z := nI 0) hq (show a < 15 by omega) hBR (by omega) (by omega) (fun e => by
        rw [m17] at e
        exact absurd e (nI_ne (by omega) (by omega) (by omega)))
      rw [hm 18 q (by omega) (by omega) (by omega)] at this
      exact this
/-- a letter that both send, of a run that there was -/
theorem Inv.send {t : Nat} {S M : aS} {a b c r e f g : Int32} (h : Inv t S M) (hl : LV t M a b c r e f) : Inv t (xSend S a b c r e f g) (mSend M a b c r e f g) := by
  obtain ⟨⟨n, p1, p2⟩, hQ, hV, hL, hU, hD⟩ := h
  obtain ⟨n', q1, q2⟩ := p1.send a b c r e f g
  have hx : ∀ k j i, k ≠ 3 → k ≠ 2 → xSend S a b c r e f g k j i = S k j i := fun k j i h3 h2 => xSend_ne S _ _ _ _ _ _ _ h3 h2
  have hm : ∀ k i, k ≠ 35 → k ≠ 14 → mSend M a b c r e f g k 0 i = M k 0 i := fun k i h1 h2 => mSend_ne M _ _ _ _ _ _ _ h1 h2
  have hlv : ∀ k c' r' u a' z, LV t M k c' r' u a' z → LV t (mSend M a b c r e f g) k c' r' u a' z := fun k c' r' u a' z hz => hz.same (Nat.le_refl t) (fun i => hm 16 i (by omega) (by omega)) (fun i => hm 17 i (by omega) (by omega)) (fun i => hm 18 i (by omega) (by omega)) (fun i => hm 26 i (by omega) (by omega)) (fun i => hm 27 i (by omega) (by omega)) (fun i => hm 28 i (by omega) (by omega)) (fun i => hm 29 i (by omega) (by omega))
  refine ⟨⟨n', q1, q2 _ (fun i hi => hlv _ _ _ _ _ _ (p2 i hi)) (hlv _ _ _ _ _ _ hl)⟩, fun q hq => (hQ q hq).congr (Nat.le_refl t) (fun i => hx 8 _ _ (by omega) (by omega)) (fun k h1 h2 i => hm k i (by omega) (by omega)), fun v hv => (hV v hv).congr (Nat.le_refl t) (fun i => hx 9 _ _ (by omega) (by omega)) (fun i => hx 10 _ _ (by omega) (by omega)) (fun k h1 h2 i => hm k i (by omega) (by omega)), fun r hr => (hL r hr).congr (Nat.le_refl t) (fun i => hx 11 _ _ (by omega) (by omega)) (fun i => hx 12 _ _ (by omega) (by omega)) (fun i => hx 13 _ _ (by omega) (by omega)) (fun k h1 h2 i => hm k i (by omega) (by omega)), fun c hc => ?_, fun a ha => ?_⟩
  · obtain ⟨w, a1, a2, a3⟩ := hU c hc
    exact ⟨w, a1, by rw [hm 16 _ (by omega) (by omega)]; exact a2, by rw [hx 7 _ _ (by omega) (by omega)]; exact a3⟩
  · unfold BD
    rw [hm 15 _ (by omega) (by omega), hx 1 _ _ (by omega) (by omega)]
    exact hD a ha
theorem lv_78 {t : Nat} {M : aS} {q κ : Nat} {a z : Int32} (hq : q < 32) (hr : BR t M q) (hκ : κ = 7 ∨ κ = 8) : LV t M (nI κ) (nI (q / 4)) (nI (q % 4)) (M 18 0 q) a z := by
  obtain ⟨ν, w, e1, e2, e3, e4, e5⟩ := hr
  exact ⟨κ, q / 4, q % 4, ν, rfl, rfl, rfl, e1, by omega, by omega, e2, ⟨w, e4, e3, e5⟩, Or.inl hκ, fun _ _ => ⟨by omega, by omega, by omega, fun h => by omega⟩⟩
theorem bp_eq {t : Nat} {S M : aS} {r : Nat} {num : Int32} (hr : r < 4) (h : Inv t S M) : ∀ (m c : Nat), c + m = 8 → bpF S r num m c = bpG M r num m c
  | 0, _, _ => rfl
  | m + 1, c, hc => by
    obtain ⟨-, s, b1, b2, b3, -, b5, -⟩ := h.2.1 (4 * c + r) (by omega)
    unfold bpF bpG
    have e : (S 8 (4 * c + r) 2 = nI 3 ∧ S 8 (4 * c + r) 4 = num) ↔ (M 17 0 (4 * c + r) = nI 3 ∧ M 24 0 (4 * c + r) = num) := by
      rw [b2, b3]
      by_cases e3 : nI s = nI 3
      · have : s = 3 := (nI_eq (by omega) (by omega)).mp e3
        rw [(b5 (by omega)).2.2]
      · simp [e3]
    by_cases hh : M 17 0 (4 * c + r) = nI 3 ∧ M 24 0 (4 * c + r) = num
    · rw [if_pos (e.mpr hh), if_pos hh]
    · rw [if_neg (fun q => hh (e.mp q)), if_neg hh]
      exact bp_eq hr h m (c + 1) (by omega)
theorem bpG_some {M : aS} {r : Nat} {num : Int32} : ∀ {m c k : Nat}, bpG M r num m c = some k → c ≤ k ∧ k < c + m ∧ M 17 0 (4 * k + r) = nI 3
  | 0, _, _, h => by cases h
  | m + 1, c, k, h => by
    unfold bpG at h
    by_cases e : M 17 0 (4 * c + r) = nI 3 ∧ M 24 0 (4 * c + r) = num
    · rw [if_pos e] at h
      cases h
      exact ⟨Nat.le_refl _, by omega, e.1⟩
    · rw [if_neg e] at h
      obtain ⟨h1, h2, h3⟩ := bpG_some h
      exact ⟨by omega, by omega, h3⟩
theorem Inv.brk {t : Nat} {S M : aS} {c r : Nat} {num : Int32} (hc : c < 8) (hr : r < 4) (h : Inv t S M) (hs : M 17 0 (4 * c + r) = nI 3) : Inv t (xBreak S c r num) (mBreak M c r num) := by
  have h' := h
  obtain ⟨⟨n, p1, p2⟩, hQ, hV, hL, hU, hD⟩ := h'
  generalize hqe : 4 * c + r = q at hs
  have hq : q < 32 := by omega
  obtain ⟨⟨a1, a2, a3, a4, a5, a6⟩, s, b1, b2, b3, b4, b5, b6, b7⟩ := hQ q hq
  obtain rfl := st_eq b3 hs b1 (by omega)
  obtain ⟨c1, c2, c3⟩ := b5 (by omega)
  unfold xBreak mBreak
  rw [hqe, a3]
  have hm : ∀ k i, k ≠ 35 → k ≠ 14 → ¬ (k = 17 ∧ i = q) → mSA q (nI 6) (nI 32767) num 15 0 (au M 17 0 q (nI 4)) k 0 i = M k 0 i := fun k i h1 h2 h3 => by
    rw [mSA_ne _ _ _ _ h1 h2]
    unfold au
    rw [if_neg (by omega)]
  have m17 : mSA q (nI 6) (nI 32767) num 15 0 (au M 17 0 q (nI 4)) 17 0 q = nI 4 := by
    rw [mSA_ne _ _ _ _ (by decide) (by decide)]
    simp [au]
  have hx : ∀ i, i ≠ 2 → xSA q (nI 6) (nI 32767) num 15 0 (au S 8 q 2 (nI 4)) 8 q i = S 8 q i := fun i hi => by
    rw [xSA_ne _ _ _ _ (by decide) (by decide)]
    unfold au
    rw [if_neg (by omega)]
  have hBR : BR t (mSA q (nI 6) (nI 32767) num 15 0 (au M 17 0 q (nI 4))) q := by
    obtain ⟨ν, w, d1, d2, d3, d4, d5⟩ := b7 (by omega)
    exact ⟨ν, w, by rw [hm 18 q (by omega) (by omega) (by omega)]; exact d1, d2, d3, by rw [hm 16 _ (by omega) (by omega) (by omega)]; exact d4, d5⟩
  have key : Inv t (xSA q (nI 6) (nI 32767) num 15 0 (au S 8 q 2 (nI 4))) (mSA q (nI 6) (nI 32767) num 15 0 (au M 17 0 q (nI 4))) := by
    refine h.bid (q := q) (fun k _ k2 k3 j i hk => by rw [xSA_ne _ _ _ _ k3 k2, au_ne _ _ _ hk]) (fun k h1 h2 i hk => hm k i (by omega) (by omega) (by omega)) ⟨⟨?_, ?_, ?_, ?_, ?_, ?_⟩, 4, by omega, ?_, m17, fun e => absurd e (by omega), fun _ => ⟨?_, ?_, ?_⟩, fun e => absurd e (by omega), fun _ => hBR⟩ ?_
    · rw [hx 0 (by omega)]; exact a1
    · rw [hx 1 (by omega)]; exact a2
    · rw [hx 3 (by omega), hm 18 q (by omega) (by omega) (by omega)]; exact a3
    · rw [hx 6 (by omega), hm 19 q (by omega) (by omega) (by omega)]; exact a4
    · rw [hx 8 (by omega), hm 20 q (by omega) (by omega) (by omega)]; exact a5
    · rw [hx 9 (by omega), hm 21 q (by omega) (by omega) (by omega)]; exact a6
    · rw [xSA_ne _ _ _ _ (by decide) (by decide)]; simp [au]
    · rw [hx 7 (by omega), hm 22 q (by omega) (by omega) (by omega)]; exact c1
    · rw [hx 10 (by omega), hm 23 q (by omega) (by omega) (by omega)]; exact c2
    · rw [hx 4 (by omega), hm 24 q (by omega) (by omega) (by omega)]; exact c3
    · have p1' : RP (au S 8 q 2 (nI 4)) (au M 17 0 q (nI 4)) n := p1.congr (by simp [au]) (by simp [au]) (fun i => by simp [au]) (fun i => by simp [au])
      obtain ⟨n', q1, q2⟩ := RP.sendAll (q := q) (kind := nI 6) (set := nI 32767) (num := num) 15 0 p1' (by simp [au]; exact a1) (by simp [au]; exact a2) (by simp [au]; exact a3)
      refine ⟨n', q1, q2 _ (p2.congr (fun i => by simp [au]) (fun k c r u a z hz => ?_)) (fun a _ ha _ => ?_)⟩
      · refine hz.off (q := q) ?_ (fun i => hm 16 i (by omega) (by omega) (by omega)) (fun i hi => hm 17 i (by omega) (by omega) (by omega)) (fun i hi => hm 18 i (by omega) (by omega) (by omega)) (fun i => hm 26 i (by omega) (by omega) (by omega)) (fun i => hm 27 i (by omega) (by omega) (by omega)) (fun i => hm 28 i (by omega) (by omega) (by omega)) (fun i => hm 29 i (by omega) (by omega) (by omega))
        rw [m17]
        exact nI_ne (by omega) (by omega) (by omega)
      · have := lv_new (κ := 6) (z := num) hq (show a < 15 by omega) hBR (by omega) (by omega) (fun e => by
          rw [m17] at e
          exact absurd e (nI_ne (by omega) (by omega) (by omega)))
        rw [hm 18 q (by omega) (by omega) (by omega)] at this
        rw [show au M 17 0 q (nI 4) 18 0 q = M 18 0 q by simp [au]]
        exact this
  have hl := lv_78 (a := -1) (z := num) hq hBR (Or.inl rfl)
  rw [hm 18 q (by omega) (by omega) (by omega), show q / 4 = c by omega, show q % 4 = r by omega] at hl
  exact key.send hl
-- stop, start
theorem Inv.down {t : Nat} {S M : aS} {a : Nat} {x y : Int32} (ha : a < 15) (h : Inv t S M) (hy : y = 0 ∨ y = nI 1) (hx : ∀ b, b < 15 → (bt x (nI b) = 0 ↔ (if b = a then y = 0 else bt (S 1 0 5) (nI b) = 0))) : Inv t (au S 1 0 5 x) (au M 15 0 a y) := by
  obtain ⟨⟨n, p1, p2⟩, hQ, hV, hL, hU, hD⟩ := h
  have hs : ∀ k j i, k ≠ 1 → au S 1 0 5 x k j i = S k j i := fun k j i hk => by unfold au; rw [if_neg (by omega)]
  have hm : ∀ k i, k ≠ 15 → au M 15 0 a y k 0 i = M k 0 i := fun k i hk => by unfold au; rw [if_neg (by omega)]
  refine ⟨⟨n, p1.congr (hs 2 _ _ (by omega)) (hm 14 _ (by omega)) (fun i => hs 3 _ _ (by omega)) (fun i => hm 35 i (by omega)), p2.congr (fun i => hm 35 i (by omega)) (fun k c r u a z hz => hz.same (Nat.le_refl t) (fun i => hm 16 i (by omega)) (fun i => hm 17 i (by omega)) (fun i => hm 18 i (by omega)) (fun i => hm 26 i (by omega)) (fun i => hm 27 i (by omega)) (fun i => hm 28 i (by omega)) (fun i => hm 29 i (by omega)))⟩, fun q hq => (hQ q hq).congr (Nat.le_refl t) (fun i => hs 8 _ _ (by omega)) (fun k h1 h2 i => hm k i (by omega)), fun v hv => (hV v hv).congr (Nat.le_refl t) (fun i => hs 9 _ _ (by omega)) (fun i => hs 10 _ _ (by omega)) (fun k h1 h2 i => hm k i (by omega)), fun r hr => (hL r hr).congr (Nat.le_refl t) (fun i => hs 11 _ _ (by omega)) (fun i => hs 12 _ _ (by omega)) (fun i => hs 13 _ _ (by omega)) (fun k h1 h2 i => hm k i (by omega)), fun c hc => ?_, fun b hb => ?_⟩
  · obtain ⟨w, a1, a2, a3⟩ := hU c hc
    exact ⟨w, a1, by rw [hm 16 _ (by omega)]; exact a2, by rw [hs 7 _ _ (by omega)]; exact a3⟩
  · unfold BD
    rw [show au S 1 0 5 x 1 0 5 = x by simp [au]]
    by_cases e : b = a
    · subst e
      have := hx b hb
      rw [if_pos rfl] at this
      rw [show au M 15 0 b y 15 0 b = y by simp [au]]
      exact ⟨hy, this⟩
    · have := hx b hb
      rw [if_neg e] at this
      rw [show au M 15 0 a y 15 0 b = M 15 0 b by simp [au, e]]
      exact ⟨(hD b hb).1, this.trans (hD b hb).2⟩
-- the posts alone
theorem Inv.post {t : Nat} {S S' M M' : aS} (h : Inv t S M) (hS : ∀ k j i, k ≠ 2 → k ≠ 3 → S' k j i = S k j i) (hM : ∀ k i, 15 ≤ k → k ≤ 34 → M' k 0 i = M k 0 i) (hp : ∃ n', RP S' M' n' ∧ AL M' n' (LV t M)) : Inv t S' M' := by
  obtain ⟨n', q1, q2⟩ := hp
  obtain ⟨-, hQ, hV, hL, hU, hD⟩ := h
  refine ⟨⟨n', q1, fun i hi => (q2 i hi).same (Nat.le_refl t) (fun i => hM 16 i (by omega) (by omega)) (fun i => hM 17 i (by omega) (by omega)) (fun i => hM 18 i (by omega) (by omega)) (fun i => hM 26 i (by omega) (by omega)) (fun i => hM 27 i (by omega) (by omega)) (fun i => hM 28 i (by omega) (by omega)) (fun i => hM 29 i (by omega) (by omega))⟩, fun q hq => (hQ q hq).congr (Nat.le_refl t) (fun i => hS 8 _ _ (by omega) (by omega)) (fun k h1 h2 i => hM k i (by omega) (by omega)), fun v hv => (hV v hv).congr (Nat.le_refl t) (fun i => hS 9 _ _ (by omega) (by omega)) (fun i => hS 10 _ _ (by omega) (by omega)) (fun k h1 h2 i => hM k i (by omega) (by omega)), fun r hr => (hL r hr).congr (Nat.le_refl t) (fun i => hS 11 _ _ (by omega) (by omega)) (fun i => hS 12 _ _ (by omega) (by omega)) (fun i => hS 13 _ _ (by omega) (by omega)) (fun k h1 h2 i => hM k i (by omega) (by omega)), fun c hc => ?_, fun b hb => ?_⟩
  · obtain ⟨w, a1, a2, a3⟩ := hU c hc
    exact ⟨w, a1, by rw [hM 16 _ (by omega) (by omega)]; exact a2, by rw [hS 7 _ _ (by omega) (by omega)]; exact a3⟩
  · unfold BD
    rw [hM 15 _ (by omega) (by omega), hS 1 _ _ (by omega) (by omega)]
    exact hD b hb
theorem xRem_ne (S : aS) (n i : Nat) {k j x : Nat} (h2 : k ≠ 2) (h3 : k ≠ 3) : xRem S n i k j x = S k j x := by
  unfold xRem
  rw [acp_ne _ _ _ _ (by omega)]
  simp [au, h2]
theorem xRep_ne (S : aS) (n i : Nat) {k j x : Nat} (h2 : k ≠ 2) (h3 : k ≠ 3) : xRep S n i k j x = S k j x := by
  unfold xRep
  rw [au_ne _ _ _ (by omega), acp_ne _ _ _ _ (by omega)]
/-- a letter leaves; what it was -/
theorem Inv.rem {t : Nat} {S M : aS} {n i : Nat} (h : Inv t S M) (hn : M 14 0 21 = nI (n + 1)) (h240 : n + 1 ≤ 240) (hi : i ≤ n) : Inv t (xRem S n i) (mRem M n i) := by
  obtain ⟨n0, p1, p2⟩ := h.1
  have : n0 = n + 1 := (nI_eq (by have := p1.2.2.1; omega) (by omega)).mp (p1.2.1.symm.trans hn)
  subst this
  have hr := p1.rem hi
  exact h.post (fun k j x h2 h3 => xRem_ne S n i h2 h3) (fun k x h1 h2 => mRem_ne M n i (by omega) (by omega)) ⟨n, hr.1, hr.2 _ p2⟩
theorem Inv.cpy {t : Nat} {S M : aS} {n i : Nat} (h : Inv t S M) (hn : M 14 0 21 = nI n) (h240 : n < 240) (hi : i < n) : Inv t (xRep S n i) (mCopy M n i) := by
  obtain ⟨n0, p1, p2⟩ := h.1
  have : n0 = n := (nI_eq (by have := p1.2.2.1; omega) (by omega)).mp (p1.2.1.symm.trans hn)
  subst this
  have hr := p1.copy h240 hi
  refine h.post (fun k j x h2 h3 => xRep_ne S _ i h2 h3) (fun k x h1 h2 => ?_) ⟨_, hr.1, hr.2 _ p2⟩
  unfold mCopy
  rw [show au (mCpy (mTh M) n0 i 8) 14 0 21 (nI (n0 + 1)) k 0 x = mCpy (mTh M) n0 i 8 k 0 x by unfold au; rw [if_neg (by omega)], mCpy_ne _ _ _ _ (by omega)]
  exact mTh_ne M (by omega)
