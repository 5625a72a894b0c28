/-! THE RELATION is kept: letters that come to clients and resources -/
theorem IsMx.congr {z v : Int32} {f f' : Nat → Int32} (h : IsMx z v f) (hf : ∀ b, b < 15 → f' b = f b) : IsMx z v f' := ⟨h.1, fun a ha hb => by rw [hf a ha]; exact h.2.1 a ha hb, h.2.2.imp id (fun ⟨a, ha, hb, e⟩ => ⟨a, ha, hb, by rw [hf a ha]; exact e⟩)⟩
/-- bid x hasn't changed itself -/
theorem BQ.gen {t : Nat} {S S' M M' : aS} {x : Nat} (h : BQ t S M x) (h8 : ∀ i, S' 8 x i = S 8 x i) (hm : ∀ k, 17 ≤ k → k ≤ 24 → M' k 0 x = M k 0 x) (h16 : ∀ i, M' 16 0 i = M 16 0 i) (h25 : ∀ b, b < 15 → M' 25 0 (15 * x + b) = M 25 0 (15 * x + b)) (hh : ∀ a ν, a < 15 → M 17 0 x = nI 1 → M 18 0 x = nI ν → Hd M (4 * a + x % 4) (x / 4) ν → Hd M' (4 * a + x % 4) (x / 4) ν ∧ M' 29 0 (4 * a + x % 4) = M 29 0 (4 * a + x % 4)) : BQ t S' M' x := by
  obtain ⟨⟨a1, a2, a3, a4, a5, a6⟩, s, b1, b2, b3, b4, b5, b6, b7⟩ := h
  refine ⟨⟨by rw [h8]; exact a1, by rw [h8]; exact a2, by rw [h8, hm 18 (by omega) (by omega)]; exact a3, by rw [h8, hm 19 (by omega) (by omega)]; exact a4, by rw [h8, hm 20 (by omega) (by omega)]; exact a5, by rw [h8, hm 21 (by omega) (by omega)]; exact a6⟩, s, b1, by rw [h8]; exact b2, by rw [hm 17 (by omega) (by omega)]; exact b3, fun hs => ?_, fun hs => ?_, fun hs => ?_, fun hs => ?_⟩
  · obtain ⟨c1, c2, c3, c4⟩ := b4 hs
    refine ⟨by rw [h8, hm 19 (by omega) (by omega)]; exact c1, ?_, by rw [h8]; exact c3, fun a ha hb => ?_⟩
    · rw [h8, hm 21 (by omega) (by omega)]
      exact c2.congr h25
    · rw [hm 21 (by omega) (by omega)] at hb
      obtain ⟨ν, d1, d2, d3⟩ := c4 a ha hb
      obtain ⟨e1, e2⟩ := hh a ν ha (by rw [b3, hs]) d1 d2
      refine ⟨ν, by rw [hm 18 (by omega) (by omega)]; exact d1, e1, ?_⟩
      rw [h25 a ha, e2]
      exact d3
  · rw [h8, h8, h8, hm 22 (by omega) (by omega), hm 23 (by omega) (by omega), hm 24 (by omega) (by omega)]
    exact b5 hs
  · rw [h8, h8]
    exact b6 hs
  · obtain ⟨ν, w, d1, d2, d3, d4, d5⟩ := b7 hs
    exact ⟨ν, w, by rw [hm 18 (by omega) (by omega)]; exact d1, d2, d3, by rw [h16]; exact d4, d5⟩
theorem Inv.vote {t : Nat} {S M : aS} {q a ν : Nat} {num : Int32} (hq : q < 32) (ha : a < 15) (h : Inv t S M) (hs : M 17 0 q = nI 1) (hr : M 18 0 q = nI ν) (hd : Hd M (4 * a + q % 4) (q / 4) ν) (hz : num = M 29 0 (4 * a + q % 4)) : Inv t (xWrite (xVote1 S q (nI a) num) q) (mWrites (mTold1 M q a num) q) := by
  have m0 : ∀ k i, ¬ (k = 21 ∧ i = q) → ¬ (k = 25 ∧ i = 15 * q + a) → mTold1 M q a num k 0 i = M k 0 i := fun k i h1 h2 => by
    unfold mTold1 au
    rw [if_neg (by omega), if_neg (by omega)]
  have m21 : mTold1 M q a num 21 0 q = M 21 0 q ||| (nI 1 <<< (nI a &&& 31)) := by simp [mTold1, au]
  have m25 : mTold1 M q a num 25 0 (15 * q + a) = num := by simp [mTold1, au]
  have x0 : ∀ k j i, ¬ (k = 8 ∧ j = q) → xVote1 S q (nI a) num k j i = S k j i := fun k j i h1 => by
    unfold xVote1
    rw [au_ne _ _ _ h1, au_ne _ _ _ h1]
  have x8 : ∀ i, i ≠ 9 → i ≠ 5 → xVote1 S q (nI a) num 8 q i = S 8 q i := fun i h1 h2 => by
    unfold xVote1 au
    rw [if_neg (by omega), if_neg (by omega)]
  refine Inv.write hq ?_ (by rw [m0 17 q (by omega) (by omega)]; exact hs)
  obtain ⟨⟨n, p1, p2⟩, hQ, hV, hL, hU, hD⟩ := h
  refine ⟨⟨n, p1.congr (x0 2 _ _ (by omega)) (m0 14 _ (by omega) (by omega)) (fun i => x0 3 _ _ (by omega)) (fun i => m0 35 i (by omega) (by omega)), p2.congr (fun i => m0 35 i (by omega) (by omega)) (fun k c r u a z hz => hz.same (Nat.le_refl t) (fun i => m0 16 i (by omega) (by omega)) (fun i => m0 17 i (by omega) (by omega)) (fun i => m0 18 i (by omega) (by omega)) (fun i => m0 26 i (by omega) (by omega)) (fun i => m0 27 i (by omega) (by omega)) (fun i => m0 28 i (by omega) (by omega)) (fun i => m0 29 i (by omega) (by omega)))⟩, fun x hx => ?_, fun v hv => (hV v hv).congr (Nat.le_refl t) (fun i => x0 9 _ _ (by omega)) (fun i => x0 10 _ _ (by omega)) (fun k h1 h2 i => m0 k i (by omega) (by omega)), fun r hr => (hL r hr).congr (Nat.le_refl t) (fun i => x0 11 _ _ (by omega)) (fun i => x0 12 _ _ (by omega)) (fun i => x0 13 _ _ (by omega)) (fun k h1 h2 i => m0 k i (by omega) (by omega)), fun c hc => ?_, fun b hb => ?_⟩
  · by_cases e : x = q
    · subst e
      obtain ⟨⟨a1, a2, a3, a4, a5, a6⟩, s, b1, b2, b3, b4, b5, b6, b7⟩ := hQ x hx
      obtain rfl := st_eq b3 hs b1 (by omega)
      obtain ⟨c1, c2, c3, c4⟩ := b4 rfl
      refine ⟨⟨by rw [x8 0 (by omega) (by omega)]; exact a1, by rw [x8 1 (by omega) (by omega)]; exact a2, by rw [x8 3 (by omega) (by omega), m0 18 x (by omega) (by omega)]; exact a3, by rw [x8 6 (by omega) (by omega), m0 19 x (by omega) (by omega)]; exact a4, by rw [x8 8 (by omega) (by omega), m0 20 x (by omega) (by omega)]; exact a5, ?_⟩, 1, by omega, by rw [x8 2 (by omega) (by omega)]; exact b2, by rw [m0 17 x (by omega) (by omega)]; exact b3, fun _ => ⟨by rw [x8 7 (by omega) (by omega), m0 19 x (by omega) (by omega)]; exact c1, ?_, by rw [x8 10 (by omega) (by omega)]; exact c3, fun b hb hv => ?_⟩, fun z => absurd z (by omega), fun z => absurd z (by omega), fun _ => ?_⟩
      · rw [m21]
        simp [xVote1, au]
        rw [a6]
      · rw [m21, show xVote1 S x (nI a) num 8 x 5 = (if S 8 x 5 < num then num else S 8 x 5) by simp [xVote1, au]]
        refine c2.add ha (fun b hb => m0 25 (15 * x + b) (by omega) (by omega)) m25 (fun hv => ?_)
        obtain ⟨ν', d1, d2, d3⟩ := c4 a ha hv
        exact d3.trans hz.symm
      · rw [m21] at hv
        by_cases e : b = a
        · subst e
          exact ⟨ν, by rw [m0 18 x (by omega) (by omega)]; exact hr, hd.congr (fun i => m0 26 i (by omega) (by omega)) (fun i => m0 27 i (by omega) (by omega)) (fun i => m0 28 i (by omega) (by omega)), by rw [m25, m0 29 _ (by omega) (by omega)]; exact hz⟩
        · obtain ⟨ν', d1, d2, d3⟩ := c4 b hb (fun z => hv ((bt_set _ ha hb).mpr ⟨z, e⟩))
          exact ⟨ν', by rw [m0 18 x (by omega) (by omega)]; exact d1, d2.congr (fun i => m0 26 i (by omega) (by omega)) (fun i => m0 27 i (by omega) (by omega)) (fun i => m0 28 i (by omega) (by omega)), by rw [m0 25 _ (by omega) (by omega), m0 29 _ (by omega) (by omega)]; exact d3⟩
      · obtain ⟨ν', w, d1, d2, d3, d4, d5⟩ := b7 (by omega)
        exact ⟨ν', w, by rw [m0 18 x (by omega) (by omega)]; exact d1, d2, d3, by rw [m0 16 _ (by omega) (by omega)]; exact d4, d5⟩
    · exact (hQ x hx).gen (fun i => x0 8 _ _ (by omega)) (fun k h1 h2 => m0 k x (by omega) (by omega)) (fun i => m0 16 i (by omega) (by omega)) (fun b hb => m0 25 _ (by omega) (by omega)) (fun a ν _ _ _ hd => ⟨hd.congr (fun i => m0 26 i (by omega) (by omega)) (fun i => m0 27 i (by omega) (by omega)) (fun i => m0 28 i (by omega) (by omega)), m0 29 _ (by omega) (by omega)⟩)
  · obtain ⟨w, a1, a2, a3⟩ := hU c hc
    exact ⟨w, a1, by rw [m0 16 _ (by omega) (by omega)]; exact a2, by rw [x0 7 _ _ (by omega)]; exact a3⟩
  · unfold BD
    rw [m0 15 _ (by omega) (by omega), x0 1 _ _ (by omega)]
    exact hD b hb
theorem Inv.sto {t : Nat} {S M : aS} {q a : Nat} (hq : q < 32) (ha : a < 15) (h : Inv t S M) (hs : M 17 0 q = nI 2) : Inv t (if bt (S 8 q 7) (nI a) = 0 then S else xSto S q (nI a)) (mSto M q (nI a)) := by
  have h' := h
  obtain ⟨⟨n, p1, p2⟩, hQ, hV, hL, hU, hD⟩ := h'
  obtain ⟨⟨a1, a2, a3, a4, a5, a6⟩, s, b1, b2, b3, b4, b5, b6, b7⟩ := hQ q hq
  obtain rfl := st_eq b3 hs b1 (by omega)
  obtain ⟨c1, c2, c3⟩ := b5 (by omega)
  have c4 := b6 rfl
  rw [c1, c2] at c4
  rw [c1]
  by_cases hb : bt (M 22 0 q) (nI a) = 0
  · rw [if_pos hb]
    have e : mSto M q (nI a) = M := by
      unfold mSto
      rw [sto_out _ _ ha hb, if_neg c4, au_self, ← hs, au_self]
    rw [e]
    exact h
  · rw [if_neg hb]
    have e1 : mSto M q (nI a) = au (au M 23 0 q (M 23 0 q ||| (nI 1 <<< (nI a &&& 31)))) 17 0 q (if M 23 0 q ||| (nI 1 <<< (nI a &&& 31)) = M 22 0 q then nI 3 else nI 2) := by
      unfold mSto
      rw [sto_in _ _ ha hb]
    have e2 : xSto S q (nI a) = au (au S 8 q 10 (M 23 0 q ||| (nI 1 <<< (nI a &&& 31)))) 8 q 2 (if M 23 0 q ||| (nI 1 <<< (nI a &&& 31)) = M 22 0 q then nI 3 else nI 2) := by
      unfold xSto
      rw [c1, c2]
      by_cases hz : M 23 0 q ||| (nI 1 <<< (nI a &&& 31)) = M 22 0 q
      · rw [if_pos hz, if_pos hz]
      · rw [if_neg hz, if_neg hz]
        have : nI 2 = au S 8 q 10 (M 23 0 q ||| (nI 1 <<< (nI a &&& 31))) 8 q 2 := by simp [au]; exact b2.symm
        rw [this, au_self]
    rw [e1, e2]
    obtain ⟨s', hs', hs2⟩ : ∃ s', (if M 23 0 q ||| (nI 1 <<< (nI a &&& 31)) = M 22 0 q then nI 3 else nI 2) = nI s' ∧ ((s' = 3) ∨ (s' = 2 ∧ ¬ M 23 0 q ||| (nI 1 <<< (nI a &&& 31)) = M 22 0 q)) := by
      by_cases hz : M 23 0 q ||| (nI 1 <<< (nI a &&& 31)) = M 22 0 q
      · exact ⟨3, if_pos hz, Or.inl rfl⟩
      · exact ⟨2, if_neg hz, Or.inr ⟨rfl, hz⟩⟩
    rw [hs']
    generalize hZ : M 23 0 q ||| (nI 1 <<< (nI a &&& 31)) = Z at hs2
    have m0 : ∀ k i, ¬ ((k = 17 ∨ k = 23) ∧ i = q) → au (au M 23 0 q Z) 17 0 q (nI s') k 0 i = M k 0 i := fun k i hk => by
      unfold au
      rw [if_neg (by omega), if_neg (by omega)]
    have m17 : au (au M 23 0 q Z) 17 0 q (nI s') 17 0 q = nI s' := by simp [au]
    have m23 : au (au M 23 0 q Z) 17 0 q (nI s') 23 0 q = Z := by simp [au]
    have x8 : ∀ i, i ≠ 10 → i ≠ 2 → au (au S 8 q 10 Z) 8 q 2 (nI s') 8 q i = S 8 q i := fun i h1 h2 => by
      unfold au
      rw [if_neg (by omega), if_neg (by omega)]
    refine h.bid (q := q) (fun k _ _ _ j i hk => by rw [au_ne _ _ _ hk, au_ne _ _ _ hk]) (fun k h1 h2 i hk => m0 k i (by omega)) ⟨⟨by rw [x8 0 (by omega) (by omega)]; exact a1, by rw [x8 1 (by omega) (by omega)]; exact a2, by rw [x8 3 (by omega) (by omega), m0 18 q (by omega)]; exact a3, by rw [x8 6 (by omega) (by omega), m0 19 q (by omega)]; exact a4, by rw [x8 8 (by omega) (by omega), m0 20 q (by omega)]; exact a5, by rw [x8 9 (by omega) (by omega), m0 21 q (by omega)]; exact a6⟩, s', by omega, by simp [au], m17, fun e => absurd e (by omega), fun _ => ⟨by rw [x8 7 (by omega) (by omega), m0 22 q (by omega)]; exact c1, ?_, by rw [x8 4 (by omega) (by omega), m0 24 q (by omega)]; exact c3⟩, fun e => ?_, fun _ => ?_⟩ ⟨n, p1.congr (by simp [au]) (m0 14 21 (by omega)) (fun i => by simp [au]) (fun i => m0 35 i (by omega)), p2.congr (fun i => m0 35 i (by omega)) (fun k c r u a z hz => hz.off (q := q) ?_ (fun i => m0 16 i (by omega)) (fun i hi => m0 17 i (by omega)) (fun i hi => m0 18 i (by omega)) (fun i => m0 26 i (by omega)) (fun i => m0 27 i (by omega)) (fun i => m0 28 i (by omega)) (fun i => m0 29 i (by omega)))⟩
    · rw [m23]; simp [au]
    · rw [x8 7 (by omega) (by omega), c1, show au (au S 8 q 10 Z) 8 q 2 (nI s') 8 q 10 = Z by simp [au]]
      rcases hs2 with e' | e'
      · omega
      · exact e'.2
    · obtain ⟨ν, w, d1, d2, d3, d4, d5⟩ := b7 (by omega)
      exact ⟨ν, w, by rw [m0 18 q (by omega)]; exact d1, d2, d3, by rw [m0 16 _ (by omega)]; exact d4, d5⟩
    · rw [m17]
      exact nI_ne (by omega) (by omega) (by omega)
/-- one resource has changed -/
theorem Inv.res {t t' : Nat} {S S' M M' : aS} {r : Nat} (h : Inv t S M) (ht : t ≤ t') (hS : ∀ k j i, k ≤ 13 → ¬ (11 ≤ k ∧ j = r) → S' k j i = S k j i) (hM : ∀ k i, 14 ≤ k → k ≤ 35 → ¬ ((30 ≤ k ∧ k ≤ 32) ∧ i = r) → ¬ ((k = 33 ∨ k = 34) ∧ 64 * r ≤ i ∧ i < 64 * r + 64) → M' k 0 i = M k 0 i) (hr : BL t' S' M' r) : Inv t' S' M' := by
  obtain ⟨⟨n, p1, p2⟩, hQ, hV, hL, hU, hD⟩ := h
  refine ⟨⟨n, p1.congr (hS 2 _ _ (by omega) (by omega)) (hM 14 _ (by omega) (by omega) (by omega) (by omega)) (fun i => hS 3 _ _ (by omega) (by omega)) (fun i => hM 35 i (by omega) (by omega) (by omega) (by omega)), p2.congr (fun i => hM 35 i (by omega) (by omega) (by omega) (by omega)) (fun k c r u a z hz => hz.same ht (fun i => hM 16 i (by omega) (by omega) (by omega) (by omega)) (fun i => hM 17 i (by omega) (by omega) (by omega) (by omega)) (fun i => hM 18 i (by omega) (by omega) (by omega) (by omega)) (fun i => hM 26 i (by omega) (by omega) (by omega) (by omega)) (fun i => hM 27 i (by omega) (by omega) (by omega) (by omega)) (fun i => hM 28 i (by omega) (by omega) (by omega) (by omega)) (fun i => hM 29 i (by omega) (by omega) (by omega) (by omega)))⟩, fun q hq => (hQ q hq).congr ht (fun i => hS 8 _ _ (by omega) (by omega)) (fun k h1 h2 i => hM k i (by omega) (by omega) (by omega) (by omega)), fun v hv => (hV v hv).congr ht (fun i => hS 9 _ _ (by omega) (by omega)) (fun i => hS 10 _ _ (by omega) (by omega)) (fun k h1 h2 i => hM k i (by omega) (by omega) (by omega) (by omega)), fun x hx => ?_, fun c hc => ?_, fun b hb => ?_⟩
  · by_cases e : x = r
    · rw [e]; exact hr
    · obtain ⟨a1, a2, ⟨n, a3, a4, a5⟩, a6⟩ := hL x hx
      refine ⟨by rw [hS 11 x 0 (by omega) (by omega), hM 30 x (by omega) (by omega) (by omega) (by omega)]; exact a1, by rw [hS 11 x 1 (by omega) (by omega), hM 31 x (by omega) (by omega) (by omega) (by omega)]; exact a2, ⟨n, by omega, by rw [hS 11 x 2 (by omega) (by omega)]; exact a4, by rw [hM 32 x (by omega) (by omega) (by omega) (by omega)]; exact a5⟩, fun i hi => ?_⟩
      rw [hS 12 x i (by omega) (by omega), hS 13 x i (by omega) (by omega), hM 33 _ (by omega) (by omega) (by omega) (by omega), hM 34 _ (by omega) (by omega) (by omega) (by omega)]
      exact a6 i hi
  · obtain ⟨w, a1, a2, a3⟩ := hU c hc
    exact ⟨w, by omega, by rw [hM 16 _ (by omega) (by omega) (by omega) (by omega)]; exact a2, by rw [hS 7 _ _ (by omega) (by omega)]; exact a3⟩
  · unfold BD
    rw [hM 15 _ (by omega) (by omega) (by omega) (by omega), hS 1 _ _ (by omega) (by omega)]
    exact hD b hb
theorem Inv.obey {t : Nat} {S M : aS} {r n : Nat} {a b : Int32} (hr : r < 4) (h : Inv t S M) (hn : n ≤ t) : Inv (t + 1) (xObey S r a b n) (mObey M r a b n) := by
  refine h.res (r := r) (by omega) (fun k j i h1 h2 => ?_) (fun k i h1 h2 h3 h4 => ?_) ?_
  · unfold xObey
    rw [au_ne _ _ _ (by omega), au_ne _ _ _ (by omega), au_ne _ _ _ (by omega), au_ne _ _ _ (by omega)]
  · unfold mObey au
    rw [if_neg (by omega), if_neg (by omega), if_neg (by omega), if_neg (by omega)]
  · obtain ⟨a1, a2, -, a6⟩ := h.2.2.2.1 r hr
    refine ⟨by simp [xObey, mObey, au], by simp [xObey, mObey, au]; exact a2, ⟨n + 1, by omega, by simp [xObey, au], by simp [mObey, au]⟩, fun i hi => ?_⟩
    obtain ⟨f1, f2⟩ := a6 i hi
    by_cases e : i = n % 64
    · simp [xObey, mObey, au, e]
    · simp [xObey, mObey, au, e]
      exact ⟨f1, f2⟩
theorem mx_eq (x a : Int32) : (if x < a then a else x) = if a ≤ x then x else a := by
  by_cases h : a ≤ x
  · rw [if_pos h, if_neg (Int32.not_lt.mpr h)]
  · rw [if_neg h, if_pos (Int32.not_le.mp h)]
theorem Inv.brkn {t : Nat} {S M : aS} {r : Nat} {a : Int32} (hr : r < 4) (h : Inv t S M) : Inv t (au (au S 11 r 1 (if S 11 r 1 < a then a else S 11 r 1)) 11 r 0 (if S 11 r 0 < a then a else S 11 r 0)) (au (au M 30 0 r (if a ≤ M 30 0 r then M 30 0 r else a)) 31 0 r (if a ≤ M 31 0 r then M 31 0 r else a)) := by
  refine h.res (r := r) (Nat.le_refl t) (fun k j i h1 h2 => ?_) (fun k i h1 h2 h3 h4 => ?_) ?_
  · rw [au_ne _ _ _ (by omega), au_ne _ _ _ (by omega)]
  · unfold au
    rw [if_neg (by omega), if_neg (by omega)]
  · obtain ⟨a1, a2, ⟨n, a3, a4, a5⟩, a6⟩ := h.2.2.2.1 r hr
    refine ⟨?_, ?_, ⟨n, a3, by simp [au]; exact a4, by simp [au]; exact a5⟩, fun i hi => ?_⟩
    · simp [au]
      rw [a1]
      exact mx_eq _ _
    · simp [au]
      rw [a2]
      exact mx_eq _ _
    · simp [au]
      exact a6 i hi
/-- a vote for a run that there is no more -/
theorem Inv.late {t : Nat} {S M : aS} {q : Nat} {u a z : Int32} (hq : q < 32) (h : Inv t S M) (hl : LV t M (nI 2) (nI (q / 4)) (nI (q % 4)) u a z) (hs : M 17 0 q = 0 ∨ M 18 0 q ≠ u) : Inv t (xSend S (nI 5) (S 8 q 0) (S 8 q 1) u a (nI 0) (nI 0)) (mSend M (nI 5) (nI (q / 4)) (nI (q % 4)) u a (nI 0) (nI 0)) := by
  obtain ⟨a1, a2, -⟩ := (h.2.1 q hq).1
  rw [a1, a2]
  refine h.send ?_
  obtain ⟨κ, γ, ρ, ν, e1, e2, e3, e4, e5, e6, e7, e8, e9, e10⟩ := hl
  have hγ : q / 4 = γ := (nI_eq (by omega) (by omega)).mp e2
  have hρ : q % 4 = ρ := (nI_eq (by omega) (by omega)).mp e3
  refine ⟨5, γ, ρ, ν, rfl, e2, e3, e4, e5, e6, e7, e8, Or.inr ⟨by omega, by omega, ?_⟩, fun g1 g2 => ?_⟩
  · rcases e9 with e9 | ⟨-, -, e9⟩
    · have := (nI_eq (by omega) (by omega)).mp e1
      omega
    · exact e9
  · exfalso
    rw [show 4 * γ + ρ = q by omega] at g1 g2
    rcases hs with hs | hs
    · rw [hs] at g1
      exact absurd g1.symm (nI_ne0 (by omega) (by omega))
    · exact hs (g2.trans e4.symm)
