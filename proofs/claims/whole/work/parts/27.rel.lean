/-! THE RELATION between the class's cells S and the reference's cells M, t turns after the start -/
/-- the head of row v -/
def Hd (M : aS) (v γ ν : Nat) : Prop := (∃ m, 0 < m ∧ m ≤ 17 ∧ M 28 0 v = nI m) ∧ M 26 0 (17 * v) = nI γ ∧ M 27 0 (17 * v) = nI ν
/-- what a letter is -/
def LV (t : Nat) (M : aS) (k c r u a z : Int32) : Prop := ∃ κ γ ρ ν : Nat, k = nI κ ∧ c = nI γ ∧ r = nI ρ ∧ u = nI ν ∧ γ < 8 ∧ ρ < 4 ∧ 1 ≤ ν ∧ (∃ w, M 16 0 γ = nI w ∧ ν ≤ w ∧ w ≤ t) ∧ ((κ = 7 ∨ κ = 8) ∨ (1 ≤ κ ∧ κ ≤ 6 ∧ ∃ α, α < 15 ∧ a = nI α)) ∧ (M 17 0 (4 * γ + ρ) = nI 1 → M 18 0 (4 * γ + ρ) = nI ν → κ ≠ 3 ∧ κ ≠ 5 ∧ κ ≠ 6 ∧ (κ = 2 → ∀ α, α < 15 → a = nI α → Hd M (4 * α + ρ) γ ν ∧ z = M 29 0 (4 * α + ρ)))
/-- a bid in state 1, but for its route -/
def BA (S M : aS) (q : Nat) : Prop := IsMx (S 8 q 5) (M 21 0 q) (fun b => M 25 0 (15 * q + b)) ∧ S 8 q 10 = nI 0 ∧ ∀ a, a < 15 → ¬ bt (M 21 0 q) (nI a) = 0 → ∃ ν, M 18 0 q = nI ν ∧ Hd M (4 * a + q % 4) (q / 4) ν ∧ M 25 0 (15 * q + a) = M 29 0 (4 * a + q % 4)
def B0 (t : Nat) (S M : aS) (q : Nat) : Prop := S 8 q 0 = nI (q / 4) ∧ S 8 q 1 = nI (q % 4) ∧ S 8 q 3 = M 18 0 q ∧ S 8 q 6 = M 19 0 q ∧ S 8 q 8 = M 20 0 q ∧ S 8 q 9 = M 21 0 q
def BR (t : Nat) (M : aS) (q : Nat) : Prop := ∃ ν w, M 18 0 q = nI ν ∧ 1 ≤ ν ∧ ν ≤ w ∧ M 16 0 (q / 4) = nI w ∧ w ≤ t
def BQ (t : Nat) (S M : aS) (q : Nat) : Prop := B0 t S M q ∧ ∃ s, s ≤ 4 ∧ S 8 q 2 = nI s ∧ M 17 0 q = nI s ∧ (s = 1 → S 8 q 7 = rx (M 19 0 q) 3 0 ∧ BA S M q) ∧ (2 ≤ s → S 8 q 7 = M 22 0 q ∧ S 8 q 10 = M 23 0 q ∧ S 8 q 4 = M 24 0 q) ∧ (s = 2 → ¬ S 8 q 10 = S 8 q 7) ∧ (1 ≤ s → BR t M q)
/-- place i of row v, in the class -/
def xRow (S : aS) (v i : Nat) : Int32 := if i = 0 then S 9 v 0 else S 10 v (i - 1)
def BV (t : Nat) (S M : aS) (v : Nat) : Prop := S 9 v 1 = M 29 0 v ∧ ∃ m, m ≤ 17 ∧ M 28 0 v = nI m ∧ S 9 v 2 = nI (m - 1) ∧ (m = 0 → S 9 v 0 = 0) ∧ ∀ i, i < m → ∃ γ ν, γ < 8 ∧ 1 ≤ ν ∧ (∃ w, M 16 0 γ = nI w ∧ ν ≤ w ∧ w ≤ t) ∧ M 26 0 (17 * v + i) = nI γ ∧ M 27 0 (17 * v + i) = nI ν ∧ xRow S v i = nI (8 * ν + γ)
def BL (t : Nat) (S M : aS) (r : Nat) : Prop := S 11 r 0 = M 30 0 r ∧ S 11 r 1 = M 31 0 r ∧ (∃ n, n ≤ t ∧ S 11 r 2 = nI n ∧ M 32 0 r = nI n) ∧ ∀ i, i < 64 → S 12 r i = M 33 0 (64 * r + i) ∧ S 13 r i = M 34 0 (64 * r + i)
def BU (t : Nat) (S M : aS) (c : Nat) : Prop := ∃ w, w ≤ t ∧ M 16 0 c = nI w ∧ S 7 0 c = nI w
def BD (S M : aS) (a : Nat) : Prop := (M 15 0 a = 0 ∨ M 15 0 a = nI 1) ∧ (bt (S 1 0 5) (nI a) = 0 ↔ M 15 0 a = 0)
def PL (t : Nat) (S M : aS) : Prop := ∃ n, RP S M n ∧ AL M n (LV t M)
def Inv (t : Nat) (S M : aS) : Prop := PL t S M ∧ (∀ q, q < 32 → BQ t S M q) ∧ (∀ v, v < 60 → BV t S M v) ∧ (∀ r, r < 4 → BL t S M r) ∧ (∀ c, c < 8 → BU t S M c) ∧ (∀ a, a < 15 → BD S M a)
-- framing
theorem Hd.congr {M M' : aS} {v γ ν : Nat} (h : Hd M v γ ν) (h26 : ∀ i, M' 26 0 i = M 26 0 i) (h27 : ∀ i, M' 27 0 i = M 27 0 i) (h28 : ∀ i, M' 28 0 i = M 28 0 i) : Hd M' v γ ν := by
  unfold Hd
  rw [h26, h27, h28]
  exact h
theorem LV.same {t t' : Nat} {M M' : aS} {k c r u a z : Int32} (h : LV t M k c r u a z) (ht : t ≤ t') (h16 : ∀ i, M' 16 0 i = M 16 0 i) (h17 : ∀ i, M' 17 0 i = M 17 0 i) (h18 : ∀ i, M' 18 0 i = M 18 0 i) (h26 : ∀ i, M' 26 0 i = M 26 0 i) (h27 : ∀ i, M' 27 0 i = M 27 0 i) (h28 : ∀ i, M' 28 0 i = M 28 0 i) (h29 : ∀ i, M' 29 0 i = M 29 0 i) : LV t' M' k c r u a z := by
  obtain ⟨κ, γ, ρ, ν, e1, e2, e3, e4, e5, e6, e7, ⟨w, e8, e9, e10⟩, e11, e12⟩ := h
  refine ⟨κ, γ, ρ, ν, e1, e2, e3, e4, e5, e6, e7, ⟨w, by rw [h16]; exact e8, e9, by omega⟩, e11, fun q1 q2 => ?_⟩
  rw [h17] at q1
  rw [h18] at q2
  obtain ⟨b1, b2, b3, b4⟩ := e12 q1 q2
  refine ⟨b1, b2, b3, fun hk α hα ha => ?_⟩
  obtain ⟨c1, c2⟩ := b4 hk α hα ha
  exact ⟨c1.congr h26 h27 h28, by rw [h29]; exact c2⟩
/-- bid q isn't asking afterwards -/
theorem LV.off {t : Nat} {M M' : aS} {q : Nat} {k c r u a z : Int32} (h : LV t M k c r u a z) (hq : M' 17 0 q ≠ nI 1) (h16 : ∀ i, M' 16 0 i = M 16 0 i) (h17 : ∀ i, i ≠ q → M' 17 0 i = M 17 0 i) (h18 : ∀ i, i ≠ q → M' 18 0 i = M 18 0 i) (h26 : ∀ i, M' 26 0 i = M 26 0 i) (h27 : ∀ i, M' 27 0 i = M 27 0 i) (h28 : ∀ i, M' 28 0 i = M 28 0 i) (h29 : ∀ i, M' 29 0 i = M 29 0 i) : LV t M' k c r u a z := by
  obtain ⟨κ, γ, ρ, ν, e1, e2, e3, e4, e5, e6, e7, ⟨w, e8, e9, e10⟩, e11, e12⟩ := h
  refine ⟨κ, γ, ρ, ν, e1, e2, e3, e4, e5, e6, e7, ⟨w, by rw [h16]; exact e8, e9, by omega⟩, e11, fun q1 q2 => ?_⟩
  have hne : 4 * γ + ρ ≠ q := fun e => hq (by rw [← e]; exact q1)
  rw [h17 _ hne] at q1
  rw [h18 _ hne] at q2
  obtain ⟨b1, b2, b3, b4⟩ := e12 q1 q2
  refine ⟨b1, b2, b3, fun hk α hα ha => ?_⟩
  obtain ⟨c1, c2⟩ := b4 hk α hα ha
  exact ⟨c1.congr h26 h27 h28, by rw [h29]; exact c2⟩
theorem BQ.congr {t t' : Nat} {S S' M M' : aS} {q : Nat} (h : BQ t S M q) (ht : t ≤ t') (h8 : ∀ i, S' 8 q i = S 8 q i) (hM : ∀ k, 16 ≤ k → k ≤ 29 → ∀ i, M' k 0 i = M k 0 i) : BQ t' S' M' q := by
  obtain ⟨⟨a1, a2, a3, a4, a5, a6⟩, s, b1, b2, b3, b4, b5, b6, b7⟩ := h
  refine ⟨⟨by rw [h8]; exact a1, by rw [h8]; exact a2, by rw [h8, hM 18 (by omega) (by omega)]; exact a3, by rw [h8, hM 19 (by omega) (by omega)]; exact a4, by rw [h8, hM 20 (by omega) (by omega)]; exact a5, by rw [h8, hM 21 (by omega) (by omega)]; exact a6⟩, s, b1, by rw [h8]; exact b2, by rw [hM 17 (by omega) (by omega)]; exact b3, fun hs => ?_, fun hs => ?_, fun hs => ?_, fun hs => ?_⟩
  · obtain ⟨c1, c2, c3, c4⟩ := b4 hs
    refine ⟨by rw [h8, hM 19 (by omega) (by omega)]; exact c1, ?_, by rw [h8]; exact c3, fun a ha hb => ?_⟩
    · rw [h8, hM 21 (by omega) (by omega), show (fun b => M' 25 0 (15 * q + b)) = fun b => M 25 0 (15 * q + b) from funext fun b => hM 25 (by omega) (by omega) _]
      exact c2
    · rw [hM 21 (by omega) (by omega)] at hb
      obtain ⟨ν, d1, d2, d3⟩ := c4 a ha hb
      refine ⟨ν, by rw [hM 18 (by omega) (by omega)]; exact d1, d2.congr (hM 26 (by omega) (by omega)) (hM 27 (by omega) (by omega)) (hM 28 (by omega) (by omega)), ?_⟩
      rw [hM 25 (by omega) (by omega), hM 29 (by omega) (by omega)]
      exact d3
  · rw [h8, h8, h8, hM 22 (by omega) (by omega), hM 23 (by omega) (by omega), hM 24 (by omega) (by omega)]
    exact b5 hs
  · rw [h8, h8]
    exact b6 hs
  · obtain ⟨ν, w, d1, d2, d3, d4, d5⟩ := b7 hs
    exact ⟨ν, w, by rw [hM 18 (by omega) (by omega)]; exact d1, d2, d3, by rw [hM 16 (by omega) (by omega)]; exact d4, by omega⟩
theorem BV.congr2 {t t' : Nat} {S S' M M' : aS} {v : Nat} (h : BV t S M v) (h16 : ∀ γ w, γ < 8 → M 16 0 γ = nI w → w ≤ t → ∃ w', M' 16 0 γ = nI w' ∧ w ≤ w' ∧ w' ≤ t') (h9 : ∀ i, S' 9 v i = S 9 v i) (h10 : ∀ i, S' 10 v i = S 10 v i) (hM : ∀ k, 26 ≤ k → k ≤ 29 → ∀ i, M' k 0 i = M k 0 i) : BV t' S' M' v := by
  obtain ⟨a1, m, a2, a3, a4, a5, a6⟩ := h
  refine ⟨by rw [h9, hM 29 (by omega) (by omega)]; exact a1, m, a2, by rw [hM 28 (by omega) (by omega)]; exact a3, by rw [h9]; exact a4, fun hm => by rw [h9]; exact a5 hm, fun i hi => ?_⟩
  obtain ⟨γ, ν, b1, b2, ⟨w, c1, c2, c3⟩, b4, b5, b6⟩ := a6 i hi
  obtain ⟨w', d1, d2, d3⟩ := h16 γ w b1 c1 c3
  refine ⟨γ, ν, b1, b2, ⟨w', d1, by omega, d3⟩, by rw [hM 26 (by omega) (by omega)]; exact b4, by rw [hM 27 (by omega) (by omega)]; exact b5, ?_⟩
  unfold xRow at b6 ⊢
  rw [h9, h10]
  exact b6
theorem BV.congr {t t' : Nat} {S S' M M' : aS} {v : Nat} (h : BV t S M v) (ht : t ≤ t') (h9 : ∀ i, S' 9 v i = S 9 v i) (h10 : ∀ i, S' 10 v i = S 10 v i) (hM : ∀ k, (k = 16 ∨ 26 ≤ k) → k ≤ 29 → ∀ i, M' k 0 i = M k 0 i) : BV t' S' M' v := h.congr2 (fun γ w _ h1 h2 => ⟨w, by rw [hM 16 (by omega) (by omega)]; exact h1, Nat.le_refl w, by omega⟩) h9 h10 (fun k h1 h2 => hM k (Or.inr h1) h2)
theorem BL.congr {t t' : Nat} {S S' M M' : aS} {r : Nat} (h : BL t S M r) (ht : t ≤ t') (h1 : ∀ i, S' 11 r i = S 11 r i) (h2 : ∀ i, S' 12 r i = S 12 r i) (h3 : ∀ i, S' 13 r i = S 13 r i) (hM : ∀ k, 30 ≤ k → k ≤ 34 → ∀ i, M' k 0 i = M k 0 i) : BL t' S' M' r := by
  obtain ⟨a1, a2, ⟨n, a3, a4, a5⟩, a6⟩ := h
  refine ⟨by rw [h1, hM 30 (by omega) (by omega)]; exact a1, by rw [h1, hM 31 (by omega) (by omega)]; exact a2, ⟨n, by omega, by rw [h1]; exact a4, by rw [hM 32 (by omega) (by omega)]; exact a5⟩, fun i hi => ?_⟩
  rw [h2, h3, hM 33 (by omega) (by omega), hM 34 (by omega) (by omega)]
  exact a6 i hi
/-- only scratch has changed -/
theorem Inv.scratch {t t' : Nat} {S S' M M' : aS} (h : Inv t S M) (ht : t ≤ t') (hS : ∀ k, k ≤ 13 → ∀ j i, S' k j i = S k j i) (h14 : M' 14 0 21 = M 14 0 21) (hM : ∀ k, 15 ≤ k → k ≤ 35 → ∀ i, M' k 0 i = M k 0 i) : Inv t' S' M' := by
  obtain ⟨⟨n, p1, p2⟩, hQ, hV, hL, hU, hD⟩ := h
  refine ⟨⟨n, p1.congr (hS 2 (by omega) _ _) h14 (fun i => hS 3 (by omega) _ _) (hM 35 (by omega) (by omega)), p2.congr (hM 35 (by omega) (by omega)) (fun k c r u a z hz => hz.same (by omega) (hM 16 (by omega) (by omega)) (hM 17 (by omega) (by omega)) (hM 18 (by omega) (by omega)) (hM 26 (by omega) (by omega)) (hM 27 (by omega) (by omega)) (hM 28 (by omega) (by omega)) (hM 29 (by omega) (by omega)))⟩, fun q hq => (hQ q hq).congr (by omega) (fun i => hS 8 (by omega) _ _) (fun k h1 h2 => hM k (by omega) (by omega)), fun v hv => (hV v hv).congr (by omega) (fun i => hS 9 (by omega) _ _) (fun i => hS 10 (by omega) _ _) (fun k h1 h2 => hM k (by omega) (by omega)), fun r hr => (hL r hr).congr (by omega) (fun i => hS 11 (by omega) _ _) (fun i => hS 12 (by omega) _ _) (fun i => hS 13 (by omega) _ _) (fun k h1 h2 => hM k (by omega) (by omega)), fun c hc => ?_, fun a ha => ?_⟩
  · obtain ⟨w, a1, a2, a3⟩ := hU c hc
    exact ⟨w, by omega, by rw [hM 16 (by omega) (by omega)]; exact a2, by rw [hS 7 (by omega)]; exact a3⟩
  · unfold BD
    rw [hM 15 (by omega) (by omega), hS 1 (by omega)]
    exact hD a ha
/-- one bid and the posts have changed -/
theorem Inv.bid {t : Nat} {S S' M M' : aS} {q : Nat} (h : Inv t S M) (hS : ∀ k, k ≤ 13 → k ≠ 2 → k ≠ 3 → ∀ j i, ¬ (k = 8 ∧ j = q) → S' k j i = S k j i) (hM : ∀ k, 15 ≤ k → k ≤ 34 → ∀ i, ¬ ((17 ≤ k ∧ k ≤ 24) ∧ i = q) → M' k 0 i = M k 0 i) (hq : BQ t S' M' q) (hp : PL t S' M') : Inv t S' M' := by
  obtain ⟨-, hQ, hV, hL, hU, hD⟩ := h
  refine ⟨hp, fun x hx => ?_, fun v hv => (hV v hv).congr (Nat.le_refl t) (fun i => hS 9 (by omega) (by omega) (by omega) _ _ (by omega)) (fun i => hS 10 (by omega) (by omega) (by omega) _ _ (by omega)) (fun k h1 h2 i => hM k (by omega) (by omega) i (by omega)), fun r hr => (hL r hr).congr (Nat.le_refl t) (fun i => hS 11 (by omega) (by omega) (by omega) _ _ (by omega)) (fun i => hS 12 (by omega) (by omega) (by omega) _ _ (by omega)) (fun i => hS 13 (by omega) (by omega) (by omega) _ _ (by omega)) (fun k h1 h2 i => hM k (by omega) (by omega) i (by omega)), fun c hc => ?_, fun a ha => ?_⟩
  · by_cases e : x = q
    · rw [e]; exact hq
    · have h := hQ x hx
      obtain ⟨⟨a1, a2, a3, a4, a5, a6⟩, s, b1, b2, b3, b4, b5, b6, b7⟩ := h
      have h8 : ∀ i, S' 8 x i = S 8 x i := fun i => hS 8 (by omega) (by omega) (by omega) x i (by omega)
      have hm : ∀ k, 17 ≤ k → k ≤ 24 → M' k 0 x = M k 0 x := fun k h1 h2 => hM k (by omega) (by omega) x (by omega)
      have h25 : ∀ i, M' 25 0 i = M 25 0 i := fun i => hM 25 (by omega) (by omega) i (by omega)
      have h26 : ∀ i, M' 26 0 i = M 26 0 i := fun i => hM 26 (by omega) (by omega) i (by omega)
      have h27 : ∀ i, M' 27 0 i = M 27 0 i := fun i => hM 27 (by omega) (by omega) i (by omega)
      have h28 : ∀ i, M' 28 0 i = M 28 0 i := fun i => hM 28 (by omega) (by omega) i (by omega)
      have h29 : ∀ i, M' 29 0 i = M 29 0 i := fun i => hM 29 (by omega) (by omega) i (by omega)
      refine ⟨⟨by rw [h8]; exact a1, by rw [h8]; exact a2, by rw [h8, hm 18 (by omega) (by omega)]; exact a3, by rw [h8, hm 19 (by omega) (by omega)]; exact a4, by rw [h8, hm 20 (by omega) (by omega)]; exact a5, by rw [h8, hm 21 (by omega) (by omega)]; exact a6⟩, s, b1, by rw [h8]; exact b2, by rw [hm 17 (by omega) (by omega)]; exact b3, fun hs => ?_, fun hs => ?_, fun hs => ?_, fun hs => ?_⟩
      · obtain ⟨c1, c2, c3, c4⟩ := b4 hs
        refine ⟨by rw [h8, hm 19 (by omega) (by omega)]; exact c1, ?_, by rw [h8]; exact c3, fun a ha hb => ?_⟩
        · rw [h8, hm 21 (by omega) (by omega), show (fun b => M' 25 0 (15 * x + b)) = fun b => M 25 0 (15 * x + b) from funext fun b => h25 _]
          exact c2
        · rw [hm 21 (by omega) (by omega)] at hb
          obtain ⟨ν, d1, d2, d3⟩ := c4 a ha hb
          refine ⟨ν, by rw [hm 18 (by omega) (by omega)]; exact d1, d2.congr h26 h27 h28, ?_⟩
          rw [h25, h29]
          exact d3
      · rw [h8, h8, h8, hm 22 (by omega) (by omega), hm 23 (by omega) (by omega), hm 24 (by omega) (by omega)]
        exact b5 hs
      · rw [h8, h8]
        exact b6 hs
      · obtain ⟨ν, w, d1, d2, d3, d4, d5⟩ := b7 hs
        exact ⟨ν, w, by rw [hm 18 (by omega) (by omega)]; exact d1, d2, d3, by rw [hM 16 (by omega) (by omega) _ (by omega)]; exact d4, d5⟩
  · obtain ⟨w, a1, a2, a3⟩ := hU c hc
    exact ⟨w, a1, by rw [hM 16 (by omega) (by omega) _ (by omega)]; exact a2, by rw [hS 7 (by omega) (by omega) (by omega) _ _ (by omega)]; exact a3⟩
  · unfold BD
    rw [hM 15 (by omega) (by omega) _ (by omega), hS 1 (by omega) (by omega) (by omega) _ _ (by omega)]
    exact hD a ha
theorem Inv.up {t : Nat} {S M : aS} (h : Inv t S M) : Inv (t + 1) S M := h.scratch (by omega) (fun _ _ _ _ => rfl) rfl (fun _ _ _ _ => rfl)
