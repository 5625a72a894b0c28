/-! runs of the abstract machine: from here it comes to an end with Q of the answer and the cells -/
def Rn (zs : Nat × (Nat → Int32)) (d k : Nat) (is : List aE) (L : aL) (st : List aV) (S : aS) (Q : Option aV → aS → Prop) : Prop :=
  ∃ (n0 : Nat) (r : Option aV) (S' : aS), (∀ n, n0 ≤ n → ev zs n d k is L st S = some (r, S')) ∧ Q r S'
section RN
variable {zs : Nat × (Nat → Int32)} {d k d1 k1 d2 k2 : Nat} {is is1 is2 : List aE} {L L1 L2 : aL} {st st1 st2 : List aV} {S S1 S2 : aS} {Q : Option aV → aS → Prop}
theorem Rn.s (j : Nat) (h : ∀ n, ev zs (n + j) d k is L st S = ev zs n d1 k1 is1 L1 st1 S1) (K : Rn zs d1 k1 is1 L1 st1 S1 Q) : Rn zs d k is L st S Q := by
  obtain ⟨n0, r, S', h0, q⟩ := K
  refine ⟨n0 + j, r, S', fun n hn => ?_, q⟩
  obtain ⟨i, rfl⟩ : ∃ i, n = i + j := ⟨n - j, by omega⟩
  rw [h i]
  exact h0 i (by omega)
theorem Rn.b (j : Nat) {c : Prop} {ic : Decidable c} (h : ∀ n, ev zs (n + j) d k is L st S = @ite _ c ic (ev zs n d1 k1 is1 L1 st1 S1) (ev zs n d2 k2 is2 L2 st2 S2)) (K1 : c → Rn zs d1 k1 is1 L1 st1 S1 Q) (K2 : ¬ c → Rn zs d2 k2 is2 L2 st2 S2 Q) : Rn zs d k is L st S Q := by
  by_cases hc : c
  · exact Rn.s j (fun n => (h n).trans (if_pos hc)) (K1 hc)
  · exact Rn.s j (fun n => (h n).trans (if_neg hc)) (K2 hc)
theorem Rn.g (j : Nat) {c : Prop} {ic : Decidable c} (h : ∀ n, ev zs (n + j) d k is L st S = @ite _ c ic (ev zs n d1 k1 is1 L1 st1 S1) none) (hc : c) (K : Rn zs d1 k1 is1 L1 st1 S1 Q) : Rn zs d k is L st S Q :=
  Rn.s j (fun n => (h n).trans (if_pos hc)) K
theorem Rn.gn (j : Nat) {c : Prop} {ic : Decidable c} (h : ∀ n, ev zs (n + j) d k is L st S = @ite _ c ic none (ev zs n d1 k1 is1 L1 st1 S1)) (hc : ¬ c) (K : Rn zs d1 k1 is1 L1 st1 S1 Q) : Rn zs d k is L st S Q :=
  Rn.s j (fun n => (h n).trans (if_neg hc)) K
theorem Rn.c (j : Nat) {Q1 : Option aV → aS → Prop} (h : ∀ n, ev zs (n + j) d k is L st S = (ev zs n d1 k1 is1 L1 st1 S1).bind (fun p => ev zs n d2 k2 is2 L2 (pu p.1 st2) p.2)) (C : Rn zs d1 k1 is1 L1 st1 S1 Q1) (K : ∀ r S', Q1 r S' → Rn zs d2 k2 is2 L2 (pu r st2) S' Q) : Rn zs d k is L st S Q := by
  obtain ⟨n1, r1, T1, h1, q1⟩ := C
  obtain ⟨n0, r, S', h0, q⟩ := K r1 T1 q1
  refine ⟨n0 + n1 + j, r, S', fun n hn => ?_, q⟩
  obtain ⟨i, rfl⟩ : ∃ i, n = i + j := ⟨n - j, by omega⟩
  rw [h i, h1 i (by omega)]
  exact h0 i (by omega)
theorem Rn.r (j : Nat) {r : Option aV} (h : ∀ n, ev zs (n + j) d k is L st S = some (r, S1)) (q : Q r S1) : Rn zs d k is L st S Q := by
  refine ⟨j, r, S1, fun n hn => ?_, q⟩
  obtain ⟨i, rfl⟩ : ∃ i, n = i + j := ⟨n - j, by omega⟩
  exact h i
theorem Rn.rb (j : Nat) {c : Prop} {ic : Decidable c} {r : Option aV} (h : ∀ n, ev zs (n + j) d k is L st S = @ite _ c ic (some (r, S1)) none) (hc : c) (q : Q r S1) : Rn zs d k is L st S Q :=
  Rn.r j (fun n => (h n).trans (if_pos hc)) q
/-- just this answer, and these cells -/
def rE (r0 : Option aV) (S0 : aS) : Option aV → aS → Prop := fun r S' => r = r0 ∧ S' = S0
theorem Rn.cd (j : Nat) {r0 : Option aV} {T0 : aS} (h : ∀ n, ev zs (n + j) d k is L st S = (ev zs n d1 k1 is1 L1 st1 S1).bind (fun p => ev zs n d2 k2 is2 L2 (pu p.1 st2) p.2)) (C : Rn zs d1 k1 is1 L1 st1 S1 (rE r0 T0)) (K : Rn zs d2 k2 is2 L2 (pu r0 st2) T0 Q) : Rn zs d k is L st S Q :=
  Rn.c j h C (fun r S' q => by obtain ⟨rfl, rfl⟩ := q; exact K)
theorem Rn.w {Q1 : Option aV → aS → Prop} (K : Rn zs d k is L st S Q1) (h : ∀ r S', Q1 r S' → Q r S') : Rn zs d k is L st S Q := by
  obtain ⟨n0, r, S', h0, q⟩ := K
  exact ⟨n0, r, S', h0, h r S' q⟩
end RN
