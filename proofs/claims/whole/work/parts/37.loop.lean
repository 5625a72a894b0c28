/-! THE LAW'S LOOP -/
theorem tsel_all {a : Int32} {pc d : Int} {P : Nat → Prop} (h0 : P (pc + d).toNat) : ∀ (os : List Int) (v : Int), (∀ o ∈ os, P (pc + o).toNat) → P (tsel a pc d v os)
  | [], _, _ => h0
  | o :: os, v, h => by
    unfold tsel
    by_cases e : a = Int32.ofInt v
    · rw [if_pos e]
      exact h o List.mem_cons_self
    · rw [if_neg e]
      exact tsel_all h0 os (v + 1) (fun o' ho' => h o' (List.mem_cons_of_mem _ ho'))
/-- the loop's locals -/
def lwL (x : Int32) : aL := [(0, .inr (50, 0)), (1, .inr (1, 0)), (2, .inr (14, 0)), (3, .inl x)]
/-- the law's answer -/
def lwA : Option aV → aS → Prop := fun r _ => r = some (.inl (nI 1))
theorem lw_gd0 {n z : Nat} (h : n < z) (hz : z ≤ 2048) : 0 ≤ (nI n).toInt ∧ (nI n).toInt < (z : Int) := by
  have e : (nI n).toInt = (n : Int) := Int32.toInt_ofNat_of_lt (by omega)
  rw [e]
  omega
theorem lw_gd {n k z : Nat} (h : n + k < z) (hz : z ≤ 2048) : 0 ≤ (nI n + nI k).toInt ∧ (nI n + nI k).toInt < (z : Int) := by
  rw [nI_add]
  exact lw_gd0 h hz
theorem lw_sub {n : Nat} (hn : n ≤ 2048) : (Int32.ofNat n - nI 4).toInt = (n : Int) - 4 := by
  have e : (Int32.ofNat n).toInt = (n : Int) := Int32.toInt_ofNat_of_lt (by omega)
  have e4 : (nI 4).toInt = 4 := by decide
  rw [Int32.toInt_sub, e, e4]
  unfold Int.bmod
  simp
  omega
theorem lw_in {n i : Nat} (h : i + 4 ≤ n) (hn : n ≤ 2048) : ¬ Int32.ofNat n - nI 4 < nI i := fun c => by
  rw [Int32.lt_iff_toInt_lt, lw_sub hn, show (nI i).toInt = (i : Int) from Int32.toInt_ofNat_of_lt (by omega)] at c
  omega
theorem lw_out {n i : Nat} (h : n < i + 4) (hn : n ≤ 2048 ∧ i ≤ 4096) : Int32.ofNat n - nI 4 < nI i := by
  rw [Int32.lt_iff_toInt_lt, lw_sub hn.1, show (nI i).toInt = (i : Int) from Int32.toInt_ofNat_of_lt (by omega)]
  omega
section LL
variable {zs : Nat × (Nat → Int32)} {d j : Nat} {X : aS}
def lwG (zs : Nat × (Nat → Int32)) (x : Int32) : Prop := ∀ k, k ≤ 3 → 0 ≤ (x + nI k).toInt ∧ (x + nI k).toInt < (zs.1 : Int)
def lwK (zs : Nat × (Nat → Int32)) (d j : Nat) (x : Int32) : Prop := ∀ T, Inv (j + 1) T T → Rn zs (d + 9) 96 (aB 96 18) (lwL (x + nI 4)) [] T lwA
theorem l_want {x : Int32} (ht : j < 1000) (hg : lwG zs x) (K : lwK zs d j x) (h : Inv j X X) : Rn zs (d + 9) 96 (aB 96 128) (lwL x) [] X lwA := by
  obtain ⟨v, T, T', r1, r2, r3⟩ := b_want (zs := zs) (d := d) ht h (zs.2 (x + nI 1).toNatClampNeg) (zs.2 (x + nI 2).toNatClampNeg)
  refine Rn.g 6 (fun _ => rfl) (hg 1 (by omega)) ?_
  refine Rn.g 5 (fun _ => rfl) (hg 2 (by omega)) ?_
  refine Rn.cd 1 (fun _ => rfl) r1 ?_
  refine Rn.g 6 (fun _ => rfl) (hg 1 (by omega)) ?_
  refine Rn.g 5 (fun _ => rfl) (hg 2 (by omega)) ?_
  refine Rn.cd 1 (fun _ => rfl) r2 ?_
  refine Rn.b 1 (fun _ => rfl) (fun _ => ?_) (fun c => absurd rfl c)
  exact Rn.s 2 (fun _ => rfl) (K T' r3)
theorem l_timeout {x : Int32} (ht : j < 1000) (hg : lwG zs x) (K : lwK zs d j x) (h : Inv j X X) : Rn zs (d + 9) 96 (aB 96 161) (lwL x) [] X lwA := by
  obtain ⟨v, T, T', r1, r2, r3⟩ := b_timeout (zs := zs) (d := d) h (zs.2 (x + nI 1).toNatClampNeg) (zs.2 (x + nI 2).toNatClampNeg) (zs.2 (x + nI 3).toNatClampNeg)
  refine Rn.g 6 (fun _ => rfl) (hg 1 (by omega)) ?_
  refine Rn.g 5 (fun _ => rfl) (hg 2 (by omega)) ?_
  refine Rn.g 5 (fun _ => rfl) (hg 3 (by omega)) ?_
  refine Rn.cd 1 (fun _ => rfl) r1 ?_
  refine Rn.g 6 (fun _ => rfl) (hg 1 (by omega)) ?_
  refine Rn.g 5 (fun _ => rfl) (hg 2 (by omega)) ?_
  refine Rn.g 5 (fun _ => rfl) (hg 3 (by omega)) ?_
  refine Rn.cd 1 (fun _ => rfl) r2 ?_
  refine Rn.b 1 (fun _ => rfl) (fun _ => ?_) (fun c => absurd rfl c)
  exact Rn.s 2 (fun _ => rfl) (K T' r3)
theorem l_giveUp {x : Int32} (ht : j < 1000) (hg : lwG zs x) (K : lwK zs d j x) (h : Inv j X X) : Rn zs (d + 9) 96 (aB 96 204) (lwL x) [] X lwA := by
  obtain ⟨v, T, T', r1, r2, r3⟩ := b_giveUp (zs := zs) (d := d) h (zs.2 (x + nI 1).toNatClampNeg) (zs.2 (x + nI 2).toNatClampNeg)
  refine Rn.g 6 (fun _ => rfl) (hg 1 (by omega)) ?_
  refine Rn.g 5 (fun _ => rfl) (hg 2 (by omega)) ?_
  refine Rn.cd 1 (fun _ => rfl) r1 ?_
  refine Rn.g 6 (fun _ => rfl) (hg 1 (by omega)) ?_
  refine Rn.g 5 (fun _ => rfl) (hg 2 (by omega)) ?_
  refine Rn.cd 1 (fun _ => rfl) r2 ?_
  refine Rn.b 1 (fun _ => rfl) (fun _ => ?_) (fun c => absurd rfl c)
  exact Rn.s 2 (fun _ => rfl) (K T' r3)
theorem l_release {x : Int32} (ht : j < 1000) (hg : lwG zs x) (K : lwK zs d j x) (h : Inv j X X) : Rn zs (d + 9) 96 (aB 96 237) (lwL x) [] X lwA := by
  obtain ⟨v, T, T', r1, r2, r3⟩ := b_release (zs := zs) (d := d) h (zs.2 (x + nI 1).toNatClampNeg) (zs.2 (x + nI 2).toNatClampNeg)
  refine Rn.g 6 (fun _ => rfl) (hg 1 (by omega)) ?_
  refine Rn.g 5 (fun _ => rfl) (hg 2 (by omega)) ?_
  refine Rn.cd 1 (fun _ => rfl) r1 ?_
  refine Rn.g 6 (fun _ => rfl) (hg 1 (by omega)) ?_
  refine Rn.g 5 (fun _ => rfl) (hg 2 (by omega)) ?_
  refine Rn.cd 1 (fun _ => rfl) r2 ?_
  refine Rn.b 1 (fun _ => rfl) (fun _ => ?_) (fun c => absurd rfl c)
  exact Rn.s 2 (fun _ => rfl) (K T' r3)
theorem l_break {x : Int32} (ht : j < 1000) (hg : lwG zs x) (K : lwK zs d j x) (h : Inv j X X) : Rn zs (d + 9) 96 (aB 96 270) (lwL x) [] X lwA := by
  obtain ⟨v, T, T', r1, r2, r3⟩ := b_break (zs := zs) (d := d) h (zs.2 (x + nI 1).toNatClampNeg) (zs.2 (x + nI 2).toNatClampNeg)
  refine Rn.g 6 (fun _ => rfl) (hg 1 (by omega)) ?_
  refine Rn.g 5 (fun _ => rfl) (hg 2 (by omega)) ?_
  refine Rn.cd 1 (fun _ => rfl) r1 ?_
  refine Rn.g 6 (fun _ => rfl) (hg 1 (by omega)) ?_
  refine Rn.g 5 (fun _ => rfl) (hg 2 (by omega)) ?_
  refine Rn.cd 1 (fun _ => rfl) r2 ?_
  refine Rn.b 1 (fun _ => rfl) (fun _ => ?_) (fun c => absurd rfl c)
  exact Rn.s 2 (fun _ => rfl) (K T' r3)
theorem l_order {x : Int32} (ht : j < 1000) (hg : lwG zs x) (K : lwK zs d j x) (h : Inv j X X) : Rn zs (d + 9) 96 (aB 96 303) (lwL x) [] X lwA := by
  obtain ⟨v, T, T', r1, r2, r3⟩ := b_order (zs := zs) (d := d) h (zs.2 (x + nI 1).toNatClampNeg) (zs.2 (x + nI 2).toNatClampNeg) (zs.2 (x + nI 3).toNatClampNeg)
  refine Rn.g 6 (fun _ => rfl) (hg 1 (by omega)) ?_
  refine Rn.g 5 (fun _ => rfl) (hg 2 (by omega)) ?_
  refine Rn.g 5 (fun _ => rfl) (hg 3 (by omega)) ?_
  refine Rn.cd 1 (fun _ => rfl) r1 ?_
  refine Rn.g 6 (fun _ => rfl) (hg 1 (by omega)) ?_
  refine Rn.g 5 (fun _ => rfl) (hg 2 (by omega)) ?_
  refine Rn.g 5 (fun _ => rfl) (hg 3 (by omega)) ?_
  refine Rn.cd 1 (fun _ => rfl) r2 ?_
  refine Rn.b 1 (fun _ => rfl) (fun _ => ?_) (fun c => absurd rfl c)
  exact Rn.s 2 (fun _ => rfl) (K T' r3)
theorem l_stop {x : Int32} (ht : j < 1000) (hg : lwG zs x) (K : lwK zs d j x) (h : Inv j X X) : Rn zs (d + 9) 96 (aB 96 346) (lwL x) [] X lwA := by
  obtain ⟨v, T, T', r1, r2, r3⟩ := b_stop (zs := zs) (d := d) h (zs.2 (x + nI 1).toNatClampNeg)
  refine Rn.g 6 (fun _ => rfl) (hg 1 (by omega)) ?_
  refine Rn.cd 1 (fun _ => rfl) r1 ?_
  refine Rn.g 6 (fun _ => rfl) (hg 1 (by omega)) ?_
  refine Rn.cd 1 (fun _ => rfl) r2 ?_
  refine Rn.b 1 (fun _ => rfl) (fun _ => ?_) (fun c => absurd rfl c)
  exact Rn.s 2 (fun _ => rfl) (K T' r3)
theorem l_start {x : Int32} (ht : j < 1000) (hg : lwG zs x) (K : lwK zs d j x) (h : Inv j X X) : Rn zs (d + 9) 96 (aB 96 369) (lwL x) [] X lwA := by
  obtain ⟨v, T, T', r1, r2, r3⟩ := b_start (zs := zs) (d := d) h (zs.2 (x + nI 1).toNatClampNeg)
  refine Rn.g 6 (fun _ => rfl) (hg 1 (by omega)) ?_
  refine Rn.cd 1 (fun _ => rfl) r1 ?_
  refine Rn.g 6 (fun _ => rfl) (hg 1 (by omega)) ?_
  refine Rn.cd 1 (fun _ => rfl) r2 ?_
  refine Rn.b 1 (fun _ => rfl) (fun _ => ?_) (fun c => absurd rfl c)
  exact Rn.s 2 (fun _ => rfl) (K T' r3)
theorem l_letters {x : Int32} (ht : j < 1000) (hg : lwG zs x) (K : lwK zs d j x) (h : Inv j X X) : Rn zs (d + 9) 96 (aB 96 392) (lwL x) [] X lwA := by
  obtain ⟨v, T, T', r1, r2, r3⟩ := b_letters (zs := zs) (d := d) h 
  refine Rn.cd 2 (fun _ => rfl) r1 ?_
  refine Rn.cd 2 (fun _ => rfl) r2 ?_
  refine Rn.b 1 (fun _ => rfl) (fun _ => ?_) (fun c => absurd rfl c)
  exact Rn.s 2 (fun _ => rfl) (K T' r3)
theorem l_letter {x : Int32} (ht : j < 1000) (hg : lwG zs x) (K : lwK zs d j x) (h : Inv j X X) : Rn zs (d + 9) 96 (aB 96 405) (lwL x) [] X lwA := by
  obtain ⟨v, T, T', r1, r2, r3⟩ := b_letter (zs := zs) (d := d) h (zs.2 (x + nI 1).toNatClampNeg) (zs.2 (x + nI 2).toNatClampNeg)
  refine Rn.g 6 (fun _ => rfl) (hg 1 (by omega)) ?_
  refine Rn.g 5 (fun _ => rfl) (hg 2 (by omega)) ?_
  refine Rn.cd 1 (fun _ => rfl) r1 ?_
  refine Rn.g 6 (fun _ => rfl) (hg 1 (by omega)) ?_
  refine Rn.g 5 (fun _ => rfl) (hg 2 (by omega)) ?_
  refine Rn.cd 1 (fun _ => rfl) r2 ?_
  refine Rn.b 1 (fun _ => rfl) (fun _ => ?_) (fun c => absurd rfl c)
  exact Rn.s 2 (fun _ => rfl) (K T' r3)
theorem l_deliver {x : Int32} (ht : j < 1000) (hg : lwG zs x) (K : lwK zs d j x) (h : Inv j X X) : Rn zs (d + 9) 96 (aB 96 438) (lwL x) [] X lwA := by
  obtain ⟨v, T, T', r1, r2, r3⟩ := b_deliver (zs := zs) (d := d) ht h (zs.2 (x + nI 1).toNatClampNeg)
  refine Rn.g 6 (fun _ => rfl) (hg 1 (by omega)) ?_
  refine Rn.cd 1 (fun _ => rfl) r1 ?_
  refine Rn.g 6 (fun _ => rfl) (hg 1 (by omega)) ?_
  refine Rn.cd 1 (fun _ => rfl) r2 ?_
  refine Rn.b 1 (fun _ => rfl) (fun _ => ?_) (fun c => absurd rfl c)
  exact Rn.s 2 (fun _ => rfl) (K T' r3)
theorem l_drop {x : Int32} (ht : j < 1000) (hg : lwG zs x) (K : lwK zs d j x) (h : Inv j X X) : Rn zs (d + 9) 96 (aB 96 461) (lwL x) [] X lwA := by
  obtain ⟨v, T, T', r1, r2, r3⟩ := b_drop (zs := zs) (d := d) h (zs.2 (x + nI 1).toNatClampNeg)
  refine Rn.g 6 (fun _ => rfl) (hg 1 (by omega)) ?_
  refine Rn.cd 1 (fun _ => rfl) r1 ?_
  refine Rn.g 6 (fun _ => rfl) (hg 1 (by omega)) ?_
  refine Rn.cd 1 (fun _ => rfl) r2 ?_
  refine Rn.b 1 (fun _ => rfl) (fun _ => ?_) (fun c => absurd rfl c)
  exact Rn.s 2 (fun _ => rfl) (K T' r3)
theorem l_copy {x : Int32} (ht : j < 1000) (hg : lwG zs x) (K : lwK zs d j x) (h : Inv j X X) : Rn zs (d + 9) 96 (aB 96 484) (lwL x) [] X lwA := by
  obtain ⟨v, T, T', r1, r2, r3⟩ := b_copy (zs := zs) (d := d) h (zs.2 (x + nI 1).toNatClampNeg)
  refine Rn.g 6 (fun _ => rfl) (hg 1 (by omega)) ?_
  refine Rn.cd 1 (fun _ => rfl) r1 ?_
  refine Rn.g 6 (fun _ => rfl) (hg 1 (by omega)) ?_
  refine Rn.cd 1 (fun _ => rfl) r2 ?_
  refine Rn.b 1 (fun _ => rfl) (fun _ => ?_) (fun c => absurd rfl c)
  exact Rn.s 2 (fun _ => rfl) (K T' r3)
theorem l_state {x : Int32} (ht : j < 1000) (hg : lwG zs x) (K : lwK zs d j x) (h : Inv j X X) : Rn zs (d + 9) 96 (aB 96 507) (lwL x) [] X lwA := by
  obtain ⟨v, T, T', r1, r2, r3⟩ := b_state (zs := zs) (d := d) h (zs.2 (x + nI 1).toNatClampNeg) (zs.2 (x + nI 2).toNatClampNeg)
  refine Rn.g 6 (fun _ => rfl) (hg 1 (by omega)) ?_
  refine Rn.g 5 (fun _ => rfl) (hg 2 (by omega)) ?_
  refine Rn.cd 1 (fun _ => rfl) r1 ?_
  refine Rn.g 6 (fun _ => rfl) (hg 1 (by omega)) ?_
  refine Rn.g 5 (fun _ => rfl) (hg 2 (by omega)) ?_
  refine Rn.cd 1 (fun _ => rfl) r2 ?_
  refine Rn.b 1 (fun _ => rfl) (fun _ => ?_) (fun c => absurd rfl c)
  exact Rn.s 2 (fun _ => rfl) (K T' r3)
theorem l_permit {x : Int32} (ht : j < 1000) (hg : lwG zs x) (K : lwK zs d j x) (h : Inv j X X) : Rn zs (d + 9) 96 (aB 96 540) (lwL x) [] X lwA := by
  obtain ⟨v, T, T', r1, r2, r3⟩ := b_permit (zs := zs) (d := d) h (zs.2 (x + nI 1).toNatClampNeg) (zs.2 (x + nI 2).toNatClampNeg)
  refine Rn.g 6 (fun _ => rfl) (hg 1 (by omega)) ?_
  refine Rn.g 5 (fun _ => rfl) (hg 2 (by omega)) ?_
  refine Rn.cd 1 (fun _ => rfl) r1 ?_
  refine Rn.g 6 (fun _ => rfl) (hg 1 (by omega)) ?_
  refine Rn.g 5 (fun _ => rfl) (hg 2 (by omega)) ?_
  refine Rn.cd 1 (fun _ => rfl) r2 ?_
  refine Rn.b 1 (fun _ => rfl) (fun _ => ?_) (fun c => absurd rfl c)
  exact Rn.s 2 (fun _ => rfl) (K T' r3)
theorem l_quorum {x : Int32} (ht : j < 1000) (hg : lwG zs x) (K : lwK zs d j x) (h : Inv j X X) : Rn zs (d + 9) 96 (aB 96 573) (lwL x) [] X lwA := by
  obtain ⟨v, T, T', r1, r2, r3⟩ := b_quorum (zs := zs) (d := d) h (zs.2 (x + nI 1).toNatClampNeg) (zs.2 (x + nI 2).toNatClampNeg)
  refine Rn.g 6 (fun _ => rfl) (hg 1 (by omega)) ?_
  refine Rn.g 5 (fun _ => rfl) (hg 2 (by omega)) ?_
  refine Rn.cd 1 (fun _ => rfl) r1 ?_
  refine Rn.g 6 (fun _ => rfl) (hg 1 (by omega)) ?_
  refine Rn.g 5 (fun _ => rfl) (hg 2 (by omega)) ?_
  refine Rn.cd 1 (fun _ => rfl) r2 ?_
  refine Rn.b 1 (fun _ => rfl) (fun _ => ?_) (fun c => absurd rfl c)
  exact Rn.s 2 (fun _ => rfl) (K T' r3)
theorem l_vote {x : Int32} (ht : j < 1000) (hg : lwG zs x) (K : lwK zs d j x) (h : Inv j X X) : Rn zs (d + 9) 96 (aB 96 606) (lwL x) [] X lwA := by
  obtain ⟨v, T, T', r1, r2, r3⟩ := b_vote (zs := zs) (d := d) ht h (zs.2 (x + nI 1).toNatClampNeg) (zs.2 (x + nI 2).toNatClampNeg) (zs.2 (x + nI 3).toNatClampNeg)
  refine Rn.g 6 (fun _ => rfl) (hg 1 (by omega)) ?_
  refine Rn.g 5 (fun _ => rfl) (hg 2 (by omega)) ?_
  refine Rn.g 5 (fun _ => rfl) (hg 3 (by omega)) ?_
  refine Rn.cd 1 (fun _ => rfl) r1 ?_
  refine Rn.g 6 (fun _ => rfl) (hg 1 (by omega)) ?_
  refine Rn.g 5 (fun _ => rfl) (hg 2 (by omega)) ?_
  refine Rn.g 5 (fun _ => rfl) (hg 3 (by omega)) ?_
  refine Rn.cd 1 (fun _ => rfl) r2 ?_
  refine Rn.b 1 (fun _ => rfl) (fun _ => ?_) (fun c => absurd rfl c)
  exact Rn.s 2 (fun _ => rfl) (K T' r3)
theorem l_orders {x : Int32} (ht : j < 1000) (hg : lwG zs x) (K : lwK zs d j x) (h : Inv j X X) : Rn zs (d + 9) 96 (aB 96 649) (lwL x) [] X lwA := by
  obtain ⟨v, T, T', r1, r2, r3⟩ := b_orders (zs := zs) (d := d) h (zs.2 (x + nI 1).toNatClampNeg)
  refine Rn.g 6 (fun _ => rfl) (hg 1 (by omega)) ?_
  refine Rn.cd 1 (fun _ => rfl) r1 ?_
  refine Rn.g 6 (fun _ => rfl) (hg 1 (by omega)) ?_
  refine Rn.cd 1 (fun _ => rfl) r2 ?_
  refine Rn.b 1 (fun _ => rfl) (fun _ => ?_) (fun c => absurd rfl c)
  exact Rn.s 2 (fun _ => rfl) (K T' r3)
theorem l_done {x : Int32} (ht : j < 1000) (hg : lwG zs x) (K : lwK zs d j x) (h : Inv j X X) : Rn zs (d + 9) 96 (aB 96 672) (lwL x) [] X lwA := by
  obtain ⟨v, T, T', r1, r2, r3⟩ := b_done (zs := zs) (d := d) ht h (zs.2 (x + nI 1).toNatClampNeg) (zs.2 (x + nI 2).toNatClampNeg) (zs.2 (x + nI 3).toNatClampNeg)
  refine Rn.g 6 (fun _ => rfl) (hg 1 (by omega)) ?_
  refine Rn.g 5 (fun _ => rfl) (hg 2 (by omega)) ?_
  refine Rn.g 5 (fun _ => rfl) (hg 3 (by omega)) ?_
  refine Rn.cd 1 (fun _ => rfl) r1 ?_
  refine Rn.g 6 (fun _ => rfl) (hg 1 (by omega)) ?_
  refine Rn.g 5 (fun _ => rfl) (hg 2 (by omega)) ?_
  refine Rn.g 5 (fun _ => rfl) (hg 3 (by omega)) ?_
  refine Rn.cd 1 (fun _ => rfl) r2 ?_
  refine Rn.b 1 (fun _ => rfl) (fun _ => ?_) (fun c => absurd rfl c)
  exact Rn.s 2 (fun _ => rfl) (K T' r3)
theorem l_highest {x : Int32} (ht : j < 1000) (hg : lwG zs x) (K : lwK zs d j x) (h : Inv j X X) : Rn zs (d + 9) 96 (aB 96 715) (lwL x) [] X lwA := by
  obtain ⟨v, T, T', r1, r2, r3⟩ := b_highest (zs := zs) (d := d) h (zs.2 (x + nI 1).toNatClampNeg)
  refine Rn.g 6 (fun _ => rfl) (hg 1 (by omega)) ?_
  refine Rn.cd 1 (fun _ => rfl) r1 ?_
  refine Rn.g 6 (fun _ => rfl) (hg 1 (by omega)) ?_
  refine Rn.cd 1 (fun _ => rfl) r2 ?_
  refine Rn.b 1 (fun _ => rfl) (fun _ => ?_) (fun c => absurd rfl c)
  exact Rn.s 2 (fun _ => rfl) (K T' r3)
theorem l_turn {x : Int32} (ht : j < 1000) (hg : lwG zs x) (K : lwK zs d j x) (h : Inv j X X) (a : Int32) : Rn zs (d + 9) 96 (aB 96 (tsel a 32 706 0 [96, 129, 172, 205, 238, 271, 314, 337, 360, 373, 406, 429, 452, 475, 508, 541, 574, 617, 640, 683])) (lwL x) [] X lwA := by
  refine tsel_all (P := fun pc => Rn zs (d + 9) 96 (aB 96 pc) (lwL x) [] X lwA) (Rn.s 2 (fun _ => rfl) (K X h.up)) _ _ ?_
  intro o ho
  simp only [List.mem_cons, List.not_mem_nil, or_false] at ho
  rcases ho with rfl | rfl | rfl | rfl | rfl | rfl | rfl | rfl | rfl | rfl | rfl | rfl | rfl | rfl | rfl | rfl | rfl | rfl | rfl | rfl
  · exact l_want ht hg K h
  · exact l_timeout ht hg K h
  · exact l_giveUp ht hg K h
  · exact l_release ht hg K h
  · exact l_break ht hg K h
  · exact l_order ht hg K h
  · exact l_stop ht hg K h
  · exact l_start ht hg K h
  · exact l_letters ht hg K h
  · exact l_letter ht hg K h
  · exact l_deliver ht hg K h
  · exact l_drop ht hg K h
  · exact l_copy ht hg K h
  · exact l_state ht hg K h
  · exact l_permit ht hg K h
  · exact l_quorum ht hg K h
  · exact l_vote ht hg K h
  · exact l_orders ht hg K h
  · exact l_done ht hg K h
  · exact l_highest ht hg K h
theorem law_loop (hz : zs.1 ≤ 2048) : ∀ (m j : Nat) (X : aS), zs.1 < 4 * (j + m) + 4 → 4 * j ≤ 2048 → Inv j X X → Rn zs (d + 9) 96 (aB 96 18) (lwL (nI (4 * j))) [] X lwA
  | 0, j, X, hm, hj, h => by
    refine Rn.b 6 (fun _ => rfl) (fun c1 => ?_) (fun c1 => absurd (lw_out (by omega) (by omega)) c1)
    exact Rn.r 2 (fun _ => rfl) rfl
  | m + 1, j, X, hm, hj, h => by
    by_cases hc : 4 * j + 4 ≤ zs.1
    · refine Rn.b 6 (fun _ => rfl) (fun c1 => absurd c1 (lw_in hc (by omega))) (fun c1 => ?_)
      have hg : lwG zs (nI (4 * j)) := fun k hk => lw_gd (by omega) (by omega)
      have hg0 : 0 ≤ (nI (4 * j)).toInt ∧ (nI (4 * j)).toInt < (zs.1 : Int) := lw_gd0 (by omega) (by omega)
      refine Rn.g 3 (fun _ => rfl) hg0 ?_
      refine Rn.s 3 (fun _ => rfl) ?_
      refine l_turn (j := j) (by omega) hg (fun T hT => ?_) h _
      rw [nI_add, show 4 * j + 4 = 4 * (j + 1) by omega]
      exact law_loop hz m (j + 1) T (by omega) (by omega) hT
    · refine Rn.b 6 (fun _ => rfl) (fun c1 => ?_) (fun c1 => absurd (lw_out (by omega) (by omega)) c1)
      exact Rn.r 2 (fun _ => rfl) rfl
end LL
