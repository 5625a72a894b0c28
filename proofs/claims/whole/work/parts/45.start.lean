/-! THE START (printed by wip/whole/gen11.py): what the tables' words say, and the two worlds as the machine's cells -/
def jA (a1 a2 : Nat → Nat → Nat) (b : Nat) (t j : Nat) : Nat := bif Nat.beq t 50 then b else bif Nat.blt t 14 then a1 t j else a2 t j
theorem jW1 (cs : Nat → ClassId) (a1 a2 : Nat → Nat → Nat) (b : Nat) : lW a1 cs tI = lW (jA a1 a2 b) cs tI := by
  unfold lW tI
  simp only [List.map_cons, List.map_append, List.map_flatMap, List.map_nil]
  rfl
theorem jW2 (cs : Nat → ClassId) (a1 a2 : Nat → Nat → Nat) (b : Nat) : lW a2 cs mI = lW (jA a1 a2 b) cs mI := rfl
set_option maxRecDepth 100000 in
theorem aI_perm : (tI ++ mI).Perm aI := List.isPerm_iff.mp (by decide +kernel)
theorem w_aw {D : va_G} {A : Nat → Prop} {cs : Nat → ClassId} {a1 a2 : Nat → Nat → Nat} {H : Heap} (b : Nat) (hP : va_P D aCl (lW a2 cs mI ++ (lW a1 cs tI ++ [])) H) (hD : va_D A (lW a2 cs mI ++ (lW a1 cs tI ++ []))) : va_P D aCl (aw (jA a1 a2 b) cs S0) H ∧ va_D A (aw (jA a1 a2 b) cs S0) := by
  have hp : (lW a2 cs mI ++ (lW a1 cs tI ++ [])).Perm (aw (jA a1 a2 b) cs S0) := by
    rw [List.append_nil, jW1 cs a1 a2 b, jW2 cs a1 a2 b]
    refine List.perm_append_comm.trans ?_
    have e : lW (jA a1 a2 b) cs tI ++ lW (jA a1 a2 b) cs mI = lW (jA a1 a2 b) cs (tI ++ mI) := List.map_append.symm
    rw [e]
    exact aI_perm.map _
  exact ⟨wP_perm hP hp, wD_perm hD hp⟩
set_option maxHeartbeats 4000000 in
theorem k_start {args : Array Value} {s : State} (hts : ∀ w ∈ Om, w.before args s = true) (hN : cN s) : ∃ (D : va_G) (cs : Nat → ClassId), va_K D aCl (aTy cs) s := by
  obtain ⟨c0, i0, h0⟩ := u_known (C := cR0) (T := cT0) (N := 4) (n := 4) hts (cl_spec (ci := 0) rfl).1 (hts (.instantiable cR0 4) (wAt_Om (p := 113) (by decide +kernel)))
  obtain ⟨c1, i1, h1⟩ := u_known (C := cR1) (T := cT1) (N := 11) (n := 11) hts (cl_spec (ci := 1) rfl).1 (hts (.instantiable cR1 11) (wAt_Om (p := 61) (by decide +kernel)))
  obtain ⟨c2, i2, h2⟩ := u_known (C := cR2) (T := cT2) (N := 5) (n := 5) hts (cl_spec (ci := 2) rfl).1 (hts (.instantiable cR2 5) (wAt_Om (p := 136) (by decide +kernel)))
  obtain ⟨c3, i3, h3⟩ := u_known (C := cR3) (T := cT3) (N := 2) (n := 2) hts (cl_spec (ci := 3) rfl).1 (hts (.instantiable cR3 2) (wAt_Om (p := 45) (by decide +kernel)))
  obtain ⟨c4, i4, h4⟩ := u_known (C := cR4) (T := cT4) (N := 6) (n := 6) hts (cl_spec (ci := 4) rfl).1 (hts (.instantiable cR4 6) (wAt_Om (p := 37) (by decide +kernel)))
  obtain ⟨c5, i5, h5⟩ := u_known (C := cR5) (T := cT5) (N := 25) (n := 25) hts (cl_spec (ci := 5) rfl).1 (hts (.instantiable cR5 25) (wAt_Om (p := 420) (by decide +kernel)))
  obtain ⟨cI, kI, pI, I1, I2, I3⟩ := Cond.arrayClass_spec (hts (.arrayClass .int) (wAt_Om (p := 58) (by decide +kernel)))
  obtain ⟨cZ, kZ, pZ, Z1, Z2, Z3⟩ := Cond.arrayClass_spec (hts (.arrayClass .boolean) (wAt_Om (p := 501) (by decide +kernel)))
  obtain ⟨pB, cB, kB, B1, -, B2, B3, B4⟩ := Cond.arrayOver_spec hN.2.2.2.1
  obtain ⟨pV, cV, kV, V1, -, V2, V3, V4⟩ := Cond.arrayOver_spec hN.2.2.2.2.1
  obtain ⟨pL, cL, kL, L1, -, L2, L3, L4⟩ := Cond.arrayOver_spec hN.2.2.2.2.2
  refine ⟨(fun k => match k with | 0 => c0 | 1 => c1 | 2 => c2 | 3 => c3 | 4 => c4 | _ => c5, fun k => match k with | 0 => i0 | 1 => i1 | 2 => i2 | 3 => i3 | 4 => i4 | _ => i5), fun k => match k with | 0 => cI | 1 => cZ | 2 => cB | 3 => cV | _ => cL, fun k q hq => ?_, fun k q hq => ?_⟩
  · match k, hq with
    | 0, hq => cases hq; exact h0
    | 1, hq => cases hq; exact h1
    | 2, hq => cases hq; exact h2
    | 3, hq => cases hq; exact h3
    | 4, hq => cases hq; exact h4
    | 5, hq => cases hq; exact h5
    | k + 6, hq => exact absurd hq (by simp)
  · match k, hq with
    | 0, hq => cases hq; exact ⟨fun n z => ⟨fun k h => (by cases h), kI, I2, pI, I3⟩, I1⟩
    | 1, hq => cases hq; exact ⟨fun n z => ⟨fun k h => (by cases h), kZ, Z2, pZ, Z3⟩, Z1⟩
    | 2, hq => cases hq; exact ⟨fun n z => ⟨fun k h => (by cases h), kB, B2, pB, B3⟩, kB, pB, B2, B3, B1, B4⟩
    | 3, hq => cases hq; exact ⟨fun n z => ⟨fun k h => (by cases h), kV, V2, pV, V3⟩, kV, pV, V2, V3, V1, V4⟩
    | 4, hq => cases hq; exact ⟨fun n z => ⟨fun k h => (by cases h), kL, L2, pL, L3⟩, kL, pL, L2, L3, L1, L4⟩
    | k + 5, hq => exact absurd hq (by simp)
theorem n_start {args : Array Value} {s : State} (hts : ∀ w ∈ lw_tbl, w.before args s = true) : cN s := by
  have a := (hts (.methodLinkNest (oN 4) 11 (iY 3 "()V") (oN 4)) (List.mem_of_getElem? (i := 46) (by decide +kernel)))
  have b := (hts (.methodLinkNest (oN 4) 31 (iY 0 "()V") (oN 4)) (List.mem_of_getElem? (i := 114) (by decide +kernel)))
  have c := (hts (.methodLinkNest (oN 4) 38 (iY 2 "()V") (oN 4)) (List.mem_of_getElem? (i := 137) (by decide +kernel)))
  have d := (hts (.arrayOver (.object cR1)) (List.mem_of_getElem? (i := 60) (by decide +kernel)))
  have e := (hts (.arrayOver (.object cR0)) (List.mem_of_getElem? (i := 112) (by decide +kernel)))
  have f := (hts (.arrayOver (.object cR2)) (List.mem_of_getElem? (i := 135) (by decide +kernel)))
  exact ⟨va_Nw.of rfl a, va_Nw.of rfl b, va_Nw.of rfl c, va_AO.of d, va_AO.of e, va_AO.of f⟩
