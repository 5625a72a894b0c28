/-! CALLS: a method's contract out of its run; a call; the instructions that read and write cells -/
theorem aPc_blind (ad : Nat → Nat → Nat) (cs : Nat → ClassId) (D : va_G) (as : List aV) (S : aS) (sz : Nat) : FrameBlind (aPc ad cs D as S sz) := fun a U g mk q => by
  obtain ⟨q0, q1, qP, qK, qD, qN⟩ := q
  exact ⟨q0, q1, qP, va_K.moved (u := U) (U := U.calling g mk a) (Vm.Alike.refl U.vm) qK, qD, fun a i b n t h hm => va_Nw.same rfl rfl (qN a i b n t h hm)⟩
set_option maxHeartbeats 4000000 in
theorem snd_met {ad : Nat → Nat → Nat} {cs : Nat → ClassId} {D : va_G} {zs : Nat × (Nat → Int32)} {l : Launch} {n : Nat} (ih : SndP ad cs D zs l n) {d k v : Nat} {as : List aV} {S S' : aS} {r : Option aV} (hm : mvC k v = true) (h : ev zs n d k (aB k 0) (mkL 0 as) [] S = some (r, S')) (hl : as.length = mA k) (hok : ∀ v ∈ as, vok false v) (sz : Nat) :
    Met l (mY k) (aWs k) (aRm d) (aPc ad cs D as S sz) (aQc ad cs D r S' (va_A (aw ad cs S) sz)) 0 0 (va_A (aw ad cs S) sz) := by
  obtain ⟨-, -, -, hcl, hpl, -, -, -, -, hmA⟩ := mf_spec hm
  refine Met.ofWF (cc := mB k) (maxL := mL k) (ret := mR k) hpl rfl ?_
  intro p e s m args below meth c s₁ B hml hv
  obtain ⟨rfl, hsz, hP, hK, hD0, hN⟩ := hv
  subst hsz
  have hx := B.exec
  have hb := B.bytes
  have hr := B.returns
  have hts := atoms_spec (ws := aWs k) B.pre
  have hown : s.vm.findClass (mY k).cls = some m.cls := findClass_of_methodNamed B.named
  rw [hcl] at hown
  have hlocks := B.notSynchronized
  rw [lg_entry_eq]
  refine ih d k (aB k 0) (mkL 0 as) [] S r S' h (aB_chk k 0) 0 (aB_pc k 0) p e _ s m _ below meth c (va_A (aw ad cs S) s.heap.size) 0 0 false _ ⟨hx, hb, hml, hown, fun w hw => hts w (List.mem_cons_of_mem _ hw), hN, hK, fun q hq => Or.inr hq, ⟨Nat.le_refl _, Nat.le_refl _, Nat.le_refl _, Nat.le_refl _⟩, fun h => by cases h⟩ s.heap [] _ ⟨hP, hD0.self, va_S.rf⟩ (Lk.entry ad as (by omega) hok) (fun v hv => by cases hv) ?_
  intro H' locs' pc' ls' ins hW' hdec hro hvk
  unfold rOk at hro
  split at hro
  · exact W.vret hx hb (hr.trans hro) (fun t ht hw => ⟨⟨rfl, by rw [ht]; exact hW'.1, fun v hv => by cases hv⟩, hW'.2.2.F ht⟩) hW'.2.2.2.2 hdec
  · rcases hro with hro | ⟨hro, ha⟩
    · exact W.iret hx hb (hr.trans hro) (fun t ht hw => ⟨⟨rfl, by rw [ht]; exact hW'.1, hvk⟩, hW'.2.2.F ht⟩) hW'.2.2.2.2 hdec
    · refine W.zret (ty := .boolean) hx hb (hr.trans hro) ?_ (fun t ht hw => ⟨⟨rfl, by rw [ht]; exact hW'.1, hvk⟩, hW'.2.2.F ht⟩) hW'.2.2.2.2 hdec
      rcases ha with rfl | rfl <;> rfl
  · obtain ⟨C, hro⟩ := hro
    rename_i q
    obtain ⟨t, j⟩ := q
    refine W.aret (rt := .object C) hx hb (hr.trans hro) (Or.inl ⟨C, rfl⟩) ?_ (fun t ht hw => ⟨⟨rfl, by rw [ht]; exact hW'.1, hvk⟩, hW'.2.2.F ht⟩) hW'.2.2.2.2 hdec
    cases t with
    | zero => exact Or.inl rfl
    | succ t => exact Or.inr ⟨_, rfl⟩
  · exact hro.elim
theorem popN_spec {α : Type} {K : List aV → List aV → Option α} {res : α} : ∀ (y : Nat) (st acc : List aV), popN y st acc none K = some res → ∃ as rest, st = as.reverse ++ rest ∧ as.length = y ∧ K (as ++ acc) rest = some res
  | 0, st, acc, h => ⟨[], st, rfl, rfl, h⟩
  | y + 1, [], acc, h => by cases h
  | y + 1, v :: st, acc, h => by
    obtain ⟨as, rest, h1, h2, h3⟩ := popN_spec y st (v :: acc) h
    refine ⟨as ++ [v], rest, ?_, ?_, ?_⟩
    · rw [h1]; simp
    · simp [h2]
    · rw [List.append_assoc]; exact h3
theorem vok_false {lw : Bool} {v : aV} (h : vok false v) : vok lw v := by
  rcases v with a | ⟨t, j⟩
  · trivial
  · cases t with
    | zero => trivial
    | succ t =>
      rcases h with h | ⟨h, -⟩
      · exact Or.inl h
      · cases h
theorem vok_aok {lw : Bool} {v : aV} (h : vok lw v) (ho : aok v = true) : vok false v := by
  rcases v with a | ⟨t, j⟩
  · trivial
  · cases t with
    | zero => trivial
    | succ t =>
      rcases h with h | ⟨-, h, -⟩
      · exact Or.inl h
      · subst h
        exact absurd (show Nat.blt 50 50 = true from ho) (by decide)
theorem cat_sum (ad : Nat → Nat → Nat) : ∀ l : List aV, ((l.map (cv ad)).map (fun v => v.category)).sum = l.length
  | [] => rfl
  | v :: l => by
    simp only [List.map_cons, List.sum_cons, List.length_cons, cv_cat]
    rw [cat_sum ad l]
    omega
section CALLS
variable {ad : Nat → Nat → Nat} {cs : Nat → ClassId} {D : va_G} {zs : Nat × (Nat → Int32)} {l : Launch} {p : Program} {e : Env} {R : Room} {s : State} {m : MethodId} {args : Array Value} {below : List Frame} {meth : Method} {c : Code} {A : Nat → Prop} {cells slots : Nat} {lw : Bool} {Qf : State → Prop} {k d : Nat}
variable {S S' : aS} {H : Heap} {locs : List Loc} {ls : Array Slot} {pc : Nat}
theorem aWd.free (hW : aWd ad cs D A s.heap S H locs) (hA : ∀ q, s.heap.size ≤ q → A q) : ∀ q, va_A (aw ad cs S) H.size q → A q := by
  intro q h
  rcases h with ⟨i, x, h⟩ | h
  · exact hW.2.1.2 i (q, x) h
  · exact hA q (Nat.le_trans hW.2.2.1 h)
theorem a_cont {st0 rest : List Value} {a : Array Value} {r : Option aV} (hr : va_Run p l e R s m args below meth c H locs cells slots 0 0 (F0 m pc ls st0) rest (aQc ad cs D r S' (va_A (aw ad cs S) H.size) a) (va_A (aw ad cs S) H.size)) (hW : aWd ad cs D A s.heap S H locs) (hA : ∀ q, s.heap.size ≤ q → A q)
    (kk : ∀ (H1 : Heap) (locs1 : List Loc), aWd ad cs D A s.heap S' H1 locs1 → (∀ v, r = some v → vok false v) → W p l e R s m args below meth c H1 locs1 cells slots Qf (F0 m (pc + 3) ls ((r.map (cv ad)).toList ++ rest))) : W p l e R s m args below meth c H locs cells slots Qf (F0 m pc ls st0) := by
  intro T hT X
  obtain ⟨v, st₀, t, T', L, h0, X', hL, e1, e2, ⟨⟨hv, hp, hvk⟩, hz, hk⟩, st⟩ := hr T hT X
  cases hv
  rw [h0] at hz hk
  have hS := hW.2.2
  have hF := hW.free hA
  obtain ⟨t2, a1, b1⟩ := kk T'.heap (locs ++ L) ⟨by rw [e1]; exact hp, aw_D S' hW.2.1, ⟨Nat.le_trans hS.1 (by rw [e1]; exact hz), fun q h1 h2 => by rw [e1, hk q (Nat.lt_of_lt_of_le h1 hS.1) (fun z => h2 (hF q z))]; exact hS.2.1 q h1 h2, fun q hq => by
      rcases List.mem_append.mp hq with h | h
      · exact hS.2.2 q h
      · exact hF _ (hL q h)⟩⟩ hvk T' rfl X'
  exact ⟨t2, st t2 a1, b1⟩
theorem a_pre (C : Cx ad cs D zs p R s m args c k d A cells slots lw) (hW : aWd ad cs D A s.heap S H locs) (as : List aV) : PreS s H (aPc ad cs D as S H.size) (as.map (cv ad)) := by
  obtain ⟨hx, hb, hml, hown, hts, hN, hK, hA, hR, hX⟩ := C
  exact ⟨aPc_blind ad cs D as S H.size, fun U hU hWm => ⟨rfl, by rw [hU], by rw [hU]; exact hW.1, va_K.moved hWm.alike hK, hW.2.1.weaken (fun _ _ _ _ => trivial), hN.warm hWm⟩⟩
theorem a_cb {x v i n : Nat} (C : Cx ad cs D zs p R s m args c k (d + 1) A cells slots lw) (hm : mvC x v = true) (hx96 : x < 96) (hlk : mlC (mO k) i x = true) (hn : n + v = mA x) : CallB R s args (oN (mO k)) i (mY x) (mB x) (mL x) (mR x) (aWs x) (aRm d) 0 0 n := by
  obtain ⟨hx, hb, hml, hown, hts, hN, hK, hA, hR, hX⟩ := C
  obtain ⟨hini, -, -, hcl, hpl, hds, hc1, hc2, hL21, hmA⟩ := mf_spec hm
  refine ⟨rfl, rfl, hR.1, ?_, pay_in hts (aWs_good hx96), List.mem_cons_self, hts _ (mc_Om hx96), hts _ hini, ⟨hc1, hc2⟩, fun sig h => ?_, ?_⟩
  · have := hR.2.1
    show 8 + (mL x + 11) + 40 * d ≤ R.locals
    omega
  · rw [h] at hds
    have : sig.parameters.length + v = mA x := Option.some.inj hds
    omega
  · unfold mlC at hlk
    obtain ⟨q, hq, h1⟩ := List.any_eq_true.mp hlk
    simp only [Bool.and_eq_true] at h1
    obtain ⟨e1, e2, e3⟩ := h1
    have hK := List.all_eq_true.mp mlT_ok q hq
    unfold mlK at hK
    rw [Nat.eq_of_beq_eq_true e1, Nat.eq_of_beq_eq_true e2, Nat.eq_of_beq_eq_true e3] at hK
    exact hts _ (wAt_Om hK)
theorem a_callS {n x i y : Nat} {as rest : List aV} {r1 : Option aV} {S1 : aS} (ih : SndP ad cs D zs l n) (C : Cx ad cs D zs p R s m args c k (d + 1) A cells slots lw) (hW : aWd ad cs D A s.heap S H locs) (hls : ls.size = mL k) (hm : mvC x 0 = true) (hx96 : x < 96) (hlk : mlC (mO k) i x = true) (hy : as.length = mA x) (hok : ∀ v ∈ as, vok false v) (h8 : rest.length ≤ 8)
    (h : ev zs n d x (aB x 0) (mkL 0 as) [] S = some (r1, S1)) (hdg : decode (mB k) pc = .ok (.invokestatic i, 3))
    (kk : ∀ (H1 : Heap) (locs1 : List Loc), aWd ad cs D A s.heap S1 H1 locs1 → (∀ v, r1 = some v → vok false v) → W p l e R s m args below meth c H1 locs1 cells slots Qf (F0 m (pc + 3) ls ((pu r1 rest).map (cv ad)))) :
    W p l e R s m args below meth c H locs cells slots Qf (F0 m pc ls ((as.reverse ++ rest).map (cv ad))) := by
  obtain ⟨hx, hb, hml, hown, hts, hN, hK, hA, hR, hX⟩ := id C
  refine a_cont (a := (as.map (cv ad)).toArray) (rest := rest.map (cv ad)) (va_runS (As := as.map (cv ad)) (rest := rest.map (cv ad)) ⟨hx, hb, hml, hown, hts⟩ (snd_met ih hm h hy hok H.size) ⟨a_cb C hm hx96 hlk (n := as.length) (by omega), hts _ ((mf_spec hm).2.1 rfl)⟩ (a_pre C hW as) rfl (by simp) hls (by simp) (by show 2 * 0 + _ ≤ 8; rw [cat_sum]; omega) hdg ⟨hR.2.2.1, hR.2.2.2⟩) hW hA (fun H1 locs1 h1 h2 => ?_)
  have := kk H1 locs1 h1 h2
  cases r1 <;> exact this
theorem a_callV {n x i y : Nat} {v0 : aV} {as rest : List aV} {r1 : Option aV} {S1 : aS} (ih : SndP ad cs D zs l n) (C : Cx ad cs D zs p R s m args c k (d + 1) A cells slots lw) (hW : aWd ad cs D A s.heap S H locs) (hls : ls.size = mL k) (hm : mvC x 1 = true) (hx96 : x < 96) (hlk : mlC (mO k) i x = true) (hy : (v0 :: as).length = mA x) (hok : ∀ v ∈ v0 :: as, vok false v) (hrc : aRc x (v0 :: as) = true) (h8 : rest.length ≤ 8)
    (h : ev zs n d x (aB x 0) (mkL 0 (v0 :: as)) [] S = some (r1, S1)) (hdg : decode (mB k) pc = .ok (.invokevirtual i, 3))
    (kk : ∀ (H1 : Heap) (locs1 : List Loc), aWd ad cs D A s.heap S1 H1 locs1 → (∀ v, r1 = some v → vok false v) → W p l e R s m args below meth c H1 locs1 cells slots Qf (F0 m (pc + 3) ls ((pu r1 rest).map (cv ad)))) :
    W p l e R s m args below meth c H locs cells slots Qf (F0 m pc ls (((v0 :: as).reverse ++ rest).map (cv ad))) := by
  obtain ⟨hx, hb, hml, hown, hts, hN, hK, hA, hR, hX⟩ := id C
  rcases v0 with a | ⟨t, j⟩
  · cases hrc
  · unfold aRc at hrc
    dsimp only at hrc
    split at hrc
    next ci fs hk =>
      have hci := Nat.eq_of_beq_eq_true hrc
      cases t with
      | zero => cases hk
      | succ t =>
        have hj : j < aN (t + 1) := by
          rcases hok _ List.mem_cons_self with h | ⟨h, -⟩
          · exact h
          · cases h
        obtain ⟨q, hq, hg⟩ := aw_get (ad := ad) (cs := cs) S hj
        unfold aC at hg
        rw [hk] at hg
        have hsp := mf_spec hm
        have hcls : ∃ r, aCl[ci]? = some r ∧ r.1 = (mY x).cls := by
          obtain ⟨r, h1, -⟩ := hW.1 q _ hg
          refine ⟨r, h1, ?_⟩
          rw [hsp.2.2.2.1, ← hci]
          have hlt := (List.getElem?_eq_some_iff.mp h1).1
          have : ci < 6 := hlt
          rcases (show ci = 0 ∨ ci = 1 ∨ ci = 2 ∨ ci = 3 ∨ ci = 4 ∨ ci = 5 by omega) with rfl | rfl | rfl | rfl | rfl | rfl <;> cases h1 <;> rfl
        obtain ⟨r0, h0, e0⟩ := hcls
        have hrcv := va_recv hK hW.1 h0 hg
        rw [e0] at hrcv
        have hpre := a_pre C hW (Sum.inr (t + 1, j) :: as)
        refine a_cont (a := (Value.ref (ad (t + 1) j) :: as.map (cv ad)).toArray) (rest := rest.map (cv ad)) (va_runV (As := as.map (cv ad)) (rest := rest.map (cv ad)) (b := ad (t + 1) j) (C := (mY x).cls) ⟨hx, hb, hml, hown, hts⟩ (snd_met ih hm h hy hok H.size) ⟨a_cb C hm hx96 hlk (n := as.length) (by simpa using hy), hts _ (hsp.2.2.1 rfl).1, hts _ (hsp.2.2.1 rfl).2⟩ ⟨hpre.1, hrcv, hpre.2⟩ rfl (by simp) hls (by simp [cv]) (by show 2 * 0 + _ ≤ 8; rw [cat_sum]; omega) hdg ⟨hR.2.2.1, hR.2.2.2⟩) hW hA (fun H1 locs1 h1 h2 => ?_)
        have := kk H1 locs1 h1 h2
        cases r1 <;> exact this
    next => cases hrc
end CALLS
