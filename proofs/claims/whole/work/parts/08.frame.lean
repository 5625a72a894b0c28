/-! FRAMES: locals, the context of a frame, a method's contract out of a run -/
def lkO (i : Nat) (L : aL) : Option aV := lk i L some none
theorem lk_eq {ρ : Type} (i : Nat) (K : aV → ρ) (z : ρ) : ∀ L : aL, lk i L K z = (match lkO i L with
    | some v => K v
    | none => z)
  | [] => rfl
  | q :: L => by
    unfold lkO lk
    cases Nat.beq q.1 i with
    | true => rfl
    | false => exact lk_eq i K z L
theorem lst_eq {ρ : Type} (i : Nat) (v : aV) : ∀ (L : aL) (K : aL → ρ), lst i v L K = K (lst i v L id)
  | [], _ => rfl
  | q :: L, K => by
    unfold lst
    cases Nat.beq q.1 i with
    | true => rfl
    | false =>
      show lst i v L (fun L' => K (q :: L')) = K (lst i v L (fun L' => id (q :: L')))
      rw [lst_eq i v L (fun L' => K (q :: L')), lst_eq i v L (fun L' => id (q :: L'))]
      rfl
theorem lkO_cons (i : Nat) (q : Nat × aV) (L : aL) : lkO i (q :: L) = if q.1 = i then some q.2 else lkO i L := by
  show (bif Nat.beq q.1 i then some q.2 else lk i L some none) = _
  by_cases h : q.1 = i
  · rw [if_pos h, h, Nat.beq_refl]; rfl
  · rw [if_neg h]
    cases hb : Nat.beq q.1 i with
    | true => exact absurd (Nat.eq_of_beq_eq_true hb) h
    | false => rfl
theorem lkO_lst (i i' : Nat) (v : aV) : ∀ L : aL, lkO i' (lst i v L id) = if i' = i then some v else lkO i' L
  | [] => by
    show lkO i' [(i, v)] = _
    rw [lkO_cons]
    by_cases h : i' = i
    · rw [if_pos h, if_pos h.symm]
    · rw [if_neg h, if_neg (fun q => h q.symm)]
  | q :: L => by
    unfold lst
    cases hb : Nat.beq q.1 i with
    | true =>
      have hq := Nat.eq_of_beq_eq_true hb
      show lkO i' ((i, v) :: L) = _
      rw [lkO_cons, lkO_cons, hq]
      by_cases h : i' = i
      · rw [if_pos h, if_pos h.symm]
      · rw [if_neg h, if_neg (fun q => h q.symm), if_neg (fun q => h q.symm)]
    | false =>
      show lkO i' (lst i v L (fun L' => id (q :: L'))) = _
      rw [lst_eq i v L (fun L' => id (q :: L'))]
      show lkO i' (q :: lst i v L id) = _
      rw [lkO_cons, lkO_cons, lkO_lst i i' v L]
      by_cases h : i' = i
      · subst h
        have hne : ¬ q.1 = i' := fun e => by rw [e, Nat.beq_refl] at hb; cases hb
        rw [if_neg hne, if_pos rfl, if_pos rfl]
      · rw [if_neg h, if_neg h]
theorem lkO_key {i : Nat} {v : aV} : ∀ {L : aL}, lkO i L = some v → ∃ q ∈ L, q.1 = i
  | [], h => by cases h
  | q :: L, h => by
    rw [lkO_cons] at h
    by_cases e : q.1 = i
    · exact ⟨q, List.mem_cons_self, e⟩
    · rw [if_neg e] at h
      obtain ⟨q', h1, h2⟩ := lkO_key h
      exact ⟨q', List.mem_cons_of_mem _ h1, h2⟩
/-- the locals -/
def Lk (ad : Nat → Nat → Nat) (lw : Bool) (ls : Array Slot) (nL : Nat) (L : aL) : Prop := ls.size = nL ∧ lv_wf ls ∧ ∀ (i : Nat) (v : aV), lkO i L = some v → ls[i]? = some (.val (cv ad v)) ∧ vok lw v
def lvL (ad : Nat → Nat → Nat) (L : aL) : List (Nat × Value) := L.filterMap (fun q => (lkO q.1 L).map (fun v => (q.1, cv ad v)))
theorem cv_cat (ad : Nat → Nat → Nat) (v : aV) : (cv ad v).category = 1 := by
  rcases v with a | ⟨t, j⟩
  · rfl
  · cases t <;> rfl
theorem Lk.has {ad : Nat → Nat → Nat} {lw : Bool} {ls : Array Slot} {nL : Nat} {L : aL} (h : Lk ad lw ls nL L) : lv_has ls nL (lvL ad L) := by
  refine ⟨h.1, h.2.1, fun q hq => ?_⟩
  obtain ⟨z, -, hz⟩ := List.mem_filterMap.mp hq
  cases hv : lkO z.1 L with
  | none => rw [hv] at hz; cases hz
  | some v => rw [hv] at hz; cases hz; exact (h.2.2 z.1 v hv).1
theorem Lk.store {ad : Nat → Nat → Nat} {lw : Bool} {ls ls' : Array Slot} {nL : Nat} {L : aL} {i : Nat} {v : aV} (h : Lk ad lw ls nL L) (hv : vok lw v) (h' : lv_has ls' nL ((i, cv ad v) :: (lvL ad L).filter (fun q => !(q.1 == i) && !(q.1 + 1 == i && q.2.category == 2)))) : Lk ad lw ls' nL (lst i v L id) := by
  refine ⟨h'.1, h'.2.1, fun i' w hw => ?_⟩
  rw [lkO_lst] at hw
  by_cases e : i' = i
  · rw [if_pos e] at hw
    cases hw
    subst e
    exact ⟨h'.2.2 _ List.mem_cons_self, hv⟩
  · rw [if_neg e] at hw
    refine ⟨?_, (h.2.2 i' w hw).2⟩
    refine h'.2.2 (i', cv ad w) (List.mem_cons_of_mem _ (List.mem_filter.mpr ⟨?_, ?_⟩))
    · obtain ⟨q, h1, h2⟩ := lkO_key hw
      exact List.mem_filterMap.mpr ⟨q, h1, by rw [h2, hw]; rfl⟩
    · simp [e, cv_cat]
theorem lg_sl_cv (ad : Nat → Nat → Nat) : ∀ as : List aV, (lg_sl (as.map (cv ad))).length = as.length
  | [] => rfl
  | v :: as => by
    have ih := lg_sl_cv ad as
    unfold lg_sl at ih ⊢
    simp only [List.map_cons, List.flatMap_cons, cv_cat, List.length_append, List.length_cons]
    rw [ih]
    simp
    omega
theorem mkL_args (ad : Nat → Nat → Nat) : ∀ (as : List aV) (i0 i : Nat) (v : aV), lkO i (mkL i0 as) = some v → (i, cv ad v) ∈ lv_args i0 (as.map (cv ad)) ∧ v ∈ as
  | [], _, _, _, h => by cases h
  | w :: as, i0, i, v, h => by
    unfold mkL at h
    rw [lkO_cons] at h
    by_cases e : i0 = i
    · rw [if_pos e] at h
      cases h
      subst e
      exact ⟨List.mem_cons_self, List.mem_cons_self⟩
    · rw [if_neg e] at h
      obtain ⟨h1, h2⟩ := mkL_args ad as (i0 + 1) i v h
      refine ⟨?_, List.mem_cons_of_mem _ h2⟩
      show _ ∈ lv_args i0 (cv ad w :: as.map (cv ad))
      unfold lv_args
      rw [if_neg (by rw [cv_cat]; decide)]
      exact List.mem_cons_of_mem _ h1
theorem Lk.entry (ad : Nat → Nat → Nat) (as : List aV) {n : Nat} (hn : as.length ≤ n) (hok : ∀ v ∈ as, vok false v) : Lk ad false ((lg_sl (as.map (cv ad)) ++ List.replicate (n - (lg_sl (as.map (cv ad))).length) Slot.unset).toArray) n (mkL 0 as) := by
  have h := lv_entry (as.map (cv ad)) (n := n) (by rw [lg_sl_cv]; exact hn)
  refine ⟨h.1, h.2.1, fun i v hv => ?_⟩
  obtain ⟨h1, h2⟩ := mkL_args ad as 0 i v hv
  exact ⟨h.2.2 _ h1, hok v h2⟩
/-- nest mates' fields, of the tables -/
def aNest (s : State) : Prop := ∀ (a : String) (i : Nat) (b n t h : String), Cond.fieldLinkNest a i b n t h ∈ lw_tbl → va_Nw (.fieldLinkNest a i b n t h) s
theorem aNest.warm {s U : State} (h : aNest s) (hW : s.WarmedH U.vm) : aNest U := fun a i b n t h' hm => va_Nw.warmF hW (h a i b n t h' hm)
/-- a frame of method k, with d frames' room above it -/
def Cx (ad : Nat → Nat → Nat) (cs : Nat → ClassId) (D : va_G) (zs : Nat × (Nat → Int32)) (p : Program) (R : Room) (s : State) (m : MethodId) (args : Array Value) (c : Code) (k d : Nat) (A : Nat → Prop) (cells slots : Nat) (lw : Bool) : Prop :=
  p.tables.exec = Jvm.exec ∧ c.code = mB k ∧ c.maxLocals = mL k ∧ s.vm.findClass (oN (mO k)) = some m.cls ∧ (∀ w ∈ Om, w.before args s = true) ∧ aNest s ∧ va_K D aCl (aTy cs) s ∧ (∀ q, s.heap.size ≤ q → A q) ∧ (d ≤ R.frames ∧ 40 * d ≤ R.locals ∧ cells ≤ R.cells ∧ slots ≤ R.slots) ∧ (lw = true → va_X (ad 50 0) zs.1 zs.2 s s.heap ∧ ad 50 0 < s.heap.size ∧ ¬ A (ad 50 0))
def rOk (k : Nat) (ins : Jvm.ClassFile.Instr) (r : Option aV) : Prop := match ins, r with
  | .return_, none => mR k = none
  | .ireturn, some (.inl a) => mR k = some .int ∨ (mR k = some .boolean ∧ (a = 0 ∨ a = 1))
  | .areturn, some (.inr _) => ∃ C, mR k = some (.object C)
  | _, _ => False
/-- what a method's contract says behind it -/
def aQc (ad : Nat → Nat → Nat) (cs : Nat → ClassId) (D : va_G) (r : Option aV) (S' : aS) (A : Nat → Prop) : Array Value → State → Outcome → State → Prop := fun _ st oc t => (oc = .returned (r.map (cv ad)) ∧ va_P D aCl (aw ad cs S') t.heap ∧ ∀ v, r = some v → vok false v) ∧ va_F A st t
def aPc (ad : Nat → Nat → Nat) (cs : Nat → ClassId) (D : va_G) (as : List aV) (S : aS) (sz : Nat) : Array Value → State → Prop := va_Pc (as.map (cv ad)) (fun U => U.heap.size = sz ∧ va_P D aCl (aw ad cs S) U.heap ∧ va_K D aCl (aTy cs) U ∧ va_D (fun _ => True) (aw ad cs S) ∧ aNest U)
abbrev aRm (d : Nat) : Room := { frames := d, cells := 0, slots := 0, locals := 40 * d }
abbrev aWs (k : Nat) : List Cond := Cond.code (mY k) (mB k) (mL k) (mR k) :: Om
/-- from here, whatever the frame stands on: the machine comes to its end -/
def SndP (ad : Nat → Nat → Nat) (cs : Nat → ClassId) (D : va_G) (zs : Nat × (Nat → Int32)) (l : Launch) (n : Nat) : Prop :=
  ∀ (d k : Nat) (is : List aE) (L : aL) (st : List aV) (S : aS) (r : Option aV) (S' : aS), ev zs n d k is L st S = some (r, S') → chk k is = true → ∀ pc : Nat, (∀ e is', is = e :: is' → e.1 = pc) →
  ∀ (p : Program) (e : Env) (R : Room) (s : State) (m : MethodId) (args : Array Value) (below : List Frame) (meth : Method) (c : Code) (A : Nat → Prop) (cells slots : Nat) (lw : Bool) (Qf : State → Prop), Cx ad cs D zs p R s m args c k d A cells slots lw →
  ∀ (H : Heap) (locs : List Loc) (ls : Array Slot), aWd ad cs D A s.heap S H locs → Lk ad lw ls (mL k) L → (∀ v ∈ st, vok lw v) →
  (∀ (H' : Heap) (locs' : List Loc) (pc' : Nat) (ls' : Array Slot) (ins : Jvm.ClassFile.Instr), aWd ad cs D A s.heap S' H' locs' → decode (mB k) pc' = .ok (ins, 1) → rOk k ins r → (∀ v, r = some v → vok lw v) → W p l e R s m args below meth c H' locs' cells slots Qf (F0 m pc' ls' (r.toList.map (cv ad)))) →
  W p l e R s m args below meth c H locs cells slots Qf (F0 m pc ls (st.map (cv ad)))
theorem Met.ofWF {l : Launch} {y : MethodName} {ws ws' : List Cond} {rm : Room} {Pc : Array Value → State → Prop} {Qc : Array Value → State → Outcome → State → Prop} {mc ms : Nat} {free : Addr → Prop} {cc : ByteArray} {maxL : Nat} {ret : Option FieldType}
    (hy : plainFor y = true) (hw : ws = Cond.code y cc maxL ret :: ws')
    (body : ∀ p e s m args below meth c s₁, BodyLoose p l y (headSpec ws rm) cc maxL ret e s m args below meth c s₁ → c.maxLocals = maxL → Pc args s →
      W p l e (headSpec ws rm).room s m args below meth c s.heap [] 0 0 (MQ below Qc args s mc ms free) (entryFrame m args maxL)) : Met l y ws rm Pc Qc mc ms free := by
  refine MetFree.of_bodySF (code := cc) (maxLocals := maxL) (ret := ret) hy ?_ ?_
  · intro args s m h hn
    obtain ⟨meth, c, h1, h2, h3, h4, h5, h6, -, -⟩ := Cond.code_spec hn (atoms_spec (ws := ws) h _ (by rw [hw]; exact List.mem_cons_self))
    exact ⟨meth, c, h1, h2, h3, h4, h5, h6⟩
  · intro p e s m args below meth c s₁ B hml hP _
    have hh0 : s₁.heap = s.heap := by rw [B.state]; rfl
    obtain ⟨t, a1, o, b1, b2, b3⟩ := body p e s m args below meth c s₁ B hml hP s₁ hh0 (Stand.of_body B)
    exact ⟨t, o, a1, b1, b2, ⟨b3.1, b3.2⟩⟩
/-- what the tables say of a method -/
theorem mf_spec {x v : Nat} (h : mvC x v = true) : Cond.initialized (mY x).cls ∈ Om ∧ (v = 0 → Cond.static (mY x) ∈ Om) ∧ (v = 1 → Cond.instanceMethod (mY x) ∈ Om ∧ Cond.selects (mY x).cls (mY x) (mY x) ∈ Om) ∧ (mY x).cls = oN (mO x) ∧ plainFor (mY x) = true ∧ ((parseMethodDescriptor (mY x).desc).map (fun d => d.parameters.length + v) = some (mA x)) ∧ (mY x).cls ≠ "java/lang/invoke/MethodHandle" ∧ (mY x).cls ≠ "java/lang/invoke/VarHandle" ∧ mL x ≤ 21 ∧ mA x ≤ mL x := by
  unfold mvC at h
  obtain ⟨q, hq, h1⟩ := List.any_eq_true.mp h
  simp only [Bool.and_eq_true] at h1
  obtain ⟨e1, e2⟩ := h1
  have e1 := Nat.eq_of_beq_eq_true e1
  have e2 := Nat.eq_of_beq_eq_true e2
  have hK := List.all_eq_true.mp mfT_ok q hq
  unfold mfK at hK
  rw [e1, e2] at hK
  rw [Bool.and_eq_true] at hK
  obtain ⟨k1, hK⟩ := hK
  rw [Bool.and_eq_true] at hK
  obtain ⟨k2, hK⟩ := hK
  simp only [Bool.and_eq_true] at hK
  obtain ⟨⟨k3, k4⟩, k5, k6, k7, k8, k9⟩ := hK
  simp only [decide_eq_true_eq] at k3 k5 k6 k7
  refine ⟨wAt_Om k1, fun hv => ?_, fun hv => ?_, k3, k4, k5, k6, k7, Nat.le_of_ble_eq_true k8, Nat.le_of_ble_eq_true k9⟩
  · subst hv
    exact wAt_Om k2
  · subst hv
    have k2 : ((wAt q.2.2.2.2.1 (.instanceMethod (mY x)) && goodWord (.instanceMethod (mY x))) && (wAt q.2.2.2.2.2 (.selects (mY x).cls (mY x) (mY x)) && goodWord (.selects (mY x).cls (mY x) (mY x)))) = true := k2
    rw [Bool.and_eq_true] at k2
    exact ⟨wAt_Om k2.1, wAt_Om k2.2⟩
theorem mc_Om {x : Nat} (h : x < 96) : Cond.code (mY x) (mB x) (mL x) (mR x) ∈ Om := by
  obtain ⟨p, hp⟩ := mc_in x h
  exact List.mem_filter.mpr ⟨List.mem_of_getElem? hp, rfl⟩
theorem Om_good : ∀ w ∈ Om, w ∈ Om ∧ ((w.onTables && w.keeps) = true ∨ ∃ ty, w = Cond.arrayClass ty) := fun w h => ⟨h, good_of_word (List.mem_filter.mp h).2⟩
theorem aWs_good {x : Nat} (h : x < 96) : GoodIn Om (aWs x) := fun w hw => by
  rcases List.mem_cons.mp hw with rfl | hw
  · exact Om_good _ (mc_Om h)
  · exact Om_good _ hw
