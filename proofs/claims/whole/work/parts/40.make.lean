/-! CELLS THAT ARE MADE: worlds up to their order, rows for new arrays, for the call of a constructor -/
abbrev iY (o : Nat) (ds : String) : MethodName := ⟨oN o, "<init>", ds⟩
theorem wP_mem {D : va_G} {cl : List vw_C} {ws : va_W} {H : Heap} (h : va_P D cl ws H) {q : Nat × va_E} (hq : q ∈ ws) : va_at D cl q H := by
  obtain ⟨k, hk⟩ := List.getElem?_of_mem hq
  exact h k q hk
theorem wP_of {D : va_G} {cl : List vw_C} {ws : va_W} {H : Heap} (h : ∀ q ∈ ws, va_at D cl q H) : va_P D cl ws H := fun k q hk => h q (List.mem_of_getElem? hk)
theorem wP_perm {D : va_G} {cl : List vw_C} {ws ws' : va_W} {H : Heap} (h : va_P D cl ws H) (hp : ws.Perm ws') : va_P D cl ws' H := wP_of (fun q hq => wP_mem h (hp.mem_iff.mpr hq))
theorem wD_nd {A : Nat → Prop} {ws : va_W} (h : va_D A ws) : (ws.map (fun q => q.1)).Nodup := by
  unfold List.Nodup
  rw [List.pairwise_iff_getElem]
  intro i j hi hj hij he
  rw [List.getElem_map, List.getElem_map] at he
  have hi' : i < ws.length := by simpa using hi
  have hj' : j < ws.length := by simpa using hj
  have := h.1 i j ws[i] ws[j] (List.getElem?_eq_getElem hi') (List.getElem?_eq_getElem hj') he
  omega
theorem wD_of {A : Nat → Prop} {ws : va_W} (h : (ws.map (fun q => q.1)).Nodup) (hA : ∀ q ∈ ws, A q.1) : va_D A ws := by
  unfold List.Nodup at h
  rw [List.pairwise_iff_getElem] at h
  have key : ∀ (i j : Nat) (p q : Nat × va_E), i < j → ws[i]? = some p → ws[j]? = some q → p.1 = q.1 → False := by
    intro i j p q hij hp hq he
    obtain ⟨hi, rfl⟩ := List.getElem?_eq_some_iff.mp hp
    obtain ⟨hj, rfl⟩ := List.getElem?_eq_some_iff.mp hq
    exact h i j (by simpa using hi) (by simpa using hj) hij (by rw [List.getElem_map, List.getElem_map]; exact he)
  refine ⟨fun i j p q hp hq he => ?_, fun k q hk => hA q (List.mem_of_getElem? hk)⟩
  rcases Nat.lt_trichotomy i j with g | g | g
  · exact (key i j p q g hp hq he).elim
  · exact g
  · exact (key j i q p g hq hp he.symm).elim
theorem wD_mem {A : Nat → Prop} {ws : va_W} (h : va_D A ws) {q : Nat × va_E} (hq : q ∈ ws) : A q.1 := by
  obtain ⟨k, hk⟩ := List.getElem?_of_mem hq
  exact h.2 k q hk
theorem wD_perm {A : Nat → Prop} {ws ws' : va_W} (h : va_D A ws) (hp : ws.Perm ws') : va_D A ws' := wD_of ((hp.map _).nodup_iff.mp (wD_nd h)) (fun _ hq => wD_mem h (hp.mem_iff.mpr hq))
theorem wD_one {A : Nat → Prop} {x : Nat × va_E} (h : A x.1) : va_D A [x] := wD_of (by simp) (fun q hq => by rw [List.mem_singleton.mp hq]; exact h)
theorem wF_one {A : Nat → Prop} {x : Nat × va_E} {w : va_W} {H0 H : Heap} {locs : List Loc} (hD : va_D A (x :: w)) (hS : va_S A H0 H locs) (hA : ∀ q, H0.size ≤ q → A q) : ∀ q, va_A [x] H.size q → A q := by
  rintro q (⟨k, e, h⟩ | h)
  · have h1 := List.mem_singleton.mp (List.mem_of_getElem? h)
    have h0 := hD.2 0 x rfl
    rw [← h1] at h0
    exact h0
  · exact hA q (Nat.le_trans hS.1 h)
theorem wJoin {A : Nat → Prop} {D : va_G} {cl : List vw_C} {x : Nat × va_E} {w w1 : va_W} {H H1 : Heap} (hP : va_P D cl (x :: w) H) (hD : va_D A (x :: w)) (hF : ∀ q, va_A [x] H.size q → A q) (hk : ∀ q : Nat, q < H.size → ¬ va_A [x] H.size q → H1[q]? = H[q]?) (hP1 : va_P D cl w1 H1) (hD1 : va_D (va_A [x] H.size) w1) : va_P D cl (w1 ++ w) H1 ∧ va_D A (w1 ++ w) := by
  have apart : ∀ (k : Nat) (q : Nat × va_E), w[k]? = some q → q.1 < H.size ∧ ¬ va_A [x] H.size q.1 := by
    intro k q hq
    have hq' : (x :: w)[k + 1]? = some q := by simpa using hq
    have hl := (hP (k + 1) q hq').lt
    refine ⟨hl, ?_⟩
    rintro (⟨k2, e, h⟩ | h)
    · have h1 := List.mem_singleton.mp (List.mem_of_getElem? h)
      have h2 := hD.1 (k + 1) 0 q x hq' rfl (by rw [← h1])
      omega
    · omega
  refine ⟨va_P.app hP1 (fun k q hq => ?_), va_D.app (hD1.weaken (fun k q _ h => hF q.1 h)) ⟨fun i j p q hp hq he => ?_, fun k q hk => hD.2 (k + 1) q (by simpa using hk)⟩ (fun i j p q hp hq he => ?_)⟩
  · exact (hP (k + 1) q (by simpa using hq)).kept (hk q.1 (apart k q hq).1 (apart k q hq).2)
  · have := hD.1 (i + 1) (j + 1) p q (by simpa using hp) (by simpa using hq) he
    omega
  · exact (apart j q hq).2 (by rw [← he]; exact hD1.2 i p hp)
theorem flat_succ {τ : Type} (F : Nat → τ → va_W) (f : Nat → τ) (k : Nat) (v : τ) : (List.range (k + 1)).flatMap (fun j => F j (va_up f k v j)) = (List.range k).flatMap (fun j => F j (f j)) ++ F k v := by
  rw [List.range_succ, List.flatMap_append]
  congr 1
  · have : ∀ l : List Nat, (∀ j ∈ l, j ≠ k) → l.flatMap (fun j => F j (va_up f k v j)) = l.flatMap (fun j => F j (f j)) := by
      intro l
      induction l with
      | nil => intro _; rfl
      | cons a l ih =>
        intro h
        rw [List.flatMap_cons, List.flatMap_cons, ih (fun j hj => h j (List.mem_cons_of_mem _ hj))]
        have : va_up f k v a = f a := by unfold va_up; rw [if_neg (h a List.mem_cons_self)]
        rw [this]
    exact this _ (fun j hj => Nat.ne_of_lt (List.mem_range.mp hj))
  · have : va_up f k v k = v := by unfold va_up; rw [if_pos rfl]
    simp [this]
abbrev eArr (cs : Nat → ClassId) (n : Nat) : va_E := .inl (cs 0, n, .inl (fun _ => 0))
abbrev eRef (cs : Nat → ClassId) (k n : Nat) (f : Nat → Option Nat) : va_E := .inl (cs k, n, .inr (.inr (.inr (.inr f))))
def upto (f : Nat → Nat × Nat × Nat) (k i : Nat) : Option Nat := if i < k then some (f i).1 else none
theorem upto_0 (f : Nat → Nat × Nat × Nat) : upto f 0 = fun _ => none := by
  funext i
  unfold upto
  rw [if_neg (by omega)]
theorem upto_succ (f : Nat → Nat × Nat × Nat) (k : Nat) (v : Nat × Nat × Nat) : va_up (upto f k) k (some v.1) = upto (va_up f k v) (k + 1) := by
  funext i
  unfold va_up upto
  show (if i = k then some v.1 else if i < k then some (f i).1 else none) = if i < k + 1 then some (if i = k then v else f i).1 else none
  by_cases h : i = k
  · rw [if_pos h, if_pos (by omega), if_pos h]
  · rw [if_neg h, if_neg h]
    by_cases g : i < k
    · rw [if_pos g, if_pos (by omega)]
    · rw [if_neg g, if_neg (by omega)]
theorem eRef_cong {D : va_G} {cl : List vw_C} {a : Nat} {cs : Nat → ClassId} {k n : Nat} {f g : Nat → Option Nat} {H : Heap} (h : va_at D cl (a, eRef cs k n f) H) (hf : ∀ i, i < n → f i = g i) : va_at D cl (a, eRef cs k n g) H := by
  have h : H[a]? = some (vp_cell (cs k) (n, .inr (.inr (.inr (.inr f))))) := h
  show H[a]? = some (vp_cell (cs k) (n, .inr (.inr (.inr (.inr g)))))
  rw [h, vp_cell_q, vp_cell_q]
  unfold arrV
  congr 3
  funext j
  show va_rf (f j.val) = va_rf (g j.val)
  rw [hf j.val j.isLt]
/-- a full array of references -/
theorem w_full {D : va_G} {A : Nat → Prop} {cs : Nat → ClassId} {x : Nat × va_E} {a k n : Nat} {f : Nat → Nat × Nat × Nat} {w : va_W} {H : Heap} (hP : va_P D aCl (x :: (a, eRef cs k n (upto f n)) :: w) H) (hD : va_D A (x :: (a, eRef cs k n (upto f n)) :: w)) : va_P D aCl (x :: (a, eRef cs k n (fun i => some (f i).1)) :: w) H ∧ va_D A (x :: (a, eRef cs k n (fun i => some (f i).1)) :: w) := by
  refine ⟨wP_of (fun q hq => ?_), wD_of (show (x.1 :: a :: w.map (fun q => q.1)).Nodup from wD_nd hD) (fun q hq => ?_)⟩
  · rcases List.mem_cons.mp hq with rfl | hq
    · exact wP_mem hP List.mem_cons_self
    rcases List.mem_cons.mp hq with rfl | hq
    · exact eRef_cong (wP_mem hP (List.mem_cons_of_mem _ List.mem_cons_self)) (fun i hi => by unfold upto; rw [if_pos hi])
    · exact wP_mem hP (List.mem_cons_of_mem _ (List.mem_cons_of_mem _ hq))
  · rcases List.mem_cons.mp hq with rfl | hq
    · exact wD_mem hD List.mem_cons_self
    rcases List.mem_cons.mp hq with rfl | hq
    · exact hD.2 1 (a, eRef cs k n (upto f n)) rfl
    · exact wD_mem hD (List.mem_cons_of_mem _ (List.mem_cons_of_mem _ hq))
/-- nest mates' constructors and arrays of references, of the tables -/
def cN (U : State) : Prop := va_Nw (.methodLinkNest (oN 4) 11 (iY 3 "()V") (oN 4)) U ∧ va_Nw (.methodLinkNest (oN 4) 31 (iY 0 "()V") (oN 4)) U ∧ va_Nw (.methodLinkNest (oN 4) 38 (iY 2 "()V") (oN 4)) U ∧ va_AO cR1 U ∧ va_AO cR0 U ∧ va_AO cR2 U
theorem cN.warm {s U : State} (h : cN s) (hW : s.WarmedH U.vm) : cN U := ⟨va_Nw.warmM hW h.1, va_Nw.warmM hW h.2.1, va_Nw.warmM hW h.2.2.1, va_AO.moved hW.alike h.2.2.2.1, va_AO.moved hW.alike h.2.2.2.2.1, va_AO.moved hW.alike h.2.2.2.2.2⟩
theorem cN.call {U : State} (h : cN U) {U' : State} (e : U.vm = U'.vm) : cN U' := ⟨va_Nw.same rfl e h.1, va_Nw.same rfl e h.2.1, va_Nw.same rfl e h.2.2.1, va_AO.moved (by rw [e]; exact Vm.Alike.refl _) h.2.2.2.1, va_AO.moved (by rw [e]; exact Vm.Alike.refl _) h.2.2.2.2.1, va_AO.moved (by rw [e]; exact Vm.Alike.refl _) h.2.2.2.2.2⟩
/-- a constructor's contract: x, the object as it was made; behind it the world wf u -/
abbrev lfP (D : va_G) (cs : Nat → ClassId) (x : Nat × va_E) (As : List Value) (sz : Nat) : Array Value → State → Prop := va_Pc (.ref x.1 :: As) (fun U => U.heap.size = sz ∧ va_P D aCl [x] U.heap ∧ va_K D aCl (aTy cs) U ∧ cN U)
abbrev lfQ {σ : Type} (D : va_G) (x : Nat × va_E) (sz : Nat) (wf : σ → va_W) : Array Value → State → Outcome → State → Prop := va_Qv (fun _ : σ => True) (fun u t => va_P D aCl (wf u) t.heap ∧ va_D (va_A [x] sz) (wf u)) (va_A [x] sz)
def Leaf {σ : Type} (l : Launch) (D : va_G) (cs : Nat → ClassId) (y : MethodName) (bytes : ByteArray) (maxL fr mc ms : Nat) (As : List Value) (x : Nat × va_E) (wf : σ → va_W) : Prop := ∀ sz : Nat, Met l y (Cond.code y bytes maxL none :: Om) { frames := fr, cells := mc, slots := ms, locals := 40 * fr } (lfP D cs x As sz) (lfQ D x sz wf) mc ms (va_A [x] sz)
section MK
variable {p : Program} {l : Launch} {e : Env} {R : Room} {s : State} {m : MethodId} {args : Array Value} {below : List Frame} {meth : Method} {c : Code} {H : Heap} {locs : List Loc} {cells slots : Nat} {Q : State → Prop}
variable {cc : ByteArray} {pc : Nat} {ls : Array Slot} {rest st0 : List Value} {D : va_G} {cs : Nat → ClassId} {A : Nat → Prop} {ws : va_W} {H0 : Heap}
theorem w_newi (hx : p.tables.exec = Jvm.exec) (hb : c.code = cc) (harr : (Cond.arrayClass .int).before args s = true) (hK : va_K D aCl (aTy cs) s) (hP : va_P D aCl ws H) (hD : va_D A ws) (hS : va_S A H0 H locs) (hA : ∀ q, H0.size ≤ q → A q) (n : Nat) (hn : n < 2 ^ 20) (hc : cells + 1 ≤ R.cells) (hs : slots + n ≤ R.slots) (hd : decode cc pc = .ok (.newarray .int, 2))
    (kk : ∀ (q : Nat) (H1 : Heap), va_P D aCl (ws ++ [(q, eArr cs n)]) H1 → va_D A (ws ++ [(q, eArr cs n)]) → va_S A H0 H1 locs → W p l e R s m args below meth c H1 locs (cells + 1) (slots + n) Q (F0 m (pc + 2) ls (.ref q :: rest))) : W p l e R s m args below meth c H locs cells slots Q (F0 m pc ls (.int (nI n) :: rest)) := by
  refine va_newa (atype := .int) (ty := .int) (n := nI n) (N' := n) (a0 := (n, .inl (fun _ => 0))) hx hb harr rfl hK hP hD hS hA (fun cA => vp_cell_i cA n _) (nI_pos (by omega)) (nI_clamp (by omega)) ?_ hc hs hd (fun q cA H1 hK1 hP1 hD1 hS1 => ?_)
  · show n * 4 ≤ 536870912
    omega
  · have e1 : s.vm.findClass ("[" ++ FieldType.int.toString) = some cA := (hK1.2 5 (cA, .int) rfl).2
    have e2 : s.vm.findClass ("[" ++ FieldType.int.toString) = some (cs 0) := (hK.2 0 (cs 0, .int) rfl).2
    have e3 : cA = cs 0 := Option.some.inj (e1.symm.trans e2)
    rw [e3] at hP1 hD1
    exact kk q H1 hP1 hD1 hS1
theorem w_newz (hx : p.tables.exec = Jvm.exec) (hb : c.code = cc) (harr : (Cond.arrayClass .boolean).before args s = true) (hK : va_K D aCl (aTy cs) s) (hP : va_P D aCl ws H) (hD : va_D A ws) (hS : va_S A H0 H locs) (hA : ∀ q, H0.size ≤ q → A q) (n : Nat) (hn : n < 2 ^ 20) (hc : cells + 1 ≤ R.cells) (hs : slots + n ≤ R.slots) (hd : decode cc pc = .ok (.newarray .boolean, 2))
    (kk : ∀ (q : Nat) (H1 : Heap), va_P D aCl (ws ++ [(q, .inl (cs 1, n, .inl (fun _ => 0)))]) H1 → va_D A (ws ++ [(q, .inl (cs 1, n, .inl (fun _ => 0)))]) → va_S A H0 H1 locs → W p l e R s m args below meth c H1 locs (cells + 1) (slots + n) Q (F0 m (pc + 2) ls (.ref q :: rest))) : W p l e R s m args below meth c H locs cells slots Q (F0 m pc ls (.int (nI n) :: rest)) := by
  refine va_newa (atype := .boolean) (ty := .boolean) (n := nI n) (N' := n) (a0 := (n, .inl (fun _ => 0))) hx hb harr rfl hK hP hD hS hA (fun cA => vp_cell_i cA n _) (nI_pos (by omega)) (nI_clamp (by omega)) ?_ hc hs hd (fun q cA H1 hK1 hP1 hD1 hS1 => ?_)
  · show n * 1 ≤ 536870912
    omega
  · have e1 : s.vm.findClass ("[" ++ FieldType.boolean.toString) = some cA := (hK1.2 5 (cA, .boolean) rfl).2
    have e2 : s.vm.findClass ("[" ++ FieldType.boolean.toString) = some (cs 1) := (hK.2 1 (cs 1, .boolean) rfl).2
    have e3 : cA = cs 1 := Option.some.inj (e1.symm.trans e2)
    rw [e3] at hP1 hD1
    exact kk q H1 hP1 hD1 hS1
theorem w_newq (hx : p.tables.exec = Jvm.exec) (hb : c.code = cc) {own C : String} {index : Nat} (hown : s.vm.findClass own = some m.cls) (hcl : (Cond.classLink own index C).before args s = true) (hover : va_AO C s) (hK : va_K D aCl (aTy cs) s) (hP : va_P D aCl ws H) (hD : va_D A ws) (hS : va_S A H0 H locs) (hA : ∀ q, H0.size ≤ q → A q) (k : Nat) (hk : (aTy cs)[k]? = some (cs k, .object C)) (n : Nat) (hn : n < 2 ^ 20) (hc : cells + 1 ≤ R.cells) (hs : slots + n ≤ R.slots) (hd : decode cc pc = .ok (.anewarray index, 3))
    (kk : ∀ (q : Nat) (H1 : Heap), va_P D aCl (ws ++ [(q, eRef cs k n (fun _ => none))]) H1 → va_D A (ws ++ [(q, eRef cs k n (fun _ => none))]) → va_S A H0 H1 locs → W p l e R s m args below meth c H1 locs (cells + 1) (slots + n) Q (F0 m (pc + 3) ls (.ref q :: rest))) : W p l e R s m args below meth c H locs cells slots Q (F0 m pc ls (.int (nI n) :: rest)) := by
  refine va_newq (n := nI n) (N' := n) hx hb hown hcl hover hK hP hD hS hA (nI_pos (by omega)) (nI_clamp (by omega)) (by omega) hc hs hd (fun q cA H1 hK1 hP1 hD1 hS1 => ?_)
  obtain ⟨_, _, _, _, _, e1⟩ := (hK1.2 5 (cA, .object C) rfl).2
  obtain ⟨_, _, _, _, _, e2⟩ := (hK.2 k (cs k, .object C) hk).2
  have e3 : cA = cs k := Option.some.inj (e1.symm.trans e2)
  rw [e3] at hP1 hD1
  exact kk q H1 hP1 hD1 hS1
theorem w_after {σ : Type} {x : Nat × va_E} {w : va_W} {wf : σ → va_W} {mc ms : Nat} {a : Array Value} (hr : va_Run p l e R s m args below meth c H locs cells slots mc ms (F0 m pc ls st0) rest (lfQ D x H.size wf a) (va_A [x] H.size)) (hP : va_P D aCl (x :: w) H) (hD : va_D A (x :: w)) (hS : va_S A H0 H locs) (hA : ∀ q, H0.size ≤ q → A q)
    (kk : ∀ (u : σ) (H1 : Heap) (locs1 : List Loc), va_P D aCl (wf u ++ w) H1 → va_D A (wf u ++ w) → va_S A H0 H1 locs1 → W p l e R s m args below meth c H1 locs1 (cells + mc) (slots + ms) Q (F0 m (pc + 3) ls rest)) : W p l e R s m args below meth c H locs cells slots Q (F0 m pc ls st0) := by
  have hF := wF_one hD hS hA
  refine va_callv hr hS (fun q _ h => hF q h) hF (fun u t H1 locs1 ht hvm hw hB hz hk hS1 => ?_)
  obtain ⟨hP1, hD1⟩ := hB
  rw [ht] at hP1
  obtain ⟨h1, h2⟩ := wJoin hP hD hF hk hP1 hD1
  exact kk u H1 locs1 h1 h2 hS1
theorem w_leafN {σ : Type} {x : Nat × va_E} {w : va_W} {wf : σ → va_W} {As : List Value} {y : MethodName} {bytes : ByteArray} {maxL fr mc ms nL n index : Nat} {own host : String} (S : CallFix p m c cc nL s args Om own) (hM : Leaf l D cs y bytes maxL fr mc ms As x wf) (hcode : Cond.code y bytes maxL none ∈ Om) (hini : Cond.initialized y.cls ∈ Om) (hinst : Cond.instanceMethod y ∈ Om) (hy : y.name = "<init>")
    (hd : y.cls ≠ "java/lang/invoke/MethodHandle" ∧ y.cls ≠ "java/lang/invoke/VarHandle" ∧ (parseMethodDescriptor y.desc).map (fun d => d.parameters.length) = some n) (hmx : maxL ≤ 4) (hlink : va_Nw (.methodLinkNest own index y host) s) (hRf : fr + 1 ≤ R.frames) (hRl : 40 * fr + 30 ≤ R.locals) (hK : va_K D aCl (aTy cs) s) (hN : cN s) (hP : va_P D aCl (x :: w) H) (hD : va_D A (x :: w)) (hS : va_S A H0 H locs) (hA : ∀ q, H0.size ≤ q → A q)
    (hn : As.length = n) (hls : ls.size = nL) (hst : st0 = As.reverse ++ .ref x.1 :: rest) (hW : (rest.map fun v => v.category).sum ≤ 8) (hdg : decode cc pc = .ok (.invokespecial index, 3)) (hc : cells + mc ≤ R.cells) (hs : slots + ms ≤ R.slots)
    (kk : ∀ (u : σ) (H1 : Heap) (locs1 : List Loc), va_P D aCl (wf u ++ w) H1 → va_D A (wf u ++ w) → va_S A H0 H1 locs1 → W p l e R s m args below meth c H1 locs1 (cells + mc) (slots + ms) Q (F0 m (pc + 3) ls rest)) : W p l e R s m args below meth c H locs cells slots Q (F0 m pc ls st0) := by
  have hG : GoodIn Om (Cond.code y bytes maxL none :: Om) := fun w hw => by
    rcases List.mem_cons.mp hw with rfl | hw
    · exact Om_good _ hcode
    · exact Om_good _ hw
  have hP1 : va_P D aCl [x] H := wP_of (fun q hq => wP_mem hP (by rw [List.mem_singleton.mp hq]; exact List.mem_cons_self))
  have hR2 : 8 + (maxL + 11) + 40 * fr ≤ R.locals := by omega
  exact w_after (va_runIN (As := As) (rest := rest) (b := x.1) S (hM H.size) ⟨va_cnB n S.2.2.2.2 hG rfl rfl rfl hlink (S.2.2.2.2 _ hini) hd ⟨hRf, hR2⟩, hy, S.2.2.2.2 _ hinst⟩ ⟨fun a U g mk q => by obtain ⟨q0, q1, qP, qK, qN⟩ := q; exact ⟨q0, q1, qP, va_K.moved (u := U) (U := U.calling g mk a) (Vm.Alike.refl U.vm) qK, qN.call rfl⟩, fun U hU hW' => ⟨rfl, by rw [hU], by rw [hU]; exact hP1, va_K.moved hW'.alike hK, hN.warm hW'⟩⟩ rfl hn hls hst (lv_room hW) hdg ⟨hc, hs⟩) hP hD hS hA kk
theorem w_leafI {σ : Type} {x : Nat × va_E} {w : va_W} {wf : σ → va_W} {As : List Value} {y : MethodName} {bytes : ByteArray} {maxL fr mc ms nL n index : Nat} {own : String} (S : CallFix p m c cc nL s args Om own) (hM : Leaf l D cs y bytes maxL fr mc ms As x wf) (hcode : Cond.code y bytes maxL none ∈ Om) (hini : Cond.initialized y.cls ∈ Om) (hinst : Cond.instanceMethod y ∈ Om) (hy : y.name = "<init>")
    (hd : y.cls ≠ "java/lang/invoke/MethodHandle" ∧ y.cls ≠ "java/lang/invoke/VarHandle" ∧ (parseMethodDescriptor y.desc).map (fun d => d.parameters.length) = some n) (hmx : maxL ≤ 4) (hlink : Cond.methodLink own index y ∈ Om) (hRf : fr + 1 ≤ R.frames) (hRl : 40 * fr + 30 ≤ R.locals) (hK : va_K D aCl (aTy cs) s) (hN : cN s) (hP : va_P D aCl (x :: w) H) (hD : va_D A (x :: w)) (hS : va_S A H0 H locs) (hA : ∀ q, H0.size ≤ q → A q)
    (hn : As.length = n) (hls : ls.size = nL) (hst : st0 = As.reverse ++ .ref x.1 :: rest) (hW : (rest.map fun v => v.category).sum ≤ 8) (hdg : decode cc pc = .ok (.invokespecial index, 3)) (hc : cells + mc ≤ R.cells) (hs : slots + ms ≤ R.slots)
    (kk : ∀ (u : σ) (H1 : Heap) (locs1 : List Loc), va_P D aCl (wf u ++ w) H1 → va_D A (wf u ++ w) → va_S A H0 H1 locs1 → W p l e R s m args below meth c H1 locs1 (cells + mc) (slots + ms) Q (F0 m (pc + 3) ls rest)) : W p l e R s m args below meth c H locs cells slots Q (F0 m pc ls st0) := by
  have hG : GoodIn Om (Cond.code y bytes maxL none :: Om) := fun w hw => by
    rcases List.mem_cons.mp hw with rfl | hw
    · exact Om_good _ hcode
    · exact Om_good _ hw
  have hP1 : va_P D aCl [x] H := wP_of (fun q hq => wP_mem hP (by rw [List.mem_singleton.mp hq]; exact List.mem_cons_self))
  have hR2 : 8 + (maxL + 11) + 40 * fr ≤ R.locals := by omega
  exact w_after (va_runI (As := As) (rest := rest) (b := x.1) S (hM H.size) (cwI n S.2.2.2.2 hG rfl rfl rfl (S.2.2.2.2 _ hini) (S.2.2.2.2 _ hlink) (S.2.2.2.2 _ hinst) hy hd ⟨hRf, hR2⟩) ⟨fun a U g mk q => by obtain ⟨q0, q1, qP, qK, qN⟩ := q; exact ⟨q0, q1, qP, va_K.moved (u := U) (U := U.calling g mk a) (Vm.Alike.refl U.vm) qK, qN.call rfl⟩, fun U hU hW' => ⟨rfl, by rw [hU], by rw [hU]; exact hP1, va_K.moved hW'.alike hK, hN.warm hW'⟩⟩ rfl hn hls hst (lv_room hW) hdg ⟨hc, hs⟩) hP hD hS hA kk
end MK
