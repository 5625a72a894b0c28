/-! THE TREE'S CONSTRUCTOR (printed by wip/whole/gen9.py) -/
abbrev fB (_cs : Nat → ClassId) (j : Nat) (u : Nat × Nat × Nat) : va_W := [(u.1, .inr (1, [.int (nI (j / 4)), .int (nI (j % 4)), .int 0, .int 0, .int 0, .int 0, .int 0, .int 0, .int 0, .int 0, .int 0]))]
abbrev fV (cs : Nat → ClassId) (_j : Nat) (u : Nat × Nat × Nat) : va_W := [(u.1, .inr (0, [.int 0, .int 0, .int 0, .ref u.2.1])), (u.2.1, eArr cs 16)]
abbrev fL (cs : Nat → ClassId) (_j : Nat) (u : Nat × Nat × Nat) : va_W := [(u.1, .inr (2, [.int 0, .int 0, .int 0, .ref u.2.1, .ref u.2.2])), (u.2.1, eArr cs 64), (u.2.2, eArr cs 64)]
def tI : List (Nat × Nat) := (1, 0) :: (((6, 0) :: (((5, 0) :: (((4, 0) :: ([(2, 0), (3, 0)] ++ (List.range 32).flatMap (fun j => [(8, j)]))) ++ (List.range 60).flatMap (fun j => [(9, j), (10, j)]))) ++ (List.range 4).flatMap (fun j => [(11, j), (12, j), (13, j)]))) ++ [(7, 0)])
/-- the addresses of a tree's cells -/
def tA (h0 q1 a1 qb qa ql qr : Nat) (f1 f2 f3 : Nat → Nat × Nat × Nat) (t j : Nat) : Nat := match t with
  | 1 => h0
  | 2 => q1
  | 3 => a1
  | 4 => qb
  | 5 => qa
  | 6 => ql
  | 7 => qr
  | 8 => (f1 j).1
  | 9 => (f2 j).1
  | 10 => (f2 j).2.1
  | 11 => (f3 j).1
  | 12 => (f3 j).2.1
  | 13 => (f3 j).2.2
  | _ => 0
def lW (ad : Nat → Nat → Nat) (cs : Nat → ClassId) (L : List (Nat × Nat)) : va_W := L.map (fun q => (ad q.1 q.2, aC ad cs (S0 q.1 q.2) q.1 q.2))
theorem tW_eq (cs : Nat → ClassId) (h0 q1 a1 qb qa ql qr : Nat) (f1 f2 f3 : Nat → Nat × Nat × Nat) :
    (h0, .inr (4, [.ref q1, .ref qb, .ref qa, .ref ql, .ref qr, .int 0])) :: (((ql, eRef cs 4 4 (fun i => some (f3 i).1)) :: (((qa, eRef cs 3 60 (fun i => some (f2 i).1)) :: (((qb, eRef cs 2 32 (fun i => some (f1 i).1)) :: ([(q1, .inr (3, [.ref a1, .int 0])), (a1, eArr cs 1680)] ++ (List.range 32).flatMap (fun j => fB cs j (f1 j)))) ++ (List.range 60).flatMap (fun j => fV cs j (f2 j)))) ++ (List.range 4).flatMap (fun j => fL cs j (f3 j)))) ++ [(qr, eArr cs 8)]) = lW (tA h0 q1 a1 qb qa ql qr f1 f2 f3) cs tI := by
  unfold lW tI
  simp only [List.map_cons, List.map_append, List.map_flatMap, List.map_nil]
  rfl
def Ix (D : va_G) (cs : Nat → ClassId) (p : Program) (R : Room) (s : State) (m : MethodId) (args : Array Value) (c : Code) (A : Nat → Prop) : Prop :=
  p.tables.exec = Jvm.exec ∧ c.code = prog_1_method_1_code ∧ c.maxLocals = 2 ∧ s.vm.findClass (oN 4) = some m.cls ∧ (∀ w ∈ Om, w.before args s = true) ∧ va_K D aCl (aTy cs) s ∧ cN s ∧ (∀ q, s.heap.size ≤ q → A q) ∧ 2 ≤ R.frames ∧ 70 ≤ R.locals
set_option maxHeartbeats 4000000 in
set_option maxRecDepth 100000 in
theorem t_loop1 {p : Program} {l : Launch} {e : Env} {R : Room} {s : State} {m : MethodId} {args : Array Value} {below : List Frame} {meth : Method} {c : Code} {Q : State → Prop} {D : va_G} {cs : Nat → ClassId} {A : Nat → Prop} (C : Ix D cs p R s m args c A) {h0 qa : Nat} {fs : List Value} (hfs : fs[1]? = some (.ref qa)) {w : va_W} :
    ∀ (n k : Nat), k + n = 32 → ∀ (f : Nat → Nat × Nat × Nat) (H : Heap) (locs : List Loc) (cells slots : Nat) (ls : Array Slot), cells + 1 * n ≤ R.cells → slots + 11 * n ≤ R.slots →
    va_P D aCl ((h0, .inr (4, fs)) :: (qa, eRef cs 2 32 (upto f k)) :: (w ++ (List.range k).flatMap (fun j => fB cs j (f j)))) H → va_D A ((h0, .inr (4, fs)) :: (qa, eRef cs 2 32 (upto f k)) :: (w ++ (List.range k).flatMap (fun j => fB cs j (f j)))) → va_S A s.heap H locs → lv_has ls 2 [(1, .int (nI k)), (0, .ref h0)] →
    (∀ (f : Nat → Nat × Nat × Nat) (H : Heap) (locs : List Loc) (ls : Array Slot), va_P D aCl ((h0, .inr (4, fs)) :: (qa, eRef cs 2 32 (fun i => some (f i).1)) :: (w ++ (List.range 32).flatMap (fun j => fB cs j (f j)))) H → va_D A ((h0, .inr (4, fs)) :: (qa, eRef cs 2 32 (fun i => some (f i).1)) :: (w ++ (List.range 32).flatMap (fun j => fB cs j (f j)))) → va_S A s.heap H locs → lv_has ls 2 [(1, .int (nI 32)), (0, .ref h0)] → W p l e R s m args below meth c H locs (cells + 1 * n) (slots + 11 * n) Q (F0 m 60 ls [])) →
    W p l e R s m args below meth c H locs cells slots Q (F0 m 26 ls []) := by
  obtain ⟨hx, hb, hml, hown, hts, hK, hN, hA, hRf, hRl⟩ := C
  have hu4 : ∀ w ∈ u_ws cR4 cT4 6, w ∈ Om := (cl_spec (ci := 4) rfl).1
  have hu : ∀ w ∈ u_ws cR1 cT1 11, w ∈ Om := (cl_spec (ci := 1) rfl).1
  have hY : ∀ k, k < 11 → parseFieldDescriptor (cT1 k).2.2.1 = some (cY1 k) := by decide +kernel
  intro n
  induction n with
  | zero =>
    intro k hk f H locs cells slots ls hc hs hP hD hS hl kk
    obtain rfl : k = 32 := by omega
    refine lv_iload_n hx hb (show decode prog_1_method_1_code 26 = .ok (.iload_n 1, 1) by decide +kernel) rfl (lv_at hl 0 rfl) ?_
    refine lv_aload_n hx hb (show decode prog_1_method_1_code 27 = .ok (.aload_n 0, 1) by decide +kernel) rfl (lv_at hl 1 rfl) ?_
    refine va_get (D := D) (ci := 4) (v := .ref qa) (C := cR4) (T := cT4) (N := 6) hx hb hts hu4 hown hK hP 0 rfl rfl 1 (by decide) (hts (.fieldLink (oN 4) 18 "PermitTree" "bids" "[LPermitTree$Bid;") (wAt_Om (p := 160) (by decide +kernel))) (fun _ h9 => h9) hfs (show decode prog_1_method_1_code 28 = .ok (.getfield 18, 3) by decide +kernel) ?_
    refine va_alen (v := nI 32) hx hb hK hP 1 2 rfl rfl rfl (show decode prog_1_method_1_code 31 = .ok (.arraylength, 1) by decide +kernel) ?_
    refine lv_icmp_ge (tgt := 60) hx hb (show decode prog_1_method_1_code 32 = .ok (.if_icmp .ge 28, 3) by decide +kernel) (by decide) (fun _ => ?_) (fun q => absurd (nI_le (Nat.le_refl 32) (by decide)) q)
    obtain ⟨hP, hD⟩ := w_full hP hD
    exact kk f H locs ls hP hD hS hl
  | succ n ih =>
    intro k hk f H locs cells slots ls hc hs hP hD hS hl kk
    refine lv_iload_n hx hb (show decode prog_1_method_1_code 26 = .ok (.iload_n 1, 1) by decide +kernel) rfl (lv_at hl 0 rfl) ?_
    refine lv_aload_n hx hb (show decode prog_1_method_1_code 27 = .ok (.aload_n 0, 1) by decide +kernel) rfl (lv_at hl 1 rfl) ?_
    refine va_get (D := D) (ci := 4) (v := .ref qa) (C := cR4) (T := cT4) (N := 6) hx hb hts hu4 hown hK hP 0 rfl rfl 1 (by decide) (hts (.fieldLink (oN 4) 18 "PermitTree" "bids" "[LPermitTree$Bid;") (wAt_Om (p := 160) (by decide +kernel))) (fun _ h9 => h9) hfs (show decode prog_1_method_1_code 28 = .ok (.getfield 18, 3) by decide +kernel) ?_
    refine va_alen (v := nI 32) hx hb hK hP 1 2 rfl rfl rfl (show decode prog_1_method_1_code 31 = .ok (.arraylength, 1) by decide +kernel) ?_
    refine lv_icmp_ge (tgt := 60) hx hb (show decode prog_1_method_1_code 32 = .ok (.if_icmp .ge 28, 3) by decide +kernel) (by decide) (fun q => absurd q (nI_ge (by omega) (by decide))) (fun _ => ?_)
    refine lv_aload_n hx hb (show decode prog_1_method_1_code 35 = .ok (.aload_n 0, 1) by decide +kernel) rfl (lv_at hl 1 rfl) ?_
    refine va_get (D := D) (ci := 4) (v := .ref qa) (C := cR4) (T := cT4) (N := 6) hx hb hts hu4 hown hK hP 0 rfl rfl 1 (by decide) (hts (.fieldLink (oN 4) 18 "PermitTree" "bids" "[LPermitTree$Bid;") (wAt_Om (p := 160) (by decide +kernel))) (fun _ h9 => h9) hfs (show decode prog_1_method_1_code 36 = .ok (.getfield 18, 3) by decide +kernel) ?_
    refine lv_iload_n hx hb (show decode prog_1_method_1_code 39 = .ok (.iload_n 1, 1) by decide +kernel) rfl (lv_at hl 0 rfl) ?_
    refine va_new (ci := 1) (fs := [.int 0, .int 0, .int 0, .int 0, .int 0, .int 0, .int 0, .int 0, .int 0, .int 0, .int 0]) (C := cR1) (T := cT1) (N := 11) hx hb hts hu cY1 hY hown (hts (.classLink (oN 4) 16 cR1) (wAt_Om (p := 59) (by decide +kernel))) (hts (.instantiable cR1 11) (wAt_Om (p := 61) (by decide +kernel))) (hts (.initialized cR1) (wAt_Om (p := 30) (by decide +kernel))) hK hP hD hS hA rfl df1 (by omega) (by omega) (show decode prog_1_method_1_code 40 = .ok (.new 16, 3) by decide +kernel) (fun q H hP hD hS => ?_)
    have hP := wP_perm hP List.perm_append_comm
    have hD := wD_perm hD List.perm_append_comm
    have hP : va_P D aCl ((q, .inr (1, [.int 0, .int 0, .int 0, .int 0, .int 0, .int 0, .int 0, .int 0, .int 0, .int 0, .int 0])) :: (h0, .inr (4, fs)) :: (qa, eRef cs 2 32 (upto f k)) :: (w ++ (List.range k).flatMap (fun j => fB cs j (f j)))) H := hP
    have hD : va_D A ((q, .inr (1, [.int 0, .int 0, .int 0, .int 0, .int 0, .int 0, .int 0, .int 0, .int 0, .int 0, .int 0])) :: (h0, .inr (4, fs)) :: (qa, eRef cs 2 32 (upto f k)) :: (w ++ (List.range k).flatMap (fun j => fB cs j (f j)))) := hD
    refine lv_dup hx hb (show decode prog_1_method_1_code 43 = .ok (.dup, 1) by decide +kernel) rfl ?_
    refine lv_iload_n hx hb (show decode prog_1_method_1_code 44 = .ok (.iload_n 1, 1) by decide +kernel) rfl (lv_at hl 0 rfl) ?_
    refine lv_iconst (v := nI 4) hx hb (show decode prog_1_method_1_code 45 = .ok (.iconst 4, 1) by decide +kernel) (by decide) ?_
    refine lv_idiv hx hb (show decode prog_1_method_1_code 46 = .ok (.idiv, 1) by decide +kernel) (by decide) ?_
    rw [pk_div (a := k) (d := 4) (by omega) (by decide) (by decide)]
    refine lv_iload_n hx hb (show decode prog_1_method_1_code 47 = .ok (.iload_n 1, 1) by decide +kernel) rfl (lv_at hl 0 rfl) ?_
    refine lv_iconst (v := nI 4) hx hb (show decode prog_1_method_1_code 48 = .ok (.iconst 4, 1) by decide +kernel) (by decide) ?_
    refine lv_irem hx hb (show decode prog_1_method_1_code 49 = .ok (.irem, 1) by decide +kernel) (by decide) ?_
    rw [pk_rem (a := k) (d := 4) (by omega) (by decide) (by decide)]
    refine w_leafI (n := 2) (As := [.int (nI (k / 4)), .int (nI (k % 4))]) (rest := [.ref q, .int (nI k), .ref qa]) ⟨hx, hb, hml, hown, hts⟩ (c_l1 l D cs q (nI (k / 4)) (nI (k % 4))) (wAt_Om (p := 64) (by decide +kernel)) (wAt_Om (p := 30) (by decide +kernel)) (wAt_Om (p := 63) (by decide +kernel)) rfl (by decide +kernel) (by decide) (wAt_Om (p := 62) (by decide +kernel)) hRf hRl hK hN hP hD hS hA rfl hl.1 rfl (Nat.le_of_ble_eq_true rfl) (show decode prog_1_method_1_code 50 = .ok (.invokespecial 22, 3) by decide +kernel) (by omega) (by omega) (fun u H locs hP hD hS => ?_)
    have hP : va_P D aCl ([(q, .inr (1, [.int (nI (k / 4)), .int (nI (k % 4)), .int 0, .int 0, .int 0, .int 0, .int 0, .int 0, .int 0, .int 0, .int 0]))] ++ ((h0, .inr (4, fs)) :: (qa, eRef cs 2 32 (upto f k)) :: (w ++ (List.range k).flatMap (fun j => fB cs j (f j))))) H := hP
    have hD : va_D A ([(q, .inr (1, [.int (nI (k / 4)), .int (nI (k % 4)), .int 0, .int 0, .int 0, .int 0, .int 0, .int 0, .int 0, .int 0, .int 0]))] ++ ((h0, .inr (4, fs)) :: (qa, eRef cs 2 32 (upto f k)) :: (w ++ (List.range k).flatMap (fun j => fB cs j (f j))))) := hD
    refine va_astq (r := (cR1, cT1, 11)) hx hb hK hP hD hS 2 2 0 1 rfl rfl rfl rfl (vp_in_nI (show k < 32 by omega) (by decide)) (show decode prog_1_method_1_code 53 = .ok (.aastore, 1) by decide +kernel) (fun H locs hP hD hS => ?_)
    have e1 : va_up (upto f k) (nI k).toNatClampNeg (some q) = upto (va_up f k (q, 0, 0)) (k + 1) := by
      rw [nI_clamp (by omega)]
      exact upto_succ f k (q, 0, 0)
    have e2 : w ++ (List.range (k + 1)).flatMap (fun j => fB cs j (va_up f k (q, 0, 0) j)) = (w ++ (List.range k).flatMap (fun j => fB cs j (f j))) ++ [(q, .inr (1, [.int (nI (k / 4)), .int (nI (k % 4)), .int 0, .int 0, .int 0, .int 0, .int 0, .int 0, .int 0, .int 0, .int 0]))] := by
      rw [flat_succ (fB cs) f k (q, 0, 0), List.append_assoc]
    have hP : va_P D aCl ([(q, .inr (1, [.int (nI (k / 4)), .int (nI (k % 4)), .int 0, .int 0, .int 0, .int 0, .int 0, .int 0, .int 0, .int 0, .int 0]))] ++ ((h0, .inr (4, fs)) :: (qa, eRef cs 2 32 (va_up (upto f k) (nI k).toNatClampNeg (some q))) :: (w ++ (List.range k).flatMap (fun j => fB cs j (f j))))) H := hP
    have hD : va_D A ([(q, .inr (1, [.int (nI (k / 4)), .int (nI (k % 4)), .int 0, .int 0, .int 0, .int 0, .int 0, .int 0, .int 0, .int 0, .int 0]))] ++ ((h0, .inr (4, fs)) :: (qa, eRef cs 2 32 (va_up (upto f k) (nI k).toNatClampNeg (some q))) :: (w ++ (List.range k).flatMap (fun j => fB cs j (f j))))) := hD
    rw [e1] at hP hD
    have hP := wP_perm hP List.perm_append_comm
    have hD := wD_perm hD List.perm_append_comm
    have hP : va_P D aCl ((h0, .inr (4, fs)) :: (qa, eRef cs 2 32 (upto (va_up f k (q, 0, 0)) (k + 1))) :: ((w ++ (List.range k).flatMap (fun j => fB cs j (f j))) ++ [(q, .inr (1, [.int (nI (k / 4)), .int (nI (k % 4)), .int 0, .int 0, .int 0, .int 0, .int 0, .int 0, .int 0, .int 0, .int 0]))])) H := hP
    have hD : va_D A ((h0, .inr (4, fs)) :: (qa, eRef cs 2 32 (upto (va_up f k (q, 0, 0)) (k + 1))) :: ((w ++ (List.range k).flatMap (fun j => fB cs j (f j))) ++ [(q, .inr (1, [.int (nI (k / 4)), .int (nI (k % 4)), .int 0, .int 0, .int 0, .int 0, .int 0, .int 0, .int 0, .int 0, .int 0]))])) := hD
    rw [← e2] at hP hD
    refine lv_iinc (v := nI (k + 1)) (lv' := [(1, .int (nI (k + 1))), (0, .ref h0)]) hx hb (show decode prog_1_method_1_code 54 = .ok (.iinc 1 1, 3) by decide +kernel) hl (k := 0) rfl (nI_1 k) (by decide) rfl (fun ls hl => ?_)
    refine lv_goto (tgt := 26) hx hb (show decode prog_1_method_1_code 57 = .ok (.goto (-31), 3) by decide +kernel) (by decide) ?_
    exact ih (k + 1) (by omega) (va_up f k (q, 0, 0)) H locs _ _ ls (by omega) (by omega) hP hD hS hl (fun f H locs ls h1 h2 h3 h4 => W.widen (by omega) (by omega) (kk f H locs ls h1 h2 h3 h4))
set_option maxHeartbeats 4000000 in
set_option maxRecDepth 100000 in
theorem t_loop2 {p : Program} {l : Launch} {e : Env} {R : Room} {s : State} {m : MethodId} {args : Array Value} {below : List Frame} {meth : Method} {c : Code} {Q : State → Prop} {D : va_G} {cs : Nat → ClassId} {A : Nat → Prop} (C : Ix D cs p R s m args c A) {h0 qa : Nat} {fs : List Value} (hfs : fs[2]? = some (.ref qa)) {w : va_W} :
    ∀ (n k : Nat), k + n = 60 → ∀ (f : Nat → Nat × Nat × Nat) (H : Heap) (locs : List Loc) (cells slots : Nat) (ls : Array Slot), cells + 2 * n ≤ R.cells → slots + 20 * n ≤ R.slots →
    va_P D aCl ((h0, .inr (4, fs)) :: (qa, eRef cs 3 60 (upto f k)) :: (w ++ (List.range k).flatMap (fun j => fV cs j (f j)))) H → va_D A ((h0, .inr (4, fs)) :: (qa, eRef cs 3 60 (upto f k)) :: (w ++ (List.range k).flatMap (fun j => fV cs j (f j)))) → va_S A s.heap H locs → lv_has ls 2 [(1, .int (nI k)), (0, .ref h0)] →
    (∀ (f : Nat → Nat × Nat × Nat) (H : Heap) (locs : List Loc) (ls : Array Slot), va_P D aCl ((h0, .inr (4, fs)) :: (qa, eRef cs 3 60 (fun i => some (f i).1)) :: (w ++ (List.range 60).flatMap (fun j => fV cs j (f j)))) H → va_D A ((h0, .inr (4, fs)) :: (qa, eRef cs 3 60 (fun i => some (f i).1)) :: (w ++ (List.range 60).flatMap (fun j => fV cs j (f j)))) → va_S A s.heap H locs → lv_has ls 2 [(1, .int (nI 60)), (0, .ref h0)] → W p l e R s m args below meth c H locs (cells + 2 * n) (slots + 20 * n) Q (F0 m 99 ls [])) →
    W p l e R s m args below meth c H locs cells slots Q (F0 m 71 ls []) := by
  obtain ⟨hx, hb, hml, hown, hts, hK, hN, hA, hRf, hRl⟩ := C
  have hu4 : ∀ w ∈ u_ws cR4 cT4 6, w ∈ Om := (cl_spec (ci := 4) rfl).1
  have hu : ∀ w ∈ u_ws cR0 cT0 4, w ∈ Om := (cl_spec (ci := 0) rfl).1
  have hY : ∀ k, k < 4 → parseFieldDescriptor (cT0 k).2.2.1 = some (cY0 k) := by decide +kernel
  intro n
  induction n with
  | zero =>
    intro k hk f H locs cells slots ls hc hs hP hD hS hl kk
    obtain rfl : k = 60 := by omega
    refine lv_iload_n hx hb (show decode prog_1_method_1_code 71 = .ok (.iload_n 1, 1) by decide +kernel) rfl (lv_at hl 0 rfl) ?_
    refine lv_aload_n hx hb (show decode prog_1_method_1_code 72 = .ok (.aload_n 0, 1) by decide +kernel) rfl (lv_at hl 1 rfl) ?_
    refine va_get (D := D) (ci := 4) (v := .ref qa) (C := cR4) (T := cT4) (N := 6) hx hb hts hu4 hown hK hP 0 rfl rfl 2 (by decide) (hts (.fieldLink (oN 4) 27 "PermitTree" "ballots" "[LPermitTree$Ballot;") (wAt_Om (p := 161) (by decide +kernel))) (fun _ h9 => h9) hfs (show decode prog_1_method_1_code 73 = .ok (.getfield 27, 3) by decide +kernel) ?_
    refine va_alen (v := nI 60) hx hb hK hP 1 3 rfl rfl rfl (show decode prog_1_method_1_code 76 = .ok (.arraylength, 1) by decide +kernel) ?_
    refine lv_icmp_ge (tgt := 99) hx hb (show decode prog_1_method_1_code 77 = .ok (.if_icmp .ge 22, 3) by decide +kernel) (by decide) (fun _ => ?_) (fun q => absurd (nI_le (Nat.le_refl 60) (by decide)) q)
    obtain ⟨hP, hD⟩ := w_full hP hD
    exact kk f H locs ls hP hD hS hl
  | succ n ih =>
    intro k hk f H locs cells slots ls hc hs hP hD hS hl kk
    refine lv_iload_n hx hb (show decode prog_1_method_1_code 71 = .ok (.iload_n 1, 1) by decide +kernel) rfl (lv_at hl 0 rfl) ?_
    refine lv_aload_n hx hb (show decode prog_1_method_1_code 72 = .ok (.aload_n 0, 1) by decide +kernel) rfl (lv_at hl 1 rfl) ?_
    refine va_get (D := D) (ci := 4) (v := .ref qa) (C := cR4) (T := cT4) (N := 6) hx hb hts hu4 hown hK hP 0 rfl rfl 2 (by decide) (hts (.fieldLink (oN 4) 27 "PermitTree" "ballots" "[LPermitTree$Ballot;") (wAt_Om (p := 161) (by decide +kernel))) (fun _ h9 => h9) hfs (show decode prog_1_method_1_code 73 = .ok (.getfield 27, 3) by decide +kernel) ?_
    refine va_alen (v := nI 60) hx hb hK hP 1 3 rfl rfl rfl (show decode prog_1_method_1_code 76 = .ok (.arraylength, 1) by decide +kernel) ?_
    refine lv_icmp_ge (tgt := 99) hx hb (show decode prog_1_method_1_code 77 = .ok (.if_icmp .ge 22, 3) by decide +kernel) (by decide) (fun q => absurd q (nI_ge (by omega) (by decide))) (fun _ => ?_)
    refine lv_aload_n hx hb (show decode prog_1_method_1_code 80 = .ok (.aload_n 0, 1) by decide +kernel) rfl (lv_at hl 1 rfl) ?_
    refine va_get (D := D) (ci := 4) (v := .ref qa) (C := cR4) (T := cT4) (N := 6) hx hb hts hu4 hown hK hP 0 rfl rfl 2 (by decide) (hts (.fieldLink (oN 4) 27 "PermitTree" "ballots" "[LPermitTree$Ballot;") (wAt_Om (p := 161) (by decide +kernel))) (fun _ h9 => h9) hfs (show decode prog_1_method_1_code 81 = .ok (.getfield 27, 3) by decide +kernel) ?_
    refine lv_iload_n hx hb (show decode prog_1_method_1_code 84 = .ok (.iload_n 1, 1) by decide +kernel) rfl (lv_at hl 0 rfl) ?_
    refine va_new (ci := 0) (fs := [.int 0, .int 0, .int 0, .null]) (C := cR0) (T := cT0) (N := 4) hx hb hts hu cY0 hY hown (hts (.classLink (oN 4) 25 cR0) (wAt_Om (p := 111) (by decide +kernel))) (hts (.instantiable cR0 4) (wAt_Om (p := 113) (by decide +kernel))) (hts (.initialized cR0) (wAt_Om (p := 31) (by decide +kernel))) hK hP hD hS hA rfl df0 (by omega) (by omega) (show decode prog_1_method_1_code 85 = .ok (.new 25, 3) by decide +kernel) (fun q H hP hD hS => ?_)
    have hP := wP_perm hP List.perm_append_comm
    have hD := wD_perm hD List.perm_append_comm
    have hP : va_P D aCl ((q, .inr (0, [.int 0, .int 0, .int 0, .null])) :: (h0, .inr (4, fs)) :: (qa, eRef cs 3 60 (upto f k)) :: (w ++ (List.range k).flatMap (fun j => fV cs j (f j)))) H := hP
    have hD : va_D A ((q, .inr (0, [.int 0, .int 0, .int 0, .null])) :: (h0, .inr (4, fs)) :: (qa, eRef cs 3 60 (upto f k)) :: (w ++ (List.range k).flatMap (fun j => fV cs j (f j)))) := hD
    refine lv_dup hx hb (show decode prog_1_method_1_code 88 = .ok (.dup, 1) by decide +kernel) rfl ?_
    refine w_leafN (As := []) (rest := [.ref q, .int (nI k), .ref qa]) ⟨hx, hb, hml, hown, hts⟩ (c_l0 l D cs q) (wAt_Om (p := 116) (by decide +kernel)) (wAt_Om (p := 31) (by decide +kernel)) (wAt_Om (p := 115) (by decide +kernel)) rfl (by decide +kernel) (by decide) hN.2.1 hRf hRl hK hN hP hD hS hA rfl hl.1 rfl (Nat.le_of_ble_eq_true rfl) (show decode prog_1_method_1_code 89 = .ok (.invokespecial 31, 3) by decide +kernel) (by omega) (by omega) (fun u H locs hP hD hS => ?_)
    have hP : va_P D aCl ([(q, .inr (0, [.int 0, .int 0, .int 0, .ref u.1])), (u.1, eArr cs 16)] ++ ((h0, .inr (4, fs)) :: (qa, eRef cs 3 60 (upto f k)) :: (w ++ (List.range k).flatMap (fun j => fV cs j (f j))))) H := hP
    have hD : va_D A ([(q, .inr (0, [.int 0, .int 0, .int 0, .ref u.1])), (u.1, eArr cs 16)] ++ ((h0, .inr (4, fs)) :: (qa, eRef cs 3 60 (upto f k)) :: (w ++ (List.range k).flatMap (fun j => fV cs j (f j))))) := hD
    refine va_astq (r := (cR0, cT0, 4)) hx hb hK hP hD hS 3 3 0 0 rfl rfl rfl rfl (vp_in_nI (show k < 60 by omega) (by decide)) (show decode prog_1_method_1_code 92 = .ok (.aastore, 1) by decide +kernel) (fun H locs hP hD hS => ?_)
    have e1 : va_up (upto f k) (nI k).toNatClampNeg (some q) = upto (va_up f k (q, u.1, 0)) (k + 1) := by
      rw [nI_clamp (by omega)]
      exact upto_succ f k (q, u.1, 0)
    have e2 : w ++ (List.range (k + 1)).flatMap (fun j => fV cs j (va_up f k (q, u.1, 0) j)) = (w ++ (List.range k).flatMap (fun j => fV cs j (f j))) ++ [(q, .inr (0, [.int 0, .int 0, .int 0, .ref u.1])), (u.1, eArr cs 16)] := by
      rw [flat_succ (fV cs) f k (q, u.1, 0), List.append_assoc]
    have hP : va_P D aCl ([(q, .inr (0, [.int 0, .int 0, .int 0, .ref u.1])), (u.1, eArr cs 16)] ++ ((h0, .inr (4, fs)) :: (qa, eRef cs 3 60 (va_up (upto f k) (nI k).toNatClampNeg (some q))) :: (w ++ (List.range k).flatMap (fun j => fV cs j (f j))))) H := hP
    have hD : va_D A ([(q, .inr (0, [.int 0, .int 0, .int 0, .ref u.1])), (u.1, eArr cs 16)] ++ ((h0, .inr (4, fs)) :: (qa, eRef cs 3 60 (va_up (upto f k) (nI k).toNatClampNeg (some q))) :: (w ++ (List.range k).flatMap (fun j => fV cs j (f j))))) := hD
    rw [e1] at hP hD
    have hP := wP_perm hP List.perm_append_comm
    have hD := wD_perm hD List.perm_append_comm
    have hP : va_P D aCl ((h0, .inr (4, fs)) :: (qa, eRef cs 3 60 (upto (va_up f k (q, u.1, 0)) (k + 1))) :: ((w ++ (List.range k).flatMap (fun j => fV cs j (f j))) ++ [(q, .inr (0, [.int 0, .int 0, .int 0, .ref u.1])), (u.1, eArr cs 16)])) H := hP
    have hD : va_D A ((h0, .inr (4, fs)) :: (qa, eRef cs 3 60 (upto (va_up f k (q, u.1, 0)) (k + 1))) :: ((w ++ (List.range k).flatMap (fun j => fV cs j (f j))) ++ [(q, .inr (0, [.int 0, .int 0, .int 0, .ref u.1])), (u.1, eArr cs 16)])) := hD
    rw [← e2] at hP hD
    refine lv_iinc (v := nI (k + 1)) (lv' := [(1, .int (nI (k + 1))), (0, .ref h0)]) hx hb (show decode prog_1_method_1_code 93 = .ok (.iinc 1 1, 3) by decide +kernel) hl (k := 0) rfl (nI_1 k) (by decide) rfl (fun ls hl => ?_)
    refine lv_goto (tgt := 71) hx hb (show decode prog_1_method_1_code 96 = .ok (.goto (-25), 3) by decide +kernel) (by decide) ?_
    exact ih (k + 1) (by omega) (va_up f k (q, u.1, 0)) H locs _ _ ls (by omega) (by omega) hP hD hS hl (fun f H locs ls h1 h2 h3 h4 => W.widen (by omega) (by omega) (kk f H locs ls h1 h2 h3 h4))
set_option maxHeartbeats 4000000 in
set_option maxRecDepth 100000 in
theorem t_loop3 {p : Program} {l : Launch} {e : Env} {R : Room} {s : State} {m : MethodId} {args : Array Value} {below : List Frame} {meth : Method} {c : Code} {Q : State → Prop} {D : va_G} {cs : Nat → ClassId} {A : Nat → Prop} (C : Ix D cs p R s m args c A) {h0 qa : Nat} {fs : List Value} (hfs : fs[3]? = some (.ref qa)) {w : va_W} :
    ∀ (n k : Nat), k + n = 4 → ∀ (f : Nat → Nat × Nat × Nat) (H : Heap) (locs : List Loc) (cells slots : Nat) (ls : Array Slot), cells + 3 * n ≤ R.cells → slots + 133 * n ≤ R.slots →
    va_P D aCl ((h0, .inr (4, fs)) :: (qa, eRef cs 4 4 (upto f k)) :: (w ++ (List.range k).flatMap (fun j => fL cs j (f j)))) H → va_D A ((h0, .inr (4, fs)) :: (qa, eRef cs 4 4 (upto f k)) :: (w ++ (List.range k).flatMap (fun j => fL cs j (f j)))) → va_S A s.heap H locs → lv_has ls 2 [(1, .int (nI k)), (0, .ref h0)] →
    (∀ (f : Nat → Nat × Nat × Nat) (H : Heap) (locs : List Loc) (ls : Array Slot), va_P D aCl ((h0, .inr (4, fs)) :: (qa, eRef cs 4 4 (fun i => some (f i).1)) :: (w ++ (List.range 4).flatMap (fun j => fL cs j (f j)))) H → va_D A ((h0, .inr (4, fs)) :: (qa, eRef cs 4 4 (fun i => some (f i).1)) :: (w ++ (List.range 4).flatMap (fun j => fL cs j (f j)))) → va_S A s.heap H locs → lv_has ls 2 [(1, .int (nI 4)), (0, .ref h0)] → W p l e R s m args below meth c H locs (cells + 3 * n) (slots + 133 * n) Q (F0 m 137 ls [])) →
    W p l e R s m args below meth c H locs cells slots Q (F0 m 109 ls []) := by
  obtain ⟨hx, hb, hml, hown, hts, hK, hN, hA, hRf, hRl⟩ := C
  have hu4 : ∀ w ∈ u_ws cR4 cT4 6, w ∈ Om := (cl_spec (ci := 4) rfl).1
  have hu : ∀ w ∈ u_ws cR2 cT2 5, w ∈ Om := (cl_spec (ci := 2) rfl).1
  have hY : ∀ k, k < 5 → parseFieldDescriptor (cT2 k).2.2.1 = some (cY2 k) := by decide +kernel
  intro n
  induction n with
  | zero =>
    intro k hk f H locs cells slots ls hc hs hP hD hS hl kk
    obtain rfl : k = 4 := by omega
    refine lv_iload_n hx hb (show decode prog_1_method_1_code 109 = .ok (.iload_n 1, 1) by decide +kernel) rfl (lv_at hl 0 rfl) ?_
    refine lv_aload_n hx hb (show decode prog_1_method_1_code 110 = .ok (.aload_n 0, 1) by decide +kernel) rfl (lv_at hl 1 rfl) ?_
    refine va_get (D := D) (ci := 4) (v := .ref qa) (C := cR4) (T := cT4) (N := 6) hx hb hts hu4 hown hK hP 0 rfl rfl 3 (by decide) (hts (.fieldLink (oN 4) 34 "PermitTree" "logs" "[LPermitTree$Log;") (wAt_Om (p := 162) (by decide +kernel))) (fun _ h9 => h9) hfs (show decode prog_1_method_1_code 111 = .ok (.getfield 34, 3) by decide +kernel) ?_
    refine va_alen (v := nI 4) hx hb hK hP 1 4 rfl rfl rfl (show decode prog_1_method_1_code 114 = .ok (.arraylength, 1) by decide +kernel) ?_
    refine lv_icmp_ge (tgt := 137) hx hb (show decode prog_1_method_1_code 115 = .ok (.if_icmp .ge 22, 3) by decide +kernel) (by decide) (fun _ => ?_) (fun q => absurd (nI_le (Nat.le_refl 4) (by decide)) q)
    obtain ⟨hP, hD⟩ := w_full hP hD
    exact kk f H locs ls hP hD hS hl
  | succ n ih =>
    intro k hk f H locs cells slots ls hc hs hP hD hS hl kk
    refine lv_iload_n hx hb (show decode prog_1_method_1_code 109 = .ok (.iload_n 1, 1) by decide +kernel) rfl (lv_at hl 0 rfl) ?_
    refine lv_aload_n hx hb (show decode prog_1_method_1_code 110 = .ok (.aload_n 0, 1) by decide +kernel) rfl (lv_at hl 1 rfl) ?_
    refine va_get (D := D) (ci := 4) (v := .ref qa) (C := cR4) (T := cT4) (N := 6) hx hb hts hu4 hown hK hP 0 rfl rfl 3 (by decide) (hts (.fieldLink (oN 4) 34 "PermitTree" "logs" "[LPermitTree$Log;") (wAt_Om (p := 162) (by decide +kernel))) (fun _ h9 => h9) hfs (show decode prog_1_method_1_code 111 = .ok (.getfield 34, 3) by decide +kernel) ?_
    refine va_alen (v := nI 4) hx hb hK hP 1 4 rfl rfl rfl (show decode prog_1_method_1_code 114 = .ok (.arraylength, 1) by decide +kernel) ?_
    refine lv_icmp_ge (tgt := 137) hx hb (show decode prog_1_method_1_code 115 = .ok (.if_icmp .ge 22, 3) by decide +kernel) (by decide) (fun q => absurd q (nI_ge (by omega) (by decide))) (fun _ => ?_)
    refine lv_aload_n hx hb (show decode prog_1_method_1_code 118 = .ok (.aload_n 0, 1) by decide +kernel) rfl (lv_at hl 1 rfl) ?_
    refine va_get (D := D) (ci := 4) (v := .ref qa) (C := cR4) (T := cT4) (N := 6) hx hb hts hu4 hown hK hP 0 rfl rfl 3 (by decide) (hts (.fieldLink (oN 4) 34 "PermitTree" "logs" "[LPermitTree$Log;") (wAt_Om (p := 162) (by decide +kernel))) (fun _ h9 => h9) hfs (show decode prog_1_method_1_code 119 = .ok (.getfield 34, 3) by decide +kernel) ?_
    refine lv_iload_n hx hb (show decode prog_1_method_1_code 122 = .ok (.iload_n 1, 1) by decide +kernel) rfl (lv_at hl 0 rfl) ?_
    refine va_new (ci := 2) (fs := [.int 0, .int 0, .int 0, .null, .null]) (C := cR2) (T := cT2) (N := 5) hx hb hts hu cY2 hY hown (hts (.classLink (oN 4) 32 cR2) (wAt_Om (p := 134) (by decide +kernel))) (hts (.instantiable cR2 5) (wAt_Om (p := 136) (by decide +kernel))) (hts (.initialized cR2) (wAt_Om (p := 32) (by decide +kernel))) hK hP hD hS hA rfl df2 (by omega) (by omega) (show decode prog_1_method_1_code 123 = .ok (.new 32, 3) by decide +kernel) (fun q H hP hD hS => ?_)
    have hP := wP_perm hP List.perm_append_comm
    have hD := wD_perm hD List.perm_append_comm
    have hP : va_P D aCl ((q, .inr (2, [.int 0, .int 0, .int 0, .null, .null])) :: (h0, .inr (4, fs)) :: (qa, eRef cs 4 4 (upto f k)) :: (w ++ (List.range k).flatMap (fun j => fL cs j (f j)))) H := hP
    have hD : va_D A ((q, .inr (2, [.int 0, .int 0, .int 0, .null, .null])) :: (h0, .inr (4, fs)) :: (qa, eRef cs 4 4 (upto f k)) :: (w ++ (List.range k).flatMap (fun j => fL cs j (f j)))) := hD
    refine lv_dup hx hb (show decode prog_1_method_1_code 126 = .ok (.dup, 1) by decide +kernel) rfl ?_
    refine w_leafN (As := []) (rest := [.ref q, .int (nI k), .ref qa]) ⟨hx, hb, hml, hown, hts⟩ (c_l2 l D cs q) (wAt_Om (p := 139) (by decide +kernel)) (wAt_Om (p := 32) (by decide +kernel)) (wAt_Om (p := 138) (by decide +kernel)) rfl (by decide +kernel) (by decide) hN.2.2.1 hRf hRl hK hN hP hD hS hA rfl hl.1 rfl (Nat.le_of_ble_eq_true rfl) (show decode prog_1_method_1_code 127 = .ok (.invokespecial 38, 3) by decide +kernel) (by omega) (by omega) (fun u H locs hP hD hS => ?_)
    have hP : va_P D aCl ([(q, .inr (2, [.int 0, .int 0, .int 0, .ref u.1, .ref u.2])), (u.1, eArr cs 64), (u.2, eArr cs 64)] ++ ((h0, .inr (4, fs)) :: (qa, eRef cs 4 4 (upto f k)) :: (w ++ (List.range k).flatMap (fun j => fL cs j (f j))))) H := hP
    have hD : va_D A ([(q, .inr (2, [.int 0, .int 0, .int 0, .ref u.1, .ref u.2])), (u.1, eArr cs 64), (u.2, eArr cs 64)] ++ ((h0, .inr (4, fs)) :: (qa, eRef cs 4 4 (upto f k)) :: (w ++ (List.range k).flatMap (fun j => fL cs j (f j))))) := hD
    refine va_astq (r := (cR2, cT2, 5)) hx hb hK hP hD hS 4 4 0 2 rfl rfl rfl rfl (vp_in_nI (show k < 4 by omega) (by decide)) (show decode prog_1_method_1_code 130 = .ok (.aastore, 1) by decide +kernel) (fun H locs hP hD hS => ?_)
    have e1 : va_up (upto f k) (nI k).toNatClampNeg (some q) = upto (va_up f k (q, u.1, u.2)) (k + 1) := by
      rw [nI_clamp (by omega)]
      exact upto_succ f k (q, u.1, u.2)
    have e2 : w ++ (List.range (k + 1)).flatMap (fun j => fL cs j (va_up f k (q, u.1, u.2) j)) = (w ++ (List.range k).flatMap (fun j => fL cs j (f j))) ++ [(q, .inr (2, [.int 0, .int 0, .int 0, .ref u.1, .ref u.2])), (u.1, eArr cs 64), (u.2, eArr cs 64)] := by
      rw [flat_succ (fL cs) f k (q, u.1, u.2), List.append_assoc]
    have hP : va_P D aCl ([(q, .inr (2, [.int 0, .int 0, .int 0, .ref u.1, .ref u.2])), (u.1, eArr cs 64), (u.2, eArr cs 64)] ++ ((h0, .inr (4, fs)) :: (qa, eRef cs 4 4 (va_up (upto f k) (nI k).toNatClampNeg (some q))) :: (w ++ (List.range k).flatMap (fun j => fL cs j (f j))))) H := hP
    have hD : va_D A ([(q, .inr (2, [.int 0, .int 0, .int 0, .ref u.1, .ref u.2])), (u.1, eArr cs 64), (u.2, eArr cs 64)] ++ ((h0, .inr (4, fs)) :: (qa, eRef cs 4 4 (va_up (upto f k) (nI k).toNatClampNeg (some q))) :: (w ++ (List.range k).flatMap (fun j => fL cs j (f j))))) := hD
    rw [e1] at hP hD
    have hP := wP_perm hP List.perm_append_comm
    have hD := wD_perm hD List.perm_append_comm
    have hP : va_P D aCl ((h0, .inr (4, fs)) :: (qa, eRef cs 4 4 (upto (va_up f k (q, u.1, u.2)) (k + 1))) :: ((w ++ (List.range k).flatMap (fun j => fL cs j (f j))) ++ [(q, .inr (2, [.int 0, .int 0, .int 0, .ref u.1, .ref u.2])), (u.1, eArr cs 64), (u.2, eArr cs 64)])) H := hP
    have hD : va_D A ((h0, .inr (4, fs)) :: (qa, eRef cs 4 4 (upto (va_up f k (q, u.1, u.2)) (k + 1))) :: ((w ++ (List.range k).flatMap (fun j => fL cs j (f j))) ++ [(q, .inr (2, [.int 0, .int 0, .int 0, .ref u.1, .ref u.2])), (u.1, eArr cs 64), (u.2, eArr cs 64)])) := hD
    rw [← e2] at hP hD
    refine lv_iinc (v := nI (k + 1)) (lv' := [(1, .int (nI (k + 1))), (0, .ref h0)]) hx hb (show decode prog_1_method_1_code 131 = .ok (.iinc 1 1, 3) by decide +kernel) hl (k := 0) rfl (nI_1 k) (by decide) rfl (fun ls hl => ?_)
    refine lv_goto (tgt := 109) hx hb (show decode prog_1_method_1_code 134 = .ok (.goto (-25), 3) by decide +kernel) (by decide) ?_
    exact ih (k + 1) (by omega) (va_up f k (q, u.1, u.2)) H locs _ _ ls (by omega) (by omega) hP hD hS hl (fun f H locs ls h1 h2 h3 h4 => W.widen (by omega) (by omega) (kk f H locs ls h1 h2 h3 h4))
