/-! THE LAW, from its entry (printed by wip/whole/gen12.py; head and end after the kit's skeleton) -/
theorem df4 : ∀ j, j < 6 → defaultValue (cY4 j) = vp_V [.null, .null, .null, .null, .null, .int 0] j
  | 0, _ => rfl
  | 1, _ => rfl
  | 2, _ => rfl
  | 3, _ => rfl
  | 4, _ => rfl
  | 5, _ => rfl
  | j + 6, h => absurd h (by omega)
theorem df5 : ∀ j, j < 25 → defaultValue (cY5 j) = vp_V [.int 0, .null, .null, .null, .null, .null, .null, .null, .null, .null, .null, .null, .null, .null, .null, .null, .null, .null, .null, .null, .null, .int 0, .null, .null, .null] j
  | 0, _ => rfl
  | 1, _ => rfl
  | 2, _ => rfl
  | 3, _ => rfl
  | 4, _ => rfl
  | 5, _ => rfl
  | 6, _ => rfl
  | 7, _ => rfl
  | 8, _ => rfl
  | 9, _ => rfl
  | 10, _ => rfl
  | 11, _ => rfl
  | 12, _ => rfl
  | 13, _ => rfl
  | 14, _ => rfl
  | 15, _ => rfl
  | 16, _ => rfl
  | 17, _ => rfl
  | 18, _ => rfl
  | 19, _ => rfl
  | 20, _ => rfl
  | 21, _ => rfl
  | 22, _ => rfl
  | 23, _ => rfl
  | 24, _ => rfl
  | j + 25, h => absurd h (by omega)
theorem lw_lk {ad : Nat → Nat → Nat} {b q0 q1 n : Nat} {ls : Array Slot} (hb : ad 50 0 = b) (h0 : ad 1 0 = q0) (h1 : ad 14 0 = q1) (hl : lv_has ls n [(2, .ref q1), (1, .ref q0), (0, .ref b)]) : Lk ad true ls n [(0, .inr (50, 0)), (1, .inr (1, 0)), (2, .inr (14, 0))] := by
  refine ⟨hl.1, hl.2.1, fun i v h => ?_⟩
  rw [lkO_cons] at h
  split at h
  · rename_i e
    have e : 0 = i := e
    subst e
    cases h
    exact ⟨by rw [show cv ad (.inr (50, 0)) = .ref (ad 50 0) from rfl, hb]; exact lv_at hl 2 rfl, Or.inr ⟨rfl, rfl, rfl⟩⟩
  rw [lkO_cons] at h
  split at h
  · rename_i e
    have e : 1 = i := e
    subst e
    cases h
    exact ⟨by rw [show cv ad (.inr (1, 0)) = .ref (ad 1 0) from rfl, h0]; exact lv_at hl 1 rfl, Or.inl (by decide)⟩
  rw [lkO_cons] at h
  split at h
  · rename_i e
    have e : 2 = i := e
    subst e
    cases h
    exact ⟨by rw [show cv ad (.inr (14, 0)) = .ref (ad 14 0) from rfl, h1]; exact lv_at hl 0 rfl, Or.inl (by decide)⟩
  · cases h
theorem lw_run (zs : Nat × (Nat → Int32)) (hz : zs.1 ≤ 2048) : Rn zs 9 96 (aB 96 16) [(0, .inr (50, 0)), (1, .inr (1, 0)), (2, .inr (14, 0))] [] S0 lwA :=
  Rn.s 2 (fun _ => rfl) (law_loop (d := 0) hz 512 0 S0 (by omega) (by omega) inv_zero)
set_option maxHeartbeats 4000000 in
set_option maxRecDepth 100000 in
/-- THE LAW behind its two constructors -/
theorem lw_end {p : Program} {e : Env} {s : State} {m : MethodId} {below : List Frame} {meth : Method} {c : Code} (l : Launch) {b L : Nat} {xs : Nat → Int32} (hL : L ≤ 2048) (C0 : lw_At p s m meth c b L xs) {D : va_G} {cs : Nat → ClassId} (hK : va_K D aCl (aTy cs) s) {ad : Nat → Nat → Nat} {q0 q1 : Nat} (hb0 : ad 50 0 = b) (h0 : ad 1 0 = q0) (h1 : ad 14 0 = q1) {H : Heap} {locs : List Loc} {cells slots : Nat} {ls : Array Slot} (hc : cells ≤ 600000) (hs : slots ≤ 7302250)
    (hP : va_P D aCl (aw ad cs S0) H) (hD : va_D (fun q : Nat => s.heap.size ≤ q) (aw ad cs S0)) (hS : va_S (fun q : Nat => s.heap.size ≤ q) s.heap H locs) (hl : lv_has ls 4 [(2, .ref q1), (1, .ref q0), (0, .ref b)]) : W p l e room_1 s m #[Value.ref b] below meth c H locs cells slots (lw_Z below #[Value.ref b] s) (F0 m 16 ls []) := by
  obtain ⟨hx, hb, hr, hml, hown, htl, hX, hbl, hlocks, hgv⟩ := id C0
  have hts : ∀ w ∈ Om, w.before #[Value.ref b] s = true := fun w hw => htl w (List.mem_filter.mp hw).1
  have hNe : aNest s := fun a i b' n t h hm => va_Nw.of rfl (htl _ hm)
  have hbA : ¬ (fun q : Nat => s.heap.size ≤ q) b := Nat.not_le.mpr hbl
  obtain ⟨n0, r, S', hev, hq⟩ := lw_run (L, xs) hL
  have hCx : Cx ad cs D (L, xs) p room_1 s m #[Value.ref b] c 96 9 (fun q : Nat => s.heap.size ≤ q) cells slots true := ⟨hx, hb, hml, hown, hts, hNe, hK, fun _ h => h, ⟨(Nat.le_of_ble_eq_true rfl), (Nat.le_of_ble_eq_true rfl), hc, hs⟩, fun _ => by rw [hb0]; exact ⟨hX, hbl, hbA⟩⟩
  refine snd_all ad cs D (L, xs) l n0 9 96 (aB 96 16) _ [] S0 r S' (hev n0 (Nat.le_refl _)) (aB_chk 96 16) 16 (aB_pc 96 16) p e room_1 s m _ below meth c _ cells slots true _ hCx H locs ls ⟨hP, hD, hS⟩ (lw_lk hb0 h0 h1 hl) (fun v h => by cases h) ?_
  intro H' locs' pc' ls' ins hW' hdec hro hvk
  unfold rOk at hro
  split at hro
  · cases hq
  · have hq := Sum.inl.inj (Option.some.inj hq)
    subst hq
    refine va_forget (fun q hq => hW'.2.2.2.2 q hq) ?_
    refine W.widen (k := 600000) (n := 7302250) hc hs ?_
    exact lw_ret hx hb hr hlocks hdec
  · cases hq
  · exact hro.elim
set_option maxHeartbeats 4000000 in
set_option maxRecDepth 100000 in
/-- THE LAW, from its entry -/
theorem whole_start {p : Program} {e : Env} {s : State} {m : MethodId} {below : List Frame} {meth : Method} {c : Code} (l : Launch) {b L : Nat} {xs : Nat → Int32} (hL : L ≤ 2048) (C0 : lw_At p s m meth c b L xs) : W p l e room_1 s m #[Value.ref b] below meth c s.heap [] 0 0 (lw_Z below #[Value.ref b] s) (entryFrame m ([Value.ref b] : List Value).toArray 4) := by
  obtain ⟨hx, hb, hr, hml, hown, htl, hX, hbl, hlocks, hgv⟩ := id C0
  have hts : ∀ w ∈ Om, w.before #[Value.ref b] s = true := fun w hw => htl w (List.mem_filter.mp hw).1
  have hN : cN s := n_start htl
  obtain ⟨D, cs, hK⟩ := k_start hts hN
  have hA : ∀ q : Nat, s.heap.size ≤ q → (fun q : Nat => s.heap.size ≤ q) q := fun _ h => h
  have hS : va_S (fun q : Nat => s.heap.size ≤ q) s.heap s.heap [] := va_S.rf
  have hP : va_P D aCl [] s.heap := fun k q h => by simp at h
  have hD : va_D (fun q : Nat => s.heap.size ≤ q) [] := ⟨fun i j p q h => by simp at h, fun k q h => by simp at h⟩
  have hu4 : ∀ w ∈ u_ws cR4 cT4 6, w ∈ Om := (cl_spec (ci := 4) rfl).1
  have hY4 : ∀ k, k < 6 → parseFieldDescriptor (cT4 k).2.2.1 = some (cY4 k) := by decide +kernel
  have hu5 : ∀ w ∈ u_ws cR5 cT5 25, w ∈ Om := (cl_spec (ci := 5) rfl).1
  have hY5 : ∀ k, k < 25 → parseFieldDescriptor (cT5 k).2.2.1 = some (cY5 k) := by decide +kernel
  have hl := lv_entry ([.ref b]) (n := 4) (Nat.le_of_ble_eq_true rfl)
  rw [lg_entry_eq]
  generalize (lg_sl ([.ref b]) ++ List.replicate (4 - (lg_sl ([.ref b])).length) Slot.unset).toArray = ls at hl ⊢
  have hl : lv_has ls 4 [(0, .ref b)] := hl
  refine va_new (ci := 4) (fs := [.null, .null, .null, .null, .null, .int 0]) (C := cR4) (T := cT4) (N := 6) hx hb hts hu4 cY4 hY4 hown (hts (.classLink (oN 6) 7 cR4) (wAt_Om (p := 36) (by decide +kernel))) (hts (.instantiable cR4 6) (wAt_Om (p := 37) (by decide +kernel))) (hts (.initialized cR4) (wAt_Om (p := 28) (by decide +kernel))) hK hP hD hS hA rfl df4 (Nat.le_of_ble_eq_true rfl) (Nat.le_of_ble_eq_true rfl) (show decode code 0 = .ok (.new 7, 3) by decide +kernel) (fun q0 H hP hD hS => ?_)
  have hP : va_P D aCl ((q0, .inr (4, [.null, .null, .null, .null, .null, .int 0])) :: []) H := hP
  have hD : va_D (fun q : Nat => s.heap.size ≤ q) ((q0, .inr (4, [.null, .null, .null, .null, .null, .int 0])) :: []) := hD
  refine lv_dup hx hb (show decode code 3 = .ok (.dup, 1) by decide +kernel) rfl ?_
  refine w_leafI (As := []) (rest := [.ref q0]) ⟨hx, hb, hml, hown, hts⟩ (c_t l D cs q0) (wAt_Om (p := 40) (by decide +kernel)) (wAt_Om (p := 28) (by decide +kernel)) (wAt_Om (p := 39) (by decide +kernel)) rfl (by decide +kernel) (by decide) (wAt_Om (p := 38) (by decide +kernel)) (Nat.le_of_ble_eq_true rfl) (Nat.le_of_ble_eq_true rfl) hK hN hP hD hS hA rfl hl.1 rfl (Nat.le_of_ble_eq_true rfl) (show decode code 4 = .ok (.invokespecial 9, 3) by decide +kernel) (Nat.le_of_ble_eq_true rfl) (Nat.le_of_ble_eq_true rfl) (fun u H locs hP hD hS => ?_)
  refine lv_astore_n (lv' := [(1, .ref q0), (0, .ref b)]) hx hb (show decode code 7 = .ok (.astore_n 1, 1) by decide +kernel) rfl hl (by decide) rfl (fun ls hl => ?_)
  refine va_new (ci := 5) (fs := [.int 0, .null, .null, .null, .null, .null, .null, .null, .null, .null, .null, .null, .null, .null, .null, .null, .null, .null, .null, .null, .null, .int 0, .null, .null, .null]) (C := cR5) (T := cT5) (N := 25) hx hb hts hu5 cY5 hY5 hown (hts (.classLink (oN 6) 10 cR5) (wAt_Om (p := 419) (by decide +kernel))) (hts (.instantiable cR5 25) (wAt_Om (p := 420) (by decide +kernel))) (hts (.initialized cR5) (wAt_Om (p := 33) (by decide +kernel))) hK hP hD hS hA rfl df5 (Nat.le_of_ble_eq_true rfl) (Nat.le_of_ble_eq_true rfl) (show decode code 8 = .ok (.new 10, 3) by decide +kernel) (fun q1 H hP hD hS => ?_)
  have hP := wP_perm hP List.perm_append_comm
  have hD := wD_perm hD List.perm_append_comm
  have hP : va_P D aCl ((q1, .inr (5, [.int 0, .null, .null, .null, .null, .null, .null, .null, .null, .null, .null, .null, .null, .null, .null, .null, .null, .null, .null, .null, .null, .int 0, .null, .null, .null])) :: (lW (tAu q0 u) cs tI ++ [])) H := hP
  have hD : va_D (fun q : Nat => s.heap.size ≤ q) ((q1, .inr (5, [.int 0, .null, .null, .null, .null, .null, .null, .null, .null, .null, .null, .null, .null, .null, .null, .null, .null, .null, .null, .null, .null, .int 0, .null, .null, .null])) :: (lW (tAu q0 u) cs tI ++ [])) := hD
  refine lv_dup hx hb (show decode code 11 = .ok (.dup, 1) by decide +kernel) rfl ?_
  refine w_leafI (As := []) (rest := [.ref q1]) ⟨hx, hb, hml, hown, hts⟩ (c_m l D cs q1) (wAt_Om (p := 423) (by decide +kernel)) (wAt_Om (p := 33) (by decide +kernel)) (wAt_Om (p := 422) (by decide +kernel)) rfl (by decide +kernel) (by decide) (wAt_Om (p := 421) (by decide +kernel)) (Nat.le_of_ble_eq_true rfl) (Nat.le_of_ble_eq_true rfl) hK hN hP hD hS hA rfl hl.1 rfl (Nat.le_of_ble_eq_true rfl) (show decode code 12 = .ok (.invokespecial 12, 3) by decide +kernel) (Nat.le_of_ble_eq_true rfl) (Nat.le_of_ble_eq_true rfl) (fun v H locs hP hD hS => ?_)
  refine lv_astore_n (lv' := [(2, .ref q1), (1, .ref q0), (0, .ref b)]) hx hb (show decode code 15 = .ok (.astore_n 2, 1) by decide +kernel) rfl hl (by decide) rfl (fun ls hl => ?_)
  obtain ⟨hP, hD⟩ := w_aw b hP hD
  exact lw_end l hL C0 hK (ad := jA (tAu q0 u) (mAd q1 v) b) rfl rfl rfl (Nat.le_of_ble_eq_true rfl) (Nat.le_of_ble_eq_true rfl) hP hD hS hl
