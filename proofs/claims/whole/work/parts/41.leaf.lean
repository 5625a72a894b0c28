/-! THE CONSTRUCTORS of a ballot, a bid, a log, a post (printed by wip/whole/gen8.py) -/
theorem df0 : ∀ j, j < 4 → defaultValue (cY0 j) = vp_V [.int 0, .int 0, .int 0, .null] j
  | 0, _ => rfl
  | 1, _ => rfl
  | 2, _ => rfl
  | 3, _ => rfl
  | j + 4, h => absurd h (by omega)
set_option maxHeartbeats 4000000 in
set_option maxRecDepth 100000 in
theorem c_l0 (l : Launch) (D : va_G) (cs : Nat → ClassId) (h0 : Nat) : Leaf l D cs (iY 0 "()V") prog_2_method_1_code 1 1 1 16 [] (h0, .inr (0, [.int 0, .int 0, .int 0, .null])) (fun u : Nat × Nat => [(h0, .inr (0, [.int 0, .int 0, .int 0, .ref u.1])), (u.1, eArr cs 16)]) := by
  intro sz
  refine Met.ofW (cc := prog_2_method_1_code) (maxL := 1) (ret := none) (by decide) rfl ?_
  intro p e s m args below meth c s₁ B hml hv
  obtain ⟨hargs, hsz, hP, hK, hN⟩ := hv
  have hargs : args = ([.ref h0] : List Value).toArray := hargs
  subst hargs
  have hx := B.exec
  have hb := B.bytes
  have hr := B.returns
  have hts := fun w hw => atoms_spec (ws := Cond.code (iY 0 "()V") prog_2_method_1_code 1 none :: Om) B.pre w (List.mem_cons_of_mem _ hw)
  have hown : s.vm.findClass (oN 0) = some m.cls := findClass_of_methodNamed B.named
  have hin : meth.name = "<init>" := (name_of_methodNamed B.named B.method).1
  subst hsz
  have hD : va_D (va_A [(h0, .inr (0, [.int 0, .int 0, .int 0, .null]))] s.heap.size) [(h0, .inr (0, [.int 0, .int 0, .int 0, .null]))] := wD_one (va_A.in (k := 0) rfl)
  have hA : ∀ q : Nat, s.heap.size ≤ q → va_A [(h0, .inr (0, [.int 0, .int 0, .int 0, .null]))] s.heap.size q := fun q h => Or.inr h
  unfold lfQ
  generalize hAe : va_A [(h0, .inr (0, [.int 0, .int 0, .int 0, .null]))] s.heap.size = A at hD hA ⊢
  have hS : va_S A s.heap s.heap [] := va_S.rf
  have hu : ∀ w ∈ u_ws cR0 cT0 4, w ∈ Om := (cl_spec (ci := 0) rfl).1
  have hY : ∀ k, k < 4 → parseFieldDescriptor (cT0 k).2.2.1 = some (cY0 k) := by decide +kernel
  have hnm : ∀ a, a < 4 → ∀ b, b < 4 → a ≠ b → (cT0 a).2.1 ≠ (cT0 b).2.1 := by decide +kernel
  have hl := lv_entry ([.ref h0]) (n := 1) (Nat.le_of_ble_eq_true rfl)
  rw [lg_entry_eq]
  generalize (lg_sl ([.ref h0]) ++ List.replicate (1 - (lg_sl ([.ref h0])).length) Slot.unset).toArray = ls at hl ⊢
  have hl : lv_has ls 1 [(0, .ref h0)] := hl
  refine lv_aload_n hx hb (show decode prog_2_method_1_code 0 = .ok (.aload_n 0, 1) by decide +kernel) rfl (lv_at hl 0 rfl) ?_
  refine W.objInit hx hb hown (hts (.methodLink (oN 0) 3 objectInit) (wAt_Om (p := 117) (by decide +kernel))) (hts (.instanceMethod objectInit) (wAt_Om (p := 42) (by decide +kernel))) (hts (.code objectInit ⟨#[0xb1]⟩ 1 none) (wAt_Om (p := 43) (by decide +kernel))) rfl (by rw [hml]; exact hl.1) rfl (show decode prog_2_method_1_code 1 = .ok (.invokespecial 3, 3) by decide +kernel) (Nat.le_of_ble_eq_true rfl) (Nat.le_of_ble_eq_true rfl) ?_
  refine W.eq (g2 := F0 m 4 ls []) rfl ?_
  refine lv_aload_n hx hb (show decode prog_2_method_1_code 4 = .ok (.aload_n 0, 1) by decide +kernel) rfl (lv_at hl 0 rfl) ?_
  refine lv_iconst (v := 0) hx hb (show decode prog_2_method_1_code 5 = .ok (.iconst 0, 1) by decide +kernel) (by decide) ?_
  refine va_put (D := D) (ci := 0) (v := .int 0) (ty := .int) (C := cR0) (T := cT0) (N := 4) hx hb hts hu cY0 hY hnm hown hK hP hD hS 0 rfl rfl 0 (by decide) (hts (.fieldLink (oN 0) 11 "PermitTree$Ballot" "holder" "I") (wAt_Om (p := 118) (by decide +kernel))) (fun _ h9 => h9) rfl (by decide +kernel) rfl rfl (Nat.le_of_ble_eq_true rfl) (show decode prog_2_method_1_code 6 = .ok (.putfield 11, 3) by decide +kernel) (fun H locs hP hD hS => ?_)
  have hP : va_P D aCl [(h0, .inr (0, [.int 0, .int 0, .int 0, .null]))] H := hP
  have hD : va_D A [(h0, .inr (0, [.int 0, .int 0, .int 0, .null]))] := hD
  refine lv_aload_n hx hb (show decode prog_2_method_1_code 9 = .ok (.aload_n 0, 1) by decide +kernel) rfl (lv_at hl 0 rfl) ?_
  refine lv_iconst (v := 0) hx hb (show decode prog_2_method_1_code 10 = .ok (.iconst 0, 1) by decide +kernel) (by decide) ?_
  refine va_put (D := D) (ci := 0) (v := .int 0) (ty := .int) (C := cR0) (T := cT0) (N := 4) hx hb hts hu cY0 hY hnm hown hK hP hD hS 0 rfl rfl 1 (by decide) (hts (.fieldLink (oN 0) 15 "PermitTree$Ballot" "stored" "I") (wAt_Om (p := 120) (by decide +kernel))) (fun _ h9 => h9) rfl (by decide +kernel) rfl rfl (Nat.le_of_ble_eq_true rfl) (show decode prog_2_method_1_code 11 = .ok (.putfield 15, 3) by decide +kernel) (fun H locs hP hD hS => ?_)
  have hP : va_P D aCl [(h0, .inr (0, [.int 0, .int 0, .int 0, .null]))] H := hP
  have hD : va_D A [(h0, .inr (0, [.int 0, .int 0, .int 0, .null]))] := hD
  refine lv_aload_n hx hb (show decode prog_2_method_1_code 14 = .ok (.aload_n 0, 1) by decide +kernel) rfl (lv_at hl 0 rfl) ?_
  refine lv_iconst (v := 0) hx hb (show decode prog_2_method_1_code 15 = .ok (.iconst 0, 1) by decide +kernel) (by decide) ?_
  refine va_put (D := D) (ci := 0) (v := .int 0) (ty := .int) (C := cR0) (T := cT0) (N := 4) hx hb hts hu cY0 hY hnm hown hK hP hD hS 0 rfl rfl 2 (by decide) (hts (.fieldLink (oN 0) 18 "PermitTree$Ballot" "waiting" "I") (wAt_Om (p := 122) (by decide +kernel))) (fun _ h9 => h9) rfl (by decide +kernel) rfl rfl (Nat.le_of_ble_eq_true rfl) (show decode prog_2_method_1_code 16 = .ok (.putfield 18, 3) by decide +kernel) (fun H locs hP hD hS => ?_)
  have hP : va_P D aCl [(h0, .inr (0, [.int 0, .int 0, .int 0, .null]))] H := hP
  have hD : va_D A [(h0, .inr (0, [.int 0, .int 0, .int 0, .null]))] := hD
  refine lv_aload_n hx hb (show decode prog_2_method_1_code 19 = .ok (.aload_n 0, 1) by decide +kernel) rfl (lv_at hl 0 rfl) ?_
  refine lv_bipush (v := nI 16) hx hb (show decode prog_2_method_1_code 20 = .ok (.bipush 16, 2) by decide +kernel) (by decide) ?_
  refine w_newi hx hb (hts (.arrayClass .int) (wAt_Om (p := 58) (by decide +kernel))) hK hP hD hS hA 16 (by decide) (Nat.le_of_ble_eq_true rfl) (Nat.le_of_ble_eq_true rfl) (show decode prog_2_method_1_code 22 = .ok (.newarray .int, 2) by decide +kernel) (fun q22 H hP hD hS => ?_)
  have hP : va_P D aCl [(h0, .inr (0, [.int 0, .int 0, .int 0, .null])), (q22, eArr cs 16)] H := hP
  have hD : va_D A [(h0, .inr (0, [.int 0, .int 0, .int 0, .null])), (q22, eArr cs 16)] := hD
  refine va_putF (D := D) (ci := 0) (v := .ref q22) (ty := (.array .int)) (C := cR0) (T := cT0) (N := 4) hx hb hts hu cY0 hY hnm hown hK hP hD hS 0 rfl rfl 3 (by decide) (hts (.fieldLink (oN 0) 21 "PermitTree$Ballot" "row" "[I") (wAt_Om (p := 124) (by decide +kernel))) (fun _ h9 => h9) rfl hin rfl (by decide +kernel) rfl rfl (Nat.le_of_ble_eq_true rfl) (show decode prog_2_method_1_code 24 = .ok (.putfield 21, 3) by decide +kernel) (fun H locs hP hD hS => ?_)
  have hP : va_P D aCl [(h0, .inr (0, [.int 0, .int 0, .int 0, .ref q22])), (q22, eArr cs 16)] H := hP
  have hD : va_D A [(h0, .inr (0, [.int 0, .int 0, .int 0, .ref q22])), (q22, eArr cs 16)] := hD
  refine W.widen (k := 1) (n := 16) (Nat.le_of_ble_eq_true rfl) (Nat.le_of_ble_eq_true rfl) ?_
  exact W.vret hx hb hr (fun t ht hW => ⟨⟨(q22, 0), rfl, trivial, by rw [ht]; exact hP, hD⟩, hS.F ht⟩) hS.2.2 (show decode prog_2_method_1_code 27 = .ok (.return_, 1) by decide +kernel)
theorem df1 : ∀ j, j < 11 → defaultValue (cY1 j) = vp_V [.int 0, .int 0, .int 0, .int 0, .int 0, .int 0, .int 0, .int 0, .int 0, .int 0, .int 0] j
  | 0, _ => rfl
  | 1, _ => rfl
  | 2, _ => rfl
  | 3, _ => rfl
  | 4, _ => rfl
  | 5, _ => rfl
  | 6, _ => rfl
  | 7, _ => rfl
  | 8, _ => rfl
  | 9, _ => rfl
  | 10, _ => rfl
  | j + 11, h => absurd h (by omega)
set_option maxHeartbeats 4000000 in
set_option maxRecDepth 100000 in
theorem c_l1 (l : Launch) (D : va_G) (cs : Nat → ClassId) (h0 : Nat) (p0 : Int32) (p1 : Int32) : Leaf l D cs (iY 1 "(II)V") prog_3_method_1_code 3 1 0 0 [.int p0, .int p1] (h0, .inr (1, [.int 0, .int 0, .int 0, .int 0, .int 0, .int 0, .int 0, .int 0, .int 0, .int 0, .int 0])) (fun _ : Nat × Nat => [(h0, .inr (1, [.int p0, .int p1, .int 0, .int 0, .int 0, .int 0, .int 0, .int 0, .int 0, .int 0, .int 0]))]) := by
  intro sz
  refine Met.ofW (cc := prog_3_method_1_code) (maxL := 3) (ret := none) (by decide) rfl ?_
  intro p e s m args below meth c s₁ B hml hv
  obtain ⟨hargs, hsz, hP, hK, hN⟩ := hv
  have hargs : args = ([.ref h0, .int p0, .int p1] : List Value).toArray := hargs
  subst hargs
  have hx := B.exec
  have hb := B.bytes
  have hr := B.returns
  have hts := fun w hw => atoms_spec (ws := Cond.code (iY 1 "(II)V") prog_3_method_1_code 3 none :: Om) B.pre w (List.mem_cons_of_mem _ hw)
  have hown : s.vm.findClass (oN 1) = some m.cls := findClass_of_methodNamed B.named
  have hin : meth.name = "<init>" := (name_of_methodNamed B.named B.method).1
  subst hsz
  have hD : va_D (va_A [(h0, .inr (1, [.int 0, .int 0, .int 0, .int 0, .int 0, .int 0, .int 0, .int 0, .int 0, .int 0, .int 0]))] s.heap.size) [(h0, .inr (1, [.int 0, .int 0, .int 0, .int 0, .int 0, .int 0, .int 0, .int 0, .int 0, .int 0, .int 0]))] := wD_one (va_A.in (k := 0) rfl)
  have hA : ∀ q : Nat, s.heap.size ≤ q → va_A [(h0, .inr (1, [.int 0, .int 0, .int 0, .int 0, .int 0, .int 0, .int 0, .int 0, .int 0, .int 0, .int 0]))] s.heap.size q := fun q h => Or.inr h
  unfold lfQ
  generalize hAe : va_A [(h0, .inr (1, [.int 0, .int 0, .int 0, .int 0, .int 0, .int 0, .int 0, .int 0, .int 0, .int 0, .int 0]))] s.heap.size = A at hD hA ⊢
  have hS : va_S A s.heap s.heap [] := va_S.rf
  have hu : ∀ w ∈ u_ws cR1 cT1 11, w ∈ Om := (cl_spec (ci := 1) rfl).1
  have hY : ∀ k, k < 11 → parseFieldDescriptor (cT1 k).2.2.1 = some (cY1 k) := by decide +kernel
  have hnm : ∀ a, a < 11 → ∀ b, b < 11 → a ≠ b → (cT1 a).2.1 ≠ (cT1 b).2.1 := by decide +kernel
  have hl := lv_entry ([.ref h0, .int p0, .int p1]) (n := 3) (Nat.le_of_ble_eq_true rfl)
  rw [lg_entry_eq]
  generalize (lg_sl ([.ref h0, .int p0, .int p1]) ++ List.replicate (3 - (lg_sl ([.ref h0, .int p0, .int p1])).length) Slot.unset).toArray = ls at hl ⊢
  have hl : lv_has ls 3 [(0, .ref h0), (1, .int p0), (2, .int p1)] := hl
  refine lv_aload_n hx hb (show decode prog_3_method_1_code 0 = .ok (.aload_n 0, 1) by decide +kernel) rfl (lv_at hl 0 rfl) ?_
  refine W.objInit hx hb hown (hts (.methodLink (oN 1) 3 objectInit) (wAt_Om (p := 65) (by decide +kernel))) (hts (.instanceMethod objectInit) (wAt_Om (p := 42) (by decide +kernel))) (hts (.code objectInit ⟨#[0xb1]⟩ 1 none) (wAt_Om (p := 43) (by decide +kernel))) rfl (by rw [hml]; exact hl.1) rfl (show decode prog_3_method_1_code 1 = .ok (.invokespecial 3, 3) by decide +kernel) (Nat.le_of_ble_eq_true rfl) (Nat.le_of_ble_eq_true rfl) ?_
  refine W.eq (g2 := F0 m 4 ls []) rfl ?_
  refine lv_aload_n hx hb (show decode prog_3_method_1_code 4 = .ok (.aload_n 0, 1) by decide +kernel) rfl (lv_at hl 0 rfl) ?_
  refine lv_iconst (v := 0) hx hb (show decode prog_3_method_1_code 5 = .ok (.iconst 0, 1) by decide +kernel) (by decide) ?_
  refine va_put (D := D) (ci := 1) (v := .int 0) (ty := .int) (C := cR1) (T := cT1) (N := 11) hx hb hts hu cY1 hY hnm hown hK hP hD hS 0 rfl rfl 2 (by decide) (hts (.fieldLink (oN 1) 9 "PermitTree$Bid" "state" "I") (wAt_Om (p := 70) (by decide +kernel))) (fun _ h9 => h9) rfl (by decide +kernel) rfl rfl (Nat.le_of_ble_eq_true rfl) (show decode prog_3_method_1_code 6 = .ok (.putfield 9, 3) by decide +kernel) (fun H locs hP hD hS => ?_)
  have hP : va_P D aCl [(h0, .inr (1, [.int 0, .int 0, .int 0, .int 0, .int 0, .int 0, .int 0, .int 0, .int 0, .int 0, .int 0]))] H := hP
  have hD : va_D A [(h0, .inr (1, [.int 0, .int 0, .int 0, .int 0, .int 0, .int 0, .int 0, .int 0, .int 0, .int 0, .int 0]))] := hD
  refine lv_aload_n hx hb (show decode prog_3_method_1_code 9 = .ok (.aload_n 0, 1) by decide +kernel) rfl (lv_at hl 0 rfl) ?_
  refine lv_iconst (v := 0) hx hb (show decode prog_3_method_1_code 10 = .ok (.iconst 0, 1) by decide +kernel) (by decide) ?_
  refine va_put (D := D) (ci := 1) (v := .int 0) (ty := .int) (C := cR1) (T := cT1) (N := 11) hx hb hts hu cY1 hY hnm hown hK hP hD hS 0 rfl rfl 3 (by decide) (hts (.fieldLink (oN 1) 15 "PermitTree$Bid" "run" "I") (wAt_Om (p := 72) (by decide +kernel))) (fun _ h9 => h9) rfl (by decide +kernel) rfl rfl (Nat.le_of_ble_eq_true rfl) (show decode prog_3_method_1_code 11 = .ok (.putfield 15, 3) by decide +kernel) (fun H locs hP hD hS => ?_)
  have hP : va_P D aCl [(h0, .inr (1, [.int 0, .int 0, .int 0, .int 0, .int 0, .int 0, .int 0, .int 0, .int 0, .int 0, .int 0]))] H := hP
  have hD : va_D A [(h0, .inr (1, [.int 0, .int 0, .int 0, .int 0, .int 0, .int 0, .int 0, .int 0, .int 0, .int 0, .int 0]))] := hD
  refine lv_aload_n hx hb (show decode prog_3_method_1_code 14 = .ok (.aload_n 0, 1) by decide +kernel) rfl (lv_at hl 0 rfl) ?_
  refine lv_iconst (v := 0) hx hb (show decode prog_3_method_1_code 15 = .ok (.iconst 0, 1) by decide +kernel) (by decide) ?_
  refine va_put (D := D) (ci := 1) (v := .int 0) (ty := .int) (C := cR1) (T := cT1) (N := 11) hx hb hts hu cY1 hY hnm hown hK hP hD hS 0 rfl rfl 4 (by decide) (hts (.fieldLink (oN 1) 18 "PermitTree$Bid" "number" "I") (wAt_Om (p := 74) (by decide +kernel))) (fun _ h9 => h9) rfl (by decide +kernel) rfl rfl (Nat.le_of_ble_eq_true rfl) (show decode prog_3_method_1_code 16 = .ok (.putfield 18, 3) by decide +kernel) (fun H locs hP hD hS => ?_)
  have hP : va_P D aCl [(h0, .inr (1, [.int 0, .int 0, .int 0, .int 0, .int 0, .int 0, .int 0, .int 0, .int 0, .int 0, .int 0]))] H := hP
  have hD : va_D A [(h0, .inr (1, [.int 0, .int 0, .int 0, .int 0, .int 0, .int 0, .int 0, .int 0, .int 0, .int 0, .int 0]))] := hD
  refine lv_aload_n hx hb (show decode prog_3_method_1_code 19 = .ok (.aload_n 0, 1) by decide +kernel) rfl (lv_at hl 0 rfl) ?_
  refine lv_iconst (v := 0) hx hb (show decode prog_3_method_1_code 20 = .ok (.iconst 0, 1) by decide +kernel) (by decide) ?_
  refine va_put (D := D) (ci := 1) (v := .int 0) (ty := .int) (C := cR1) (T := cT1) (N := 11) hx hb hts hu cY1 hY hnm hown hK hP hD hS 0 rfl rfl 5 (by decide) (hts (.fieldLink (oN 1) 21 "PermitTree$Bid" "greatest" "I") (wAt_Om (p := 76) (by decide +kernel))) (fun _ h9 => h9) rfl (by decide +kernel) rfl rfl (Nat.le_of_ble_eq_true rfl) (show decode prog_3_method_1_code 21 = .ok (.putfield 21, 3) by decide +kernel) (fun H locs hP hD hS => ?_)
  have hP : va_P D aCl [(h0, .inr (1, [.int 0, .int 0, .int 0, .int 0, .int 0, .int 0, .int 0, .int 0, .int 0, .int 0, .int 0]))] H := hP
  have hD : va_D A [(h0, .inr (1, [.int 0, .int 0, .int 0, .int 0, .int 0, .int 0, .int 0, .int 0, .int 0, .int 0, .int 0]))] := hD
  refine lv_aload_n hx hb (show decode prog_3_method_1_code 24 = .ok (.aload_n 0, 1) by decide +kernel) rfl (lv_at hl 0 rfl) ?_
  refine lv_iconst (v := 0) hx hb (show decode prog_3_method_1_code 25 = .ok (.iconst 0, 1) by decide +kernel) (by decide) ?_
  refine va_put (D := D) (ci := 1) (v := .int 0) (ty := .int) (C := cR1) (T := cT1) (N := 11) hx hb hts hu cY1 hY hnm hown hK hP hD hS 0 rfl rfl 6 (by decide) (hts (.fieldLink (oN 1) 24 "PermitTree$Bid" "silent" "I") (wAt_Om (p := 78) (by decide +kernel))) (fun _ h9 => h9) rfl (by decide +kernel) rfl rfl (Nat.le_of_ble_eq_true rfl) (show decode prog_3_method_1_code 26 = .ok (.putfield 24, 3) by decide +kernel) (fun H locs hP hD hS => ?_)
  have hP : va_P D aCl [(h0, .inr (1, [.int 0, .int 0, .int 0, .int 0, .int 0, .int 0, .int 0, .int 0, .int 0, .int 0, .int 0]))] H := hP
  have hD : va_D A [(h0, .inr (1, [.int 0, .int 0, .int 0, .int 0, .int 0, .int 0, .int 0, .int 0, .int 0, .int 0, .int 0]))] := hD
  refine lv_aload_n hx hb (show decode prog_3_method_1_code 29 = .ok (.aload_n 0, 1) by decide +kernel) rfl (lv_at hl 0 rfl) ?_
  refine lv_iconst (v := 0) hx hb (show decode prog_3_method_1_code 30 = .ok (.iconst 0, 1) by decide +kernel) (by decide) ?_
  refine va_put (D := D) (ci := 1) (v := .int 0) (ty := .int) (C := cR1) (T := cT1) (N := 11) hx hb hts hu cY1 hY hnm hown hK hP hD hS 0 rfl rfl 7 (by decide) (hts (.fieldLink (oN 1) 27 "PermitTree$Bid" "route" "I") (wAt_Om (p := 80) (by decide +kernel))) (fun _ h9 => h9) rfl (by decide +kernel) rfl rfl (Nat.le_of_ble_eq_true rfl) (show decode prog_3_method_1_code 31 = .ok (.putfield 27, 3) by decide +kernel) (fun H locs hP hD hS => ?_)
  have hP : va_P D aCl [(h0, .inr (1, [.int 0, .int 0, .int 0, .int 0, .int 0, .int 0, .int 0, .int 0, .int 0, .int 0, .int 0]))] H := hP
  have hD : va_D A [(h0, .inr (1, [.int 0, .int 0, .int 0, .int 0, .int 0, .int 0, .int 0, .int 0, .int 0, .int 0, .int 0]))] := hD
  refine lv_aload_n hx hb (show decode prog_3_method_1_code 34 = .ok (.aload_n 0, 1) by decide +kernel) rfl (lv_at hl 0 rfl) ?_
  refine lv_iconst (v := 0) hx hb (show decode prog_3_method_1_code 35 = .ok (.iconst 0, 1) by decide +kernel) (by decide) ?_
  refine va_put (D := D) (ci := 1) (v := .int 0) (ty := .int) (C := cR1) (T := cT1) (N := 11) hx hb hts hu cY1 hY hnm hown hK hP hD hS 0 rfl rfl 8 (by decide) (hts (.fieldLink (oN 1) 30 "PermitTree$Bid" "asked" "I") (wAt_Om (p := 82) (by decide +kernel))) (fun _ h9 => h9) rfl (by decide +kernel) rfl rfl (Nat.le_of_ble_eq_true rfl) (show decode prog_3_method_1_code 36 = .ok (.putfield 30, 3) by decide +kernel) (fun H locs hP hD hS => ?_)
  have hP : va_P D aCl [(h0, .inr (1, [.int 0, .int 0, .int 0, .int 0, .int 0, .int 0, .int 0, .int 0, .int 0, .int 0, .int 0]))] H := hP
  have hD : va_D A [(h0, .inr (1, [.int 0, .int 0, .int 0, .int 0, .int 0, .int 0, .int 0, .int 0, .int 0, .int 0, .int 0]))] := hD
  refine lv_aload_n hx hb (show decode prog_3_method_1_code 39 = .ok (.aload_n 0, 1) by decide +kernel) rfl (lv_at hl 0 rfl) ?_
  refine lv_iconst (v := 0) hx hb (show decode prog_3_method_1_code 40 = .ok (.iconst 0, 1) by decide +kernel) (by decide) ?_
  refine va_put (D := D) (ci := 1) (v := .int 0) (ty := .int) (C := cR1) (T := cT1) (N := 11) hx hb hts hu cY1 hY hnm hown hK hP hD hS 0 rfl rfl 9 (by decide) (hts (.fieldLink (oN 1) 33 "PermitTree$Bid" "votes" "I") (wAt_Om (p := 84) (by decide +kernel))) (fun _ h9 => h9) rfl (by decide +kernel) rfl rfl (Nat.le_of_ble_eq_true rfl) (show decode prog_3_method_1_code 41 = .ok (.putfield 33, 3) by decide +kernel) (fun H locs hP hD hS => ?_)
  have hP : va_P D aCl [(h0, .inr (1, [.int 0, .int 0, .int 0, .int 0, .int 0, .int 0, .int 0, .int 0, .int 0, .int 0, .int 0]))] H := hP
  have hD : va_D A [(h0, .inr (1, [.int 0, .int 0, .int 0, .int 0, .int 0, .int 0, .int 0, .int 0, .int 0, .int 0, .int 0]))] := hD
  refine lv_aload_n hx hb (show decode prog_3_method_1_code 44 = .ok (.aload_n 0, 1) by decide +kernel) rfl (lv_at hl 0 rfl) ?_
  refine lv_iconst (v := 0) hx hb (show decode prog_3_method_1_code 45 = .ok (.iconst 0, 1) by decide +kernel) (by decide) ?_
  refine va_put (D := D) (ci := 1) (v := .int 0) (ty := .int) (C := cR1) (T := cT1) (N := 11) hx hb hts hu cY1 hY hnm hown hK hP hD hS 0 rfl rfl 10 (by decide) (hts (.fieldLink (oN 1) 36 "PermitTree$Bid" "stored" "I") (wAt_Om (p := 86) (by decide +kernel))) (fun _ h9 => h9) rfl (by decide +kernel) rfl rfl (Nat.le_of_ble_eq_true rfl) (show decode prog_3_method_1_code 46 = .ok (.putfield 36, 3) by decide +kernel) (fun H locs hP hD hS => ?_)
  have hP : va_P D aCl [(h0, .inr (1, [.int 0, .int 0, .int 0, .int 0, .int 0, .int 0, .int 0, .int 0, .int 0, .int 0, .int 0]))] H := hP
  have hD : va_D A [(h0, .inr (1, [.int 0, .int 0, .int 0, .int 0, .int 0, .int 0, .int 0, .int 0, .int 0, .int 0, .int 0]))] := hD
  refine lv_aload_n hx hb (show decode prog_3_method_1_code 49 = .ok (.aload_n 0, 1) by decide +kernel) rfl (lv_at hl 0 rfl) ?_
  refine lv_iload_n hx hb (show decode prog_3_method_1_code 50 = .ok (.iload_n 1, 1) by decide +kernel) rfl (lv_at hl 1 rfl) ?_
  refine va_putF (D := D) (ci := 1) (v := .int p0) (ty := .int) (C := cR1) (T := cT1) (N := 11) hx hb hts hu cY1 hY hnm hown hK hP hD hS 0 rfl rfl 0 (by decide) (hts (.fieldLink (oN 1) 39 "PermitTree$Bid" "client" "I") (wAt_Om (p := 66) (by decide +kernel))) (fun _ h9 => h9) rfl hin rfl (by decide +kernel) rfl rfl (Nat.le_of_ble_eq_true rfl) (show decode prog_3_method_1_code 51 = .ok (.putfield 39, 3) by decide +kernel) (fun H locs hP hD hS => ?_)
  have hP : va_P D aCl [(h0, .inr (1, [.int p0, .int 0, .int 0, .int 0, .int 0, .int 0, .int 0, .int 0, .int 0, .int 0, .int 0]))] H := hP
  have hD : va_D A [(h0, .inr (1, [.int p0, .int 0, .int 0, .int 0, .int 0, .int 0, .int 0, .int 0, .int 0, .int 0, .int 0]))] := hD
  refine lv_aload_n hx hb (show decode prog_3_method_1_code 54 = .ok (.aload_n 0, 1) by decide +kernel) rfl (lv_at hl 0 rfl) ?_
  refine lv_iload_n hx hb (show decode prog_3_method_1_code 55 = .ok (.iload_n 2, 1) by decide +kernel) rfl (lv_at hl 2 rfl) ?_
  refine va_putF (D := D) (ci := 1) (v := .int p1) (ty := .int) (C := cR1) (T := cT1) (N := 11) hx hb hts hu cY1 hY hnm hown hK hP hD hS 0 rfl rfl 1 (by decide) (hts (.fieldLink (oN 1) 42 "PermitTree$Bid" "crane" "I") (wAt_Om (p := 68) (by decide +kernel))) (fun _ h9 => h9) rfl hin rfl (by decide +kernel) rfl rfl (Nat.le_of_ble_eq_true rfl) (show decode prog_3_method_1_code 56 = .ok (.putfield 42, 3) by decide +kernel) (fun H locs hP hD hS => ?_)
  have hP : va_P D aCl [(h0, .inr (1, [.int p0, .int p1, .int 0, .int 0, .int 0, .int 0, .int 0, .int 0, .int 0, .int 0, .int 0]))] H := hP
  have hD : va_D A [(h0, .inr (1, [.int p0, .int p1, .int 0, .int 0, .int 0, .int 0, .int 0, .int 0, .int 0, .int 0, .int 0]))] := hD
  refine W.widen (k := 0) (n := 0) (Nat.le_of_ble_eq_true rfl) (Nat.le_of_ble_eq_true rfl) ?_
  exact W.vret hx hb hr (fun t ht hW => ⟨⟨(0, 0), rfl, trivial, by rw [ht]; exact hP, hD⟩, hS.F ht⟩) hS.2.2 (show decode prog_3_method_1_code 59 = .ok (.return_, 1) by decide +kernel)
theorem df2 : ∀ j, j < 5 → defaultValue (cY2 j) = vp_V [.int 0, .int 0, .int 0, .null, .null] j
  | 0, _ => rfl
  | 1, _ => rfl
  | 2, _ => rfl
  | 3, _ => rfl
  | 4, _ => rfl
  | j + 5, h => absurd h (by omega)
set_option maxHeartbeats 4000000 in
set_option maxRecDepth 100000 in
theorem c_l2 (l : Launch) (D : va_G) (cs : Nat → ClassId) (h0 : Nat) : Leaf l D cs (iY 2 "()V") prog_4_method_1_code 1 1 2 128 [] (h0, .inr (2, [.int 0, .int 0, .int 0, .null, .null])) (fun u : Nat × Nat => [(h0, .inr (2, [.int 0, .int 0, .int 0, .ref u.1, .ref u.2])), (u.1, eArr cs 64), (u.2, eArr cs 64)]) := by
  intro sz
  refine Met.ofW (cc := prog_4_method_1_code) (maxL := 1) (ret := none) (by decide) rfl ?_
  intro p e s m args below meth c s₁ B hml hv
  obtain ⟨hargs, hsz, hP, hK, hN⟩ := hv
  have hargs : args = ([.ref h0] : List Value).toArray := hargs
  subst hargs
  have hx := B.exec
  have hb := B.bytes
  have hr := B.returns
  have hts := fun w hw => atoms_spec (ws := Cond.code (iY 2 "()V") prog_4_method_1_code 1 none :: Om) B.pre w (List.mem_cons_of_mem _ hw)
  have hown : s.vm.findClass (oN 2) = some m.cls := findClass_of_methodNamed B.named
  have hin : meth.name = "<init>" := (name_of_methodNamed B.named B.method).1
  subst hsz
  have hD : va_D (va_A [(h0, .inr (2, [.int 0, .int 0, .int 0, .null, .null]))] s.heap.size) [(h0, .inr (2, [.int 0, .int 0, .int 0, .null, .null]))] := wD_one (va_A.in (k := 0) rfl)
  have hA : ∀ q : Nat, s.heap.size ≤ q → va_A [(h0, .inr (2, [.int 0, .int 0, .int 0, .null, .null]))] s.heap.size q := fun q h => Or.inr h
  unfold lfQ
  generalize hAe : va_A [(h0, .inr (2, [.int 0, .int 0, .int 0, .null, .null]))] s.heap.size = A at hD hA ⊢
  have hS : va_S A s.heap s.heap [] := va_S.rf
  have hu : ∀ w ∈ u_ws cR2 cT2 5, w ∈ Om := (cl_spec (ci := 2) rfl).1
  have hY : ∀ k, k < 5 → parseFieldDescriptor (cT2 k).2.2.1 = some (cY2 k) := by decide +kernel
  have hnm : ∀ a, a < 5 → ∀ b, b < 5 → a ≠ b → (cT2 a).2.1 ≠ (cT2 b).2.1 := by decide +kernel
  have hl := lv_entry ([.ref h0]) (n := 1) (Nat.le_of_ble_eq_true rfl)
  rw [lg_entry_eq]
  generalize (lg_sl ([.ref h0]) ++ List.replicate (1 - (lg_sl ([.ref h0])).length) Slot.unset).toArray = ls at hl ⊢
  have hl : lv_has ls 1 [(0, .ref h0)] := hl
  refine lv_aload_n hx hb (show decode prog_4_method_1_code 0 = .ok (.aload_n 0, 1) by decide +kernel) rfl (lv_at hl 0 rfl) ?_
  refine W.objInit hx hb hown (hts (.methodLink (oN 2) 1 objectInit) (wAt_Om (p := 140) (by decide +kernel))) (hts (.instanceMethod objectInit) (wAt_Om (p := 42) (by decide +kernel))) (hts (.code objectInit ⟨#[0xb1]⟩ 1 none) (wAt_Om (p := 43) (by decide +kernel))) rfl (by rw [hml]; exact hl.1) rfl (show decode prog_4_method_1_code 1 = .ok (.invokespecial 1, 3) by decide +kernel) (Nat.le_of_ble_eq_true rfl) (Nat.le_of_ble_eq_true rfl) ?_
  refine W.eq (g2 := F0 m 4 ls []) rfl ?_
  refine lv_aload_n hx hb (show decode prog_4_method_1_code 4 = .ok (.aload_n 0, 1) by decide +kernel) rfl (lv_at hl 0 rfl) ?_
  refine lv_iconst (v := 0) hx hb (show decode prog_4_method_1_code 5 = .ok (.iconst 0, 1) by decide +kernel) (by decide) ?_
  refine va_put (D := D) (ci := 2) (v := .int 0) (ty := .int) (C := cR2) (T := cT2) (N := 5) hx hb hts hu cY2 hY hnm hown hK hP hD hS 0 rfl rfl 0 (by decide) (hts (.fieldLink (oN 2) 7 "PermitTree$Log" "highest" "I") (wAt_Om (p := 141) (by decide +kernel))) (fun _ h9 => h9) rfl (by decide +kernel) rfl rfl (Nat.le_of_ble_eq_true rfl) (show decode prog_4_method_1_code 6 = .ok (.putfield 7, 3) by decide +kernel) (fun H locs hP hD hS => ?_)
  have hP : va_P D aCl [(h0, .inr (2, [.int 0, .int 0, .int 0, .null, .null]))] H := hP
  have hD : va_D A [(h0, .inr (2, [.int 0, .int 0, .int 0, .null, .null]))] := hD
  refine lv_aload_n hx hb (show decode prog_4_method_1_code 9 = .ok (.aload_n 0, 1) by decide +kernel) rfl (lv_at hl 0 rfl) ?_
  refine lv_iconst (v := 0) hx hb (show decode prog_4_method_1_code 10 = .ok (.iconst 0, 1) by decide +kernel) (by decide) ?_
  refine va_put (D := D) (ci := 2) (v := .int 0) (ty := .int) (C := cR2) (T := cT2) (N := 5) hx hb hts hu cY2 hY hnm hown hK hP hD hS 0 rfl rfl 1 (by decide) (hts (.fieldLink (oN 2) 13 "PermitTree$Log" "highestBroken" "I") (wAt_Om (p := 143) (by decide +kernel))) (fun _ h9 => h9) rfl (by decide +kernel) rfl rfl (Nat.le_of_ble_eq_true rfl) (show decode prog_4_method_1_code 11 = .ok (.putfield 13, 3) by decide +kernel) (fun H locs hP hD hS => ?_)
  have hP : va_P D aCl [(h0, .inr (2, [.int 0, .int 0, .int 0, .null, .null]))] H := hP
  have hD : va_D A [(h0, .inr (2, [.int 0, .int 0, .int 0, .null, .null]))] := hD
  refine lv_aload_n hx hb (show decode prog_4_method_1_code 14 = .ok (.aload_n 0, 1) by decide +kernel) rfl (lv_at hl 0 rfl) ?_
  refine lv_iconst (v := 0) hx hb (show decode prog_4_method_1_code 15 = .ok (.iconst 0, 1) by decide +kernel) (by decide) ?_
  refine va_put (D := D) (ci := 2) (v := .int 0) (ty := .int) (C := cR2) (T := cT2) (N := 5) hx hb hts hu cY2 hY hnm hown hK hP hD hS 0 rfl rfl 2 (by decide) (hts (.fieldLink (oN 2) 16 "PermitTree$Log" "count" "I") (wAt_Om (p := 144) (by decide +kernel))) (fun _ h9 => h9) rfl (by decide +kernel) rfl rfl (Nat.le_of_ble_eq_true rfl) (show decode prog_4_method_1_code 16 = .ok (.putfield 16, 3) by decide +kernel) (fun H locs hP hD hS => ?_)
  have hP : va_P D aCl [(h0, .inr (2, [.int 0, .int 0, .int 0, .null, .null]))] H := hP
  have hD : va_D A [(h0, .inr (2, [.int 0, .int 0, .int 0, .null, .null]))] := hD
  refine lv_aload_n hx hb (show decode prog_4_method_1_code 19 = .ok (.aload_n 0, 1) by decide +kernel) rfl (lv_at hl 0 rfl) ?_
  refine lv_bipush (v := nI 64) hx hb (show decode prog_4_method_1_code 20 = .ok (.bipush 64, 2) by decide +kernel) (by decide) ?_
  refine w_newi hx hb (hts (.arrayClass .int) (wAt_Om (p := 58) (by decide +kernel))) hK hP hD hS hA 64 (by decide) (Nat.le_of_ble_eq_true rfl) (Nat.le_of_ble_eq_true rfl) (show decode prog_4_method_1_code 22 = .ok (.newarray .int, 2) by decide +kernel) (fun q22 H hP hD hS => ?_)
  have hP : va_P D aCl [(h0, .inr (2, [.int 0, .int 0, .int 0, .null, .null])), (q22, eArr cs 64)] H := hP
  have hD : va_D A [(h0, .inr (2, [.int 0, .int 0, .int 0, .null, .null])), (q22, eArr cs 64)] := hD
  refine va_putF (D := D) (ci := 2) (v := .ref q22) (ty := (.array .int)) (C := cR2) (T := cT2) (N := 5) hx hb hts hu cY2 hY hnm hown hK hP hD hS 0 rfl rfl 3 (by decide) (hts (.fieldLink (oN 2) 19 "PermitTree$Log" "numbers" "[I") (wAt_Om (p := 146) (by decide +kernel))) (fun _ h9 => h9) rfl hin rfl (by decide +kernel) rfl rfl (Nat.le_of_ble_eq_true rfl) (show decode prog_4_method_1_code 24 = .ok (.putfield 19, 3) by decide +kernel) (fun H locs hP hD hS => ?_)
  have hP : va_P D aCl [(h0, .inr (2, [.int 0, .int 0, .int 0, .ref q22, .null])), (q22, eArr cs 64)] H := hP
  have hD : va_D A [(h0, .inr (2, [.int 0, .int 0, .int 0, .ref q22, .null])), (q22, eArr cs 64)] := hD
  refine lv_aload_n hx hb (show decode prog_4_method_1_code 27 = .ok (.aload_n 0, 1) by decide +kernel) rfl (lv_at hl 0 rfl) ?_
  refine lv_bipush (v := nI 64) hx hb (show decode prog_4_method_1_code 28 = .ok (.bipush 64, 2) by decide +kernel) (by decide) ?_
  refine w_newi hx hb (hts (.arrayClass .int) (wAt_Om (p := 58) (by decide +kernel))) hK hP hD hS hA 64 (by decide) (Nat.le_of_ble_eq_true rfl) (Nat.le_of_ble_eq_true rfl) (show decode prog_4_method_1_code 30 = .ok (.newarray .int, 2) by decide +kernel) (fun q30 H hP hD hS => ?_)
  have hP : va_P D aCl [(h0, .inr (2, [.int 0, .int 0, .int 0, .ref q22, .null])), (q22, eArr cs 64), (q30, eArr cs 64)] H := hP
  have hD : va_D A [(h0, .inr (2, [.int 0, .int 0, .int 0, .ref q22, .null])), (q22, eArr cs 64), (q30, eArr cs 64)] := hD
  refine va_putF (D := D) (ci := 2) (v := .ref q30) (ty := (.array .int)) (C := cR2) (T := cT2) (N := 5) hx hb hts hu cY2 hY hnm hown hK hP hD hS 0 rfl rfl 4 (by decide) (hts (.fieldLink (oN 2) 23 "PermitTree$Log" "codes" "[I") (wAt_Om (p := 147) (by decide +kernel))) (fun _ h9 => h9) rfl hin rfl (by decide +kernel) rfl rfl (Nat.le_of_ble_eq_true rfl) (show decode prog_4_method_1_code 32 = .ok (.putfield 23, 3) by decide +kernel) (fun H locs hP hD hS => ?_)
  have hP : va_P D aCl [(h0, .inr (2, [.int 0, .int 0, .int 0, .ref q22, .ref q30])), (q22, eArr cs 64), (q30, eArr cs 64)] H := hP
  have hD : va_D A [(h0, .inr (2, [.int 0, .int 0, .int 0, .ref q22, .ref q30])), (q22, eArr cs 64), (q30, eArr cs 64)] := hD
  refine W.widen (k := 2) (n := 128) (Nat.le_of_ble_eq_true rfl) (Nat.le_of_ble_eq_true rfl) ?_
  exact W.vret hx hb hr (fun t ht hW => ⟨⟨(q22, q30), rfl, trivial, by rw [ht]; exact hP, hD⟩, hS.F ht⟩) hS.2.2 (show decode prog_4_method_1_code 35 = .ok (.return_, 1) by decide +kernel)
theorem df3 : ∀ j, j < 2 → defaultValue (cY3 j) = vp_V [.null, .int 0] j
  | 0, _ => rfl
  | 1, _ => rfl
  | j + 2, h => absurd h (by omega)
set_option maxHeartbeats 4000000 in
set_option maxRecDepth 100000 in
theorem c_l3 (l : Launch) (D : va_G) (cs : Nat → ClassId) (h0 : Nat) : Leaf l D cs (iY 3 "()V") prog_5_method_1_code 1 1 1 1680 [] (h0, .inr (3, [.null, .int 0])) (fun u : Nat × Nat => [(h0, .inr (3, [.ref u.1, .int 0])), (u.1, eArr cs 1680)]) := by
  intro sz
  refine Met.ofW (cc := prog_5_method_1_code) (maxL := 1) (ret := none) (by decide) rfl ?_
  intro p e s m args below meth c s₁ B hml hv
  obtain ⟨hargs, hsz, hP, hK, hN⟩ := hv
  have hargs : args = ([.ref h0] : List Value).toArray := hargs
  subst hargs
  have hx := B.exec
  have hb := B.bytes
  have hr := B.returns
  have hts := fun w hw => atoms_spec (ws := Cond.code (iY 3 "()V") prog_5_method_1_code 1 none :: Om) B.pre w (List.mem_cons_of_mem _ hw)
  have hown : s.vm.findClass (oN 3) = some m.cls := findClass_of_methodNamed B.named
  have hin : meth.name = "<init>" := (name_of_methodNamed B.named B.method).1
  subst hsz
  have hD : va_D (va_A [(h0, .inr (3, [.null, .int 0]))] s.heap.size) [(h0, .inr (3, [.null, .int 0]))] := wD_one (va_A.in (k := 0) rfl)
  have hA : ∀ q : Nat, s.heap.size ≤ q → va_A [(h0, .inr (3, [.null, .int 0]))] s.heap.size q := fun q h => Or.inr h
  unfold lfQ
  generalize hAe : va_A [(h0, .inr (3, [.null, .int 0]))] s.heap.size = A at hD hA ⊢
  have hS : va_S A s.heap s.heap [] := va_S.rf
  have hu : ∀ w ∈ u_ws cR3 cT3 2, w ∈ Om := (cl_spec (ci := 3) rfl).1
  have hY : ∀ k, k < 2 → parseFieldDescriptor (cT3 k).2.2.1 = some (cY3 k) := by decide +kernel
  have hnm : ∀ a, a < 2 → ∀ b, b < 2 → a ≠ b → (cT3 a).2.1 ≠ (cT3 b).2.1 := by decide +kernel
  have hl := lv_entry ([.ref h0]) (n := 1) (Nat.le_of_ble_eq_true rfl)
  rw [lg_entry_eq]
  generalize (lg_sl ([.ref h0]) ++ List.replicate (1 - (lg_sl ([.ref h0])).length) Slot.unset).toArray = ls at hl ⊢
  have hl : lv_has ls 1 [(0, .ref h0)] := hl
  refine lv_aload_n hx hb (show decode prog_5_method_1_code 0 = .ok (.aload_n 0, 1) by decide +kernel) rfl (lv_at hl 0 rfl) ?_
  refine W.objInit hx hb hown (hts (.methodLink (oN 3) 3 objectInit) (wAt_Om (p := 49) (by decide +kernel))) (hts (.instanceMethod objectInit) (wAt_Om (p := 42) (by decide +kernel))) (hts (.code objectInit ⟨#[0xb1]⟩ 1 none) (wAt_Om (p := 43) (by decide +kernel))) rfl (by rw [hml]; exact hl.1) rfl (show decode prog_5_method_1_code 1 = .ok (.invokespecial 3, 3) by decide +kernel) (Nat.le_of_ble_eq_true rfl) (Nat.le_of_ble_eq_true rfl) ?_
  refine W.eq (g2 := F0 m 4 ls []) rfl ?_
  refine lv_aload_n hx hb (show decode prog_5_method_1_code 4 = .ok (.aload_n 0, 1) by decide +kernel) rfl (lv_at hl 0 rfl) ?_
  refine lv_sipush (v := nI 1680) hx hb (show decode prog_5_method_1_code 5 = .ok (.sipush 1680, 3) by decide +kernel) (by decide) ?_
  refine w_newi hx hb (hts (.arrayClass .int) (wAt_Om (p := 58) (by decide +kernel))) hK hP hD hS hA 1680 (by decide) (Nat.le_of_ble_eq_true rfl) (Nat.le_of_ble_eq_true rfl) (show decode prog_5_method_1_code 8 = .ok (.newarray .int, 2) by decide +kernel) (fun q8 H hP hD hS => ?_)
  have hP : va_P D aCl [(h0, .inr (3, [.null, .int 0])), (q8, eArr cs 1680)] H := hP
  have hD : va_D A [(h0, .inr (3, [.null, .int 0])), (q8, eArr cs 1680)] := hD
  refine va_putF (D := D) (ci := 3) (v := .ref q8) (ty := (.array .int)) (C := cR3) (T := cT3) (N := 2) hx hb hts hu cY3 hY hnm hown hK hP hD hS 0 rfl rfl 0 (by decide) (hts (.fieldLink (oN 3) 11 "PermitTree$Post" "cells" "[I") (wAt_Om (p := 50) (by decide +kernel))) (fun _ h9 => h9) rfl hin rfl (by decide +kernel) rfl rfl (Nat.le_of_ble_eq_true rfl) (show decode prog_5_method_1_code 10 = .ok (.putfield 11, 3) by decide +kernel) (fun H locs hP hD hS => ?_)
  have hP : va_P D aCl [(h0, .inr (3, [.ref q8, .int 0])), (q8, eArr cs 1680)] H := hP
  have hD : va_D A [(h0, .inr (3, [.ref q8, .int 0])), (q8, eArr cs 1680)] := hD
  refine lv_aload_n hx hb (show decode prog_5_method_1_code 13 = .ok (.aload_n 0, 1) by decide +kernel) rfl (lv_at hl 0 rfl) ?_
  refine lv_iconst (v := 0) hx hb (show decode prog_5_method_1_code 14 = .ok (.iconst 0, 1) by decide +kernel) (by decide) ?_
  refine va_put (D := D) (ci := 3) (v := .int 0) (ty := .int) (C := cR3) (T := cT3) (N := 2) hx hb hts hu cY3 hY hnm hown hK hP hD hS 0 rfl rfl 1 (by decide) (hts (.fieldLink (oN 3) 15 "PermitTree$Post" "count" "I") (wAt_Om (p := 51) (by decide +kernel))) (fun _ h9 => h9) rfl (by decide +kernel) rfl rfl (Nat.le_of_ble_eq_true rfl) (show decode prog_5_method_1_code 15 = .ok (.putfield 15, 3) by decide +kernel) (fun H locs hP hD hS => ?_)
  have hP : va_P D aCl [(h0, .inr (3, [.ref q8, .int 0])), (q8, eArr cs 1680)] H := hP
  have hD : va_D A [(h0, .inr (3, [.ref q8, .int 0])), (q8, eArr cs 1680)] := hD
  refine W.widen (k := 1) (n := 1680) (Nat.le_of_ble_eq_true rfl) (Nat.le_of_ble_eq_true rfl) ?_
  exact W.vret hx hb hr (fun t ht hW => ⟨⟨(q8, 0), rfl, trivial, by rw [ht]; exact hP, hD⟩, hS.F ht⟩) hS.2.2 (show decode prog_5_method_1_code 18 = .ok (.return_, 1) by decide +kernel)
