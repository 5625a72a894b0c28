/-! the instructions that read and write cells -/
theorem cl_spec : ∀ {ci : Nat} {q : vw_C}, aCl[ci]? = some q → (∀ w ∈ u_ws q.1 q.2.1 q.2.2, w ∈ Om) ∧ ∃ Y : Nat → FieldType, (∀ k, k < q.2.2 → parseFieldDescriptor (q.2.1 k).2.2.1 = some (Y k)) ∧ ∀ a, a < q.2.2 → ∀ b, b < q.2.2 → a ≠ b → (q.2.1 a).2.1 ≠ (q.2.1 b).2.1
  | 0, _, h => by cases h; exact ⟨by decide +kernel, cY0, by decide +kernel, by decide +kernel⟩
  | 1, _, h => by cases h; exact ⟨by decide +kernel, cY1, by decide +kernel, by decide +kernel⟩
  | 2, _, h => by cases h; exact ⟨by decide +kernel, cY2, by decide +kernel, by decide +kernel⟩
  | 3, _, h => by cases h; exact ⟨by decide +kernel, cY3, by decide +kernel, by decide +kernel⟩
  | 4, _, h => by cases h; exact ⟨by decide +kernel, cY4, by decide +kernel, by decide +kernel⟩
  | 5, _, h => by cases h; exact ⟨by decide +kernel, cY5, by decide +kernel, by decide +kernel⟩
  | n + 6, _, h => by cases h
theorem fl_spec {o i x y : Nat} (h : flC o i x y = true) : ∃ (C : String) (T : u_T) (N : Nat), aCl[x]? = some (C, T, N) ∧ y < N ∧ (Cond.fieldLink (oN o) i (T y).1 (T y).2.1 (T y).2.2.1 ∈ Om ∨ Cond.fieldLinkNest (oN o) i (T y).1 (T y).2.1 (T y).2.2.1 "PermitTree" ∈ lw_tbl) := by
  unfold flC at h
  obtain ⟨q, hq, h1⟩ := List.any_eq_true.mp h
  simp only [Bool.and_eq_true] at h1
  obtain ⟨e1, e2, e3, e4⟩ := h1
  have hK := List.all_eq_true.mp flT_ok q hq
  unfold flK at hK
  rw [Nat.eq_of_beq_eq_true e1, Nat.eq_of_beq_eq_true e2, Nat.eq_of_beq_eq_true e3, Nat.eq_of_beq_eq_true e4] at hK
  split at hK
  · cases hK
  · rename_i C T N hc
    rw [Bool.and_eq_true] at hK
    refine ⟨C, T, N, hc, ?_, ?_⟩
    · exact Nat.le_of_ble_eq_true hK.1
    · have hK2 := hK.2
      cases hz : Nat.beq q.2.2.2.2.2 0 with
      | true => rw [hz] at hK2; exact Or.inl (wAt_Om hK2)
      | false =>
        rw [hz] at hK2
        have hK2 : wAt q.2.2.2.2.1 (.fieldLinkNest (oN o) i (T y).1 (T y).2.1 (T y).2.2.1 "PermitTree") = true := hK2
        unfold wAt at hK2
        exact Or.inr (List.mem_of_getElem? (of_decide_eq_true hK2))
theorem pu_spec {o i x y : Nat} {C : String} {T : u_T} {N : Nat} (h : puC o i x y = true) (hc : aCl[x]? = some (C, T, N)) : (T y).2.2.2 = false ∧ (T y).2.2.1 = "I" := by
  unfold puC at h
  obtain ⟨q, hq, h1⟩ := List.any_eq_true.mp h
  simp only [Bool.and_eq_true] at h1
  obtain ⟨e1, e2, e3, e4⟩ := h1
  have hK := List.all_eq_true.mp puT_ok q hq
  unfold puK at hK
  rw [Nat.eq_of_beq_eq_true e3, Nat.eq_of_beq_eq_true e4, hc] at hK
  simp only [Bool.and_eq_true, decide_eq_true_eq] at hK
  exact hK
def aKok (t : Nat) : Bool := match aK t with
  | .inl (_, fs) => fs.all (fun o => match o with
    | none => true
    | some t' => Nat.blt 0 t' && Nat.ble (aN t) (aN t'))
  | .inr (2, n, t') => Nat.blt 0 t' && Nat.ble n (aN t')
  | _ => true
theorem aK_big {t : Nat} (h : 51 ≤ t) : aK t = .inr (9, 0, 0) := by
  unfold aK
  split <;> first | omega | rfl
theorem aK_ok (t : Nat) : aKok t = true := by
  rcases Nat.lt_or_ge t 51 with h | h
  · have : ∀ t, t < 51 → aKok t = true := by decide +kernel
    exact this t h
  · unfold aKok
    rw [aK_big h]
    rfl
theorem aK_fld {t ci t' y : Nat} {fs : List (Option Nat)} (hk : aK t = .inl (ci, fs)) (hf : fs[y]? = some (some t')) : ∃ u, t' = u + 1 ∧ aN t ≤ aN (u + 1) := by
  have h := aK_ok t
  unfold aKok at h
  rw [hk] at h
  have h1 := List.all_eq_true.mp h _ (List.mem_of_getElem? hf)
  simp only [Bool.and_eq_true] at h1
  have h2 : 0 < t' := Nat.le_of_ble_eq_true h1.1
  have h3 := Nat.le_of_ble_eq_true h1.2
  exact ⟨t' - 1, by omega, by rw [show t' - 1 + 1 = t' by omega]; exact h3⟩
theorem aK_arr {t n t' : Nat} (hk : aK t = .inr (2, n, t')) : ∃ u, t' = u + 1 ∧ n ≤ aN (u + 1) := by
  have h := aK_ok t
  unfold aKok at h
  rw [hk] at h
  simp only [Bool.and_eq_true] at h
  have h2 : 0 < t' := Nat.le_of_ble_eq_true h.1
  have h3 := Nat.le_of_ble_eq_true h.2
  exact ⟨t' - 1, by omega, by rw [show t' - 1 + 1 = t' by omega]; exact h3⟩
theorem aTy_q (cs : Nat → ClassId) (t : Nat) : ∃ C, (aTy cs)[aQ t]? = some (cs (aQ t), FieldType.object C) := by
  unfold aQ
  split
  · exact ⟨_, rfl⟩
  · exact ⟨_, rfl⟩
  · exact ⟨_, rfl⟩
/-- what a field's place holds -/
def aFv (ad : Nat → Nat → Nat) (g : Nat → Int32) (j y : Nat) (o : Option Nat) : Value := match o with
  | none => Value.int (g y)
  | some t' => Value.ref (ad t' j)
section MEM
variable {ad : Nat → Nat → Nat} {cs : Nat → ClassId} {D : va_G} {zs : Nat × (Nat → Int32)} {l : Launch} {p : Program} {e : Env} {R : Room} {s : State} {m : MethodId} {args : Array Value} {below : List Frame} {meth : Method} {c : Code} {A : Nat → Prop} {cells slots : Nat} {lw : Bool} {Qf : State → Prop} {k d : Nat}
variable {S S' : aS} {H : Heap} {locs : List Loc} {ls : Array Slot} {pc : Nat} {rest : List Value} {t j : Nat}
theorem a_get {i ci y : Nat} {fs : List (Option Nat)} {o : Option Nat} (C : Cx ad cs D zs p R s m args c k d A cells slots lw) (hW : aWd ad cs D A s.heap S H locs) (hj : j < aN t) (hk : aK t = .inl (ci, fs)) (hf : fs[y]? = some o) (hl : flC (mO k) i ci y = true) (hdg : decode (mB k) pc = .ok (.getfield i, 3))
    (kk : W p l e R s m args below meth c H locs cells slots Qf (F0 m (pc + 3) ls (aFv ad (S t j) j y o :: rest))) : W p l e R s m args below meth c H locs cells slots Qf (F0 m pc ls (.ref (ad t j) :: rest)) := by
  obtain ⟨hx, hb, hml, hown, hts, hN, hK, hA, hR, hX⟩ := C
  obtain ⟨q, hq, hg⟩ := aw_get (ad := ad) (cs := cs) S hj
  unfold aC at hg
  rw [hk] at hg
  obtain ⟨Cn, T, N, hc, hy, hlk⟩ := fl_spec hl
  have hv : (aF ad (S t j) j 0 fs)[y]? = some (aFv ad (S t j) j y o) := by
    rw [aF_get, hf, Nat.zero_add]
    cases o <;> rfl
  rcases hlk with hlk | hlk
  · exact va_get (D := D) hx hb hts (cl_spec hc).1 hown hK hW.1 q hg hc y hy (hts _ hlk) (fun _ h9 => h9) hv hdg kk
  · exact va_getN (D := D) hx hb hts (cl_spec hc).1 hown hK hW.1 q hg hc y hy (va_Nw.use rfl (hN _ _ _ _ _ _ hlk)) (fun _ h9 => h9) hv hdg kk
theorem a_put {i ci y : Nat} {fs : List (Option Nat)} {a : Int32} (C : Cx ad cs D zs p R s m args c k d A cells slots lw) (hW : aWd ad cs D A s.heap S H locs) (hj : j < aN t) (hk : aK t = .inl (ci, fs)) (hf : fs[y]? = some none) (hl : flC (mO k) i ci y = true) (hpu : puC (mO k) i ci y = true) (hdg : decode (mB k) pc = .ok (.putfield i, 3))
    (kk : ∀ (H1 : Heap) (locs1 : List Loc), aWd ad cs D A s.heap (au S t j y a) H1 locs1 → W p l e R s m args below meth c H1 locs1 cells slots Qf (F0 m (pc + 3) ls rest)) : W p l e R s m args below meth c H locs cells slots Qf (F0 m pc ls (.int a :: .ref (ad t j) :: rest)) := by
  obtain ⟨hx, hb, hml, hown, hts, hN, hK, hA, hR, hX⟩ := C
  obtain ⟨q, hq, hg0⟩ := aw_get (ad := ad) (cs := cs) S hj
  have hg := hg0
  unfold aC at hg
  rw [hk] at hg
  obtain ⟨Cn, T, N, hc, hy, hlk⟩ := fl_spec hl
  obtain ⟨hfin, hds⟩ := pu_spec hpu hc
  obtain ⟨hin, Y, hY, hnm⟩ := cl_spec hc
  have hd : parseFieldDescriptor (T y).2.2.1 = some .int := by rw [hds]; decide +kernel
  have hlen : y < (aF ad (S t j) j 0 fs).length := by rw [aF_len]; exact (List.getElem?_eq_some_iff.mp hf).1
  have hset : (aw ad cs S).set q (ad t j, .inr (ci, (aF ad (S t j) j 0 fs).set y (.int a))) = aw ad cs (au S t j y a) := by
    refine aw_set hW.2.1 hq ?_ (fun t' j' h => au_ne S y a h)
    unfold aC
    rw [hk]
    dsimp only
    rw [aF_set ad (S t j) j fs y a hf, au_at]
  have fin : ∀ (H1 : Heap) (locs1 : List Loc), va_P D aCl ((aw ad cs S).set q (ad t j, .inr (ci, (aF ad (S t j) j 0 fs).set y (.int a)))) H1 → va_D A ((aw ad cs S).set q (ad t j, .inr (ci, (aF ad (S t j) j 0 fs).set y (.int a)))) → va_S A s.heap H1 locs1 → W p l e R s m args below meth c H1 locs1 cells slots Qf (F0 m (pc + 3) ls rest) := fun H1 locs1 h1 h2 h3 => by
    rw [hset] at h1 h2
    exact kk H1 locs1 ⟨h1, h2, h3⟩
  rcases hlk with hlk | hlk
  · exact va_put (D := D) hx hb hts hin Y hY hnm hown hK hW.1 hW.2.1 hW.2.2 q hg hc y hy (hts _ hlk) (fun _ h9 => h9) hfin hd rfl rfl hlen hdg fin
  · exact va_putN (D := D) hx hb hts hin Y hY hnm hown hK hW.1 hW.2.1 hW.2.2 q hg hc y hy (va_Nw.use rfl (hN _ _ _ _ _ _ hlk)) (fun _ h9 => h9) hfin hd rfl rfl hlen hdg fin
theorem a_iald {n z : Nat} {i : Int32} (C : Cx ad cs D zs p R s m args c k d A cells slots lw) (hW : aWd ad cs D A s.heap S H locs) (hj : j < aN t) (hk : aK t = .inr (0, n, z)) (hi : 0 ≤ i.toInt ∧ i.toInt < (n : Int)) (hdg : decode (mB k) pc = .ok (.iaload, 1))
    (kk : W p l e R s m args below meth c H locs cells slots Qf (F0 m (pc + 1) ls (.int (S t j i.toNatClampNeg) :: rest))) : W p l e R s m args below meth c H locs cells slots Qf (F0 m pc ls (.int i :: .ref (ad t j) :: rest)) := by
  obtain ⟨hx, hb, hml, hown, hts, hN, hK, hA, hR, hX⟩ := C
  obtain ⟨q, hq, hg⟩ := aw_get (ad := ad) (cs := cs) S hj
  unfold aC at hg
  rw [hk] at hg
  exact va_iald (D := D) hx hb hK hW.1 q 0 hg rfl (in_vp hi) hdg kk
theorem a_zald {n z : Nat} {i : Int32} (C : Cx ad cs D zs p R s m args c k d A cells slots lw) (hW : aWd ad cs D A s.heap S H locs) (hj : j < aN t) (hk : aK t = .inr (1, n, z)) (hi : 0 ≤ i.toInt ∧ i.toInt < (n : Int)) (hdg : decode (mB k) pc = .ok (.baload, 1))
    (kk : W p l e R s m args below meth c H locs cells slots Qf (F0 m (pc + 1) ls (.int (S t j i.toNatClampNeg) :: rest))) : W p l e R s m args below meth c H locs cells slots Qf (F0 m pc ls (.int i :: .ref (ad t j) :: rest)) := by
  obtain ⟨hx, hb, hml, hown, hts, hN, hK, hA, hR, hX⟩ := C
  obtain ⟨q, hq, hg⟩ := aw_get (ad := ad) (cs := cs) S hj
  unfold aC at hg
  rw [hk] at hg
  exact va_zald (D := D) hx hb hK hW.1 q 1 hg rfl (in_vp hi) hdg kk
theorem a_aald {n t' : Nat} {i : Int32} (C : Cx ad cs D zs p R s m args c k d A cells slots lw) (hW : aWd ad cs D A s.heap S H locs) (hj : j < aN t) (hk : aK t = .inr (2, n, t')) (hi : 0 ≤ i.toInt ∧ i.toInt < (n : Int)) (hdg : decode (mB k) pc = .ok (.aaload, 1))
    (kk : W p l e R s m args below meth c H locs cells slots Qf (F0 m (pc + 1) ls (.ref (ad t' i.toNatClampNeg) :: rest))) : W p l e R s m args below meth c H locs cells slots Qf (F0 m pc ls (.int i :: .ref (ad t j) :: rest)) := by
  obtain ⟨hx, hb, hml, hown, hts, hN, hK, hA, hR, hX⟩ := C
  obtain ⟨q, hq, hg⟩ := aw_get (ad := ad) (cs := cs) S hj
  unfold aC at hg
  rw [hk] at hg
  obtain ⟨Cn, hT⟩ := aTy_q cs t'
  exact va_aldq (D := D) hx hb hK hW.1 q (aQ t') hg hT (in_vp hi) hdg kk
theorem upd_au (S : aS) (t j f : Nat) (v : Int32) : au S t j f v t j = upd (S t j) f v := au_at S t j f v
theorem a_iast {n z : Nat} {i a : Int32} (C : Cx ad cs D zs p R s m args c k d A cells slots lw) (hW : aWd ad cs D A s.heap S H locs) (hj : j < aN t) (hk : aK t = .inr (0, n, z)) (hi : 0 ≤ i.toInt ∧ i.toInt < (n : Int)) (hdg : decode (mB k) pc = .ok (.iastore, 1))
    (kk : ∀ (H1 : Heap) (locs1 : List Loc), aWd ad cs D A s.heap (au S t j i.toNatClampNeg a) H1 locs1 → W p l e R s m args below meth c H1 locs1 cells slots Qf (F0 m (pc + 1) ls rest)) : W p l e R s m args below meth c H locs cells slots Qf (F0 m pc ls (.int a :: .int i :: .ref (ad t j) :: rest)) := by
  obtain ⟨hx, hb, hml, hown, hts, hN, hK, hA, hR, hX⟩ := C
  obtain ⟨q, hq, hg0⟩ := aw_get (ad := ad) (cs := cs) S hj
  have hg := hg0
  unfold aC at hg
  rw [hk] at hg
  refine va_iast (D := D) hx hb hK hW.1 hW.2.1 hW.2.2 q 0 hg rfl (in_vp hi) hdg (fun H1 locs1 h1 h2 h3 => ?_)
  have hset : (aw ad cs S).set q (ad t j, .inl (cs 0, n, .inl (upd (S t j) i.toNatClampNeg a))) = aw ad cs (au S t j i.toNatClampNeg a) := by
    refine aw_set hW.2.1 hq ?_ (fun t' j' h => au_ne S _ a h)
    unfold aC
    rw [hk, upd_au]
    rfl
  rw [hset] at h1 h2
  exact kk H1 locs1 ⟨h1, h2, h3⟩
theorem a_zast {n z : Nat} {i a : Int32} (C : Cx ad cs D zs p R s m args c k d A cells slots lw) (hW : aWd ad cs D A s.heap S H locs) (hj : j < aN t) (hk : aK t = .inr (1, n, z)) (hi : 0 ≤ i.toInt ∧ i.toInt < (n : Int)) (ha : a = 0 ∨ a = 1) (hdg : decode (mB k) pc = .ok (.bastore, 1))
    (kk : ∀ (H1 : Heap) (locs1 : List Loc), aWd ad cs D A s.heap (au S t j i.toNatClampNeg a) H1 locs1 → W p l e R s m args below meth c H1 locs1 cells slots Qf (F0 m (pc + 1) ls rest)) : W p l e R s m args below meth c H locs cells slots Qf (F0 m pc ls (.int a :: .int i :: .ref (ad t j) :: rest)) := by
  obtain ⟨hx, hb, hml, hown, hts, hN, hK, hA, hR, hX⟩ := C
  obtain ⟨q, hq, hg0⟩ := aw_get (ad := ad) (cs := cs) S hj
  have hg := hg0
  unfold aC at hg
  rw [hk] at hg
  refine va_zast (D := D) hx hb hK hW.1 hW.2.1 hW.2.2 q 1 hg rfl (in_vp hi) hdg (fun H1 locs1 h1 h2 h3 => ?_)
  have hnar : vp_nar .boolean a = a := by rcases ha with rfl | rfl <;> rfl
  rw [hnar] at h1 h2
  have hset : (aw ad cs S).set q (ad t j, .inl (cs 1, n, .inl (upd (S t j) i.toNatClampNeg a))) = aw ad cs (au S t j i.toNatClampNeg a) := by
    refine aw_set hW.2.1 hq ?_ (fun t' j' h => au_ne S _ a h)
    unfold aC
    rw [hk, upd_au]
    rfl
  rw [hset] at h1 h2
  exact kk H1 locs1 ⟨h1, h2, h3⟩
theorem a_alen {g n z : Nat} (C : Cx ad cs D zs p R s m args c k d A cells slots lw) (hW : aWd ad cs D A s.heap S H locs) (hj : j < aN t) (hk : aK t = .inr (g, n, z)) (hdg : decode (mB k) pc = .ok (.arraylength, 1))
    (kk : W p l e R s m args below meth c H locs cells slots Qf (F0 m (pc + 1) ls (.int (nI n) :: rest))) : W p l e R s m args below meth c H locs cells slots Qf (F0 m pc ls (.ref (ad t j) :: rest)) := by
  obtain ⟨hx, hb, hml, hown, hts, hN, hK, hA, hR, hX⟩ := C
  obtain ⟨q, hq, hg⟩ := aw_get (ad := ad) (cs := cs) S hj
  unfold aC at hg
  rw [hk] at hg
  split at hg
  · rename_i heq
    cases heq
  · rename_i heq
    cases heq
    obtain ⟨Cn, hT⟩ := aTy_q cs z
    exact va_alen (D := D) hx hb hK hW.1 q _ hg hT rfl hdg kk
  · rename_i heq
    cases heq
    exact va_alen (D := D) (ty := .boolean) hx hb hK hW.1 q 1 hg rfl rfl hdg kk
  · rename_i heq
    cases heq
    exact va_alen (D := D) (ty := .int) hx hb hK hW.1 q 0 hg rfl rfl hdg kk
theorem a_sld {i : Int32} (C : Cx ad cs D zs p R s m args c k d A cells slots true) (hW : aWd ad cs D A s.heap S H locs) (hi : 0 ≤ i.toInt ∧ i.toInt < (zs.1 : Int)) (hdg : decode (mB k) pc = .ok (.iaload, 1))
    (kk : W p l e R s m args below meth c H locs cells slots Qf (F0 m (pc + 1) ls (.int (zs.2 i.toNatClampNeg) :: rest))) : W p l e R s m args below meth c H locs cells slots Qf (F0 m pc ls (.int i :: .ref (ad 50 0) :: rest)) := by
  obtain ⟨hx, hb, hml, hown, hts, hN, hK, hA, hR, hX⟩ := C
  obtain ⟨h1, h2, h3⟩ := hX rfl
  exact va_sld hx hb h1 h2 h3 hW.2.2 (in_vp hi) hdg kk
theorem a_slen (C : Cx ad cs D zs p R s m args c k d A cells slots true) (hW : aWd ad cs D A s.heap S H locs) (hdg : decode (mB k) pc = .ok (.arraylength, 1))
    (kk : W p l e R s m args below meth c H locs cells slots Qf (F0 m (pc + 1) ls (.int (Int32.ofNat zs.1) :: rest))) : W p l e R s m args below meth c H locs cells slots Qf (F0 m pc ls (.ref (ad 50 0) :: rest)) := by
  obtain ⟨hx, hb, hml, hown, hts, hN, hK, hA, hR, hX⟩ := C
  obtain ⟨h1, h2, h3⟩ := hX rfl
  exact va_slen hx hb h1 h2 h3 hW.2.2 hdg kk
theorem a_max {i : Nat} {a b : Int32} {rs : List aV} (C : Cx ad cs D zs p R s m args c k (d + 1) A cells slots lw) (hls : ls.size = mL k) (hl : mxC (mO k) i = true) (h8 : rs.length ≤ 8) (hdg : decode (mB k) pc = .ok (.invokestatic i, 3))
    (kk : W p l e R s m args below meth c H locs cells slots Qf (F0 m (pc + 3) ls (.int (if a < b then b else a) :: rs.map (cv ad)))) : W p l e R s m args below meth c H locs cells slots Qf (F0 m pc ls (.int b :: .int a :: rs.map (cv ad))) := by
  obtain ⟨hx, hb, hml, hown, hts, hN, hK, hA, hR, hX⟩ := C
  have hlk : Cond.methodLink (oN (mO k)) i Lib.Math.max.name ∈ Om := by
    unfold mxC at hl
    obtain ⟨q, hq, h1⟩ := List.any_eq_true.mp hl
    simp only [Bool.and_eq_true] at h1
    have hK := List.all_eq_true.mp mxT_ok q hq
    unfold mxK at hK
    rw [Nat.eq_of_beq_eq_true h1.1, Nat.eq_of_beq_eq_true h1.2] at hK
    exact wAt_Om hK
  refine va_mmax hx hb (hml.trans hls.symm) hown (hts _ hlk) (hts _ (wAt_Om (p := 302) (by decide +kernel))) (hts _ (wAt_Om (p := 35) (by decide +kernel))) (hts _ (wAt_Om (p := 303) (by decide +kernel))) (by omega) (by rw [cat_sum]; omega) hR.2.2.1 hR.2.2.2 hdg kk
theorem a_acp {i n0 n1 z0 z1 t0 j0 t1 j1 : Nat} {sp dp n : Int32} {rs : List aV} (C : Cx ad cs D zs p R s m args c k (d + 1) A cells slots lw) (hW : aWd ad cs D A s.heap S H locs) (hls : ls.size = mL k) (hl : acC (mO k) i = true) (h8 : rs.length ≤ 8) (hj0 : j0 < aN t0) (hj1 : j1 < aN t1) (hk0 : aK t0 = .inr (0, n0, z0)) (hk1 : aK t1 = .inr (0, n1, z1))
    (h : 0 ≤ sp.toInt ∧ 0 ≤ dp.toInt ∧ 0 ≤ n.toInt ∧ sp.toInt + n.toInt ≤ (n0 : Int) ∧ dp.toInt + n.toInt ≤ (n1 : Int)) (hdg : decode (mB k) pc = .ok (.invokestatic i, 3))
    (kk : ∀ (H1 : Heap) (locs1 : List Loc), aWd ad cs D A s.heap (acp S t0 j0 t1 j1 sp.toNatClampNeg dp.toNatClampNeg n.toNatClampNeg) H1 locs1 → W p l e R s m args below meth c H1 locs1 cells slots Qf (F0 m (pc + 3) ls (rs.map (cv ad)))) : W p l e R s m args below meth c H locs cells slots Qf (F0 m pc ls (.int n :: .int dp :: .ref (ad t1 j1) :: .int sp :: .ref (ad t0 j0) :: rs.map (cv ad))) := by
  obtain ⟨hx, hb, hml, hown, hts, hN, hK, hA, hR, hX⟩ := C
  have hlk : Cond.methodLink (oN (mO k)) i arraycopyName ∈ Om := by
    unfold acC at hl
    obtain ⟨q, hq, h1⟩ := List.any_eq_true.mp hl
    simp only [Bool.and_eq_true] at h1
    have hK := List.all_eq_true.mp acT_ok q hq
    unfold acK at hK
    rw [Nat.eq_of_beq_eq_true h1.1, Nat.eq_of_beq_eq_true h1.2] at hK
    exact wAt_Om hK
  obtain ⟨q0, hq0, hg0⟩ := aw_get (ad := ad) (cs := cs) S hj0
  obtain ⟨q1, hq1, hg1⟩ := aw_get (ad := ad) (cs := cs) S hj1
  unfold aC at hg0 hg1
  rw [hk0] at hg0
  rw [hk1] at hg1
  obtain ⟨a1, a2, a3, a4, a5⟩ := h
  have ng : ∀ x : Int32, 0 ≤ x.toInt → ¬ x < 0 := fun x hx q => by
    have := Int32.lt_iff_toInt_lt.mp q
    simp at this
    omega
  have tn : ∀ x : Int32, 0 ≤ x.toInt → (x.toNatClampNeg : Int) = x.toInt := fun x hx => by
    show ((x.toInt.toNat : Nat) : Int) = x.toInt
    omega
  have b1 := tn sp a1
  have b2 := tn dp a2
  have b3 := tn n a3
  have hloc : ((rs.map (cv ad)).map fun v => v.category).sum + (nativeFrameWords "java/lang/System" "arraycopy" 5 + 11) ≤ R.locals := by
    rw [cat_sum, show nativeFrameWords "java/lang/System" "arraycopy" 5 = 7 by decide +kernel]
    omega
  refine va_copyi (D := D) (ty := .int) hx hb (hml.trans hls.symm) hown (hts _ hlk) (hts _ (wAt_Om (p := 292) (by decide +kernel))) (hts _ (wAt_Om (p := 291) (by decide +kernel))) (hts _ (wAt_Om (p := 34) (by decide +kernel))) hK hW.1 hW.2.1 hW.2.2 q0 q1 0 0 hg0 hg1 rfl rfl rfl (ng sp a1) (ng dp a2) (ng n a3) (by omega) (by omega) (fun _ _ => rfl) (by omega) hloc hdg (fun H1 locs1 h1 h2 h3 => ?_)
  have hset : (aw ad cs S).set q1 (ad t1 j1, .inl (cs 0, n1, .inl (va_cpy (S t0 j0) (S t1 j1) sp.toNatClampNeg dp.toNatClampNeg n.toNatClampNeg))) = aw ad cs (acp S t0 j0 t1 j1 sp.toNatClampNeg dp.toNatClampNeg n.toNatClampNeg) := by
    refine aw_set hW.2.1 hq1 ?_ (fun t' j' h => acp_ne S _ _ _ h)
    unfold aC
    rw [hk1, acp_at]
    rfl
  rw [hset] at h1 h2
  exact kk H1 locs1 ⟨h1, h2, h3⟩
end MEM
