/-! THE SOUNDNESS OF THE ABSTRACT MACHINE: where it runs to an end, the JVM's machine does -/
theorem tsel_spec {a : Int32} {pc df : Int} : ∀ (offs : List Int) (v : Int), 0 ≤ v → v + offs.length ≤ 200 → ((a.toInt < v ∨ v + offs.length ≤ a.toInt) → tsel a pc df v offs = (pc + df).toNat) ∧ (∀ i : Nat, i < offs.length → a.toInt = v + i → ∃ o, offs[i]? = some o ∧ tsel a pc df v offs = (pc + o).toNat)
  | [], v, h0, h1 => ⟨fun _ => rfl, fun i hi => by simp at hi⟩
  | o :: os, v, h0, h1 => by
    have ih := tsel_spec (a := a) (pc := pc) (df := df) os (v + 1) (by omega) (by simp at h1; omega)
    have hv : (Int32.ofInt v).toInt = v := by
      rw [Int32.toInt_ofInt]
      simp at h1
      rw [show Int32.size = 4294967296 from rfl]
      rw [Int.bmod_eq_of_le] <;> omega
    unfold tsel
    by_cases e : a = Int32.ofInt v
    · rw [if_pos e]
      have ha : a.toInt = v := by rw [e]; exact hv
      refine ⟨fun h => ?_, fun i hi h => ⟨o, ?_, rfl⟩⟩
      · simp at h
        omega
      · have : i = 0 := by omega
        subst this
        rfl
    · rw [if_neg e]
      have ha : a.toInt ≠ v := fun h => e (by rw [← h, Int32.ofInt_toInt])
      refine ⟨fun h => ih.1 ?_, fun i hi h => ?_⟩
      · simp at h
        omega
      · cases i with
        | zero => exact absurd (by simpa using h) ha
        | succ i =>
          obtain ⟨o', h2, h3⟩ := ih.2 i (by simpa using hi) (by omega)
          exact ⟨o', by simpa using h2, h3⟩
theorem vok_ref {ad0 : Nat → Nat → Nat} {lw : Bool} {t j : Nat} (h : vok lw (.inr (t, j))) (h50 : aK t ≠ .inr (3, 0, 0)) (h0 : aK t ≠ .inr (9, 0, 0)) : j < aN t ∧ cv ad0 (.inr (t, j)) = .ref (ad0 t j) := by
  cases t with
  | zero => exact absurd rfl h0
  | succ t =>
    refine ⟨?_, rfl⟩
    rcases h with h | ⟨-, rfl, -⟩
    · exact h
    · exact absurd rfl h50
set_option maxHeartbeats 8000000 in
set_option maxRecDepth 100000 in
theorem snd_step {ad : Nat → Nat → Nat} {cs : Nat → ClassId} {D : va_G} {zs : Nat × (Nat → Int32)} {l : Launch} {n : Nat} (ih : SndP ad cs D zs l n) : SndP ad cs D zs l (n + 1) := by
  intro d k is0 L st S r S' h hck pc0 hpc p e R s m args below meth c A cells slots lw Qf C H locs ls hW hL hst hret
  cases is0 with
  | nil => cases h
  | cons en is =>
    obtain ⟨ln, hd, hln, hek, hnx, hck'⟩ := chk_spec hck
    obtain ⟨pc, ins, x, y⟩ := en
    replace hpc : pc = pc0 := hpc _ _ rfl
    subst hpc
    dsimp only at hd hln hek hnx
    replace h : stp zs (ev zs n) d k pc ins x y is L st S = some (r, S') := h
    have nx : ∀ {L' : aL} {st' : List aV} {S1 : aS}, ev zs n d k is L' st' S1 = some (r, S') → ∀ {H' : Heap} {locs' : List Loc} {ls' : Array Slot}, aWd ad cs D A s.heap S1 H' locs' → Lk ad lw ls' (mL k) L' → (∀ v ∈ st', vok lw v) → W p l e R s m args below meth c H' locs' cells slots Qf (F0 m (pc + ln) ls' (st'.map (cv ad))) :=
      fun h1 _ _ _ h2 h3 h4 => ih d k is _ _ _ r S' h1 hck' (pc + ln) hnx p e R s m args below meth c A cells slots lw Qf C _ _ _ h2 h3 h4 hret
    have jp : ∀ {t : Nat} {L' : aL} {st' : List aV} {S1 : aS}, ev zs n d k (aB k t) L' st' S1 = some (r, S') → ∀ {H' : Heap} {locs' : List Loc} {ls' : Array Slot}, aWd ad cs D A s.heap S1 H' locs' → Lk ad lw ls' (mL k) L' → (∀ v ∈ st', vok lw v) → W p l e R s m args below meth c H' locs' cells slots Qf (F0 m t ls' (st'.map (cv ad))) :=
      fun h1 _ _ _ h2 h3 h4 => ih d k _ _ _ _ r S' h1 (aB_chk k _) _ (aB_pc k _) p e R s m args below meth c A cells slots lw Qf C _ _ _ h2 h3 h4 hret
    have hx := C.1
    have hb := C.2.1
    cases ins
    all_goals try exact absurd (show (none : aR) = some (r, S') from h) (fun q => by cases q)
    case iconst v =>
      rcases hln with q | rfl
      · cases q
      · replace h : (bif Nat.beq y 0 then ev zs n d k is L (.inl (nI x) :: st) S else ev zs n d k is L (.inl (-1) :: st) S) = some (r, S') := h
        replace hek : (bif Nat.beq y 0 then decide (Int32.ofInt v = nI x) else decide (Int32.ofInt v = -1)) = true := hek
        cases hy : Nat.beq y 0 with
        | true =>
          rw [hy] at h hek
          exact lv_iconst hx hb hd (of_decide_eq_true hek) (nx h hW hL (List.forall_mem_cons.mpr ⟨trivial, hst⟩))
        | false =>
          rw [hy] at h hek
          exact lv_iconst hx hb hd (of_decide_eq_true hek) (nx h hW hL (List.forall_mem_cons.mpr ⟨trivial, hst⟩))
    case bipush v =>
      rcases hln with q | rfl
      · cases q
      · exact lv_bipush hx hb hd (of_decide_eq_true hek) (nx h hW hL (List.forall_mem_cons.mpr ⟨trivial, hst⟩))
    case sipush v =>
      rcases hln with q | rfl
      · cases q
      · exact lv_sipush hx hb hd (of_decide_eq_true hek) (nx h hW hL (List.forall_mem_cons.mpr ⟨trivial, hst⟩))
    case aconst_null =>
      rcases hln with q | rfl
      · cases q
      · exact lv_null hx hb hd (nx h hW hL (List.forall_mem_cons.mpr ⟨trivial, hst⟩))
    case iload v =>
      rcases hln with q | rfl
      · cases q
      · replace h : lk x L (fun v => match v with
            | .inl a => ev zs n d k is L (.inl a :: st) S
            | .inr _ => none) none = some (r, S') := h
        rw [lk_eq] at h
        replace hek := Nat.eq_of_beq_eq_true hek
        subst hek
        split at h
        · rename_i v' hv
          split at h
          · rename_i a
            obtain ⟨h1, h2⟩ := hL.2.2 _ _ hv
            exact lv_iload hx hb hd h1 (nx h hW hL (List.forall_mem_cons.mpr ⟨trivial, hst⟩))
          · cases h
        · cases h
    case iload_n v =>
      rcases hln with q | rfl
      · cases q
      · replace h : lk x L (fun v => match v with
            | .inl a => ev zs n d k is L (.inl a :: st) S
            | .inr _ => none) none = some (r, S') := h
        rw [lk_eq] at h
        
        split at h
        · rename_i v' hv
          split at h
          · rename_i a
            obtain ⟨h1, h2⟩ := hL.2.2 _ _ hv
            exact lv_iload_n hx hb hd (Nat.eq_of_beq_eq_true hek) h1 (nx h hW hL (List.forall_mem_cons.mpr ⟨trivial, hst⟩))
          · cases h
        · cases h
    case aload v =>
      rcases hln with q | rfl
      · cases q
      · replace h : lk x L (fun v => match v with
            | .inl _ => none
            | .inr q => ev zs n d k is L (.inr q :: st) S) none = some (r, S') := h
        rw [lk_eq] at h
        replace hek := Nat.eq_of_beq_eq_true hek
        subst hek
        split at h
        · rename_i v' hv
          split at h
          · cases h
          · rename_i q
            obtain ⟨h1, h2⟩ := hL.2.2 _ _ hv
            obtain ⟨t, j⟩ := q
            cases t with
            | zero => exact lv_aloadN hx hb hd h1 (nx h hW hL (List.forall_mem_cons.mpr ⟨h2, hst⟩))
            | succ t => exact lv_aload hx hb hd h1 (nx h hW hL (List.forall_mem_cons.mpr ⟨h2, hst⟩))
        · cases h
    case aload_n v =>
      rcases hln with q | rfl
      · cases q
      · replace h : lk x L (fun v => match v with
            | .inl _ => none
            | .inr q => ev zs n d k is L (.inr q :: st) S) none = some (r, S') := h
        rw [lk_eq] at h
        skip
        skip
        split at h
        · rename_i v' hv
          split at h
          · cases h
          · rename_i q
            obtain ⟨h1, h2⟩ := hL.2.2 _ _ hv
            obtain ⟨t, j⟩ := q
            cases t with
            | zero => exact lv_aload_nN hx hb hd (Nat.eq_of_beq_eq_true hek) h1 (nx h hW hL (List.forall_mem_cons.mpr ⟨h2, hst⟩))
            | succ t => exact lv_aload_n hx hb hd (Nat.eq_of_beq_eq_true hek) h1 (nx h hW hL (List.forall_mem_cons.mpr ⟨h2, hst⟩))
        · cases h
    case istore v =>
      rcases hln with q | rfl
      · cases q
      · replace hek := (Bool.and_eq_true _ _).mp hek
        have hlt : x < mL k := Nat.le_of_ble_eq_true hek.2
        replace h : (match (generalizing := false) st with
            | .inl a :: st => lst x (.inl a) L (fun L => ev zs n d k is L st S)
            | _ => none) = some (r, S') := h
        have hek0 := Nat.eq_of_beq_eq_true hek.1
        subst hek0
        split at h
        · rename_i a st'
          rw [lst_eq] at h
          replace hst := List.forall_mem_cons.mp hst
          refine lv_istore hx hb hd hL.has hlt rfl (fun ls' hl' => ?_)
          exact nx h hW (hL.store (v := .inl a) trivial hl') hst.2
        · cases h
    case istore_n v =>
      rcases hln with q | rfl
      · cases q
      · replace hek := (Bool.and_eq_true _ _).mp hek
        have hlt : x < mL k := Nat.le_of_ble_eq_true hek.2
        replace h : (match (generalizing := false) st with
            | .inl a :: st => lst x (.inl a) L (fun L => ev zs n d k is L st S)
            | _ => none) = some (r, S') := h
        skip
        split at h
        · rename_i a st'
          rw [lst_eq] at h
          replace hst := List.forall_mem_cons.mp hst
          refine lv_istore_n hx hb hd (Nat.eq_of_beq_eq_true hek.1) hL.has hlt rfl (fun ls' hl' => ?_)
          exact nx h hW (hL.store (v := .inl a) trivial hl') hst.2
        · cases h
    case astore v =>
      rcases hln with q | rfl
      · cases q
      · replace hek := (Bool.and_eq_true _ _).mp hek
        have hlt : x < mL k := Nat.le_of_ble_eq_true hek.2
        replace h : (match (generalizing := false) st with
            | .inr q :: st => lst x (.inr q) L (fun L => ev zs n d k is L st S)
            | _ => none) = some (r, S') := h
        have hek0 := Nat.eq_of_beq_eq_true hek.1
        subst hek0
        split at h
        · rename_i q st'
          rw [lst_eq] at h
          replace hst := List.forall_mem_cons.mp hst
          obtain ⟨t, j⟩ := q
          cases t with
          | zero =>
            refine lv_astoreN hx hb hd hL.has hlt rfl (fun ls' hl' => ?_)
            exact nx h hW (hL.store (v := .inr (0, j)) hst.1 hl') hst.2
          | succ t =>
            refine lv_astore hx hb hd hL.has hlt rfl (fun ls' hl' => ?_)
            exact nx h hW (hL.store (v := .inr (t + 1, j)) hst.1 hl') hst.2
        · cases h
    case astore_n v =>
      rcases hln with q | rfl
      · cases q
      · replace hek := (Bool.and_eq_true _ _).mp hek
        have hlt : x < mL k := Nat.le_of_ble_eq_true hek.2
        replace h : (match (generalizing := false) st with
            | .inr q :: st => lst x (.inr q) L (fun L => ev zs n d k is L st S)
            | _ => none) = some (r, S') := h
        skip
        split at h
        · rename_i q st'
          rw [lst_eq] at h
          replace hst := List.forall_mem_cons.mp hst
          obtain ⟨t, j⟩ := q
          cases t with
          | zero =>
            refine lv_astore_nN hx hb hd (Nat.eq_of_beq_eq_true hek.1) hL.has hlt rfl (fun ls' hl' => ?_)
            exact nx h hW (hL.store (v := .inr (0, j)) hst.1 hl') hst.2
          | succ t =>
            refine lv_astore_n hx hb hd (Nat.eq_of_beq_eq_true hek.1) hL.has hlt rfl (fun ls' hl' => ?_)
            exact nx h hW (hL.store (v := .inr (t + 1, j)) hst.1 hl') hst.2
        · cases h
    case iinc v w =>
      rcases hln with q | rfl
      · cases q
      · replace hek := (Bool.and_eq_true _ _).mp hek
        have hek2 := (Bool.and_eq_true _ _).mp hek.2
        have hlt : x < mL k := Nat.le_of_ble_eq_true hek2.1
        have hek0 := Nat.eq_of_beq_eq_true hek.1
        subst hek0
        replace h : lk v L (fun z => match z with
            | .inl a => bif Nat.beq y 0 then lst v (.inl (a - nI 1)) L (fun L => ev zs n d k is L st S) else lst v (.inl (a + nI y)) L (fun L => ev zs n d k is L st S)
            | .inr _ => none) none = some (r, S') := h
        rw [lk_eq] at h
        split at h
        · rename_i v' hv
          split at h
          · rename_i a
            have hm : (v, Value.int a) ∈ lvL ad L := by
              obtain ⟨q, h1, h2⟩ := lkO_key hv
              exact List.mem_filterMap.mpr ⟨q, h1, by rw [h2, hv]; rfl⟩
            obtain ⟨kk, hkk⟩ := List.getElem?_of_mem hm
            have hek3 : (bif Nat.beq y 0 then decide (Int32.ofInt w = -1) else decide (Int32.ofInt w = nI y)) = true := hek2.2
            cases hy0 : Nat.beq y 0 with
            | true =>
              rw [hy0] at h hek3
              replace h : lst v (.inl (a - nI 1)) L (fun L => ev zs n d k is L st S) = some (r, S') := h
              rw [lst_eq] at h
              refine lv_iinc (v := a - nI 1) hx hb hd hL.has hkk (by rw [of_decide_eq_true hek3, Int32.sub_eq_add_neg]; rfl) hlt rfl (fun ls' hl' => ?_)
              exact nx h hW (hL.store (v := .inl (a - nI 1)) trivial hl') hst
            | false =>
              rw [hy0] at h hek3
              replace h : lst v (.inl (a + nI y)) L (fun L => ev zs n d k is L st S) = some (r, S') := h
              rw [lst_eq] at h
              refine lv_iinc (v := a + nI y) hx hb hd hL.has hkk (by rw [of_decide_eq_true hek3]) hlt rfl (fun ls' hl' => ?_)
              exact nx h hW (hL.store (v := .inl (a + nI y)) trivial hl') hst
          · cases h
        · cases h
    case iadd =>
      rcases hln with q | rfl
      · cases q
      · replace h : (match (generalizing := false) st with
            | .inl b :: .inl a :: st => ev zs n d k is L (.inl (a + b) :: st) S
            | _ => none) = some (r, S') := h
        split at h
        · rename_i b a st'
          replace hst := (List.forall_mem_cons.mp (List.forall_mem_cons.mp hst).2).2
          exact lv_iadd hx hb hd (nx h hW hL (List.forall_mem_cons.mpr ⟨trivial, hst⟩))
        · cases h
    case isub =>
      rcases hln with q | rfl
      · cases q
      · replace h : (match (generalizing := false) st with
            | .inl b :: .inl a :: st => ev zs n d k is L (.inl (a - b) :: st) S
            | _ => none) = some (r, S') := h
        split at h
        · rename_i b a st'
          replace hst := (List.forall_mem_cons.mp (List.forall_mem_cons.mp hst).2).2
          exact lv_isub hx hb hd (nx h hW hL (List.forall_mem_cons.mpr ⟨trivial, hst⟩))
        · cases h
    case imul =>
      rcases hln with q | rfl
      · cases q
      · replace h : (match (generalizing := false) st with
            | .inl b :: .inl a :: st => ev zs n d k is L (.inl (a * b) :: st) S
            | _ => none) = some (r, S') := h
        split at h
        · rename_i b a st'
          replace hst := (List.forall_mem_cons.mp (List.forall_mem_cons.mp hst).2).2
          exact lv_imul hx hb hd (nx h hW hL (List.forall_mem_cons.mpr ⟨trivial, hst⟩))
        · cases h
    case iand =>
      rcases hln with q | rfl
      · cases q
      · replace h : (match (generalizing := false) st with
            | .inl b :: .inl a :: st => ev zs n d k is L (.inl (a &&& b) :: st) S
            | _ => none) = some (r, S') := h
        split at h
        · rename_i b a st'
          replace hst := (List.forall_mem_cons.mp (List.forall_mem_cons.mp hst).2).2
          exact lv_iand hx hb hd (nx h hW hL (List.forall_mem_cons.mpr ⟨trivial, hst⟩))
        · cases h
    case ior =>
      rcases hln with q | rfl
      · cases q
      · replace h : (match (generalizing := false) st with
            | .inl b :: .inl a :: st => ev zs n d k is L (.inl (a ||| b) :: st) S
            | _ => none) = some (r, S') := h
        split at h
        · rename_i b a st'
          replace hst := (List.forall_mem_cons.mp (List.forall_mem_cons.mp hst).2).2
          exact lv_ior hx hb hd (nx h hW hL (List.forall_mem_cons.mpr ⟨trivial, hst⟩))
        · cases h
    case ixor =>
      rcases hln with q | rfl
      · cases q
      · replace h : (match (generalizing := false) st with
            | .inl b :: .inl a :: st => ev zs n d k is L (.inl (a ^^^ b) :: st) S
            | _ => none) = some (r, S') := h
        split at h
        · rename_i b a st'
          replace hst := (List.forall_mem_cons.mp (List.forall_mem_cons.mp hst).2).2
          exact lv_ixor hx hb hd (nx h hW hL (List.forall_mem_cons.mpr ⟨trivial, hst⟩))
        · cases h
    case ishl =>
      rcases hln with q | rfl
      · cases q
      · replace h : (match (generalizing := false) st with
            | .inl b :: .inl a :: st => ev zs n d k is L (.inl (a <<< (b &&& 31)) :: st) S
            | _ => none) = some (r, S') := h
        split at h
        · rename_i b a st'
          replace hst := (List.forall_mem_cons.mp (List.forall_mem_cons.mp hst).2).2
          exact lv_ishl hx hb hd (nx h hW hL (List.forall_mem_cons.mpr ⟨trivial, hst⟩))
        · cases h
    case ishr =>
      rcases hln with q | rfl
      · cases q
      · replace h : (match (generalizing := false) st with
            | .inl b :: .inl a :: st => ev zs n d k is L (.inl (a >>> (b &&& 31)) :: st) S
            | _ => none) = some (r, S') := h
        split at h
        · rename_i b a st'
          replace hst := (List.forall_mem_cons.mp (List.forall_mem_cons.mp hst).2).2
          exact lv_ishr hx hb hd (nx h hW hL (List.forall_mem_cons.mpr ⟨trivial, hst⟩))
        · cases h
    case idiv =>
      rcases hln with q | rfl
      · cases q
      · replace h : (match (generalizing := false) st with
            | .inl b :: .inl a :: st => if b = 0 then none else ev zs n d k is L (.inl (a / b) :: st) S
            | _ => none) = some (r, S') := h
        split at h
        · rename_i b a st'
          replace hst := (List.forall_mem_cons.mp (List.forall_mem_cons.mp hst).2).2
          by_cases hz : b = 0
          · rw [if_pos hz] at h
            cases h
          · rw [if_neg hz] at h
            exact lv_idiv hx hb hd hz (nx h hW hL (List.forall_mem_cons.mpr ⟨trivial, hst⟩))
        · cases h
    case irem =>
      rcases hln with q | rfl
      · cases q
      · replace h : (match (generalizing := false) st with
            | .inl b :: .inl a :: st => if b = 0 then none else ev zs n d k is L (.inl (a - a / b * b) :: st) S
            | _ => none) = some (r, S') := h
        split at h
        · rename_i b a st'
          replace hst := (List.forall_mem_cons.mp (List.forall_mem_cons.mp hst).2).2
          by_cases hz : b = 0
          · rw [if_pos hz] at h
            cases h
          · rw [if_neg hz] at h
            exact lv_irem hx hb hd hz (nx h hW hL (List.forall_mem_cons.mpr ⟨trivial, hst⟩))
        · cases h
    case dup =>
      rcases hln with q | rfl
      · cases q
      · replace h : (match (generalizing := false) st with
            | v :: st => ev zs n d k is L (v :: v :: st) S
            | _ => none) = some (r, S') := h
        split at h
        · rename_i v st'
          have hs := List.forall_mem_cons.mp hst
          exact lv_dup hx hb hd (cv_cat ad v) (nx h hW hL (List.forall_mem_cons.mpr ⟨hs.1, hst⟩))
        · cases h
    case pop =>
      rcases hln with q | rfl
      · cases q
      · replace h : (match (generalizing := false) st with
            | _ :: st => ev zs n d k is L st S
            | _ => none) = some (r, S') := h
        split at h
        · rename_i v st'
          have hs := List.forall_mem_cons.mp hst
          exact lv_pop hx hb hd (cv_cat ad v) (nx h hW hL hs.2)
        · cases h
    case dup_x1 =>
      rcases hln with q | rfl
      · cases q
      · replace h : (match (generalizing := false) st with
            | v :: w :: st => ev zs n d k is L (v :: w :: v :: st) S
            | _ => none) = some (r, S') := h
        split at h
        · rename_i v w st'
          have hs := List.forall_mem_cons.mp hst
          have hs2 := List.forall_mem_cons.mp hs.2
          exact lv_dup_x1 hx hb hd (cv_cat ad v) (cv_cat ad w) (nx h hW hL (List.forall_mem_cons.mpr ⟨hs.1, List.forall_mem_cons.mpr ⟨hs2.1, List.forall_mem_cons.mpr ⟨hs.1, hs2.2⟩⟩⟩))
        · cases h
    case dup_x2 =>
      rcases hln with q | rfl
      · cases q
      · replace h : (match (generalizing := false) st with
            | v :: w :: z :: st => ev zs n d k is L (v :: w :: z :: v :: st) S
            | _ => none) = some (r, S') := h
        split at h
        · rename_i v w z st'
          have hs := List.forall_mem_cons.mp hst
          have hs2 := List.forall_mem_cons.mp hs.2
          have hs3 := List.forall_mem_cons.mp hs2.2
          exact lv_dup_x2 hx hb hd (cv_cat ad v) (cv_cat ad w) (cv_cat ad z) (nx h hW hL (List.forall_mem_cons.mpr ⟨hs.1, List.forall_mem_cons.mpr ⟨hs2.1, List.forall_mem_cons.mpr ⟨hs3.1, List.forall_mem_cons.mpr ⟨hs.1, hs3.2⟩⟩⟩⟩))
        · cases h
    case dup2 =>
      rcases hln with q | rfl
      · cases q
      · replace h : (match (generalizing := false) st with
            | v :: w :: st => ev zs n d k is L (v :: w :: v :: w :: st) S
            | _ => none) = some (r, S') := h
        split at h
        · rename_i v w st'
          have hs := List.forall_mem_cons.mp hst
          have hs2 := List.forall_mem_cons.mp hs.2
          exact lv_dup2_11 hx hb hd (cv_cat ad v) (cv_cat ad w) (nx h hW hL (List.forall_mem_cons.mpr ⟨hs.1, List.forall_mem_cons.mpr ⟨hs2.1, hst⟩⟩))
        · cases h
    case goto f =>
      rcases hln with q | rfl
      · cases q
      · exact lv_goto hx hb hd (of_decide_eq_true hek) (jp (t := x) h hW hL hst)
    case ifnull f =>
      rcases hln with q | rfl
      · cases q
      · replace h : (match (generalizing := false) st with
            | .inr (0, _) :: st => ev zs n d k (aB k x) L st S
            | .inr (_ + 1, _) :: st => ev zs n d k is L st S
            | _ => none) = some (r, S') := h
        split at h
        · replace hst := (List.forall_mem_cons.mp hst).2
          exact lv_ifnullN hx hb hd (of_decide_eq_true hek) (jp (t := x) h hW hL hst)
        · replace hst := (List.forall_mem_cons.mp hst).2
          exact lv_ifnull hx hb hd (nx h hW hL hst)
        · cases h
    case ifnonnull f =>
      rcases hln with q | rfl
      · cases q
      · replace h : (match (generalizing := false) st with
            | .inr (0, _) :: st => ev zs n d k is L st S
            | .inr (_ + 1, _) :: st => ev zs n d k (aB k x) L st S
            | _ => none) = some (r, S') := h
        split at h
        · replace hst := (List.forall_mem_cons.mp hst).2
          exact lv_ifnonnullN hx hb hd (nx h hW hL hst)
        · replace hst := (List.forall_mem_cons.mp hst).2
          exact lv_ifnonnull hx hb hd (of_decide_eq_true hek) (jp (t := x) h hW hL hst)
        · cases h
    case ifCond cc f =>
      rcases hln with q | rfl
      · cases q
      · have ht := of_decide_eq_true hek
        replace h : (match (generalizing := false) st with
            | .inl a :: st => (match (generalizing := false) cc with
              | .eq => if a = 0 then ev zs n d k (aB k x) L st S else ev zs n d k is L st S
              | .ne => if ¬ a = 0 then ev zs n d k (aB k x) L st S else ev zs n d k is L st S
              | .lt => if a < 0 then ev zs n d k (aB k x) L st S else ev zs n d k is L st S
              | .ge => if 0 ≤ a then ev zs n d k (aB k x) L st S else ev zs n d k is L st S
              | .gt => if 0 < a then ev zs n d k (aB k x) L st S else ev zs n d k is L st S
              | .le => if a ≤ 0 then ev zs n d k (aB k x) L st S else ev zs n d k is L st S)
            | _ => none) = some (r, S') := h
        split at h
        · rename_i a st'
          replace hst := (List.forall_mem_cons.mp hst).2
          cases cc
          case eq =>
            refine lv_if_eq hx hb hd ht (fun q => ?_) (fun q => ?_)
            · exact jp (t := x) ((if_pos q).symm.trans h) hW hL hst
            · exact nx ((if_neg q).symm.trans h) hW hL hst
          case ne =>
            refine lv_if_ne hx hb hd ht (fun q => ?_) (fun q => ?_)
            · exact jp (t := x) ((if_pos q).symm.trans h) hW hL hst
            · exact nx ((if_neg (fun z => z q)).symm.trans h) hW hL hst
          case lt =>
            refine lv_if_lt hx hb hd ht (fun q => ?_) (fun q => ?_)
            · exact jp (t := x) ((if_pos q).symm.trans h) hW hL hst
            · exact nx ((if_neg q).symm.trans h) hW hL hst
          case ge =>
            refine lv_if_ge hx hb hd ht (fun q => ?_) (fun q => ?_)
            · exact jp (t := x) ((if_pos q).symm.trans h) hW hL hst
            · exact nx ((if_neg q).symm.trans h) hW hL hst
          case gt =>
            refine lv_if_gt hx hb hd ht (fun q => ?_) (fun q => ?_)
            · exact jp (t := x) ((if_pos q).symm.trans h) hW hL hst
            · exact nx ((if_neg q).symm.trans h) hW hL hst
          case le =>
            refine lv_if_le hx hb hd ht (fun q => ?_) (fun q => ?_)
            · exact jp (t := x) ((if_pos q).symm.trans h) hW hL hst
            · exact nx ((if_neg q).symm.trans h) hW hL hst
        · cases h
    case if_icmp cc f =>
      rcases hln with q | rfl
      · cases q
      · have ht := of_decide_eq_true hek
        replace h : (match (generalizing := false) st with
            | .inl b :: .inl a :: st => (match (generalizing := false) cc with
              | .eq => if a = b then ev zs n d k (aB k x) L st S else ev zs n d k is L st S
              | .ne => if ¬ a = b then ev zs n d k (aB k x) L st S else ev zs n d k is L st S
              | .lt => if a < b then ev zs n d k (aB k x) L st S else ev zs n d k is L st S
              | .ge => if b ≤ a then ev zs n d k (aB k x) L st S else ev zs n d k is L st S
              | .gt => if b < a then ev zs n d k (aB k x) L st S else ev zs n d k is L st S
              | .le => if a ≤ b then ev zs n d k (aB k x) L st S else ev zs n d k is L st S)
            | _ => none) = some (r, S') := h
        split at h
        · rename_i b a st'
          replace hst := (List.forall_mem_cons.mp (List.forall_mem_cons.mp hst).2).2
          cases cc
          case eq =>
            refine lv_icmp_eq hx hb hd ht (fun q => ?_) (fun q => ?_)
            · exact jp (t := x) ((if_pos q).symm.trans h) hW hL hst
            · exact nx ((if_neg q).symm.trans h) hW hL hst
          case ne =>
            refine lv_icmp_ne hx hb hd ht (fun q => ?_) (fun q => ?_)
            · exact jp (t := x) ((if_pos q).symm.trans h) hW hL hst
            · exact nx ((if_neg (fun z => z q)).symm.trans h) hW hL hst
          case lt =>
            refine lv_icmp_lt hx hb hd ht (fun q => ?_) (fun q => ?_)
            · exact jp (t := x) ((if_pos q).symm.trans h) hW hL hst
            · exact nx ((if_neg q).symm.trans h) hW hL hst
          case ge =>
            refine lv_icmp_ge hx hb hd ht (fun q => ?_) (fun q => ?_)
            · exact jp (t := x) ((if_pos q).symm.trans h) hW hL hst
            · exact nx ((if_neg q).symm.trans h) hW hL hst
          case gt =>
            refine lv_icmp_gt hx hb hd ht (fun q => ?_) (fun q => ?_)
            · exact jp (t := x) ((if_pos q).symm.trans h) hW hL hst
            · exact nx ((if_neg q).symm.trans h) hW hL hst
          case le =>
            refine lv_icmp_le hx hb hd ht (fun q => ?_) (fun q => ?_)
            · exact jp (t := x) ((if_pos q).symm.trans h) hW hL hst
            · exact nx ((if_neg q).symm.trans h) hW hL hst
        · cases h
    case tableswitch df lo hi offs =>
      replace h : (match (generalizing := false) st with
          | .inl a :: st => ev zs n d k (aB k (tsel a pc df lo offs.toList)) L st S
          | _ => none) = some (r, S') := h
      replace hek : (decide (0 ≤ (pc : Int) + df) && (decide (lo = 0) && (decide (hi + 1 = (offs.size : Int)) && (decide (offs.size ≤ 100) && offs.toList.all (fun o => decide (0 ≤ (pc : Int) + o)))))) = true := hek
      simp only [Bool.and_eq_true, decide_eq_true_eq] at hek
      obtain ⟨k1, rfl, k3, k4, k5⟩ := hek
      split at h
      · rename_i a st'
        replace hst := (List.forall_mem_cons.mp hst).2
        have hsp := tsel_spec (a := a) (pc := pc) (df := df) offs.toList 0 (by omega) (by simp; omega)
        have hlen : (offs.toList.length : Int) = (offs.size : Int) := by simp
        by_cases hin : a.toInt < 0 ∨ hi < a.toInt
        · have e1 := hsp.1 (by rw [hlen]; omega)
          rw [e1] at h
          exact lv_tableOut hx hb hd hin (by omega) (jp h hW hL hst)
        · have hin1 : ¬ a.toInt < 0 := fun q => hin (Or.inl q)
          have hin2 : ¬ hi < a.toInt := fun q => hin (Or.inr q)
          obtain ⟨o, e1, e2⟩ := hsp.2 a.toInt.toNat (by omega) (by omega)
          have h0 : 0 ≤ (pc : Int) + o := by simpa using List.all_eq_true.mp k5 o (List.mem_of_getElem? e1)
          rw [e2] at h
          refine lv_tableIn hx hb hd hin1 hin2 (off := o) ?_ (by omega) (jp h hW hL hst)
          rw [show (a.toInt - 0).toNat = a.toInt.toNat by omega, ← Array.getElem?_toList]
          exact e1
      · cases h
    case getfield i =>
      rcases hln with q | rfl
      · cases q
      · replace h : (match (generalizing := false) st with
            | .inr (t, j) :: st => (match (generalizing := false) aK t with
              | .inl (ci, fs) => bif Nat.beq ci x then (match (generalizing := false) fs[y]? with
                | some none => ev zs n d k is L (.inl (S t j y) :: st) S
                | some (some t') => ev zs n d k is L (.inr (t', j) :: st) S
                | none => none) else none
              | .inr _ => none)
            | _ => none) = some (r, S') := h
        split at h
        · rename_i t j st'
          have hs := List.forall_mem_cons.mp hst
          split at h
          · rename_i ci fs hk
            cases hb1 : Nat.beq ci x with
            | false => rw [hb1] at h; cases h
            | true =>
              rw [hb1] at h
              have e1 := Nat.eq_of_beq_eq_true hb1
              subst e1
              obtain ⟨hj, hcv⟩ := vok_ref (ad0 := ad) hs.1 (by rw [hk]; intro q; cases q) (by rw [hk]; intro q; cases q)
              have hgo : ∀ {v : Value}, W p l e R s m args below meth c H locs cells slots Qf (F0 m pc ls (Value.ref (ad t j) :: st'.map (cv ad))) → W p l e R s m args below meth c H locs cells slots Qf (F0 m pc ls ((Sum.inr (t, j) :: st').map (cv ad))) := fun q => by
                rw [List.map_cons, hcv]; exact q
              refine hgo (v := .null) ?_
              replace h : (match (generalizing := false) fs[y]? with
                | some none => ev zs n d k is L (.inl (S t j y) :: st') S
                | some (some t') => ev zs n d k is L (.inr (t', j) :: st') S
                | none => none) = some (r, S') := h
              split at h
              · rename_i hf
                exact a_get C hW hj hk hf hek hd (nx h hW hL (List.forall_mem_cons.mpr ⟨trivial, hs.2⟩))
              · rename_i t' hf
                obtain ⟨u, rfl, hu⟩ := aK_fld hk hf
                exact a_get C hW hj hk hf hek hd (nx h hW hL (List.forall_mem_cons.mpr ⟨Or.inl (by omega), hs.2⟩))
              · cases h
          · cases h
        · cases h
    case putfield i =>
      rcases hln with q | rfl
      · cases q
      · replace hek := (Bool.and_eq_true _ _).mp hek
        replace h : (match (generalizing := false) st with
            | .inl a :: .inr (t, j) :: st => (match (generalizing := false) aK t with
              | .inl (ci, fs) => bif Nat.beq ci x then (match (generalizing := false) fs[y]? with
                | some none => ev zs n d k is L st (au S t j y a)
                | _ => none) else none
              | .inr _ => none)
            | _ => none) = some (r, S') := h
        split at h
        · rename_i a t j st'
          have hs := List.forall_mem_cons.mp (List.forall_mem_cons.mp hst).2
          split at h
          · rename_i ci fs hk
            cases hb1 : Nat.beq ci x with
            | false => rw [hb1] at h; cases h
            | true =>
              rw [hb1] at h
              have e1 := Nat.eq_of_beq_eq_true hb1
              subst e1
              obtain ⟨hj, hcv⟩ := vok_ref (ad0 := ad) hs.1 (by rw [hk]; intro q; cases q) (by rw [hk]; intro q; cases q)
              rw [List.map_cons, List.map_cons, hcv]
              replace h : (match (generalizing := false) fs[y]? with
                | some none => ev zs n d k is L st' (au S t j y a)
                | _ => none) = some (r, S') := h
              split at h
              · rename_i hf
                exact a_put C hW hj hk hf hek.1 hek.2 hd (fun H1 locs1 hW1 => nx h hW1 hL hs.2)
              · cases h
          · cases h
        · cases h
    case iaload =>
      rcases hln with q | rfl
      · cases q
      · replace h : (match (generalizing := false) st with
            | .inl i :: .inr (t, j) :: st => (match (generalizing := false) aK t with
              | .inr (0, n', _) => if 0 ≤ i.toInt ∧ i.toInt < (n' : Int) then ev zs n d k is L (.inl (S t j i.toNatClampNeg) :: st) S else none
              | .inr (3, _, _) => if 0 ≤ i.toInt ∧ i.toInt < (zs.1 : Int) then ev zs n d k is L (.inl (zs.2 i.toNatClampNeg) :: st) S else none
              | _ => none)
            | _ => none) = some (r, S') := h
        split at h
        · rename_i i t j st'
          have hs := List.forall_mem_cons.mp (List.forall_mem_cons.mp hst).2
          split at h
          · rename_i n' z hk
            by_cases hi : 0 ≤ i.toInt ∧ i.toInt < (n' : Int)
            · rw [if_pos hi] at h
              obtain ⟨hj, hcv⟩ := vok_ref (ad0 := ad) hs.1 (by rw [hk]; intro q; cases q) (by rw [hk]; intro q; cases q)
              rw [List.map_cons, List.map_cons, hcv]
              exact a_iald C hW hj hk hi hd (nx h hW hL (List.forall_mem_cons.mpr ⟨trivial, hs.2⟩))
            · rw [if_neg hi] at h; cases h
          · rename_i n' z hk
            by_cases hi : 0 ≤ i.toInt ∧ i.toInt < (zs.1 : Int)
            · rw [if_pos hi] at h
              cases t with
              | zero => cases hk
              | succ t =>
                rcases hs.1 with h9 | ⟨rfl, rfl, rfl⟩
                · exact absurd (aN_lt h9) (fun q => by
                    have : ∀ t, t < 38 → ∀ a b, aK t ≠ .inr (3, a, b) := by
                      intro t ht a b
                      have hd : ∀ t, t < 38 → (match (generalizing := false) aK t with
                        | .inr (3, _, _) => false
                        | _ => true) = true := by decide +kernel
                      have := hd t ht
                      intro q
                      rw [q] at this
                      cases this
                    exact this _ q _ _ hk)
                · exact a_sld C hW hi hd (nx h hW hL (List.forall_mem_cons.mpr ⟨trivial, hs.2⟩))
            · rw [if_neg hi] at h; cases h
          · cases h
        · cases h
    case baload =>
      rcases hln with q | rfl
      · cases q
      · replace h : (match (generalizing := false) st with
            | .inl i :: .inr (t, j) :: st => (match (generalizing := false) aK t with
              | .inr (1, n', _) => if 0 ≤ i.toInt ∧ i.toInt < (n' : Int) then ev zs n d k is L (.inl (S t j i.toNatClampNeg) :: st) S else none
              | _ => none)
            | _ => none) = some (r, S') := h
        split at h
        · rename_i i t j st'
          have hs := List.forall_mem_cons.mp (List.forall_mem_cons.mp hst).2
          split at h
          · rename_i n' z hk
            by_cases hi : 0 ≤ i.toInt ∧ i.toInt < (n' : Int)
            · rw [if_pos hi] at h
              obtain ⟨hj, hcv⟩ := vok_ref (ad0 := ad) hs.1 (by rw [hk]; intro q; cases q) (by rw [hk]; intro q; cases q)
              rw [List.map_cons, List.map_cons, hcv]
              exact a_zald C hW hj hk hi hd (nx h hW hL (List.forall_mem_cons.mpr ⟨trivial, hs.2⟩))
            · rw [if_neg hi] at h; cases h
          · cases h
        · cases h
    case aaload =>
      rcases hln with q | rfl
      · cases q
      · replace h : (match (generalizing := false) st with
            | .inl i :: .inr (t, _) :: st => (match (generalizing := false) aK t with
              | .inr (2, n', t') => if 0 ≤ i.toInt ∧ i.toInt < (n' : Int) then ev zs n d k is L (.inr (t', i.toNatClampNeg) :: st) S else none
              | _ => none)
            | _ => none) = some (r, S') := h
        split at h
        · rename_i i t j st'
          have hs := List.forall_mem_cons.mp (List.forall_mem_cons.mp hst).2
          split at h
          · rename_i n' t' hk
            by_cases hi : 0 ≤ i.toInt ∧ i.toInt < (n' : Int)
            · rw [if_pos hi] at h
              obtain ⟨hj, hcv⟩ := vok_ref (ad0 := ad) hs.1 (by rw [hk]; intro q; cases q) (by rw [hk]; intro q; cases q)
              rw [List.map_cons, List.map_cons, hcv]
              obtain ⟨u, rfl, hu⟩ := aK_arr hk
              have hlt : i.toNatClampNeg < aN (u + 1) := by
                have : ((i.toInt.toNat : Nat) : Int) = i.toInt := by omega
                show i.toInt.toNat < _
                omega
              exact a_aald C hW hj hk hi hd (nx h hW hL (List.forall_mem_cons.mpr ⟨Or.inl hlt, hs.2⟩))
            · rw [if_neg hi] at h; cases h
          · cases h
        · cases h
    case iastore =>
      rcases hln with q | rfl
      · cases q
      · replace h : (match (generalizing := false) st with
            | .inl a :: .inl i :: .inr (t, j) :: st => (match (generalizing := false) aK t with
              | .inr (0, n', _) => if 0 ≤ i.toInt ∧ i.toInt < (n' : Int) then ev zs n d k is L st (au S t j i.toNatClampNeg a) else none
              | _ => none)
            | _ => none) = some (r, S') := h
        split at h
        · rename_i a i t j st'
          have hs := List.forall_mem_cons.mp (List.forall_mem_cons.mp (List.forall_mem_cons.mp hst).2).2
          split at h
          · rename_i n' z hk
            by_cases hi : 0 ≤ i.toInt ∧ i.toInt < (n' : Int)
            · rw [if_pos hi] at h
              obtain ⟨hj, hcv⟩ := vok_ref (ad0 := ad) hs.1 (by rw [hk]; intro q; cases q) (by rw [hk]; intro q; cases q)
              rw [List.map_cons, List.map_cons, List.map_cons, hcv]
              exact a_iast C hW hj hk hi hd (fun H1 locs1 hW1 => nx h hW1 hL hs.2)
            · rw [if_neg hi] at h; cases h
          · cases h
        · cases h
    case bastore =>
      rcases hln with q | rfl
      · cases q
      · replace h : (match (generalizing := false) st with
            | .inl a :: .inl i :: .inr (t, j) :: st => (match (generalizing := false) aK t with
              | .inr (1, n', _) => if (0 ≤ i.toInt ∧ i.toInt < (n' : Int)) ∧ (a = 0 ∨ a = 1) then ev zs n d k is L st (au S t j i.toNatClampNeg a) else none
              | _ => none)
            | _ => none) = some (r, S') := h
        split at h
        · rename_i a i t j st'
          have hs := List.forall_mem_cons.mp (List.forall_mem_cons.mp (List.forall_mem_cons.mp hst).2).2
          split at h
          · rename_i n' z hk
            by_cases hi : (0 ≤ i.toInt ∧ i.toInt < (n' : Int)) ∧ (a = 0 ∨ a = 1)
            · rw [if_pos hi] at h
              obtain ⟨hj, hcv⟩ := vok_ref (ad0 := ad) hs.1 (by rw [hk]; intro q; cases q) (by rw [hk]; intro q; cases q)
              rw [List.map_cons, List.map_cons, List.map_cons, hcv]
              exact a_zast C hW hj hk hi.1 hi.2 hd (fun H1 locs1 hW1 => nx h hW1 hL hs.2)
            · rw [if_neg hi] at h; cases h
          · cases h
        · cases h
    case arraylength =>
      rcases hln with q | rfl
      · cases q
      · replace h : (match (generalizing := false) st with
            | .inr (t, _) :: st => (match (generalizing := false) aK t with
              | .inr (3, _, _) => ev zs n d k is L (.inl (Int32.ofNat zs.1) :: st) S
              | .inr (9, _, _) => none
              | .inr (_, n', _) => ev zs n d k is L (.inl (nI n') :: st) S
              | _ => none)
            | _ => none) = some (r, S') := h
        split at h
        · rename_i t j st'
          have hs := List.forall_mem_cons.mp hst
          split at h
          · rename_i n' z hk
            cases t with
            | zero => cases hk
            | succ t =>
              rcases hs.1 with h9 | ⟨rfl, rfl, rfl⟩
              · exact absurd (aN_lt h9) (fun q => by
                  have hd : ∀ t, t < 38 → (match (generalizing := false) aK t with
                    | .inr (3, _, _) => false
                    | _ => true) = true := by decide +kernel
                  have := hd _ q
                  rw [hk] at this
                  cases this)
              · exact a_slen C hW hd (nx h hW hL (List.forall_mem_cons.mpr ⟨trivial, hs.2⟩))
          · cases h
          · rename_i g n' z hn3 hn9 hk
            cases t with
            | zero => exact absurd hk (by intro q; cases q; exact hn9 rfl)
            | succ t =>
              rcases hs.1 with h9 | ⟨rfl, rfl, rfl⟩
              · exact a_alen C hW h9 hk hd (nx h hW hL (List.forall_mem_cons.mpr ⟨trivial, hs.2⟩))
              · exact absurd hk (by intro q; cases q; exact hn3 rfl)
          · cases h
        · cases h
    case invokevirtual i =>
      rcases hln with q | rfl
      · cases q
      · replace h : acal true (ev zs n) d k x y is L st S = some (r, S') := h
        replace hek : (mlC (mO k) i x && (Nat.beq y (mA x) && (mvC x 1 && Nat.blt x 96))) = true := hek
        simp only [Bool.and_eq_true] at hek
        obtain ⟨k1, k2, k3, k4⟩ := hek
        have k2 := Nat.eq_of_beq_eq_true k2
        have k4 : x < 96 := Nat.le_of_ble_eq_true k4
        unfold acal at h
        cases d with
        | zero => cases h
        | succ d =>
          dsimp only at h
          obtain ⟨as, rest, rfl, h2, h3⟩ := popN_spec y st [] h
          rw [List.append_nil] at h3
          cases hg : (Nat.ble rest.length 8 && (as.all aok && (bif true then aRc x as else true))) with
          | false => rw [hg] at h3; cases h3
          | true =>
            rw [hg] at h3
            simp only [Bool.and_eq_true] at hg
            obtain ⟨g1, g2, g3⟩ := hg
            have g3 : aRc x as = true := g3
            have hall : ∀ v ∈ as, vok false v := fun v hv => vok_aok (hst v (List.mem_append_left _ (List.mem_reverse.mpr hv))) (List.all_eq_true.mp g2 v hv)
            have hrest : ∀ v ∈ rest, vok lw v := fun v hv => hst v (List.mem_append_right _ hv)
            replace h3 : (ev zs n d x (aB x 0) (mkL 0 as) [] S).bind (fun p => ev zs n (d + 1) k is L (pu p.1 rest) p.2) = some (r, S') := h3
            cases h4 : ev zs n d x (aB x 0) (mkL 0 as) [] S with
            | none => rw [h4] at h3; cases h3
            | some q =>
              obtain ⟨r1, S1⟩ := q
              rw [h4] at h3
              replace h3 : ev zs n (d + 1) k is L (pu r1 rest) S1 = some (r, S') := h3
              cases as with
              | nil => cases g3
              | cons v0 as =>
                refine a_callV ih C hW hL.1 k3 k4 k1 (h2.trans k2) hall g3 (Nat.le_of_ble_eq_true g1) h4 hd (y := 0) (fun H1 locs1 hW1 hv1 => nx h3 hW1 hL ?_)
                cases r1 with
                | none => exact hrest
                | some v => exact List.forall_mem_cons.mpr ⟨vok_false (hv1 v rfl), hrest⟩
    case invokestatic i =>
      rcases hln with q | rfl
      · cases q
      · replace hek : (bif Nat.beq x 1000 then mxC (mO k) i else bif Nat.beq x 1001 then acC (mO k) i else (mlC (mO k) i x && (Nat.beq y (mA x) && (mvC x 0 && Nat.blt x 96)))) = true := hek
        replace h : (bif Nat.beq x 1000 then (match (generalizing := false) d, st with
              | _ + 1, .inl b :: .inl a :: st => bif Nat.ble st.length 8 then ev zs n d k is L (.inl (if a < b then b else a) :: st) S else none
              | _, _ => none)
            else bif Nat.beq x 1001 then (match (generalizing := false) d, st with
              | _ + 1, .inl n' :: .inl dp :: .inr (t1, j1) :: .inl sp :: .inr (t0, j0) :: st => (match (generalizing := false) aK t0, aK t1 with
                | .inr (0, n0, _), .inr (0, n1, _) => bif Nat.ble st.length 8 then (if 0 ≤ sp.toInt ∧ 0 ≤ dp.toInt ∧ 0 ≤ n'.toInt ∧ sp.toInt + n'.toInt ≤ (n0 : Int) ∧ dp.toInt + n'.toInt ≤ (n1 : Int) then ev zs n d k is L st (acp S t0 j0 t1 j1 sp.toNatClampNeg dp.toNatClampNeg n'.toNatClampNeg) else none) else none
                | _, _ => none)
              | _, _ => none)
            else acal false (ev zs n) d k x y is L st S) = some (r, S') := h
        cases hx0 : Nat.beq x 1000 with
        | true =>
          rw [hx0] at h hek
          replace h : (match (generalizing := false) d, st with
              | _ + 1, .inl b :: .inl a :: st => bif Nat.ble st.length 8 then ev zs n d k is L (.inl (if a < b then b else a) :: st) S else none
              | _, _ => none) = some (r, S') := h
          split at h
          · rename_i d' b a st'
            cases h8 : Nat.ble st'.length 8 with
            | false => rw [h8] at h; cases h
            | true =>
              rw [h8] at h
              replace hst := (List.forall_mem_cons.mp (List.forall_mem_cons.mp hst).2).2
              exact a_max C hL.1 hek (Nat.le_of_ble_eq_true h8) hd (nx h hW hL (List.forall_mem_cons.mpr ⟨trivial, hst⟩))
          · cases h
        | false =>
          rw [hx0] at h hek
          cases hx1 : Nat.beq x 1001 with
          | true =>
            rw [hx1] at h hek
            replace h : (match (generalizing := false) d, st with
              | _ + 1, .inl n' :: .inl dp :: .inr (t1, j1) :: .inl sp :: .inr (t0, j0) :: st => (match (generalizing := false) aK t0, aK t1 with
                | .inr (0, n0, _), .inr (0, n1, _) => bif Nat.ble st.length 8 then (if 0 ≤ sp.toInt ∧ 0 ≤ dp.toInt ∧ 0 ≤ n'.toInt ∧ sp.toInt + n'.toInt ≤ (n0 : Int) ∧ dp.toInt + n'.toInt ≤ (n1 : Int) then ev zs n d k is L st (acp S t0 j0 t1 j1 sp.toNatClampNeg dp.toNatClampNeg n'.toNatClampNeg) else none) else none
                | _, _ => none)
              | _, _ => none) = some (r, S') := h
            split at h
            · rename_i d' n' dp t1 j1 sp t0 j0 st'
              have h1 := List.forall_mem_cons.mp (List.forall_mem_cons.mp (List.forall_mem_cons.mp hst).2).2
              have h0 := List.forall_mem_cons.mp (List.forall_mem_cons.mp h1.2).2
              split at h
              · rename_i n0 z0 n1 z1 hk0 hk1
                cases h8 : Nat.ble st'.length 8 with
                | false => rw [h8] at h; cases h
                | true =>
                  rw [h8] at h
                  replace h : (if 0 ≤ sp.toInt ∧ 0 ≤ dp.toInt ∧ 0 ≤ n'.toInt ∧ sp.toInt + n'.toInt ≤ (n0 : Int) ∧ dp.toInt + n'.toInt ≤ (n1 : Int) then ev zs n (d' + 1) k is L st' (acp S t0 j0 t1 j1 sp.toNatClampNeg dp.toNatClampNeg n'.toNatClampNeg) else none) = some (r, S') := h
                  by_cases hi : 0 ≤ sp.toInt ∧ 0 ≤ dp.toInt ∧ 0 ≤ n'.toInt ∧ sp.toInt + n'.toInt ≤ (n0 : Int) ∧ dp.toInt + n'.toInt ≤ (n1 : Int)
                  · rw [if_pos hi] at h
                    obtain ⟨hj1, hcv1⟩ := vok_ref (ad0 := ad) h1.1 (by rw [hk1]; intro q; cases q) (by rw [hk1]; intro q; cases q)
                    obtain ⟨hj0, hcv0⟩ := vok_ref (ad0 := ad) h0.1 (by rw [hk0]; intro q; cases q) (by rw [hk0]; intro q; cases q)
                    rw [List.map_cons, List.map_cons, List.map_cons, List.map_cons, List.map_cons, hcv1, hcv0]
                    exact a_acp C hW hL.1 hek (Nat.le_of_ble_eq_true h8) hj0 hj1 hk0 hk1 hi hd (fun H1 locs1 hW1 => nx h hW1 hL h0.2)
                  · rw [if_neg hi] at h; cases h
              · cases h
            · cases h
          | false =>
            rw [hx1] at h hek
            replace h : acal false (ev zs n) d k x y is L st S = some (r, S') := h
            replace hek : (mlC (mO k) i x && (Nat.beq y (mA x) && (mvC x 0 && Nat.blt x 96))) = true := hek
            simp only [Bool.and_eq_true] at hek
            obtain ⟨k1, k2, k3, k4⟩ := hek
            have k2 := Nat.eq_of_beq_eq_true k2
            have k4 : x < 96 := Nat.le_of_ble_eq_true k4
            unfold acal at h
            cases d with
            | zero => cases h
            | succ d =>
              dsimp only at h
              obtain ⟨as, rest, rfl, h2, h3⟩ := popN_spec y st [] h
              rw [List.append_nil] at h3
              cases hg : (Nat.ble rest.length 8 && (as.all aok && (bif false then aRc x as else true))) with
              | false => rw [hg] at h3; cases h3
              | true =>
                rw [hg] at h3
                simp only [Bool.and_eq_true] at hg
                obtain ⟨g1, g2, g3⟩ := hg
                have hall : ∀ v ∈ as, vok false v := fun v hv => vok_aok (hst v (List.mem_append_left _ (List.mem_reverse.mpr hv))) (List.all_eq_true.mp g2 v hv)
                have hrest : ∀ v ∈ rest, vok lw v := fun v hv => hst v (List.mem_append_right _ hv)
                replace h3 : (ev zs n d x (aB x 0) (mkL 0 as) [] S).bind (fun p => ev zs n (d + 1) k is L (pu p.1 rest) p.2) = some (r, S') := h3
                cases h4 : ev zs n d x (aB x 0) (mkL 0 as) [] S with
                | none => rw [h4] at h3; cases h3
                | some q =>
                  obtain ⟨r1, S1⟩ := q
                  rw [h4] at h3
                  replace h3 : ev zs n (d + 1) k is L (pu r1 rest) S1 = some (r, S') := h3
                  refine a_callS ih C hW hL.1 k3 k4 k1 (h2.trans k2) hall (Nat.le_of_ble_eq_true g1) h4 hd (y := 0) (fun H1 locs1 hW1 hv1 => nx h3 hW1 hL ?_)
                  cases r1 with
                  | none => exact hrest
                  | some v => exact List.forall_mem_cons.mpr ⟨vok_false (hv1 v rfl), hrest⟩
    case ireturn =>
      rcases hln with q | rfl
      · cases q
      · replace h : (match (generalizing := false) st with
            | [.inl a] => bif Nat.beq x 0 then some (some (.inl a), S) else if a = 0 ∨ a = 1 then some (some (.inl a), S) else none
            | _ => none) = some (r, S') := h
        replace hek : (bif Nat.beq x 0 then decide (mR k = some .int) else decide (mR k = some .boolean)) = true := hek
        split at h
        · rename_i a
          cases hx0 : Nat.beq x 0 with
          | true =>
            rw [hx0] at h hek
            replace h : some (some (Sum.inl a), S) = some (r, S') := h
            cases h
            exact hret H locs pc ls .ireturn hW hd (Or.inl (of_decide_eq_true hek)) (fun v hv => by cases hv; trivial)
          | false =>
            rw [hx0] at h hek
            replace h : (if a = 0 ∨ a = 1 then some (some (Sum.inl a), S) else none) = some (r, S') := h
            by_cases ha : a = 0 ∨ a = 1
            · rw [if_pos ha] at h
              cases h
              exact hret H locs pc ls .ireturn hW hd (Or.inr ⟨of_decide_eq_true hek, ha⟩) (fun v hv => by cases hv; trivial)
            · rw [if_neg ha] at h; cases h
        · cases h
    case areturn =>
      rcases hln with q | rfl
      · cases q
      · replace h : (match (generalizing := false) st with
            | [.inr q] => some (some (.inr q), S)
            | _ => none) = some (r, S') := h
        replace hek : (match (generalizing := false) mR k with
            | some (.object _) => true
            | _ => false) = true := hek
        split at h
        · rename_i q
          cases h
          split at hek
          · rename_i Cn hC
            exact hret H locs pc ls .areturn hW hd ⟨Cn, hC⟩ (fun v hv => by cases hv; exact hst _ List.mem_cons_self)
          · cases hek
        · cases h
    case return_ =>
      rcases hln with q | rfl
      · cases q
      · replace hek : decide (mR k = none) = true := hek
        replace h : (match (generalizing := false) st with
            | [] => some (none, S)
            | _ => none) = some (r, S') := h
        split at h
        · cases h
          exact hret H locs pc ls .return_ hW hd (show mR k = none from of_decide_eq_true hek) (fun v hv => by cases hv)
        · cases h
theorem snd_all (ad : Nat → Nat → Nat) (cs : Nat → ClassId) (D : va_G) (zs : Nat × (Nat → Int32)) (l : Launch) : ∀ n, SndP ad cs D zs l n
  | 0 => fun d k is L st S r S' h => by cases h
  | n + 1 => snd_step (snd_all ad cs D zs l n)
