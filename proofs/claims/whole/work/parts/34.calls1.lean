/-! THE CALLS, in pairs: first the class's, then the reference's -/
theorem XF.sa (q : Nat) (kind set num : Int32) (m k : Nat) (S : aS) : XF S (xSA q kind set num m k S) := fun t j i ht => xSA_ne q kind set num (by omega) (by omega) m k S
theorem MF.sa (q : Nat) (kind set num : Int32) (m k : Nat) (S : aS) : MF S (mSA q kind set num m k S) := fun t j i ht => mSA_ne q kind set num (by omega) (by omega) m k S
theorem MF.th (S : aS) : MF S (mTh S) := fun k j i hk => mTh_ne S (by omega)
theorem MF.rt (S : aS) (s : Int32) (k : Nat) : MF S (mRt S s k) := fun t j i hk => mRt_ne S s k (by omega)
theorem XF.ask (S : aS) (q : Nat) : XF S (xAsk S q) := ((XF.au S (by omega)).trans (XF.au _ (by omega))).trans (XF.sa _ _ _ _ _ _ _)
theorem XF.write (S : aS) (q : Nat) : XF S (xWrite S q) := by
  unfold xWrite
  split
  · exact XF.rfl' S
  · exact ((XF.au S (by omega)).trans (XF.au _ (by omega))).trans (XF.sa _ _ _ _ _ _ _)
theorem XF.end (S : aS) (q : Nat) : XF S (xEnd S q) := (XF.sa _ _ _ _ _ _ _).trans (XF.au _ (by omega))
theorem XF.begin (S : aS) (q : Nat) (v : Int32) : XF S (xBegin S q v) := fun k j i hk => by
  unfold xBegin
  rw [au_ne _ _ _ (by omega), au_ne _ _ _ (by omega), au_ne _ _ _ (by omega), au_ne _ _ _ (by omega), au_ne _ _ _ (by omega), au_ne _ _ _ (by omega), au_ne _ _ _ (by omega), au_ne _ _ _ (by omega), au_ne _ _ _ (by omega)]
theorem XF.want (S : aS) (q c : Nat) (v : Int32) : XF S (xWant S q c v) := ((XF.au S (by omega)).trans (XF.begin _ _ _)).trans (XF.ask _ _)
theorem XF.timeout (S : aS) (q : Nat) (arb : Int32) : XF S (xTimeout S q arb) := ((XF.au S (by omega)).trans (XF.ask _ _)).trans (XF.write _ _)
theorem XF.break (S : aS) (c r : Nat) (num : Int32) : XF S (xBreak S c r num) := ((XF.au S (by omega)).trans (XF.sa _ _ _ _ _ _ _)).trans (XF.send _ _ _ _ _ _ _ _)
theorem XF.rem (S : aS) (n i : Nat) : XF S (xRem S n i) := fun k j x hk => xRem_ne S n i (by omega) (by omega)
theorem XF.rep (S : aS) (n i : Nat) : XF S (xRep S n i) := fun k j x hk => xRep_ne S n i (by omega) (by omega)
theorem MF.writes (S : aS) (q : Nat) : MF S (mWrites S q) := by
  unfold mWrites
  split
  · exact MF.rt _ _ _
  · exact ((((((MF.rt _ _ _).trans (MF.au _ (by omega))).trans (MF.au _ (by omega))).trans (MF.au _ (by omega))).trans (MF.au _ (by omega))).trans (MF.sa _ _ _ _ _ _ _))
theorem MF.asks (S : aS) (q : Nat) : MF S (mAsks S q) := by
  unfold mAsks
  split
  · exact MF.rt _ _ _
  · exact ((((MF.rt _ _ _).trans (MF.au _ (by omega))).trans (MF.sa _ _ _ _ _ _ _))).trans (MF.writes _ _)
theorem MF.ends (S : aS) (q : Nat) : MF S (mEnds S q) := (MF.sa _ _ _ _ _ _ _).trans (MF.au _ (by omega))
theorem MF.want (S : aS) (q c : Nat) (v : Int32) : MF S (mWant S q c v) := (((((((MF.th S).trans (MF.au _ (by omega))).trans (MF.au _ (by omega))).trans (MF.au _ (by omega))).trans (MF.au _ (by omega))).trans (MF.au _ (by omega))).trans (MF.au _ (by omega))).trans (MF.asks _ _)
theorem MF.timeout (S : aS) (q : Nat) (arb : Int32) : MF S (mTimeout S q arb) := ((MF.th S).trans (MF.au _ (by omega))).trans (MF.asks _ _)
theorem MF.break (S : aS) (c r : Nat) (num : Int32) : MF S (mBreak S c r num) := ((MF.au S (by omega)).trans (MF.sa _ _ _ _ _ _ _)).trans (MF.send _ _ _ _ _ _ _ _)
theorem MF.rem (S : aS) (n i : Nat) : MF S (mRem S n i) := fun k j x hk => mRem_ne S n i (by omega) (by omega)
theorem MF.copy (S : aS) (n i : Nat) : MF S (mCopy S n i) := fun k j x hk => by
  unfold mCopy
  rw [au_ne _ _ _ (by omega), mCpy_ne _ _ _ _ (by omega)]
  exact mTh_ne S (by omega)
section CA
variable {zs : Nat × (Nat → Int32)} {d t : Nat} {X : aS}
/-- both calls answer the same, and the relation stands -/
def Bc (zs : Nat × (Nat → Int32)) (d n m : Nat) (A : aL) (X : aS) (t : Nat) : Prop := ∃ v T T', Rn zs d n (aB n 0) ((0, .inr (1, 0)) :: A) [] X (rE (some (.inl v)) T) ∧ Rn zs d m (aB m 0) ((0, .inr (14, 0)) :: A) [] T (rE (some (.inl v)) T') ∧ Inv t T' T'
theorem Inv.both {t : Nat} {T T' : aS} (h : Inv t T T') (hm : MF T T') : Inv t T' T' := h.scratch (Nat.le_refl t) (fun k hk j i => hm k j i hk) rfl (fun _ _ _ _ => rfl)
theorem bno {n m : Nat} {A : aL} {v : Int32} (h : Inv t X X) (hc : Rn zs d n (aB n 0) ((0, .inr (1, 0)) :: A) [] X (rE (some (.inl v)) X)) (hr : Rn zs d m (aB m 0) ((0, .inr (14, 0)) :: A) [] X (rE (some (.inl v)) (mTh X))) : Bc zs d n m A X (t + 1) := ⟨v, X, mTh X, hc, hr, (h.th.both (MF.th X)).up⟩
theorem byes {n m : Nat} {A : aL} {v : Int32} {T : aS} (h : Inv t X X) (hc : Rn zs d n (aB n 0) ((0, .inr (1, 0)) :: A) [] X (rE (some (.inl v)) T)) (hx : XF X T) (hr : ∀ M, XF X M → Inv t X M → ∃ T', Rn zs d m (aB m 0) ((0, .inr (14, 0)) :: A) [] M (rE (some (.inl v)) T') ∧ MF M T' ∧ Inv (t + 1) T T') : Bc zs d n m A X (t + 1) := by
  obtain ⟨T', h1, h2, h3⟩ := hr T hx (h.scratch (Nat.le_refl t) (fun _ _ _ _ => rfl) (hx 14 0 21 (by omega)) (fun k h1 h2 i => hx k 0 i (by omega)))
  exact ⟨v, T, T', hc, h1, h3.both h2⟩
theorem Inv.oks {S M : aS} (h : Inv t S M) : POK S ∧ QOK M ∧ pn S = qn M := by
  obtain ⟨n, hp, -⟩ := h.1
  obtain ⟨a, b, c, e⟩ := hp.pok
  exact ⟨a, c, b.trans e.symm⟩
theorem Inv.st {S M : aS} {q : Nat} (hq : q < 32) (h : Inv t S M) : S 8 q 2 = M 17 0 q ∧ ∃ s, s ≤ 4 ∧ M 17 0 q = nI s ∧ (1 ≤ s → BR t M q) := by
  obtain ⟨-, s, b1, b2, b3, -, -, -, b7⟩ := h.2.1 q hq
  exact ⟨b2.trans b3.symm, s, b1, b3, b7⟩
theorem b_want (ht : t < 1000) (h : Inv t X X) (a b : Int32) : Bc zs (d + 8) 0 60 [(1, .inl a), (2, .inl b)] X (t + 1) := by
  rcases pair_or a b with hp | ⟨c, r, hc, hr, rfl, rfl⟩
  · exact bno h (x_want_no hp) (m_want_no hp)
  · have hq : 4 * c + r < 32 := by omega
    have hs := (h.st hq).1
    by_cases h0 : X 8 (4 * c + r) 2 = 0
    · refine byes h (x_want hc hr h.oks.1 h0) (XF.want _ _ _ _) (fun M hM hI => ?_)
      obtain ⟨hw, hw2⟩ := hI.want hc hr ht
      refine ⟨_, ?_, MF.want _ _ _ _, hw⟩
      have := m_want (zs := zs) (d := d) hc hr hI.oks.2.1 ((hI.st hq).1.symm.trans h0)
      rw [← hw2] at this ⊢
      exact this
    · exact bno h (x_want_busy hc hr h0) (m_want_busy hc hr (by rw [← hs]; exact h0))
theorem b_timeout (h : Inv t X X) (a b x : Int32) : Bc zs (d + 8) 12 67 [(1, .inl a), (2, .inl b), (3, .inl x)] X (t + 1) := by
  rcases pair_or a b with hp | ⟨c, r, hc, hr, rfl, rfl⟩
  · exact bno h (x_timeout_no1 hp) (m_timeout_no1 hp)
  · rcases outc_or x (n := 15) (by omega) with hx | ⟨k, hk, rfl⟩
    · exact bno h (x_timeout_no2 hc hr hx) (m_timeout_no2 hc hr hx)
    · have hq : 4 * c + r < 32 := by omega
      have hs := (h.st hq).1
      have h6 := (h.2.1 _ hq).1.2.2.2.1
      by_cases h0 : X 8 (4 * c + r) 2 ≠ nI 1 ∨ ¬ bt (X 8 (4 * c + r) 6) (nI k) = 0
      · exact bno h (x_timeout_no3 hc hr hk h0) (m_timeout_no3 hc hr hk (by rw [← hs, ← h6]; exact h0))
      · have h1 : X 8 (4 * c + r) 2 = nI 1 := Classical.byContradiction (fun z => h0 (Or.inl z))
        have h2 : bt (X 8 (4 * c + r) 6) (nI k) = 0 := Classical.byContradiction (fun z => h0 (Or.inr z))
        refine byes h (x_timeout hc hr hk h.oks.1 h1 h2) (XF.timeout _ _ _) (fun M hM hI => ?_)
        have hs' := (hI.st hq).1.symm.trans h1
        refine ⟨_, m_timeout hc hr hk hI.oks.2.1 hs' ?_, MF.timeout _ _ _, (hI.timeout hq hs').up⟩
        rw [← (hI.2.1 _ hq).1.2.2.2.1]
        exact h2
theorem b_giveUp (h : Inv t X X) (a b : Int32) : Bc zs (d + 8) 14 69 [(1, .inl a), (2, .inl b)] X (t + 1) := by
  rcases pair_or a b with hp | ⟨c, r, hc, hr, rfl, rfl⟩
  · exact bno h (x_giveUp_no1 hp) (m_giveUp_no1 hp)
  · have hq : 4 * c + r < 32 := by omega
    obtain ⟨hs, s, s4, hs2, -⟩ := h.st hq
    by_cases h0 : s < 1 ∨ 2 < s
    · refine bno h (x_giveUp_no2 hc hr ?_ ?_) (m_giveUp_no2 hc hr hs2 s4 h0)
      · rw [hs, hs2]; exact nI_ne (by omega) (by omega) (by omega)
      · rw [hs, hs2]; exact nI_ne (by omega) (by omega) (by omega)
    · refine byes h (x_giveUp hc hr h.oks.1 ?_) (XF.end _ _) (fun M hM hI => ?_)
      · rw [hs, hs2, nI_eq (by omega) (by omega), nI_eq (by omega) (by omega)]; omega
      · have e : M 17 0 (4 * c + r) = nI s := (hI.st hq).1.symm.trans (hs.trans hs2)
        refine ⟨_, m_giveUp hc hr hI.oks.2.1 e (by omega) (by omega), (MF.th _).trans (MF.ends _ _), (hI.th.ends hq ?_).up⟩
        obtain ⟨-, s', s4', e', hb⟩ := hI.th.st hq
        refine hb ?_
        have : s = s' := (nI_eq (by omega) (by omega)).mp ((e.symm.trans (mTh_ne M (by decide)).symm).trans e')
        omega
theorem b_release (h : Inv t X X) (a b : Int32) : Bc zs (d + 8) 16 71 [(1, .inl a), (2, .inl b)] X (t + 1) := by
  rcases pair_or a b with hp | ⟨c, r, hc, hr, rfl, rfl⟩
  · exact bno h (x_release_no1 hp) (m_release_no1 hp)
  · have hq : 4 * c + r < 32 := by omega
    obtain ⟨hs, s, s4, hs2, -⟩ := h.st hq
    by_cases h0 : s < 3
    · refine bno h (x_release_no2 hc hr ?_) (m_release_no2 hc hr hs2 h0)
      rw [hs, hs2, nI_eq (by omega) (by omega), nI_eq (by omega) (by omega)]
      omega
    · refine byes h (x_release hc hr h.oks.1 ?_) (XF.end _ _) (fun M hM hI => ?_)
      · rw [hs, hs2, nI_eq (by omega) (by omega), nI_eq (by omega) (by omega)]; omega
      · have e : M 17 0 (4 * c + r) = nI s := (hI.st hq).1.symm.trans (hs.trans hs2)
        refine ⟨_, m_release hc hr hI.oks.2.1 e (by omega) (by omega), (MF.th _).trans (MF.ends _ _), (hI.th.ends hq ?_).up⟩
        obtain ⟨-, s', s4', e', hb⟩ := hI.th.st hq
        refine hb ?_
        have : s = s' := (nI_eq (by omega) (by omega)).mp ((e.symm.trans (mTh_ne M (by decide)).symm).trans e')
        omega
theorem b_order (h : Inv t X X) (a b x : Int32) : Bc zs (d + 8) 19 73 [(1, .inl a), (2, .inl b), (3, .inl x)] X (t + 1) := by
  rcases pair_or a b with hp | ⟨c, r, hc, hr, rfl, rfl⟩
  · exact bno h (x_order_no1 hp) (m_order_no1 hp)
  · have hq : 4 * c + r < 32 := by omega
    obtain ⟨hs, s, s4, hs2, -⟩ := h.st hq
    by_cases h0 : s < 3
    · refine bno h (x_order_no2 hc hr ?_) (m_order_no2 hc hr hs2 h0)
      rw [hs, hs2, nI_eq (by omega) (by omega), nI_eq (by omega) (by omega)]
      omega
    · refine byes h (x_order hc hr h.oks.1 ?_) (XF.send _ _ _ _ _ _ _ _) (fun M hM hI => ?_)
      · rw [hs, hs2, nI_eq (by omega) (by omega), nI_eq (by omega) (by omega)]; omega
      · have e : M 17 0 (4 * c + r) = nI s := (hI.st hq).1.symm.trans (hs.trans hs2)
        refine ⟨_, m_order hc hr hI.oks.2.1 e (by omega) (by omega), (MF.th _).trans (MF.send _ _ _ _ _ _ _ _), ?_⟩
        obtain ⟨⟨-, -, a3, -⟩, s', b1, b2, b3, -, b5, -, b7⟩ := hI.th.2.1 _ hq
        have : s = s' := (nI_eq (by omega) (by omega)).mp ((e.symm.trans (mTh_ne M (by decide)).symm).trans b3)
        have e3 := a3.trans (mTh_ne M (by decide))
        have e4 := (b5 (by omega)).2.2.trans (mTh_ne M (by decide))
        rw [e3, e4]
        have hl := lv_78 (κ := 8) (a := -1) (z := M 24 0 (4 * c + r)) hq (b7 (by omega)) (Or.inr rfl)
        rw [mTh_ne M (by decide), show (4 * c + r) / 4 = c by omega, show (4 * c + r) % 4 = r by omega] at hl
        exact (hI.th.send hl).up
theorem b_stop (h : Inv t X X) (x : Int32) : Bc zs (d + 8) 21 74 [(1, .inl x)] X (t + 1) := by
  rcases outc_or x (n := 15) (by omega) with hx | ⟨k, hk, rfl⟩
  · exact bno h (x_stop_no1 hx) (m_stop_no1 hx)
  · have hd := (h.2.2.2.2.2 k hk).2
    by_cases h0 : bt (X 1 0 5) (nI k) = 0
    · refine byes h (x_stop hk h0) (XF.au _ (by omega)) (fun M hM hI => ⟨_, m_stop hk ((hI.2.2.2.2.2 k hk).2.mp h0), (MF.th _).trans (MF.au _ (by omega)), (hI.th.down hk (Or.inr rfl) (fun b hb => ?_)).up⟩)
      rw [bt_set _ hk hb]
      by_cases e : b = k
      · rw [if_pos e]
        exact ⟨fun z => absurd e z.2, fun z => absurd z (nI_ne0 (by omega) (by omega))⟩
      · rw [if_neg e]
        exact ⟨fun z => z.1, fun z => ⟨z, e⟩⟩
    · exact bno h (x_stop_no2 hk h0) (m_stop_no2 hk (fun z => h0 (hd.mpr z)))
theorem b_start (h : Inv t X X) (x : Int32) : Bc zs (d + 8) 22 75 [(1, .inl x)] X (t + 1) := by
  rcases outc_or x (n := 15) (by omega) with hx | ⟨k, hk, rfl⟩
  · exact bno h (x_start_no1 hx) (m_start_no1 hx)
  · have hd := (h.2.2.2.2.2 k hk).2
    by_cases h0 : bt (X 1 0 5) (nI k) = 0
    · exact bno h (x_start_no2 hk h0) (m_start_no2 hk (hd.mp h0))
    · refine byes h (x_start hk h0) (XF.au _ (by omega)) (fun M hM hI => ⟨_, m_start hk (fun z => h0 ((hI.2.2.2.2.2 k hk).2.mpr z)), (MF.th _).trans (MF.au _ (by omega)), (hI.th.down hk (Or.inl rfl) (fun b hb => ?_)).up⟩)
      rw [bt_clr _ hk hb]
      by_cases e : b = k
      · rw [if_pos e]
        exact ⟨fun _ => rfl, fun _ => Or.inr e⟩
      · rw [if_neg e]
        exact ⟨fun z => z.elim id (fun z => absurd z e), fun z => Or.inl z⟩
theorem b_break (h : Inv t X X) (b num : Int32) : Bc zs (d + 8) 18 72 [(1, .inl b), (2, .inl num)] X (t + 1) := by
  rcases outc_or b (n := 4) (by omega) with hx | ⟨r, hr, rfl⟩
  · exact bno h (x_break_no hx) (m_break_no hx)
  · have hc := x_break (zs := zs) (d := d) (num := num) hr h.oks.1
    cases hf : bpF X r num 8 0 with
    | none =>
      rw [hf] at hc
      have hm := m_break (zs := zs) (d := d) (num := num) hr h.oks.2.1
      rw [← bp_eq hr h.th 8 0 rfl, hf] at hm
      exact bno h hc hm
    | some c =>
      rw [hf] at hc
      refine byes h hc (XF.break _ _ _ _) (fun M hM hI => ?_)
      have hm := m_break (zs := zs) (d := d) (num := num) hr hI.oks.2.1
      have hg := (bp_eq hr hI.th 8 0 rfl).symm.trans hf
      rw [hg] at hm
      obtain ⟨-, hc8, h17⟩ := bpG_some hg
      exact ⟨_, hm, (MF.th _).trans (MF.break _ _ _ _), (hI.th.brk (by omega) hr h17).up⟩
end CA
