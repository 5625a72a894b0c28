/-! THE CALLS, in pairs: deliver -/
theorem MF.com (S : aS) (i K : Nat) : MF S (mCom S i K) := fun k j x hk => mCom_ne S i K (by omega)
theorem MF.mx (S : aS) (n i : Nat) : MF S (mX S n i) := ((MF.th S).trans (MF.com _ _ _)).trans (MF.rem _ _ _)
theorem MF.sto (S : aS) (q : Nat) (arb : Int32) : MF S (mSto S q arb) := (MF.au S (by omega)).trans (MF.au _ (by omega))
theorem MF.obey (S : aS) (r : Nat) (a b : Int32) (n : Nat) : MF S (mObey S r a b n) := (((MF.au S (by omega)).trans (MF.au _ (by omega))).trans (MF.au _ (by omega))).trans (MF.au _ (by omega))
theorem XF.obey (S : aS) (r : Nat) (a b : Int32) (n : Nat) : XF S (xObey S r a b n) := (((XF.au S (by omega)).trans (XF.au _ (by omega))).trans (XF.au _ (by omega))).trans (XF.au _ (by omega))
theorem XF.sto (S : aS) (q : Nat) (arb : Int32) : XF S (xSto S q arb) := by
  unfold xSto
  split
  · exact (XF.au S (by omega)).trans (XF.au _ (by omega))
  · exact XF.au S (by omega)
theorem nx_mul (a b : Nat) : nI a * nI b = nI (a * b) := Int32.toBitVec_inj.mp (by rw [Int32.toBitVec_mul]; exact (BitVec.ofNat_mul _ _).symm)
section CD
variable {zs : Nat × (Nat → Int32)} {d t : Nat}
/-- what comes of a letter, in both -/
def Dc (zs : Nat × (Nat → Int32)) (d t : Nat) (S M0 : aS) (i κ γ ρ ν : Nat) (A Z G : Int32) : Prop := ∃ T, Rn zs (d + 8) 27 ((aB 27 13).drop 46) (xDL i (nI κ) (nI γ) (nI ρ) (nI ν) A Z G) [] S (rE (some (.inl (nI 1))) T) ∧ XF S T ∧ ∀ M, MA M M0 → Inv t S M → M 36 0 1 = nI γ → M 36 0 3 = nI ν → M 36 0 4 = A → M 36 0 6 = G → ∃ T', Rn zs (d + 8) 79 ((aB 79 46).drop 18) [(0, .inr (14, 0)), (1, .inl (nI i)), (2, .inl (nI κ)), (3, .inl (nI ρ)), (4, .inl Z)] [] M (rE (some (.inl (nI 1))) T') ∧ MF M T' ∧ Inv (t + 1) T T'
theorem d_broken {S M0 : aS} {i γ ρ ν : Nat} {A Z G : Int32} (hρ : ρ < 4) : Dc zs d t S M0 i 7 γ ρ ν A Z G := ⟨_, x_del_broken hρ (x_hearBroken ρ Z), (XF.au _ (by omega)).trans (XF.au _ (by omega)), fun _ _ hI _ _ _ _ => ⟨_, m_del_broken hρ, (MF.au _ (by omega)).trans (MF.au _ (by omega)), (hI.brkn hρ).up⟩⟩
theorem d_order {S M0 : aS} {i γ ρ ν : Nat} {A Z G : Int32} (ht : t < 1000) (h : Inv t S M0) (hρ : ρ < 4) : Dc zs d t S M0 i 8 γ ρ ν A Z G := by
  obtain ⟨a1, a2, ⟨n, a3, a4, a5⟩, a6⟩ := h.2.2.2.1 ρ hρ
  by_cases ho : Z < S 11 ρ 0 ∨ Z ≤ S 11 ρ 1
  · refine ⟨_, x_del_order hρ (x_obey_no ho), XF.rfl' _, fun M hM hI _ _ _ h6 => ⟨_, m_del_order h6 (m_obeys_no hρ ?_), MF.rfl' _, hI.up⟩⟩
    obtain ⟨b1, b2, -⟩ := hI.2.2.2.1 ρ hρ
    rw [← b1, ← b2]
    exact ho
  · refine ⟨_, x_del_order hρ (x_obey (fun z => ho (Or.inl z)) (fun z => ho (Or.inr z)) a4 (by omega)), XF.obey _ _ _ _ _, fun M hM hI _ _ _ h6 => ?_⟩
    obtain ⟨b1, b2, -⟩ := hI.2.2.2.1 ρ hρ
    exact ⟨_, m_del_order h6 (m_obeys hρ (fun z => ho (Or.inl (by rw [b1]; exact z))) (fun z => ho (Or.inr (by rw [b2]; exact z))) ((hM 32 _ (by omega) (by omega)).trans a5) (by omega)), MF.obey _ _ _ _ _, hI.obey hρ a3⟩
theorem d_vote {S M0 : aS} {i γ ρ ν α : Nat} {Z G : Int32} (h : Inv t S M0) (hγ : γ < 8) (hρ : ρ < 4) (hα : α < 15) (hl : LV t M0 (nI 2) (nI γ) (nI ρ) (nI ν) (nI α) Z) (hh : M0 17 0 (4 * γ + ρ) = nI 1 → M0 18 0 (4 * γ + ρ) = nI ν → Hd M0 (4 * α + ρ) γ ν ∧ Z = M0 29 0 (4 * α + ρ)) : Dc zs d t S M0 i 2 γ ρ ν (nI α) Z G := by
  have hq : 4 * γ + ρ < 32 := by omega
  have q4 : (4 * γ + ρ) / 4 = γ := by omega
  have q5 : (4 * γ + ρ) % 4 = ρ := by omega
  have hst : ∀ M, Inv t S M → S 8 (4 * γ + ρ) 2 = M 17 0 (4 * γ + ρ) ∧ S 8 (4 * γ + ρ) 3 = M 18 0 (4 * γ + ρ) := fun M hI => ⟨(hI.st hq).1, (hI.2.1 _ hq).1.2.2.1⟩
  by_cases h0 : S 8 (4 * γ + ρ) 2 = 0 ∨ S 8 (4 * γ + ρ) 3 ≠ nI ν
  · refine ⟨_, x_del_vote hγ hρ (x_takeVote_late h.oks.1 h0), XF.send _ _ _ _ _ _ _ _, fun M hM hI h1 h3 h4 _ => ?_⟩
    have h0' := h0
    rw [(hst M hI).1, (hst M hI).2] at h0'
    refine ⟨_, m_del_told (Or.inl rfl) h1 h3 h4 (m_told_late hq hI.oks.2.1 h0'), MF.send _ _ _ _ _ _ _ _, (hI.late (z := Z) hq ?_ h0').up⟩
    rw [q4, q5]
    exact hl.same (Nat.le_refl t) (fun i => hM 16 i (by omega) (by omega)) (fun i => hM 17 i (by omega) (by omega)) (fun i => hM 18 i (by omega) (by omega)) (fun i => hM 26 i (by omega) (by omega)) (fun i => hM 27 i (by omega) (by omega)) (fun i => hM 28 i (by omega) (by omega)) (fun i => hM 29 i (by omega) (by omega))
  · by_cases h1 : S 8 (4 * γ + ρ) 2 = nI 1
    · refine ⟨_, x_del_vote hγ hρ (x_takeVote_ask h.oks.1 h0 h1), ((XF.au _ (by omega)).trans (XF.au _ (by omega))).trans (XF.write _ _), fun M hM hI g1 g3 g4 _ => ?_⟩
      have h0' := h0
      rw [(hst M hI).1, (hst M hI).2] at h0'
      have h17 := (hst M hI).1.symm.trans h1
      have h18 : M 18 0 (4 * γ + ρ) = nI ν := Classical.byContradiction (fun z => h0' (Or.inr z))
      obtain ⟨e1, e2⟩ := hh ((hM 17 _ (by omega) (by omega)).symm.trans h17) ((hM 18 _ (by omega) (by omega)).symm.trans h18)
      refine ⟨_, m_del_told (Or.inl rfl) g1 g3 g4 (m_told_ask hq hα hI.oks.2.1 h0' h17), ((MF.au _ (by omega)).trans (MF.au _ (by omega))).trans (MF.writes _ _), (hI.vote hq hα h17 h18 ?_ ?_).up⟩
      · rw [q4, q5]
        exact e1.congr (fun i => hM 26 i (by omega) (by omega)) (fun i => hM 27 i (by omega) (by omega)) (fun i => hM 28 i (by omega) (by omega))
      · rw [q5, hM 29 _ (by omega) (by omega)]
        exact e2
    · refine ⟨_, x_del_vote hγ hρ (x_takeVote_other h0 h1), XF.rfl' _, fun M hM hI g1 g3 g4 _ => ?_⟩
      have h0' := h0
      rw [(hst M hI).1, (hst M hI).2] at h0'
      exact ⟨_, m_del_told (Or.inl rfl) g1 g3 g4 (m_told_other hq h0' (by rw [← (hst M hI).1]; exact h1)), MF.rfl' _, hI.up⟩
theorem d_stored {S M0 : aS} {i γ ρ ν α : Nat} {Z G : Int32} (h : Inv t S M0) (hγ : γ < 8) (hρ : ρ < 4) (hα : α < 15) : Dc zs d t S M0 i 4 γ ρ ν (nI α) Z G := by
  have hq : 4 * γ + ρ < 32 := by omega
  have hst : ∀ M, Inv t S M → S 8 (4 * γ + ρ) 2 = M 17 0 (4 * γ + ρ) ∧ S 8 (4 * γ + ρ) 3 = M 18 0 (4 * γ + ρ) := fun M hI => ⟨(hI.st hq).1, (hI.2.1 _ hq).1.2.2.1⟩
  by_cases h0 : (S 8 (4 * γ + ρ) 2 = 0 ∨ S 8 (4 * γ + ρ) 3 ≠ nI ν) ∨ S 8 (4 * γ + ρ) 2 ≠ nI 2
  · refine ⟨_, x_del_stored hγ hρ (x_takeStored_no (h0.imp id Or.inl)), XF.rfl' _, fun M hM hI g1 g3 g4 _ => ?_⟩
    have h0' := h0
    rw [(hst M hI).1, (hst M hI).2] at h0'
    exact ⟨_, m_del_told (Or.inr rfl) g1 g3 g4 (m_told_sno hq h0'), MF.rfl' _, hI.up⟩
  · have h1 : ¬ (S 8 (4 * γ + ρ) 2 = 0 ∨ S 8 (4 * γ + ρ) 3 ≠ nI ν) := fun z => h0 (Or.inl z)
    have h2 : S 8 (4 * γ + ρ) 2 = nI 2 := Classical.byContradiction (fun z => h0 (Or.inr z))
    have hx : ∃ T, T = (if bt (S 8 (4 * γ + ρ) 7) (nI α) = 0 then S else xSto S (4 * γ + ρ) (nI α)) ∧ XF S T ∧ Rn zs (d + 7) 31 (aB 31 0) [(0, .inr (1, 0)), (1, .inr (8, 4 * γ + ρ)), (2, .inl (nI ν)), (3, .inl (nI α))] [] S (rE none T) := by
      by_cases hb : bt (S 8 (4 * γ + ρ) 7) (nI α) = 0
      · exact ⟨S, (if_pos hb).symm, XF.rfl' _, x_takeStored_no (Or.inr (Or.inr hb))⟩
      · exact ⟨_, (if_neg hb).symm, XF.sto _ _ _, x_takeStored h1 h2 hb⟩
    obtain ⟨T, hT, hF, hR⟩ := hx
    refine ⟨T, x_del_stored hγ hρ hR, hF, fun M hM hI g1 g3 g4 _ => ?_⟩
    have h1' := h1
    rw [(hst M hI).1, (hst M hI).2] at h1'
    have h2' := (hst M hI).1.symm.trans h2
    refine ⟨_, m_del_told (Or.inr rfl) g1 g3 g4 (m_told_sto hq h1' h2'), MF.sto _ _ _, ?_⟩
    rw [hT]
    exact (hI.sto hq hα h2').up
theorem d_arb {S M0 : aS} {i κ γ ρ ν α : Nat} {Z G : Int32} (ht : t < 1000) (h : Inv t S M0) (hκ : κ = 1 ∨ κ = 3 ∨ κ = 5 ∨ κ = 6) (hγ : γ < 8) (hρ : ρ < 4) (hα : α < 15) (hν : 1 ≤ ν) (hw : ∃ w, M0 16 0 γ = nI w ∧ ν ≤ w ∧ w ≤ t) (hn : κ ≠ 1 → ¬ (M0 17 0 (4 * γ + ρ) = nI 1 ∧ M0 18 0 (4 * γ + ρ) = nI ν)) : Dc zs d t S M0 i κ γ ρ ν (nI α) Z G := by
  by_cases hb : bt (S 1 0 5) (nI α) = 0
  · have hr : ∃ T, Rn zs (d + 7) 36 (aB 36 0) [(0, .inr (1, 0)), (1, .inl (nI κ)), (2, .inl (nI α)), (3, .inl (nI ρ)), (4, .inl (nI (8 * ν + γ))), (5, .inl Z)] [] S (rE none T) ∧ XF S T ∧ ∀ M, MA M M0 → Inv t S M → ∃ T', Rn zs (d + 7) 83 (aB 83 0) [(0, .inr (14, 0)), (1, .inl (nI κ)), (2, .inl (nI (4 * α + ρ))), (3, .inl (nI γ)), (4, .inl (nI ν)), (5, .inl Z)] [] M (rE none T') ∧ MF M T' ∧ Inv t T T' := by
      rcases hκ with rfl | rfl | hκ
      · exact Inv.reach1 (d := d + 3) ht hα hρ hγ hν hw h
      · exact Inv.reach3 (d := d + 3) ht hα hρ hγ hν hw (hn (by omega)) h
      · exact Inv.reach5 (d := d + 3) hκ ht hα hρ hγ hν hw (hn (by omega)) h
    obtain ⟨T, r1, r2, r3⟩ := hr
    have e : nI ν * nI 8 + nI γ = nI (8 * ν + γ) := by rw [nx_mul, nI_add, Nat.mul_comm]
    rw [← e] at r1
    refine ⟨T, x_del_up hκ hb r1, r2, fun M hM hI g1 g3 g4 _ => ?_⟩
    obtain ⟨T', s1, s2, s3⟩ := r3 M hM hI
    exact ⟨T', m_del_up hκ hα g4 g1 g3 ((hI.2.2.2.2.2 α hα).2.mp hb) s1, s2, s3.up⟩
  · exact ⟨_, x_del_down hκ hb, XF.rfl' _, fun M hM hI g1 g3 g4 _ => ⟨_, m_del_down hκ hα g4 (fun z => hb ((hI.2.2.2.2.2 α hα).2.mpr z)), MF.rfl' _, hI.up⟩⟩
theorem b_deliver {X : aS} (ht : t < 1000) (h : Inv t X X) (a : Int32) : Bc zs (d + 8) 27 79 [(1, .inl a)] X (t + 1) := by
  obtain ⟨hP, hQ, hn⟩ := h.oks
  have h240 := hP.2
  rcases outc_or a (n := pn X) (by omega) with hx | ⟨i, hi, rfl⟩
  · exact bno h (x_deliver_no hP hx) (m_deliver_no hQ (by rw [← hn]; exact hx))
  obtain ⟨n, hn'⟩ : ∃ n, pn X = n + 1 := ⟨pn X - 1, by omega⟩
  have hXM : ∀ M, Inv t X M → Inv t (xRem X n i) (mX M n i) ∧ M 14 0 21 = nI (n + 1) := fun M hI => by
    obtain ⟨-, hQ', hn2⟩ := hI.oks
    have e : M 14 0 21 = nI (n + 1) := by rw [← hn', hn2]; exact hQ'.1
    have hc : Inv t X (mCom (mTh M) i 8) := hI.th.scratch (Nat.le_refl t) (fun _ _ _ _ => rfl) (mCom_ne _ _ _ (by decide)) (fun k h1 h2 x => mCom_ne _ _ _ (by omega))
    exact ⟨hc.rem ((mCom_ne _ _ _ (by decide)).trans ((mTh_l M).trans e)) (by omega) (by omega), e⟩
  have hk : ∀ M k x, 15 ≤ k → k ≤ 34 → mX M n i k 0 x = M k 0 x := fun M k x h1 h2 => by
    unfold mX
    rw [mRem_ne _ _ _ (by omega) (by omega), mCom_ne _ _ _ (by omega), mTh_ne _ (by omega)]
  have h0 := (hXM X h).1
  obtain ⟨n0, p1, p2⟩ := h.1
  have hn0 : n0 = n + 1 := p1.pok.2.1.symm.trans hn'
  subst hn0
  obtain ⟨κ, γ, ρ, ν, e1, e2, e3, e4, e5, e6, e7, e8, e9, e10⟩ := p2 i (by omega)
  have hl := p2 i (by omega)
  have hl0 : LV t (mX X n i) (X 35 0 (8 * i)) (X 35 0 (8 * i + 1)) (X 35 0 (8 * i + 2)) (X 35 0 (8 * i + 3)) (X 35 0 (8 * i + 4)) (X 35 0 (8 * i + 5)) := hl.same (Nat.le_refl t) (fun i => hk X 16 i (by omega) (by omega)) (fun i => hk X 17 i (by omega) (by omega)) (fun i => hk X 18 i (by omega) (by omega)) (fun i => hk X 26 i (by omega) (by omega)) (fun i => hk X 27 i (by omega) (by omega)) (fun i => hk X 28 i (by omega) (by omega)) (fun i => hk X 29 i (by omega) (by omega))
  have hD : Dc zs d t (xRem X n i) (mX X n i) i κ γ ρ ν (X 35 0 (8 * i + 4)) (X 35 0 (8 * i + 5)) (X 35 0 (8 * i + 6)) := by
    have e8' : ∃ w, mX X n i 16 0 γ = nI w ∧ ν ≤ w ∧ w ≤ t := by rw [hk X 16 γ (by omega) (by omega)]; exact e8
    rcases e9 with e9 | ⟨k1, k2, α, k3, k4⟩
    · rcases e9 with rfl | rfl
      · exact d_broken e6
      · exact d_order ht h0 e6
    · have hno : κ ≠ 1 → κ ≠ 2 → κ ≠ 4 → ¬ (mX X n i 17 0 (4 * γ + ρ) = nI 1 ∧ mX X n i 18 0 (4 * γ + ρ) = nI ν) := fun z1 z2 z4 z => by
        rw [hk X 17 _ (by omega) (by omega), hk X 18 _ (by omega) (by omega)] at z
        obtain ⟨y1, y2, y3, -⟩ := e10 z.1 z.2
        omega
      by_cases z2 : κ = 2
      · subst z2
        rw [k4] at hl0 ⊢
        rw [e1, e2, e3, e4] at hl0
        refine d_vote h0 e5 e6 k3 hl0 (fun q1 q2 => ?_)
        rw [hk X 17 _ (by omega) (by omega)] at q1
        rw [hk X 18 _ (by omega) (by omega)] at q2
        obtain ⟨y1, y2⟩ := (e10 q1 q2).2.2.2 rfl α k3 k4
        exact ⟨y1.congr (fun i => hk X 26 i (by omega) (by omega)) (fun i => hk X 27 i (by omega) (by omega)) (fun i => hk X 28 i (by omega) (by omega)), by rw [hk X 29 _ (by omega) (by omega)]; exact y2⟩
      · by_cases z4 : κ = 4
        · subst z4
          rw [k4]
          exact d_stored h0 e5 e6 k3
        · rw [k4]
          exact d_arb ht h0 (by omega) e5 e6 k3 e7 e8' (fun z1 => hno z1 z2 z4)
  obtain ⟨T, r1, r2, r3⟩ := hD
  have c : ∀ j, j < 7 → X 3 0 (i * 7 + j) = X 35 0 (8 * i + j) := fun j hj => p1.2.2.2 i (by omega) j hj
  refine byes h (v := nI 1) (T := T) (x_deliver_head p1.1 (by omega) (by omega) ?_) ((XF.rem _ _ _).trans r2) (fun M hM hI => ?_)
  · rw [c 0 (by omega), c 1 (by omega), c 2 (by omega), c 3 (by omega), c 4 (by omega), c 5 (by omega), c 6 (by omega), show 8 * i + 0 = 8 * i from rfl, e1, e2, e3, e4]
    exact r1
  · obtain ⟨hI1, hM21⟩ := hXM M hI
    have h35 : ∀ x, M 35 0 x = X 35 0 x := fun x => hM 35 0 x (by omega)
    obtain ⟨T', s1, s2, s3⟩ := r3 (mX M n i) (fun k x h1 h2 => by rw [hk M k x h1 h2, hk X k x h1 h2]; exact hM k 0 x (by omega)) hI1 (by rw [mX_36 _ _ _ (by omega), h35]; exact e2) (by rw [mX_36 _ _ _ (by omega), h35]; exact e4) (by rw [mX_36 _ _ _ (by omega), h35]) (by rw [mX_36 _ _ _ (by omega), h35])
    refine ⟨T', m_deliver_head hM21 (by omega) (by omega) ?_, (MF.mx _ _ _).trans s2, s3⟩
    rw [h35, h35, h35, show 8 * i + 0 = 8 * i from rfl, e1, e3]
    exact s1
end CD
