/-! THE CALLS, in pairs: what is read; drop, copy -/
section CB
variable {zs : Nat × (Nat → Int32)} {d t : Nat} {X : aS}
theorem b_letters (h : Inv t X X) : Bc zs (d + 8) 23 76 [] X (t + 1) := by
  obtain ⟨n, hp, -⟩ := h.1
  have hm := m_letters (zs := zs) (d := d) (S := X)
  rw [hp.2.1.trans hp.1.symm] at hm
  exact bno h x_letters hm
theorem b_letter (h : Inv t X X) (a b : Int32) : Bc zs (d + 8) 24 77 [(1, .inl a), (2, .inl b)] X (t + 1) := by
  obtain ⟨hP, hQ, hn⟩ := h.oks
  rcases outc_or a (n := pn X) (by have := hP.2; omega) with hx | ⟨i, hi, rfl⟩
  · exact bno h (x_letter_no1 hP hx) (m_letter_no1 hQ (by rw [← hn]; exact hx))
  · rcases outc_or b (n := 6) (by omega) with hx | ⟨j, hj, rfl⟩
    · exact bno h (x_letter_no2 hP hi hx) (m_letter_no2 hQ (by rw [← hn]; exact hi) hx)
    · have hm := m_letter (zs := zs) (d := d) hQ (by rw [← hn]; exact hi) hj
      obtain ⟨n, hp, -⟩ := h.1
      have hn2 := hp.pok.2.1
      rw [← hp.2.2.2 i (by omega) j (by omega)] at hm
      exact bno h (x_letter hP hi hj) hm
theorem b_drop (h : Inv t X X) (a : Int32) : Bc zs (d + 8) 47 87 [(1, .inl a)] X (t + 1) := by
  obtain ⟨hP, hQ, hn⟩ := h.oks
  rcases outc_or a (n := pn X) (by have := hP.2; omega) with hx | ⟨i, hi, rfl⟩
  · exact bno h (x_drop_no hP hx) (m_drop_no hQ (by rw [← hn]; exact hx))
  · obtain ⟨n, hn'⟩ : ∃ n, pn X = n + 1 := ⟨pn X - 1, by omega⟩
    have h240 := hP.2
    refine byes h (x_drop (n := n) (by rw [← hn']; exact hP.1) (by omega) (by omega)) (XF.rem _ _ _) (fun M hM hI => ?_)
    obtain ⟨-, hQ', hn2⟩ := hI.oks
    have e : M 14 0 21 = nI (n + 1) := by rw [← hn', hn2]; exact hQ'.1
    exact ⟨_, m_drop e (by omega) (by omega), (MF.th _).trans (MF.rem _ _ _), (hI.th.rem ((mTh_l M).trans e) (by omega) (by omega)).up⟩
theorem b_copy (h : Inv t X X) (a : Int32) : Bc zs (d + 8) 48 88 [(1, .inl a)] X (t + 1) := by
  obtain ⟨hP, hQ, hn⟩ := h.oks
  have h240 := hP.2
  rcases outc_or a (n := pn X) (by omega) with hx | ⟨i, hi, rfl⟩
  · exact bno h (x_copy_no1 hP hx) (m_copy_no1 hQ (by rw [← hn]; exact hx))
  · by_cases hf : pn X = 240
    · exact bno h (x_copy_full (by rw [← hf]; exact hP.1) (by omega)) (m_copy_full (by rw [← hf, hn]; exact hQ.1) (by omega))
    · refine byes h (x_copy hP.1 (by omega) hi) (XF.rep _ _ _) (fun M hM hI => ?_)
      obtain ⟨-, hQ', hn2⟩ := hI.oks
      have e : M 14 0 21 = nI (pn X) := by rw [hn2]; exact hQ'.1
      exact ⟨_, m_copy e (by omega) hi, MF.copy _ _ _, (hI.cpy e (by omega) hi).up⟩
theorem b_state (h : Inv t X X) (a b : Int32) : Bc zs (d + 8) 50 89 [(1, .inl a), (2, .inl b)] X (t + 1) := by
  rcases pair_or a b with hp | ⟨c, r, hc, hr, rfl, rfl⟩
  · exact bno h (x_state_no hp) (m_state_no hp)
  · have hm := m_state (zs := zs) (d := d) (S := X) hc hr
    rw [← (h.st (q := 4 * c + r) (by omega)).1] at hm
    exact bno h (x_state hc hr) hm
theorem b_permit (h : Inv t X X) (a b : Int32) : Bc zs (d + 8) 51 90 [(1, .inl a), (2, .inl b)] X (t + 1) := by
  rcases pair_or a b with hp | ⟨c, r, hc, hr, rfl, rfl⟩
  · exact bno h (x_permit_no hp) (m_permit_no hp)
  · obtain ⟨-, s, b1, b2, b3, -, b5, -, -⟩ := h.2.1 (4 * c + r) (by omega)
    have hm := m_permit (zs := zs) (d := d) (S := X) hc hr b3 b1
    have hx := x_permit (zs := zs) (d := d) (S := X) hc hr
    have hi : (X 8 (4 * c + r) 2 = nI 3 ∨ X 8 (4 * c + r) 2 = nI 4) ↔ 2 < s := by
      rw [b2, nI_eq (by omega) (by omega), nI_eq (by omega) (by omega)]
      omega
    by_cases e : 2 < s
    · rw [if_pos e, ← (b5 (by omega)).2.2] at hm
      rw [if_pos (hi.mpr e)] at hx
      exact bno h hx hm
    · rw [if_neg e] at hm
      rw [if_neg (fun z => e (hi.mp z))] at hx
      exact bno h hx hm
theorem b_quorum (h : Inv t X X) (a b : Int32) : Bc zs (d + 8) 52 91 [(1, .inl a), (2, .inl b)] X (t + 1) := by
  rcases pair_or a b with hp | ⟨c, r, hc, hr, rfl, rfl⟩
  · exact bno h (x_quorum_no hp) (m_quorum_no hp)
  · obtain ⟨⟨-, -, -, -, -, a6⟩, s, b1, b2, b3, b4, b5, -, -⟩ := h.2.1 (4 * c + r) (by omega)
    have hx := x_quorum (zs := zs) (d := d) (S := X) hc hr
    by_cases e0 : s = 0
    · subst e0
      rw [if_pos (show X 8 (4 * c + r) 2 = 0 from b2)] at hx
      exact bno h hx (m_quorum_0 hc hr b3)
    · have hs0 : ¬ X 8 (4 * c + r) 2 = 0 := by rw [b2]; exact nI_ne0 (by omega) (by omega)
      rw [if_neg hs0] at hx
      have hm := m_quorum (zs := zs) (d := d) (S := X) hc hr b3 b1 (by omega)
      have hI : Inv (t + 1) (mRt (mTh X) (X 19 0 (4 * c + r)) 0) (mRt (mTh X) (X 19 0 (4 * c + r)) 0) := by
        have h2 : Inv t X (mRt (mTh X) (X 19 0 (4 * c + r)) 0) := h.th.scratch (Nat.le_refl t) (fun _ _ _ _ => rfl) (mRt_ne _ _ _ (by decide)) (fun k h1 h2 i => mRt_ne _ _ _ (by omega))
        exact (h2.both ((MF.th X).trans (MF.rt _ _ _))).up
      have hv : (if X 8 (4 * c + r) 2 = nI 1 then X 8 (4 * c + r) 7 &&& X 8 (4 * c + r) 9 else X 8 (4 * c + r) 7) = (if 1 < s then X 22 0 (4 * c + r) else if ry (X 19 0 (4 * c + r)) 0 = -1 then nI 0 else ry (X 19 0 (4 * c + r)) 0 &&& X 21 0 (4 * c + r)) := by
        by_cases e1 : s = 1
        · subst e1
          rw [if_pos b2, if_neg (by omega), (b4 rfl).1, a6]
          rcases route_cases (X 19 0 (4 * c + r)) with ⟨r1, r2⟩ | ⟨r1, r2, r3⟩
          · rw [if_pos r2, r1]
            exact gb_ext (fun i hi => by rw [gb_and, gb_0]; exact (gb_0 i).symm)
          · rw [if_neg r3, r1]
        · rw [if_neg (by rw [b2]; exact nI_ne (by omega) (by omega) e1), if_pos (by omega)]
          exact (b5 (by omega)).1
      rw [hv] at hx
      exact ⟨_, _, _, hx, hm, hI⟩
theorem b_vote (ht : t < 1000) (h : Inv t X X) (a b x : Int32) : Bc zs (d + 8) 53 92 [(1, .inl a), (2, .inl b), (3, .inl x)] X (t + 1) := by
  rcases outc_or a (n := 15) (by omega) with hx | ⟨a, ha, rfl⟩
  · exact bno h (x_vote_no1 hx) (m_vote_no1 hx)
  rcases outc_or b (n := 4) (by omega) with hx | ⟨r, hr, rfl⟩
  · exact bno h (x_vote_no2 ha hx) (m_vote_no2 ha hx)
  obtain ⟨a1, m, a2, a3, a4, a5, a6⟩ := h.2.2.1 (4 * a + r) (by omega)
  by_cases x0 : x = 0
  · subst x0
    have hm := m_vote_0 (zs := zs) (d := d) ha hr a3 a2
    by_cases e : m = 0
    · rw [if_pos e] at hm
      exact bno h (x_vote_0n ha hr (a5 e)) hm
    · rw [if_neg e] at hm
      obtain ⟨γ, ν, b1, b2, ⟨w, b3, b3', b3''⟩, b4, b5, b6⟩ := a6 0 (by omega)
      have hx := x_vote_0 (zs := zs) (d := d) (e := 8 * ν + γ) ha hr b6 (by omega) (by omega)
      rw [show (8 * ν + γ) % 8 = γ by omega] at hx
      have b4' : X 26 0 (17 * (4 * a + r)) = nI γ := b4
      rw [b4'] at hm
      exact bno h hx hm
  by_cases x1 : x = 1
  · subst x1
    have hm := m_vote_1 (zs := zs) (d := d) ha hr a3 a2
    by_cases e : m = 0
    · rw [if_pos e] at hm
      exact bno h (x_vote_1n ha hr (a5 e)) hm
    · rw [if_neg e] at hm
      obtain ⟨γ, ν, b1, b2, ⟨w, b3, b3', b3''⟩, b4, b5, b6⟩ := a6 0 (by omega)
      have hx := x_vote_1 (zs := zs) (d := d) (e := 8 * ν + γ) ha hr b6 (by omega) (by omega)
      rw [show (8 * ν + γ) / 8 = ν by omega] at hx
      have b5' : X 27 0 (17 * (4 * a + r)) = nI ν := b5
      rw [b5'] at hm
      exact bno h hx hm
  by_cases x2 : x = 2
  · subst x2
    have hm := m_vote_2 (zs := zs) (d := d) (S := X) ha hr
    rw [← a1] at hm
    exact bno h (x_vote_2 ha hr) hm
  by_cases x3 : x = 3
  · subst x3
    have hm := m_vote_3 (zs := zs) (d := d) ha hr a3 a2
    rw [← a4] at hm
    exact bno h (x_vote_3 ha hr) hm
  by_cases x4 : x = 4
  · subst x4
    have hm := m_vote_4 (zs := zs) (d := d) ha hr a3 a2
    by_cases e : m ≤ 1
    · rw [if_pos e] at hm
      exact bno h (x_vote_4n ha hr (by rw [a4, show m - 1 = 0 by omega])) hm
    · rw [if_neg e] at hm
      obtain ⟨γ, ν, b1, b2, ⟨w, b3, b3', b3''⟩, b4, b5, b6⟩ := a6 1 (by omega)
      have hx := x_vote_4 (zs := zs) (d := d) (e := 8 * ν + γ) ha hr a4 (by omega) (by omega) b6 (by omega) (by omega)
      rw [show (8 * ν + γ) % 8 = γ by omega] at hx
      rw [b4] at hm
      exact bno h hx hm
  · exact bno h (x_vote_def ha hr ⟨x0, x1, x2, x3, x4⟩) (m_vote_def ha hr ⟨x0, x1, x2, x3, x4⟩)
theorem b_orders (h : Inv t X X) (b : Int32) : Bc zs (d + 8) 54 93 [(1, .inl b)] X (t + 1) := by
  rcases outc_or b (n := 4) (by omega) with hx | ⟨r, hr, rfl⟩
  · exact bno h (x_orders_no hx) (m_orders_no hx)
  · obtain ⟨a1, a2, ⟨n, a3, a4, a5⟩, a6⟩ := h.2.2.2.1 r hr
    have hm := m_orders (zs := zs) (d := d) (S := X) hr
    rw [a5.trans a4.symm] at hm
    exact bno h (x_orders hr) hm
theorem b_highest (h : Inv t X X) (b : Int32) : Bc zs (d + 8) 59 95 [(1, .inl b)] X (t + 1) := by
  rcases outc_or b (n := 4) (by omega) with hx | ⟨r, hr, rfl⟩
  · exact bno h (x_highest_no hx) (m_highest_no hx)
  · obtain ⟨a1, a2, ⟨n, a3, a4, a5⟩, a6⟩ := h.2.2.2.1 r hr
    have hm := m_highest (zs := zs) (d := d) (S := X) hr
    rw [← a1] at hm
    exact bno h (x_highest hr) hm
theorem b_done (ht : t < 1000) (h : Inv t X X) (b a x : Int32) : Bc zs (d + 8) 55 94 [(1, .inl b), (2, .inl a), (3, .inl x)] X (t + 1) := by
  rcases outc_or b (n := 4) (by omega) with hx | ⟨r, hr, rfl⟩
  · exact bno h (x_done_no1 hx) (m_done_no1 hx)
  · obtain ⟨a1, a2, ⟨n, a3, a4, a5⟩, a6⟩ := h.2.2.2.1 r hr
    by_cases ho : outc a n ∨ a < nI n - nI 64
    · exact bno h (x_done_no2 hr a4 ho) (m_done_no2 hr a5 ho)
    · rcases outc_or a (n := n) (by omega) with hx | ⟨i, hi, rfl⟩
      · exact absurd (Or.inl hx) ho
      · have h64 : n ≤ i + 64 := Classical.byContradiction (fun z => ho (Or.inr (by
          obtain ⟨m, rfl⟩ : ∃ m, n = m + 64 := ⟨n - 64, by omega⟩
          have : nI (m + 64) - nI 64 = nI m := by
            rw [← nI_add]
            exact Int32.add_sub_cancel _ _
          rw [this]
          exact nI_lt (by omega) (by omega))))
        have hm := m_done (zs := zs) (d := d) (x := x) hr a5 (by omega) hi h64
        have hx := x_done (zs := zs) (d := d) (x := x) hr a4 (by omega) hi h64
        obtain ⟨e1, e2⟩ := a6 (i % 64) (Nat.mod_lt _ (by omega))
        rw [← e1, ← e2] at hm
        exact bno h hx hm
end CB
