/-! THE REFERENCE's routeOf -/
section MR
variable {zs : Nat × (Nat → Int32)} {d : Nat} {S : aS}
theorem m_route_end0 {s y3 y4 y5 : Int32} (x : Int32) : Rn zs d 63 (aB 63 169) [(0, .inr (14, 0)), (1, .inl s), (2, .inl x), (3, .inl y3), (4, .inl y4), (5, .inl y5)] [] (mRt S s 0) (rE (some (.inl (ry s 0))) (mRt S s 0)) := by
  refine Rn.s 3 (fun _ => rfl) ?_
  refine Rn.s 1 (fun _ => rfl) ?_
  rw [show (nI 0).toNatClampNeg = 0 by decide, show mRt S s 0 37 0 0 = ry s 0 from if_pos ⟨rfl, rfl, by omega, by omega⟩]
  exact Rn.r 1 (fun _ => rfl) ⟨rfl, rfl⟩
theorem m_route_end1 {s y3 y4 y5 x : Int32} (hx : x < 0) (K : Rn zs d 63 (aB 63 169) [(0, .inr (14, 0)), (1, .inl s), (2, .inl x), (3, .inl y3), (4, .inl y4), (5, .inl y5)] [] (mRt S s 0) (rE (some (.inl (ry s 0))) (mRt S s 0))) : Rn zs d 63 (aB 63 3) [(0, .inr (14, 0)), (1, .inl s), (2, .inl x), (3, .inl y3), (4, .inl y4), (5, .inl y5)] [] (mRt S s 0) (rE (some (.inl (ry s 0))) (mRt S s 0)) := by
  refine Rn.b 2 (fun _ => rfl) (fun _ => K) (fun c => absurd hx c)
theorem m_route_dec {s y3 y4 y5 x x' : Int32} (h : x - nI 1 = x') {T : aS} {Q : Option aV → aS → Prop} (K : Rn zs d 63 (aB 63 3) [(0, .inr (14, 0)), (1, .inl s), (2, .inl x'), (3, .inl y3), (4, .inl y4), (5, .inl y5)] [] T Q) : Rn zs d 63 (aB 63 163) [(0, .inr (14, 0)), (1, .inl s), (2, .inl x), (3, .inl y3), (4, .inl y4), (5, .inl y5)] [] T Q := by
  refine Rn.s 2 (fun _ => rfl) ?_
  rw [h]
  exact K
theorem m_route_all {s : Int32} (k : Nat) : ∀ (L : aL) (x3 x4 x5 : Int32), k < 15 → (L = [] ∨ L = [(3, .inl x3), (4, .inl x4), (5, .inl x5)]) → Rn zs d 63 (aB 63 3) ([(0, .inr (14, 0)), (1, .inl s), (2, .inl (nI k))] ++ L) [] (mRt S s (k + 1)) (rE (some (.inl (ry s 0))) (mRt S s 0)) := by
  induction k with
  | zero =>
    intro L x3 x4 x5 hk hL
    exact m_route_turn (x3 := x3) (x4 := x4) (x5 := x5) hk hL (fun y3 y4 y5 => m_route_dec (x' := nI 0 - nI 1) rfl (m_route_end1 (by decide) (m_route_end0 _)))
  | succ k ih =>
    intro L x3 x4 x5 hk hL
    exact m_route_turn (x3 := x3) (x4 := x4) (x5 := x5) hk hL (fun y3 y4 y5 => m_route_dec (x' := nI k) (by rw [pk_sub (by omega), Nat.add_sub_cancel]) (ih [(3, .inl y3), (4, .inl y4), (5, .inl y5)] y3 y4 y5 (by omega) (Or.inr rfl)))
theorem m_route (s : Int32) : Rn zs d 63 (aB 63 0) [(0, .inr (14, 0)), (1, .inl s)] [] S (rE (some (.inl (ry s 0))) (mRt S s 0)) := by
  refine Rn.s 2 (fun _ => rfl) ?_
  have h := m_route_all (zs := zs) (d := d) (S := S) (s := s) 14 [] 0 0 0 (by omega) (Or.inl rfl)
  rw [mRt_top] at h
  exact h
end MR
