/-! THE REFERENCE's routeOf -/
section MR
variable {zs : Nat × (Nat → Int32)} {d : Nat} {S : aS}
theorem m_route_end0 {s y3 y4 y5 : Int32} : Rn zs d 63 (aB 63 169) [(0, .inr (14, 0)), (1, .inl s), (2, .inl (-1)), (3, .inl y3), (4, .inl y4), (5, .inl y5)] [] (mRt S s 0) (rE (some (.inl (ry s 0))) (mRt S s 0)) := by
  refine Rn.s 3 (fun _ => rfl) ?_
  refine Rn.s 1 (fun _ => rfl) ?_
  rw [show (nI 0).toNatClampNeg = 0 by decide, show mRt S s 0 37 0 0 = ry s 0 from if_pos ⟨rfl, rfl, by omega, by omega⟩]
  exact Rn.r 1 (fun _ => rfl) ⟨rfl, rfl⟩
end MR
