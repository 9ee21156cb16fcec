def M0 : Lnd := ((1, 0, 0, 0, 0), fun _ => 0, fun _ => 0, fun _ => 0, fun _ => 0, fun _ => 0, fun k => if k % 3 = 1 then 10 else 0)
theorem M0_ok : LOk M0 := by
  refine ⟨⟨Nat.le_refl 1, by decide⟩, by decide, by decide, by decide, by decide, fun p _ => Or.inl rfl, fun k _ => by show 0 ≤ 30; decide, fun i hi => absurd hi (Nat.not_lt_zero i), fun i hi => absurd hi (Nat.not_lt_zero i), fun k hk => ?_⟩
  show (if k % 3 = 1 then 10 else 0) ≤ 10
  split <;> omega
theorem pr_land : PairI (F_TR_land LW) (F_MD_land LW) [] := by sorry
