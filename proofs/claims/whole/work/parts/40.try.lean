set_option maxHeartbeats 4000000 in
theorem t_X0_width (d : Nat) (h lo hi : Nat) (x : Int32) (A : HP) (Post : Out → HP → Prop) (h1 : hK A h = (10, 0)) (h2 : hR A h 0 = some lo) (h3 : hR A h 1 = some hi) (h4 : hK A lo = (1, 6)) (h5 : hK A hi = (1, 6)) (hx : vp_in x 6)
    (hp : Post (.inl (some (.int (hI A hi x.toNatClampNeg - hI A lo x.toNatClampNeg + 1)))) A) : Sp (d + 1) k_X0_width [.ref h, .int x] A Post := by
  refine Sp_intro md_X0_width rfl rfl (fun G hG => ?_)
  refine hG _ _ _ _ ?_
  refine hG _ _ _ _ (And.intro h1 (Exists.intro hi (And.intro h3 ?_)))
  refine hG _ _ _ _ ?_
  refine hG _ _ _ _ (Exists.intro 6 (And.intro h5 (And.intro hx ?_)))
  refine hG _ _ _ _ ?_
  refine hG _ _ _ _ (And.intro h1 (Exists.intro lo (And.intro h2 ?_)))
  refine hG _ _ _ _ ?_
  refine hG _ _ _ _ (Exists.intro 6 (And.intro h4 (And.intro hx ?_)))
  refine hG _ _ _ _ ?_
  refine hG _ _ _ _ ?_
  refine hG _ _ _ _ ?_
  exact hG _ _ _ _ (And.intro trivial hp)
