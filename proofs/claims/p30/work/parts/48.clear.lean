def mu0 : Mem := fun f i k => if f = 0 then (if k = 2 then -1 else 0) else if f = 8 then zfill 30 (-1) (fun _ => 0) k else if f = 31 then -1 else if f = 32 then -1 else if f = 33 then -1 else if f = 62 then -1 else if f = 40 then (if k = 2 then -1 else 0) else 0
theorem Inv_0 : Inv 0 0 mu0 := by
  refine ⟨0, ⟨⟨by omega, by omega, by omega⟩, ⟨rfl, rfl, rfl⟩, ⟨rfl, rfl, rfl, rfl⟩, ⟨fun a ha => absurd ha (Nat.not_lt_zero a), fun k hk => ?_, fun k hk => absurd hk (Nat.not_lt_zero k), fun k d hk hd => ?_⟩, ⟨fun k hk => rfl, fun p s hp hs => rfl, rfl⟩, fun k hk => ⟨0, by omega, rfl⟩, fun p hp => ⟨fun _ => 0, fun s hs => rfl, show 0 + 0 + 0 + 0 ≤ 20 + 0 from by omega⟩, fun a ha => absurd ha (Nat.not_lt_zero a), fun k hk => ?_, ⟨fun k hk c => absurd (show mu0 62 0 k < 0 from neg1) c, fun k _ _ => rfl⟩⟩, fun d hd => ?_, fun d hd => Or.inl ?_, fun d hd => absurd hd (Nat.not_lt_zero d), fun d a hd ha => absurd ha (Nat.not_lt_zero a), fun a ha => absurd ha (Nat.not_lt_zero a)⟩
  · rw [if_neg (Nat.not_lt_zero k)]
    rfl
  · show ((0 : Int32) >>> (nI d &&& 31)) &&& 1 = 0
    simp
  · rw [if_neg (Nat.not_lt_zero k)]
    rfl
  · show (-1 : Int32) = zfill 30 (-1) (fun _ => 0) d
    unfold zfill
    rw [if_pos hd]
  · show zfill 30 (-1) (fun _ => 0) d = -1
    unfold zfill
    rw [if_pos hd]

