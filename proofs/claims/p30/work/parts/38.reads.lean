/-! THE READING CALLS -/
theorem Inv_25 {n np : Nat} {w : Mem} (h : Inv n np w) (v : Int32) : Inv n np (zst w 0 0 25 v) := Inv_same h (same_25 w v)
theorem Inv_21 {n np : Nat} {w : Mem} (h : Inv n np w) (v : Int32) : Inv n np (zst w 21 0 0 v) := Inv_same h (same_21 w 0 v)
theorem at_25 {w : Mem} {v : Int32} : zst w 0 0 25 v 0 0 25 = v := by rw [zst_ap, if_pos ⟨rfl, rfl, rfl⟩]
theorem at_21 {w : Mem} {v : Int32} : zst w 21 0 0 v 21 0 0 = v := by rw [zst_ap, if_pos ⟨rfl, rfl, rfl⟩]
theorem k1 : ¬ (1 : Int32) = 0 := by decide
theorem k2 : ¬ (2 : Int32) = 0 := by decide
theorem k3 : ¬ (3 : Int32) = 0 := by decide
theorem sok_mono {c : Nat → Nat → Int32} {M N : Nat} (h : sok c M) (hN : M ≤ N) : sok c N := fun p hp => sokr_mono (h p hp) hN
/-- the class's plan costs what the reference's would -/
theorem cost_cls {n np t : Nat} {μ E : Mem} {P : Nat → Int32} {post : Int32 → Mem → Prop} (he : env n np t μ E) (hPm : ∀ d, d < 30 → μ 32 0 d = P d) (hP : plOK n P) (hp : ∀ g c x, post (costF E np t P) (tri 1 μ g c x)) : w_X4_planCost n np post μ := by
  obtain ⟨⟨hn, hnp, ht⟩, -, ⟨-, -, m9, -⟩, hal, hst, hg, hsk, hsc, -, -⟩ := he
  exact X4_planCost hn hnp ht m9 hal (fun a ha => (hsc a ha).2.2.2.2) hPm hP hst hg (sok_mono hsk (by omega)) hp
/-- the cost reads the reference's world alone -/
theorem svS_of {μ u : Mem} (h1 : u 1 0 = μ 1 0) (h5 : u 5 0 = μ 5 0) (h6 : u 6 0 = μ 6 0) (h7 : u 7 0 = μ 7 0) (a : Nat) (b : Int32) (g : Nat → Int32) (c : Nat → Nat → Int32) : svS u a b g c = svS μ a b g c ∧ bds u a = bds μ a ∧ cP u a 5 c = cP μ a 5 c := by
  have hV : ∀ p r, pV u a p r = pV μ a p r := fun p r => by unfold pV; rw [h6]
  have hR : ∀ p r, pR u a p r = pR μ a p r := fun p r => by unfold pR; rw [h6, h7]
  have hB : bds u a = bds μ a := by unfold bds; rw [h5]
  have h0 : sv0 u a b = sv0 μ a b := by unfold sv0; rw [h1]
  have hS : ∀ j s, sP u a c j s = sP μ a c j s := by
    intro j
    induction j with
    | zero => intro s; rfl
    | succ j ih =>
      intro s
      show sP u a c j s + pV u a j (c j) = sP μ a c j s + pV μ a j (c j)
      rw [ih, hV]
  refine ⟨?_, hB, ?_⟩
  · unfold svS
    rw [hS, hB, h0]
  · funext p
    unfold cP
    rw [hR]
theorem alV_of {np a d : Nat} {μ u : Mem} (h : al u np a d ↔ al μ np a d) : alV u np a d = alV μ np a d := by
  by_cases c : al μ np a d
  · rw [alV_pos c, alV_pos (h.mpr c)]
  · rw [alV_neg c, alV_neg (fun q => c (h.mp q))]
theorem costF_of {np t : Nat} {μ u : Mem} {P : Nat → Int32} (h0 : u 0 0 2 = μ 0 0 2) (h : ∀ f, 1 ≤ f → f ≤ 16 → f ≠ 8 → f ≠ 4 → f ≠ 3 → u f 0 = μ f 0) : costF u np t P = costF μ np t P := by
  have key : ∀ r d s b g c, dC u np P r d s b g c = dC μ np P r d s b g c := by
    intro r
    induction r with
    | zero => intro d s b g c; rfl
    | succ r ih =>
      intro d s b g c
      unfold dC
      obtain ⟨q1, q2, q3⟩ := svS_of (h 1 (by omega) (by omega) (by omega) (by omega) (by omega)) (h 5 (by omega) (by omega) (by omega) (by omega) (by omega)) (h 6 (by omega) (by omega) (by omega) (by omega) (by omega)) (h 7 (by omega) (by omega) (by omega) (by omega) (by omega)) (P d).toNatClampNeg b g c
      rw [q1, q2, q3, ih, ih, h 1 (by omega) (by omega) (by omega) (by omega) (by omega), alV_of (al_of (μ := μ) (u := u) (fun f hf => h f (by omega) (by omega) (by omega) (by omega) (by omega)))]
  unfold costF
  rw [key, h0, h 15 (by omega) (by omega) (by omega) (by omega) (by omega), h 16 (by omega) (by omega) (by omega) (by omega) (by omega)]
theorem costF_same {np t : Nat} {μ u : Mem} {P : Nat → Int32} (hs : same μ u) : costF u np t P = costF μ np t P := costF_of (hs.1 2 (by omega)) (fun f a b _ _ _ => hs.2.1 f a b)
