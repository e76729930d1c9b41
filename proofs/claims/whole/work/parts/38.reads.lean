/-! THE READING CALLS -/
theorem Inv_25 {n np : Nat} {w : Mem} (h : Inv n np w) (v : Int32) : Inv n np (zst w 0 0 25 v) := Inv_same h (same_25 w v)
theorem Inv_21 {n np : Nat} {w : Mem} (h : Inv n np w) (v : Int32) : Inv n np (zst w 21 0 0 v) := Inv_same h (same_21 w 0 v)
theorem at_25 {w : Mem} {v : Int32} : zst w 0 0 25 v 0 0 25 = v := by rw [zst_ap, if_pos ⟨rfl, rfl, rfl⟩]
theorem at_21 {w : Mem} {v : Int32} : zst w 21 0 0 v 21 0 0 = v := by rw [zst_ap, if_pos ⟨rfl, rfl, rfl⟩]
theorem oT_0 {n np : Nat} {w : Mem} {b : Int32} (hI : Inv n np w) (hb : w 21 0 0 = b) : w_X5_thrown (oT Inv n np 0 b) (zst w 0 0 25 0) := by
  refine ⟨at_25, fun _ => ?_, Inv_25 hI 0⟩
  rw [zst_o (by omega)]
  exact hb
theorem oT_k {n np : Nat} {w : Mem} {b k : Int32} (hk : ¬ k = 0) (hI : Inv n np w) : w_X5_thrown (oT Inv n np k b) (zst w 0 0 25 k) := ⟨at_25, fun h => absurd h hk, Inv_25 hI k⟩
theorem oB_k {n np : Nat} {w : Mem} {b k : Int32} (hk : ¬ k = 0) (hI : Inv n np w) : w_X5_thrown (oB Inv n np k b) (zst w 0 0 25 k) := ⟨at_25, fun h => absurd h hk, Inv_25 hI k⟩
theorem oB_0 {n np : Nat} {w : Mem} {b : Int32} (hI : Inv n np w) (hb : (b = 0 → w 21 0 0 = 0) ∧ (¬ b = 0 → w 21 0 0 = 1)) : w_X5_thrown (oB Inv n np 0 b) (zst w 0 0 25 0) := by
  refine ⟨at_25, fun _ => ?_, Inv_25 hI 0⟩
  rw [zst_o (by omega)]
  exact hb
theorem k1 : ¬ (1 : Int32) = 0 := by decide
theorem k2 : ¬ (2 : Int32) = 0 := by decide
theorem k3 : ¬ (3 : Int32) = 0 := by decide
theorem o_today : ob_today Inv := by
  intro n np μ hI
  obtain ⟨t, ⟨-, ⟨e0, -, -⟩, ⟨-, -, m9, -⟩, -⟩, -⟩ := id hI
  unfold w_X4_today w_X5_today w_X5_told
  intro u e
  subst e
  exact ⟨m9.trans e0.symm, Inv_25 hI 0⟩
theorem o_spent : ob_spent Inv := by
  intro n np μ hI
  obtain ⟨t, ⟨-, -, ⟨-, -, -, m10⟩, -⟩, -⟩ := id hI
  unfold w_X4_spent w_X5_spent w_X5_told
  intro u e
  subst e
  exact ⟨m10, Inv_25 hI 0⟩
theorem o_scenes : ob_scenes Inv := by
  intro n np μ hI
  obtain ⟨t, ⟨-, ⟨-, e3, -⟩, ⟨m7, -, -, -⟩, -⟩, -⟩ := id hI
  unfold w_X4_scenes w_X5_scenes w_X5_told
  intro u e
  subst e
  exact ⟨m7.trans e3.symm, Inv_25 hI 0⟩
theorem sok_mono {c : Nat → Nat → Int32} {M N : Nat} (h : sok c M) (hN : M ≤ N) : sok c N := fun p hp => sokr_mono (h p hp) hN
/-- the class's plan costs what the reference's would -/
theorem cost_cls {n np t : Nat} {μ E : Mem} {P : Nat → Int32} {post : Int32 → Mem → Prop} (he : env n np t μ E) (hPm : ∀ d, d < 30 → μ 32 0 d = P d) (hP : plOK n P) (hp : ∀ g c x, post (costF E np t P) (tri 1 μ g c x)) : w_X4_planCost n np post μ := by
  obtain ⟨⟨hn, hnp, ht⟩, -, ⟨-, -, m9, -⟩, hal, hst, hg, hsk, hsc, -, -⟩ := he
  exact X4_planCost hn hnp ht m9 hal (fun a ha => (hsc a ha).2.2.2.2) hPm hP hst hg (sok_mono hsk (by omega)) hp
theorem cost_ref {n np t : Nat} {μ : Mem} {post : Int32 → Mem → Prop} (he : env n np t μ μ) (hP : plOK n (μ 8 0)) (hp : ∀ g h, post (costF μ np t (μ 8 0)) (wrk μ g h)) : w_X5_costs post μ := by
  obtain ⟨⟨hn, hnp, ht⟩, ⟨e0, -, e12⟩, -, -, -, -, -, hsc, -, -⟩ := he
  exact X5_costs hn hnp ht e0 e12 hP (fun a ha => (hsc a ha).2.2.2.2) hp
/-- the cost reads the reference's world alone -/
theorem svS_of {μ u : Mem} (h1 : u 1 0 = μ 1 0) (h5 : u 5 0 = μ 5 0) (h6 : u 6 0 = μ 6 0) (h7 : u 7 0 = μ 7 0) (a : Nat) (b : Int32) (g : Nat → Int32) (c : Nat → Nat → Int32) : svS u a b g c = svS μ a b g c ∧ bds u a = bds μ a ∧ cP u a 5 c = cP μ a 5 c := by
  have hV : ∀ p r, pV u a p r = pV μ a p r := fun p r => by unfold pV; rw [h6]
  have hR : ∀ p r, pR u a p r = pR μ a p r := fun p r => by unfold pR; rw [h6, h7]
  have hB : bds u a = bds μ a := by unfold bds; rw [h5]
  have h0 : sv0 u a b = sv0 μ a b := by unfold sv0; rw [h1]
  have hS : ∀ j s, sP u a c j s = sP μ a c j s := by
    intro j
    induction j with
    | zero => intro s; rfl
    | succ j ih =>
      intro s
      show sP u a c j s + pV u a j (c j) = sP μ a c j s + pV μ a j (c j)
      rw [ih, hV]
  refine ⟨?_, hB, ?_⟩
  · unfold svS
    rw [hS, hB, h0]
  · funext p
    unfold cP
    rw [hR]
theorem alV_of {np a d : Nat} {μ u : Mem} (h : al u np a d ↔ al μ np a d) : alV u np a d = alV μ np a d := by
  by_cases c : al μ np a d
  · rw [alV_pos c, alV_pos (h.mpr c)]
  · rw [alV_neg c, alV_neg (fun q => c (h.mp q))]
theorem costF_of {np t : Nat} {μ u : Mem} {P : Nat → Int32} (h0 : u 0 0 2 = μ 0 0 2) (h : ∀ f, 1 ≤ f → f ≤ 16 → f ≠ 8 → f ≠ 4 → f ≠ 3 → u f 0 = μ f 0) : costF u np t P = costF μ np t P := by
  have key : ∀ r d s b g c, dC u np P r d s b g c = dC μ np P r d s b g c := by
    intro r
    induction r with
    | zero => intro d s b g c; rfl
    | succ r ih =>
      intro d s b g c
      unfold dC
      obtain ⟨q1, q2, q3⟩ := svS_of (h 1 (by omega) (by omega) (by omega) (by omega) (by omega)) (h 5 (by omega) (by omega) (by omega) (by omega) (by omega)) (h 6 (by omega) (by omega) (by omega) (by omega) (by omega)) (h 7 (by omega) (by omega) (by omega) (by omega) (by omega)) (P d).toNatClampNeg b g c
      rw [q1, q2, q3, ih, ih, h 1 (by omega) (by omega) (by omega) (by omega) (by omega), alV_of (al_of (μ := μ) (u := u) (fun f hf => h f (by omega) (by omega) (by omega) (by omega) (by omega)))]
  unfold costF
  rw [key, h0, h 15 (by omega) (by omega) (by omega) (by omega) (by omega), h 16 (by omega) (by omega) (by omega) (by omega) (by omega)]
theorem costF_same {np t : Nat} {μ u : Mem} {P : Nat → Int32} (hs : same μ u) : costF u np t P = costF μ np t P := costF_of (hs.1 2 (by omega)) (fun f a b _ _ _ => hs.2.1 f a b)
theorem o_cost : ob_cost Inv := by
  intro n np μ hI
  obtain ⟨t, he, hp⟩ := id hI
  unfold w_X4_cost
  refine cost_cls he hp.1 hp.2.1 (fun g c x => ?_)
  have hs := same_tri μ g c x
  unfold w_X5_cost
  refine cost_ref (env_same he hs) (planI_same hp hs).2.1 (fun g2 h2 => ?_)
  unfold w_X5_told
  intro u e
  subst e
  refine ⟨?_, Inv_25 (Inv_same (Inv_same hI hs) (same_wrk _ g2 h2)) 0⟩
  rw [costF_same hs, hs.2.1 8 (by omega) (by omega)]
theorem o_stateOf : ob_stateOf Inv := by
  intro n np μ a1 hI
  obtain ⟨t, ⟨⟨hn, hnp, ht⟩, ⟨e0, e3, e12⟩, -, hal, hst, hg, hsk, hsc, htold, hz⟩, hp⟩ := id hI
  unfold w_L_stateOf w_X4_stateOf w_X5_stateOf
  refine X4_sceneNumbered hn htold (fun a ha e => ?_) (fun h => ⟨rfl, ?_⟩)
  · subst e
    rw [cl (by omega)]
    refine ⟨pos (by omega), ha, X5_isScene hn (by rw [zst_o (by omega)]; exact e3) (fun k _ _ => X5_goes0 rfl rfl rfl ⟨fun q => absurd q z10, fun _ => ⟨vin (by omega) (by omega), ?_⟩⟩) (fun q => absurd ⟨a, ha, rfl⟩ q)⟩
    refine oT_0 (Inv_21 hI _) ?_
    rw [at_21, zst_o (by omega), zst_o (by omega)]
    exact (hsc a ha).2.1
  · exact X5_isScene hn e3 (fun k hk e => absurd ⟨k, hk, e⟩ h) (fun _ => X5_goes1 rfl ⟨fun _ => oT_k k1 hI, fun q => absurd rfl q⟩)
theorem o_sceneOn : ob_sceneOn Inv := by
  intro n np μ a1 hI
  obtain ⟨t, ⟨⟨hn, hnp, ht⟩, ⟨e0, e3, e12⟩, -, hal, hst, hg, hsk, hsc, htold, hz⟩, hp⟩ := id hI
  unfold w_L_sceneOn w_X4_sceneOn w_X5_sceneOn
  refine X4_requireDay (fun h => ?_) (fun h => ⟨rfl, ?_⟩)
  · obtain ⟨d, hd, e⟩ := h
    subst e
    have fin : ∀ r : Int32, r = μ 8 0 d → w_X5_isDay (fun (r2 : Int32) (μ1 : Mem) => (w_X5_goes (fun (r4 : Int32) (μ3 : Mem) => ((r4 = 0 → w_X5_thrown (oT Inv n np 0 0) μ3) ∧ (¬ r4 = 0 → (vp_in (nI d) 30 ∧ w_X5_thrown (oT Inv n np 0 (μ3 8 0 d)) μ3)))) r2 (1 : Int32) (1 : Int32) μ1)) (nI d) (zst μ 21 0 0 r) := by
      intro r er
      refine X5_isDay (fun k _ _ => X5_goes0 rfl rfl rfl ⟨fun q => absurd q z10, fun _ => ⟨vin hd (by omega), ?_⟩⟩) (fun q => absurd ⟨d, hd, rfl⟩ q)
      refine oT_0 (Inv_21 hI _) ?_
      rw [at_21, zst_o (by omega), zst_o (by omega), er]
    rw [cl (by omega), hp.1 d hd]
    refine ⟨vin hd (by omega), fun c => ?_, fun c => fin _ ?_⟩
    · rcases hp.2.1 d hd with e | ⟨a, ha, e⟩
      · exact absurd (by rw [e]; exact neg1) c
      · rw [e, cl (by omega)]
        refine ⟨ha, fin _ ?_⟩
        rw [(hsc a ha).1, e]
    · rcases hp.2.1 d hd with e | ⟨a, ha, e⟩
      · exact e.symm
      · rw [e] at c
        exact absurd c (pos (by omega))
  · exact X5_isDay (fun k hk e => absurd ⟨k, hk, e⟩ h) (fun _ => X5_goes1 rfl ⟨fun _ => oT_k k1 hI, fun q => absurd rfl q⟩)
theorem o_growth : ob_growth Inv := by
  intro n np μ a1 hI
  obtain ⟨t, ⟨⟨hn, hnp, ht⟩, ⟨e0, e3, e12⟩, -, hal, hst, hg, hsk, hsc, htold, hz⟩, hp⟩ := id hI
  unfold w_L_growth w_X4_growth w_X5_growth
  refine X4_requireActor (fun h => ?_) (fun h => ⟨rfl, ?_⟩)
  · obtain ⟨k, hk, e⟩ := h
    subst e
    rw [cl (by omega)]
    refine ⟨vin hk (by omega), X5_isActor (fun j _ _ => X5_goes0 rfl rfl rfl ⟨fun q => absurd q z10, fun _ => ⟨vin hk (by omega), ?_⟩⟩) (fun q => absurd ⟨k, hk, rfl⟩ q)⟩
    refine oT_0 (Inv_21 hI _) ?_
    rw [at_21, zst_o (by omega), zst_o (by omega)]
    exact hst.1 k hk
  · exact X5_isActor (fun k hk e => absurd ⟨k, hk, e⟩ h) (fun _ => X5_goes1 rfl ⟨fun _ => oT_k k1 hI, fun q => absurd rfl q⟩)
theorem o_copies : ob_copies Inv := by
  intro n np μ a1 a2 hI
  obtain ⟨t, ⟨⟨hn, hnp, ht⟩, ⟨e0, e3, e12⟩, -, hal, hst, hg, hsk, hsc, htold, hz⟩, hp⟩ := id hI
  unfold w_L_copies w_X4_copies w_X5_copies b_X4_copies_13
  refine X4_requireProp (fun h => ?_) (fun h => Or.inl ⟨rfl, ?_⟩)
  · obtain ⟨p, hp5, e⟩ := h
    subst e
    refine X4_need (n := n) (np := np) (N := 4) (M := 4) rfl (by decide) (xpost := fun E u => (E = "java/lang/IndexOutOfBoundsException" ∧ _) ∨ (E = "java/lang/IllegalArgumentException" ∧ _)) (E := "java/lang/IllegalArgumentException") (post := fun u => vp_in (nI p) 5 ∧ ((5 * 0 + (nI p).toNatClampNeg) < 10 ∧ vp_in a2 4 ∧ _)) (fun h => ?_) (fun h => Or.inr ⟨rfl, ?_⟩)
    · obtain ⟨s, hs, e⟩ := h
      subst e
      rw [cl (by omega), cl (by omega)]
      refine ⟨vin hp5 (by omega), by omega, vin hs (by omega), X5_isProp (fun j _ _ => X5_in0 (N := 4) rfl (by omega) (fun j2 _ _ => X5_goes0 rfl rfl rfl ⟨fun q => absurd q z10, fun _ => ?_⟩) (fun q => absurd ⟨s, hs, rfl⟩ q)) (fun q => absurd ⟨p, hp5, rfl⟩ q)⟩
      rw [ix4, cl (by omega)]
      refine ⟨vin (by omega) (by omega), oT_0 (Inv_21 hI _) ?_⟩
      rw [at_21, zst_o (by omega), zst_o (by omega), show 5 * 0 + p = p by omega]
      exact hst.2.1 p s hp5 hs
    · refine X5_isProp (fun j _ _ => X5_in0 (N := 4) rfl (by omega) (fun j2 hj2 e => absurd ⟨j2, hj2, e⟩ h) (fun _ => X5_goes2 rfl rfl ⟨fun _ => oT_k k2 hI, fun q => absurd rfl q⟩)) (fun q => absurd ⟨p, hp5, rfl⟩ q)
  · refine X5_isProp (fun k hk e => absurd ⟨k, hk, e⟩ h) (fun _ => X5_in0 (N := 4) rfl (by omega) (fun _ _ _ => X5_goes1 rfl ⟨fun _ => oT_k k1 hI, fun q => absurd rfl q⟩) (fun _ => X5_goes1 rfl ⟨fun _ => oT_k k1 hI, fun q => absurd rfl q⟩))
theorem o_isAllowed : ob_isAllowed Inv := by
  intro n np μ a1 a2 hI
  obtain ⟨t, ⟨⟨hn, hnp, ht⟩, ⟨e0, e3, e12⟩, -, hal, hst, hg, hsk, hsc, htold, hz⟩, hp⟩ := id hI
  unfold w_L_isAllowed w_X4_isAllowed w_X5_isAllowed
  refine X4_sceneNumbered hn htold (fun a ha e => ?_) (fun h => Or.inl ⟨rfl, ?_⟩)
  · subst e
    refine X4_requireDay (fun h => ?_) (fun h => Or.inr ⟨rfl, ?_⟩)
    · obtain ⟨d, hd, e⟩ := h
      subst e
      rw [cl (by omega)]
      refine ⟨pos (by omega), ?_⟩
      have fin : ∀ r : Int32, (al μ np a d → r = 1) → (¬ al μ np a d → r = 0) → w_X5_isScene (fun (r2 : Int32) (μ1 : Mem) => (w_X5_isDay (fun (r4 : Int32) (μ3 : Mem) => (w_X5_goes (fun (r6 : Int32) (μ5 : Mem) => ((r6 = 0 → w_X5_thrown (oB Inv n np 0 0) μ5) ∧ (¬ r6 = 0 → (w_X5_allows (fun (r9 : Int32) (μ8 : Mem) => ((r9 = 0 → w_X5_thrown (oB Inv n np 0 0) μ8) ∧ (¬ r9 = 0 → w_X5_thrown (oB Inv n np 0 1) μ8))) (nI a) (nI d) μ5)))) r2 r4 (1 : Int32) μ3)) (nI d) μ1)) (nI a) (zst μ 21 0 0 r) := by
        intro r r1 r0
        refine X5_isScene hn (by rw [zst_o (by omega)]; exact e3) (fun _ _ _ => X5_isDay (fun _ _ _ => X5_goes0 rfl rfl rfl ⟨fun q => absurd q z10, fun _ => ?_⟩) (fun q => absurd ⟨d, hd, rfl⟩ q)) (fun q => absurd ⟨a, ha, rfl⟩ q)
        have hao : al (zst (zst μ 21 0 0 r) 0 0 25 0) np a d ↔ al μ np a d := al_of (fun f hf => by rw [zst_o (by omega), zst_o (by omega)])
        refine X5_allows (by omega) hd hnp (by rw [zst_ap, if_neg (by omega), zst_o (by omega)]; exact e12) (fun h => ⟨fun q => absurd q z10, fun _ => oB_0 (Inv_21 hI _) ⟨fun q => absurd q z10, fun _ => ?_⟩⟩) (fun h => ⟨fun _ => oB_0 (Inv_21 hI _) ⟨fun _ => ?_, fun q => absurd rfl q⟩, fun q => absurd rfl q⟩)
        · rw [at_21]; exact r1 (hao.mp h)
        · rw [at_21]; exact r0 (fun q => h (hao.mpr q))
      exact X4_allows (E := μ) ha hd hnp hal (fun h => ⟨Or.inr rfl, fun q => absurd q z10, fun _ => fin 1 (fun _ => rfl) (fun q => absurd h q)⟩) (fun h => ⟨Or.inl rfl, fun _ => fin 0 (fun q => absurd q h) (fun _ => rfl), fun q => absurd rfl q⟩)
    · exact X5_isScene hn e3 (fun _ _ _ => X5_isDay (fun k hk e => absurd ⟨k, hk, e⟩ h) (fun _ => X5_goes2 rfl rfl ⟨fun _ => oB_k k2 hI, fun q => absurd rfl q⟩)) (fun q => absurd ⟨a, ha, rfl⟩ q)
  · exact X5_isScene hn e3 (fun k hk e => absurd ⟨k, hk, e⟩ h) (fun _ => X5_isDay (fun _ _ _ => X5_goes1 rfl ⟨fun _ => oB_k k1 hI, fun q => absurd rfl q⟩) (fun _ => X5_goes1 rfl ⟨fun _ => oB_k k1 hI, fun q => absurd rfl q⟩))
