/-! A PERMIT IS LOST; A SCENE IS CUT -/
/-- env, from its parts: what an op leaves alone is told by families -/
theorem env_build {n np t : Nat} {μ E u F : Mem} (h : env n np t μ E) (h30 : ∀ k, k = 7 ∨ k = 8 ∨ k = 9 → u 30 0 k = μ 30 0 k) (hpaid : u 30 0 10 = F 0 0 1) (h0 : ∀ k, k = 0 ∨ k = 3 ∨ k = 12 → F 0 0 k = E 0 0 k) (hal : alRel n np u F) (hst : stRel u F) (hg : gOK (F 15 0)) (hsk : sok (fun p s => F 16 0 (4 * p + s)) (20 + t)) (hsc : scOK n u F) (h31 : u 31 0 = μ 31 0) (h62 : u 62 0 = μ 62 0) (hrev : revOK np F) : env n np t u F := by
  obtain ⟨b, ⟨e0, e3, e12⟩, ⟨m7, m8, m9, m10⟩, -, -, -, -, -, htold, hz⟩ := h
  refine ⟨b, ⟨by rw [h0 0 (by omega)]; exact e0, by rw [h0 3 (by omega)]; exact e3, by rw [h0 12 (by omega)]; exact e12⟩, ⟨by rw [h30 7 (by omega)]; exact m7, by rw [h30 8 (by omega)]; exact m8, by rw [h30 9 (by omega)]; exact m9, hpaid⟩, hal, hst, hg, hsk, hsc, ?_, ?_⟩
  · rw [h31]; exact htold
  · rw [h62]; exact ⟨hz.1, hrev⟩
theorem scOK_mv {n : Nat} {μ E u F : Mem} (h : scOK n μ E) (h70 : u 70 = μ 70) (hf : ∀ f, f = 3 ∨ f = 4 ∨ f = 6 ∨ f = 7 → F f 0 = E f 0) : scOK n u F := by
  intro a ha
  obtain ⟨q1, q2, q3, q4, q5⟩ := h a ha
  rw [h70, hf 3 (by omega), hf 4 (by omega)]
  exact ⟨q1, q2, q3, q4, useOK_of (hf 6 (by omega)) (hf 7 (by omega)) q5⟩
theorem stRel_mv {μ E u F : Mem} (h : stRel μ E) (h42 : u 42 0 = μ 42 0) (h43 : ∀ p, p < 5 → u 43 p = μ 43 p) (h40 : u 40 0 2 = μ 40 0 2) (hf : F 15 0 = E 15 0 ∧ F 16 0 = E 16 0 ∧ F 0 0 2 = E 0 0 2) : stRel u F := by
  obtain ⟨a, b, c⟩ := h
  refine ⟨by rw [h42, hf.1]; exact a, fun p s hp hs => ?_, by rw [h40, hf.2.2]; exact c⟩
  show u 43 p s = F 16 0 (4 * p + s)
  rw [h43 p hp, hf.2.1]
  exact b p s hp hs
theorem rS_of {np k : Nat} {μ u : Mem} (h : ∀ f, 1 ≤ f → f ≤ 14 → u f 0 = μ f 0) : rS u np k = rS μ np k := by
  unfold rS
  rw [h 3 (by omega) (by omega), h 4 (by omega) (by omega)]
  have : al u np k (μ 4 0 k).toNatClampNeg ↔ al μ np k (μ 4 0 k).toNatClampNeg := al_of (fun f hf => h f (by omega) (by omega))
  by_cases c : μ 3 0 k = 0 ∧ ¬ al μ np k (μ 4 0 k).toNatClampNeg
  · rw [ind_1 c, ind_1 ⟨c.1, fun q => c.2 (this.mp q)⟩]
  · rw [ind_0 c, ind_0 (fun q => c ⟨q.1, fun w => q.2 (this.mpr w)⟩)]
theorem env_permit {n np t k : Nat} {v : Int32} {μ E u F : Mem} (hk : k < np) (h : env n np t μ E) (hu : ∀ f, (f = 30 ∨ f = 31 ∨ f = 33 ∨ f = 34 ∨ f = 40 ∨ f = 42 ∨ f = 43 ∨ f = 62 ∨ f = 70 ∨ f = 71 ∨ f = 72 ∨ f = 73) → u f = μ f) (h80 : ∀ j i, u 80 j i = if j = k ∧ i = 4 then v else μ 80 j i) (h0 : ∀ k, k ≠ 25 → F 0 0 k = E 0 0 k) (hf : ∀ f, 1 ≤ f → f ≤ 16 → f ≠ 13 → F f 0 = E f 0) (h13 : ∀ j, F 13 0 j = if j = k then v else E 13 0 j) : env n np t u F := by
  obtain ⟨b, -, ⟨m7, m8, m9, m10⟩, hal, hst, hg, hsk, hsc, -, hzz⟩ := id h
  refine env_build h (fun k _ => by rw [hu 30 (by omega)]) (by rw [hu 30 (by omega), h0 1 (by omega)]; exact m10) (fun k hk => h0 k (by omega)) ?_ (stRel_mv hst (by rw [hu 42 (by omega)]) (fun p _ => by rw [hu 43 (by omega)]) (by rw [hu 40 (by omega)]) ⟨hf 15 (by omega) (by omega) (by omega), hf 16 (by omega) (by omega) (by omega), h0 2 (by omega)⟩) (by rw [hf 15 (by omega) (by omega) (by omega)]; exact hg) (by rw [hf 16 (by omega) (by omega) (by omega)]; exact hsk) (scOK_mv hsc (hu 70 (by omega)) (fun f h => hf f (by omega) (by omega) (by omega))) (by rw [hu 31 (by omega)]) (by rw [hu 62 (by omega)]) (fun j a b => by rw [h13, if_neg (by omega)]; exact hzz.2 j a b)
  obtain ⟨h1, h2, h3, h4⟩ := hal
  refine ⟨fun a ha => ?_, fun k hk => ?_, fun j hj => ?_, fun j d hj hd => ?_⟩
  · unfold scRel
    rw [hu 70 (by omega), hu 71 (by omega), hu 72 (by omega), hu 73 (by omega), hf 1 (by omega) (by omega) (by omega), hf 2 (by omega) (by omega) (by omega), hf 5 (by omega) (by omega) (by omega), hf 6 (by omega) (by omega) (by omega), hf 7 (by omega) (by omega) (by omega)]
    exact h1 a ha
  · rw [hu 33 (by omega)]; exact h2 k hk
  · obtain ⟨p0, p1, p2, p3, p4⟩ := h3 j hj
    unfold pmRel
    rw [h80, h80, h80, h80, h80, h13, hf 9 (by omega) (by omega) (by omega), hf 10 (by omega) (by omega) (by omega), hf 11 (by omega) (by omega) (by omega), hf 12 (by omega) (by omega) (by omega)]
    refine ⟨by rw [if_neg (by omega)]; exact p0, by rw [if_neg (by omega)]; exact p1, by rw [if_neg (by omega)]; exact p2, by rw [if_neg (by omega)]; exact p3, ?_⟩
    by_cases c : j = k
    · rw [if_pos ⟨c, rfl⟩, if_pos c]
    · rw [if_neg (fun q => c q.1), if_neg c]
      exact p4
  · rw [hu 34 (by omega), hf 14 (by omega) (by omega) (by omega)]; exact h4 j d hj hd
