/-! SHOOT -/
theorem planI_next {n t : Nat} {u F : Mem} (h : planI n t u F) (h8 : F 8 0 t = -1) (hn : n ≤ 10) : planI n (t + 1) u F := by
  obtain ⟨p1, p2, p3, p4, p5⟩ := h
  refine ⟨p1, p2, fun d hd => ?_, p4, fun b hb e => ?_⟩
  · rcases Nat.lt_or_ge d t with q | q
    · exact p3 d q
    · rw [show d = t by omega]; exact h8
  · obtain ⟨d, d1, d2, d3⟩ := p5 b hb e
    refine ⟨d, ?_, d2, d3⟩
    rcases Nat.lt_or_ge t d with q | q
    · exact q
    · rw [show d = t by omega, h8] at d3
      exact absurd d3.symm (nI_neg1 (by omega))
/-- a scene moves from day t to day d, which was empty -/
theorem planI_put {n t d a : Nat} {μ E u F : Mem} (hn : n ≤ 10) (ht : t < 30) (htd : t < d) (hd : d < 30) (ha : a < n) (hda : E 8 0 t = nI a) (hfree : E 8 0 d = -1) (h : planI n t μ E) (h32 : ∀ k, u 32 0 k = if k = d then nI a else if k = t then -1 else μ 32 0 k) (h8 : ∀ k, F 8 0 k = if k = d then nI a else if k = t then -1 else E 8 0 k) (h3 : F 3 0 = E 3 0) (h4 : ∀ b, b < n → F 4 0 b = if b = a then nI d else E 4 0 b) : planI n t u F := by
  obtain ⟨p1, p2, p3, p4, p5⟩ := h
  refine ⟨fun k hk => ?_, fun k hk => ?_, fun k hk => ?_, fun k b hk hb e => ?_, fun b hb e => ?_⟩
  · rw [h32, h8, p1 k hk]
  · rw [h8]
    by_cases c : k = d
    · rw [if_pos c]; exact Or.inr ⟨a, ha, rfl⟩
    · rw [if_neg c]
      by_cases c2 : k = t
      · rw [if_pos c2]; exact Or.inl rfl
      · rw [if_neg c2]; exact p2 k hk
  · rw [h8, if_neg (by omega), if_neg (by omega)]
    exact p3 k hk
  · rw [h8] at e
    rw [h3, h4 b hb]
    by_cases c : k = d
    · rw [if_pos c] at e
      have eb : a = b := (nI_eq (by omega) (by omega)).mp e
      subst eb
      rw [if_pos rfl, c]
      exact ⟨(p4 t a ht ha hda).1, rfl⟩
    · rw [if_neg c] at e
      by_cases c2 : k = t
      · rw [if_pos c2] at e
        exact absurd e.symm (nI_neg1 (by omega))
      · rw [if_neg c2] at e
        have q := p4 k b hk hb e
        have hba : b ≠ a := by
          intro hh
          subst hh
          have e2 := (p4 t b ht hb hda).2
          rw [q.2] at e2
          exact c2 ((nI_eq (by omega) (by omega)).mp e2)
        rw [if_neg hba]
        exact q
  · rw [h3] at e
    by_cases c : b = a
    · exact ⟨d, by omega, hd, by rw [h8, if_pos rfl, c]⟩
    · obtain ⟨k, k1, k2, k3⟩ := p5 b hb e
      refine ⟨k, k1, k2, ?_⟩
      rw [h8, if_neg (fun q => ?_), if_neg (fun q => ?_)]
      · exact k3
      · rw [q, hda] at k3
        exact c ((nI_eq (by omega) (by omega)).mp k3).symm
      · rw [q, hfree] at k3
        exact nI_neg1 (by omega) k3.symm
/-- the next day's world -/
theorem env_day {n np t : Nat} {μ w u v : Mem} {X : Nat → Int32} {Cc : Nat → Nat → Int32} {G : Nat → Int32} {Cr : Nat → Nat → Int32} (ht30 : t < 30) (he : env n np t μ μ) (hc : dayC t μ u X Cc) (hr : dayR t w v G Cr) (r1 : rsame μ w) (hpaid : u 30 0 10 = v 0 0 1) (hset : u 40 0 2 = v 0 0 2) (h70 : ∀ j i, i ≤ 5 → u 70 j i = μ 70 j i) (hX : eq5 X G) (hG : gOK G) (hC : eq45 Cc Cr) (hCs : sok Cr (20 + (t + 1))) (hsc : scOK n u v) : env n np (t + 1) u v := by
  obtain ⟨⟨hn, hnp, ht⟩, ⟨e0, e3, e12⟩, ⟨m7, m8, m9, m10⟩, hal, hst, hg, hsk, -, htold, hz⟩ := he
  obtain ⟨c1, c7, c8, c9, c42, c43⟩ := hc
  obtain ⟨d0, dk, d25, df, dh, d15, d16⟩ := hr
  have hu : ∀ f, (f = 31 ∨ f = 33 ∨ f = 34 ∨ f = 62 ∨ f = 71 ∨ f = 72 ∨ f = 73 ∨ f = 80) → u f = μ f := fun f h => c1 f (by omega) (by omega) (by omega) (by omega) (by omega) (by omega)
  have hf : ∀ f, (f = 1 ∨ f = 2 ∨ f = 5 ∨ f = 6 ∨ f = 7 ∨ (9 ≤ f ∧ f ≤ 14)) → v f 0 = μ f 0 := fun f h => (df f h).trans (r1.2 f (by omega) (by omega))
  have hg2 : ∀ k, k < 5 → ∃ y, y ≤ 20 ∧ v 15 0 k = nI y ∧ u 42 0 k = nI y := by
    intro k hk
    obtain ⟨y, hy, e⟩ := hG k hk
    refine ⟨min 20 (y + 1), by omega, ?_, ?_⟩
    · rw [d15 k hk, e, g1_nI hy]
    · rw [c42 k hk, hX k hk, e, zmin20 hy (by omega)]
  refine ⟨⟨hn, hnp, ht30⟩, ⟨d0, ?_, ?_⟩, ⟨c7.trans m7, c8.trans m8, c9, hpaid⟩, ⟨fun a ha => ?_, fun k hk => ?_, fun j hj => ?_, fun j d hj hd => ?_⟩, ⟨fun k hk => ?_, fun p s hp hs => ?_, hset⟩, fun k hk => ?_, sok_eq45 d16 hCs, hsc, by rw [hu 31 (by omega)]; exact htold, by rw [hu 62 (by omega)]; exact hz.1, fun k a b => by rw [hf 13 (by omega)]; exact hz.2 k a b⟩
  · exact ((dk 3 (by omega) (by omega) (by omega) (by omega)).trans (r1.1 3 (by omega))).trans e3
  · exact ((dk 12 (by omega) (by omega) (by omega) (by omega)).trans (r1.1 12 (by omega))).trans e12
  · unfold scRel
    rw [h70 a 1 (by omega), h70 a 2 (by omega), hu 71 (by omega), hu 72 (by omega), hu 73 (by omega), hf 1 (by omega), hf 2 (by omega), hf 5 (by omega), hf 6 (by omega), hf 7 (by omega)]
    exact hal.1 a ha
  · rw [hu 33 (by omega)]; exact hal.2.1 k hk
  · unfold pmRel
    rw [hu 80 (by omega), hf 9 (by omega), hf 10 (by omega), hf 11 (by omega), hf 12 (by omega), hf 13 (by omega)]
    exact hal.2.2.1 j hj
  · rw [hu 34 (by omega), hf 14 (by omega)]; exact hal.2.2.2 j d hj hd
  · obtain ⟨y, -, a, b⟩ := hg2 k hk
    rw [a, b]
  · exact (c43 p s hp hs).trans ((hC p s hp hs).trans (d16 p s hp hs).symm)
  · obtain ⟨y, hy, a, b⟩ := hg2 k hk
    exact ⟨y, hy, a⟩
/-- scenes, as one of them gets another state (and, when it is shot, its day) -/
theorem scOK_set {n a : Nat} {s d : Int32} {μ E u F : Mem} (h : scOK n μ E) (hs : s = 1 ∨ s = 2) (hu : ∀ j i, u 70 j i = if j = a ∧ i = 6 then s else if j = a ∧ i = 7 ∧ s = 1 then d else μ 70 j i) (h3 : ∀ k, F 3 0 k = if k = a then s else E 3 0 k) (h4 : F 4 0 = E 4 0) (h4a : s = 1 → E 4 0 a = d) (h6 : F 6 0 = E 6 0) (h7 : F 7 0 = E 7 0) : scOK n u F := by
  intro j hj
  obtain ⟨s1, s2, s3, s4, s5⟩ := h j hj
  rw [hu, hu, hu, h3, h4, if_neg (show ¬ (j = a ∧ (0 : Nat) = 6) by omega), if_neg (show ¬ (j = a ∧ (0 : Nat) = 7 ∧ s = 1) by omega), if_neg (show ¬ (j = a ∧ (7 : Nat) = 6) by omega), if_neg (show ¬ (j = a ∧ (6 : Nat) = 7 ∧ s = 1) by omega)]
  by_cases c : j = a
  · rw [if_pos ⟨c, rfl⟩, if_pos c]
    refine ⟨s1, rfl, Or.inr hs, fun q => ?_, useOK_of h6 h7 s5⟩
    rw [if_pos ⟨c, rfl, q⟩, c, h4a q]
  · rw [if_neg (show ¬ (j = a ∧ (6 : Nat) = 6) from fun q => c q.1), if_neg (show ¬ (j = a ∧ (7 : Nat) = 7 ∧ s = 1) from fun q => c q.1), if_neg c]
    exact ⟨s1, s2, s3, s4, useOK_of h6 h7 s5⟩
theorem scOK_mv2 {n : Nat} {μ E u F : Mem} (h : scOK n μ E) (h70 : u 70 = μ 70) (h3 : F 3 0 = E 3 0) (h4 : ∀ a, a < n → E 3 0 a = 1 → F 4 0 a = E 4 0 a) (h6 : F 6 0 = E 6 0) (h7 : F 7 0 = E 7 0) : scOK n u F := by
  intro j hj
  obtain ⟨s1, s2, s3, s4, s5⟩ := h j hj
  rw [h70, h3]
  exact ⟨s1, s2, s3, fun q => (s4 q).trans (h4 j hj q).symm, useOK_of h6 h7 s5⟩
