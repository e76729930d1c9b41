/-! A SCENE IS TOLD -/
theorem s_scene {n np t : Nat} {E μ : Mem} {P : Int32 → Nat → Nat → Mem → Prop} (h : Jv n np t E μ) {a1 a2 : Int32}
    (hp : scArg a1 a2 → n < 10 → ∀ D, D = max t (lpd (E 8 0) 30) → D < 30 → ∀ F v : Mem, Jv (n + 1) np t F v → (∀ f, 9 ≤ f → F f = E f) → (∀ k, k ≠ 3 → F 0 0 k = E 0 0 k) → (∀ k, F 3 0 k = if k = n then 0 else E 3 0 k) → (∀ k, F 4 0 k = if k = n then nI D else E 4 0 k) → (∀ j, F 6 0 j = if 5 * n ≤ j ∧ j < 5 * n + 5 then -1 else E 6 0 j) → F 7 = E 7 → P (nI n) (n + 1) np v)
    (hs : scArg a1 a2 → (¬ n < 10 ∨ ¬ max t (lpd (E 8 0) 30) < 30) → P (-1000003) n np μ) (hi : ¬ scArg a1 a2 → P (-1000002) n np μ) : w_L_scene n np P a1 a2 μ := by
  have he := h.env
  have hpl := h.pl
  have hl := lpd_le (E 8 0) 30
  obtain ⟨D, eD⟩ : ∃ z, z = max t (lpd (E 8 0) 30) := ⟨_, rfl⟩
  have x4 : ∀ x : Int32, (4 ≤ x ↔ 3 < x) := fun x => le_lt (m := 3) rfl rfl (by omega)
  unfold w_L_scene w_X4_scene b_X4_scene_19 b_X4_scene_55
  rw [x4]
  refine ⟨fun c => Or.inl ⟨rfl, hi (fun q => q.1 c)⟩, fun c1 => ⟨fun c => Or.inl ⟨rfl, hi (fun q => q.2.1 c)⟩, fun c2 => ⟨fun c => Or.inl ⟨rfl, hi (fun q => q.2.2.1 c)⟩, fun c3 => ⟨fun c4 => ?_, fun c => Or.inl ⟨rfl, hi (fun q => q.2.2.2 (Int32.not_le.mp c))⟩⟩⟩⟩⟩
  have hV : scArg a1 a2 := ⟨c1, c2, c3, Int32.not_lt.mpr c4⟩
  have hpV := hp hV
  have hsV := hs hV
  clear hp hs hi
  obtain ⟨⟨hn, hnp, ht⟩, ⟨e0, e3, e12⟩, ⟨m7, m8, m9, m10⟩, hal, hst, hg, hsk, hsc, htold, hz⟩ := id he
  refine X4_dayBehindPlan hn ht m9 hpl ?_
  rw [← eD, m7]
  rw [← eD] at hsV
  refine ⟨fun c => Or.inr ⟨rfl, hsV (Or.inl (fun q => absurd ((le10 (k := n) (by omega)).mp c) (by omega)))⟩, fun c5 => ⟨fun c6 => ?_, fun c => Or.inr ⟨rfl, hsV (Or.inr (fun q => c ((lt_lit 30 rfl (by omega) rfl (by omega)).mpr q)))⟩⟩⟩
  have hlt : n < 10 := by
    rcases Nat.lt_or_ge n 10 with q | q
    · exact q
    · exact absurd ((le10 (by omega)).mpr q) c5
  have hD : D < 30 := (lt_lit 30 rfl (by omega) rfl (by omega)).mp c6
  have htD : t ≤ D := by omega
  have hfree : E 8 0 D = -1 := lpd_free (j := 30) (by omega) hD
  refine ⟨hlt, fun k hk c => ?_, fun k hk c => ?_, hz.1, fun u0 eu0 => ?_⟩
  · rw [htold k hk] at c ⊢
    by_cases w : k < n
    · rw [if_pos w, cl (by omega)]; exact w
    · rw [if_neg w] at c; exact absurd neg1 c
  · rw [hpl.1 k hk] at c ⊢
    rcases hpl.2.1 k hk with e | ⟨a, ha, e⟩
    · rw [e] at c; exact absurd neg1 c
    · rw [e, cl (by omega)]; exact ha
  have z30 : ∀ f, f ≠ 70 → f ≠ 71 → f ≠ 72 → f ≠ 73 → u0 f = μ f := by
    intro f h1 h2 h3 h4
    rw [eu0]
    unfold zaddS
    rw [zcp_o h4, zcp_o h3, zcp_o h2, zcp_o h1]
  unfold b_X4_scene_78
  rw [z30 30 (by omega) (by omega) (by omega) (by omega), m7, cl (by omega)]
  refine ⟨vin hlt (by omega), fun _ => by omega, fun u1 eu1 u2 eu2 => ?_⟩
  rw [cl (by omega)]
  refine ⟨vin hD (by omega), fun u3 eu3 => ?_⟩
  have u70 : ∀ j i, u3 70 j i = if j = n then (if i = 0 then nI n else if i = 1 then a1 else if i = 2 then a2 else if i = 7 then -1 else 0) else μ 70 j i := by
    intro j i
    rw [eu3, zst_o (by omega), eu2, zst_o (by omega), eu1, zst_o (by omega), eu0]
    unfold zaddS
    rw [zcp_o (by omega), zcp_o (by omega), zcp_o (by omega)]
    unfold zcp
    by_cases w : j = n <;> simp [w]
  have u71 : ∀ j i, i < 5 → u3 71 j i = if j = n then -2 else μ 71 j i := by
    intro j i hi
    rw [eu3, zst_o (by omega), eu2, zst_o (by omega), eu1, zst_o (by omega), eu0]
    unfold zaddS
    rw [zcp_o (by omega), zcp_o (by omega)]
    unfold zcp
    by_cases w : j = n
    · simp [w, zfill, hi]
    · simp [w]
  have u72 : ∀ j i, i < 5 → u3 72 j i = if j = n then -1 else μ 72 j i := by
    intro j i hi
    rw [eu3, zst_o (by omega), eu2, zst_o (by omega), eu1, zst_o (by omega), eu0]
    unfold zaddS
    rw [zcp_o (by omega)]
    unfold zcp
    by_cases w : j = n
    · simp [w, zfill, hi]
    · simp [w]
  have u73 : ∀ j i, j ≠ n → u3 73 j i = μ 73 j i := by
    intro j i w
    rw [eu3, zst_o (by omega), eu2, zst_o (by omega), eu1, zst_o (by omega), eu0]
    unfold zaddS zcp
    simp [w]
  have uo : ∀ f, f ≠ 70 → f ≠ 71 → f ≠ 72 → f ≠ 73 → f ≠ 31 → f ≠ 30 → f ≠ 32 → u3 f = μ f := by
    intro f h1 h2 h3 h4 h5 h6 h7
    rw [eu3, zst_o h7, eu2, zst_o h6, eu1, zst_o h5]
    exact z30 f h1 h2 h3 h4
  have u31 : ∀ k, u3 31 0 k = if k = n then nI n else μ 31 0 k := by
    intro k
    rw [eu3, zst_o (by omega), eu2, zst_o (by omega), eu1, zst_ap, z30 31 (by omega) (by omega) (by omega) (by omega)]
    by_cases w : k = n <;> simp [w]
  have u30 : ∀ k, u3 30 0 k = if k = 7 then nI (n + 1) else μ 30 0 k := by
    intro k
    have e1 : u1 30 = μ 30 := by
      rw [eu1, zst_o (by omega)]
      exact z30 30 (by omega) (by omega) (by omega) (by omega)
    rw [eu3, zst_o (by omega), eu2, zst_ap, e1, m7, nI_s1]
    by_cases w : k = 7 <;> simp [w]
  have u32 : ∀ k, u3 32 0 k = if k = D then nI n else μ 32 0 k := by
    intro k
    rw [eu3, zst_ap, eu2, zst_o (f' := 32) (by omega), eu1, zst_o (f' := 32) (by omega), z30 32 (by omega) (by omega) (by omega) (by omega)]
    by_cases w : k = D <;> simp [w]
  refine ⟨pos (by omega), by omega, ?_⟩
  have e70 : u3 70 n 0 = nI n := by rw [u70, if_pos rfl, if_pos rfl]
  rw [e70]
  -- the ghost
  obtain ⟨F, hF⟩ : ∃ F : Mem, F = fun f => if f = 0 then (zst E 0 0 3 (nI (n + 1))) 0 else if f = 1 then zst E 1 0 n a1 1 else if f = 2 then zst E 2 0 n a2 2 else if f = 3 then zst E 3 0 n 0 3 else if f = 4 then zst E 4 0 n (nI D) 4 else if f = 5 then zcp E 5 0 (fun j => if 5 * n ≤ j ∧ j < 5 * n + 5 then -2 else E 5 0 j) 5 else if f = 6 then zcp E 6 0 (fun j => if 5 * n ≤ j ∧ j < 5 * n + 5 then -1 else E 6 0 j) 6 else if f = 8 then zst E 8 0 D (nI n) 8 else E f := ⟨_, rfl⟩
  have F0 : F 0 = zst E 0 0 3 (nI (n + 1)) 0 := by rw [hF]; rfl
  have F1 : F 1 = zst E 1 0 n a1 1 := by rw [hF]; rfl
  have F2 : F 2 = zst E 2 0 n a2 2 := by rw [hF]; rfl
  have F3 : F 3 = zst E 3 0 n 0 3 := by rw [hF]; rfl
  have F4 : F 4 = zst E 4 0 n (nI D) 4 := by rw [hF]; rfl
  have F5 : F 5 = zcp E 5 0 (fun j => if 5 * n ≤ j ∧ j < 5 * n + 5 then -2 else E 5 0 j) 5 := by rw [hF]; rfl
  have F6 : F 6 = zcp E 6 0 (fun j => if 5 * n ≤ j ∧ j < 5 * n + 5 then -1 else E 6 0 j) 6 := by rw [hF]; rfl
  have F8 : F 8 = zst E 8 0 D (nI n) 8 := by rw [hF]; rfl
  have fo : ∀ f, (f = 7 ∨ 9 ≤ f) → F f = E f := by
    intro f w
    rw [hF]
    show (if f = 0 then _ else if f = 1 then _ else if f = 2 then _ else if f = 3 then _ else if f = 4 then _ else if f = 5 then _ else if f = 6 then _ else if f = 8 then _ else E f) = E f
    rw [if_neg (by omega), if_neg (by omega), if_neg (by omega), if_neg (by omega), if_neg (by omega), if_neg (by omega), if_neg (by omega), if_neg (by omega)]
  have one : ∀ (g : Nat) (k0 : Nat) (v : Int32) (k : Nat), zst E g 0 k0 v g 0 k = if k = k0 then v else E g 0 k := by
    intro g k0 v k
    rw [zst_ap]
    by_cases w : k = k0 <;> simp [w]
  have f0 : ∀ k, F 0 0 k = if k = 3 then nI (n + 1) else E 0 0 k := fun k => by rw [F0, one]
  have f1 : ∀ k, F 1 0 k = if k = n then a1 else E 1 0 k := fun k => by rw [F1, one]
  have f2 : ∀ k, F 2 0 k = if k = n then a2 else E 2 0 k := fun k => by rw [F2, one]
  have f3 : ∀ k, F 3 0 k = if k = n then 0 else E 3 0 k := fun k => by rw [F3, one]
  have f4 : ∀ k, F 4 0 k = if k = n then nI D else E 4 0 k := fun k => by rw [F4, one]
  have f5 : ∀ j, F 5 0 j = if 5 * n ≤ j ∧ j < 5 * n + 5 then -2 else E 5 0 j := fun j => by rw [F5, zcp_at]
  have f6 : ∀ j, F 6 0 j = if 5 * n ≤ j ∧ j < 5 * n + 5 then -1 else E 6 0 j := fun j => by rw [F6, zcp_at]
  have f8 : ∀ k, F 8 0 k = if k = D then nI n else E 8 0 k := fun k => by rw [F8, one]
  have huo : ∀ f, (f = 33 ∨ f = 34 ∨ f = 40 ∨ f = 42 ∨ f = 43 ∨ f = 62 ∨ f = 80) → u3 f = μ f := fun f w => uo f (by omega) (by omega) (by omega) (by omega) (by omega) (by omega) (by omega)
  have hE : env (n + 1) np t u3 F := by
    refine ⟨⟨hlt, hnp, ht⟩, ⟨by rw [f0, if_neg (by omega)]; exact e0, by rw [f0, if_pos rfl], by rw [f0, if_neg (by omega)]; exact e12⟩, ⟨by rw [u30, if_pos rfl], by rw [u30, if_neg (by omega)]; exact m8, by rw [u30, if_neg (by omega)]; exact m9, by rw [u30, if_neg (by omega), f0, if_neg (by omega)]; exact m10⟩, ⟨fun a ha => ?_, fun k hk => ?_, fun k hk => ?_, fun j d hj hd => ?_⟩, stRel_mv hst (by rw [huo 42 (by omega)]) (fun p _ => by rw [huo 43 (by omega)]) (by rw [huo 40 (by omega)]) ⟨by rw [fo 15 (by omega)], by rw [fo 16 (by omega)], by rw [f0, if_neg (by omega)]⟩, by rw [fo 15 (by omega)]; exact hg, by rw [fo 16 (by omega)]; exact hsk, fun a ha => ?_, fun k hk => ?_, ?_⟩
    · unfold scRel
      rw [u70, u70, f1, f2, fo 7 (by omega)]
      by_cases w : a = n
      · rw [if_pos w, if_pos w, if_pos w, if_pos w]
        refine ⟨by simp, by simp, fun k hk => ?_, fun k hk => ?_, fun k hk q => ?_⟩
        · rw [u71 a k hk, if_pos w, f5, if_pos (by omega)]
        · rw [u72 a k hk, if_pos w, f6, if_pos (by omega)]
        · rw [f6, if_pos (by omega)] at q
          exact absurd rfl q
      · obtain ⟨s1, s2, s3, s4, s5⟩ := hal.1 a (by omega)
        rw [if_neg w, if_neg w, if_neg w, if_neg w]
        refine ⟨s1, s2, fun k hk => ?_, fun k hk => ?_, fun k hk q => ?_⟩
        · rw [u71 a k hk, if_neg w, f5, if_neg (by omega)]; exact s3 k hk
        · rw [u72 a k hk, if_neg w, f6, if_neg (by omega)]; exact s4 k hk
        · rw [f6, if_neg (by omega)] at q
          rw [u73 a k w]; exact s5 k hk q
    · rw [huo 33 (by omega)]; exact hal.2.1 k hk
    · unfold pmRel
      rw [huo 80 (by omega), fo 9 (by omega), fo 10 (by omega), fo 11 (by omega), fo 12 (by omega), fo 13 (by omega)]
      exact hal.2.2.1 k hk
    · rw [huo 34 (by omega), fo 14 (by omega)]
      exact hal.2.2.2 j d hj hd
    · rw [u70, u70, u70, f3, f4]
      by_cases w : a = n
      · rw [if_pos w, if_pos w, if_pos w, if_pos w]
        refine ⟨by simp [w], by simp, Or.inl rfl, fun q => absurd q (by decide), fun p hp => Or.inl ?_⟩
        rw [f6, if_pos (by omega)]
      · obtain ⟨s1, s2, s3, s4, s5⟩ := hsc a (by omega)
        rw [if_neg w, if_neg w, if_neg w, if_neg w, if_neg w]
        refine ⟨s1, s2, s3, s4, fun p hp => ?_⟩
        rw [f6, if_neg (by omega), fo 7 (by omega)]
        exact s5 p hp
    · rw [u31]
      by_cases w : k = n
      · rw [if_pos w, if_pos (by omega), w]
      · rw [if_neg w, htold k hk]
        by_cases h2 : k < n
        · rw [if_pos h2, if_pos (by omega)]
        · rw [if_neg h2, if_neg (by omega)]
    · refine ⟨fun k hk c => ?_, fun k a b => by rw [fo 13 (by omega)]; exact hz.2 k a b⟩
      rw [huo 62 (by omega)] at c ⊢
      exact Nat.lt_succ_of_lt (hz.1 k hk c)
  have hP : planI (n + 1) t u3 F := planI_new hlt htD hD hfree hpl u32 f8 f3 (fun a _ => f4 a)
  exact ⟨_, pu_gs u3 F, hpV hlt D eD hD F _ (Jv_mk hE hP (fun f h1 h2 => by rw [uo f (by omega) (by omega) (by omega) (by omega) (by omega) (by omega) (by omega), h.2.2 f h2, fo f (by omega)])) (fun f w => fo f (Or.inr w)) (fun k w => by rw [f0, if_neg w]) f3 f4 f6 (fo 7 (Or.inl rfl))⟩
