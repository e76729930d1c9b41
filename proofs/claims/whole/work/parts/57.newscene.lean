/-! A NEW SCENE -/
theorem lpd_free {P : Nat → Int32} : ∀ {j k : Nat}, lpd P j ≤ k → k < j → P k = -1 := by
  intro j
  induction j with
  | zero => intro k _ h; omega
  | succ j ih =>
    intro k h1 h2
    unfold lpd at h1
    by_cases c : P j = -1
    · rw [if_pos c] at h1
      rcases Nat.lt_or_ge k j with q | q
      · exact ih h1 q
      · rw [show k = j by omega]; exact c
    · rw [if_neg c] at h1; omega
theorem lpd_on {P : Nat → Int32} : ∀ {j : Nat}, ¬ lpd P j = 0 → ¬ P (lpd P j - 1) = -1 := by
  intro j
  induction j with
  | zero => intro h; exact absurd rfl h
  | succ j ih =>
    intro h
    by_cases c : P j = -1
    · have e : lpd P (j + 1) = lpd P j := by
        conv => lhs; unfold lpd
        rw [if_pos c]
      rw [e] at h ⊢
      exact ih h
    · have e : lpd P (j + 1) = j + 1 := by
        conv => lhs; unfold lpd
        rw [if_neg c]
      rw [e, show j + 1 - 1 = j by omega]
      exact c
theorem X5_newDay {t : Nat} {post : Int32 → Mem → Prop} {a1 a2 : Int32} {μ : Mem} (e0 : μ 0 0 0 = nI t) (hP : ∀ d, d < t → μ 8 0 d = -1) (h : b_X5_scene_21 post a1 a2 (nI (max t (lpd (μ 8 0) 30))) μ) : w_X5_scene post a1 a2 μ := by
  have hl := lpd_le (μ 8 0) 30
  unfold w_X5_scene
  refine X5_lastPlanned ⟨fun c => X5_lastPlanned ?_, fun c => ?_⟩
  · have h0 : ¬ lpd (μ 8 0) 30 = 0 := fun q => c (by unfold lpv; rw [if_pos q])
    have h1 : t < lpd (μ 8 0) 30 := by
      rcases Nat.lt_or_ge (lpd (μ 8 0) 30 - 1) t with q | q
      · exact absurd (hP _ q) (lpd_on h0)
      · omega
    have e : lpv (μ 8 0) 30 + 1 = nI (max t (lpd (μ 8 0) 30)) := by
      unfold lpv
      rw [if_neg h0, nI_s1]
      congr 1
      omega
    rw [e]
    exact h
  · have h0 : lpd (μ 8 0) 30 = 0 := by
      rcases Nat.eq_zero_or_pos (lpd (μ 8 0) 30) with q | q
      · exact q
      · unfold lpv at c
        rw [if_neg (by omega)] at c
        exact absurd c (nI_neg1 (by omega))
    rw [h0, show max t 0 = t by omega] at h
    rw [e0]
    exact h
def scArg (a1 a2 : Int32) : Prop := ¬ a1 < 0 ∧ ¬ 3 < a1 ∧ ¬ a2 < 0 ∧ ¬ 9 < a2
theorem X5_sceneGo {post : Int32 → Mem → Prop} {a1 a2 D : Int32} {μ : Mem} (h1 : scArg a1 a2 → b_X5_scene_47 post a1 a2 D 1 μ) (h0 : ¬ scArg a1 a2 → b_X5_scene_46 post a1 a2 D μ) : b_X5_scene_21 post a1 a2 D μ := by
  unfold b_X5_scene_21 w_X5_in
  refine ⟨fun c => ⟨fun _ => h0 (fun q => q.1 c), fun q => absurd rfl q⟩, fun c1 => ⟨fun c => ⟨fun _ => h0 (fun q => q.2.1 c), fun q => absurd rfl q⟩, fun c2 => ⟨fun q => absurd q z10, fun _ => ?_⟩⟩⟩
  exact ⟨fun c => ⟨fun _ => h0 (fun q => q.2.2.1 c), fun q => absurd rfl q⟩, fun c3 => ⟨fun c => ⟨fun _ => h0 (fun q => q.2.2.2 c), fun q => absurd rfl q⟩, fun c4 => ⟨fun q => absurd q z10, fun _ => h1 ⟨c1, c2, c3, c4⟩⟩⟩⟩
theorem X5_sceneLoop {n : Nat} {post : Int32 → Mem → Prop} {a1 a2 D : Int32} {μ : Mem} (hn : n < 10) (e3 : μ 0 0 3 = nI n) (hp : ∀ u : Mem, (∀ f, f ≠ 5 → f ≠ 6 → u f = μ f) → (∀ j, u 5 0 j = if 5 * n ≤ j ∧ j < 5 * n + 5 then -2 else μ 5 0 j) → (∀ j, u 6 0 j = if 5 * n ≤ j ∧ j < 5 * n + 5 then -1 else μ 6 0 j) → w_X5_plans (fun (μ20 : Mem) => (∀ μ22 : Mem, μ22 = zst μ20 0 0 3 ((μ20 0 0 3) + 1) → post ((μ22 0 0 3) - 1) μ22)) (nI n) D u) : ∃ fuel : Nat, l_X5_scene_109 post a1 a2 fuel D (0 : Int32) μ := by
  have loop : ∀ m j : Nat, j + m = 5 → ∀ u : Mem, (∀ f, f ≠ 5 → f ≠ 6 → u f = μ f) → (∀ i, u 5 0 i = if 5 * n ≤ i ∧ i < 5 * n + j then -2 else μ 5 0 i) → (∀ i, u 6 0 i = if 5 * n ≤ i ∧ i < 5 * n + j then -1 else μ 6 0 i) → l_X5_scene_109 post a1 a2 (m + 1) D (nI j) u := by
    intro m
    induction m with
    | zero =>
      intro j hj u ho h5 h6
      have e : j = 5 := by omega
      subst e
      show lb_X5_scene_109 post _ _ _ _ _ _
      unfold lb_X5_scene_109
      rw [ho 0 (by omega) (by omega), e3]
      exact ⟨fun _ => hp u ho h5 h6, fun c => absurd (by decide) c⟩
    | succ m ih =>
      intro j hj u ho h5 h6
      show lb_X5_scene_109 post (l_X5_scene_109 post a1 a2 (m + 1)) _ _ _ _ _
      unfold lb_X5_scene_109
      rw [ho 0 (by omega) (by omega), e3, ix5, nI_s1, cl (by omega)]
      refine ⟨fun c => absurd ((le5 (k := j) (by omega)).mp c) (by omega), fun _ => ⟨vin (by omega) (by omega), fun u1 eu1 => ?_⟩⟩
      have e31 : u1 0 0 3 = nI n := by rw [eu1, zst_o (by omega), ho 0 (by omega) (by omega), e3]
      rw [e31, ix5, cl (by omega)]
      refine ⟨vin (by omega) (by omega), fun u2 eu2 => ih (j + 1) (by omega) u2 (fun f a b => ?_) (fun i => ?_) (fun i => ?_)⟩
      · rw [eu2, zst_o b, eu1, zst_o a]
        exact ho f a b
      · rw [eu2, zst_o (by omega), eu1, zst_ap, h5]
        by_cases h : i = 5 * n + j
        · rw [if_pos ⟨rfl, rfl, h⟩, if_pos (by omega)]
        · rw [if_neg (fun q => h q.2.2)]
          by_cases h2 : 5 * n ≤ i ∧ i < 5 * n + j
          · rw [if_pos h2, if_pos (by omega)]
          · rw [if_neg h2, if_neg (by omega)]
      · rw [eu2, zst_ap, eu1, zst_o (f' := 6) (by omega), h6]
        by_cases h : i = 5 * n + j
        · rw [if_pos ⟨rfl, rfl, h⟩, if_pos (by omega)]
        · rw [if_neg (fun q => h q.2.2)]
          by_cases h2 : 5 * n ≤ i ∧ i < 5 * n + j
          · rw [if_pos h2, if_pos (by omega)]
          · rw [if_neg h2, if_neg (by omega)]
  exact ⟨6, loop 5 0 rfl μ (fun _ _ _ => rfl) (fun i => by rw [if_neg (by omega)]) (fun i => by rw [if_neg (by omega)])⟩
/-- scene n stands on day D now -/
theorem planI_new {n t D : Nat} {μ E u F : Mem} (hn : n < 10) (htD : t ≤ D) (hD : D < 30) (hfree : E 8 0 D = -1) (h : planI n t μ E) (h32 : ∀ k, u 32 0 k = if k = D then nI n else μ 32 0 k) (h8 : ∀ k, F 8 0 k = if k = D then nI n else E 8 0 k) (h3 : ∀ k, F 3 0 k = if k = n then 0 else E 3 0 k) (h4 : ∀ a, a < n + 1 → F 4 0 a = if a = n then nI D else E 4 0 a) : planI (n + 1) t u F := by
  obtain ⟨p1, p2, p3, p4, p5⟩ := h
  refine ⟨fun k hk => ?_, fun k hk => ?_, fun k hk => ?_, fun k b hk hb e => ?_, fun b hb e => ?_⟩
  · rw [h32, h8, p1 k hk]
  · rw [h8]
    by_cases c : k = D
    · rw [if_pos c]; exact Or.inr ⟨n, by omega, rfl⟩
    · rw [if_neg c]
      rcases p2 k hk with e | ⟨a, ha, e⟩
      · exact Or.inl e
      · exact Or.inr ⟨a, by omega, e⟩
  · rw [h8, if_neg (by omega)]
    exact p3 k hk
  · rw [h8] at e
    by_cases c : k = D
    · rw [if_pos c] at e
      have eb : n = b := (nI_eq (by omega) (by omega)).mp e
      subst eb
      rw [h3, h4 n hb, if_pos rfl, if_pos rfl, c]
      exact ⟨rfl, rfl⟩
    · rw [if_neg c] at e
      have hb2 : b < n := by
        rcases p2 k hk with e2 | ⟨a, ha, e2⟩
        · rw [e2] at e
          exact absurd e.symm (nI_neg1 (by omega))
        · rw [e2] at e
          have := (nI_eq (by omega) (by omega)).mp e
          omega
      rw [h3, h4 b hb, if_neg (by omega), if_neg (by omega)]
      exact p4 k b hk hb2 e
  · by_cases c : b = n
    · exact ⟨D, htD, hD, by rw [h8, if_pos rfl, c]⟩
    · rw [h3, if_neg c] at e
      obtain ⟨k, k1, k2, k3⟩ := p5 b (by omega) e
      refine ⟨k, k1, k2, ?_⟩
      rw [h8, if_neg (fun q => ?_)]
      · exact k3
      · rw [q, hfree] at k3
        exact nI_neg1 (by omega) k3.symm
theorem o_scene : ob_scene Inv := by
  intro n np μ a1 a2 hI
  obtain ⟨t, he, hpl⟩ := id hI
  obtain ⟨⟨hn, hnp, ht⟩, ⟨e0, e3, e12⟩, ⟨m7, m8, m9, m10⟩, hal, hst, hg, hsk, hsc, htold, hz⟩ := id he
  have hl := lpd_le (μ 8 0) 30
  obtain ⟨D, eD⟩ : ∃ z, z = max t (lpd (μ 8 0) 30) := ⟨_, rfl⟩
  have bad : ¬ scArg a1 a2 → w_X5_scene (fun (b : Int32) (u2 : Mem) => w_X5_thrown (oT Inv n np 1 b) u2) a1 a2 μ := by
    intro h
    refine X5_newDay e0 hpl.2.2.1 (X5_sceneGo (fun q => absurd q h) (fun _ => ?_))
    have g1 : ∀ s2 : Int32, b_X5_scene_67 (fun (b : Int32) (u2 : Mem) => w_X5_thrown (oT Inv n np 1 b) u2) a1 a2 (nI (max t (lpd (μ 8 0) 30))) 0 s2 μ := fun s2 => X5_goes1 rfl ⟨fun q => absurd rfl q, fun _ => oT_k k1 hI⟩
    exact ⟨fun _ => g1 0, fun _ => ⟨fun _ => g1 0, fun _ => g1 1⟩⟩
  have x4 : ∀ x : Int32, (4 ≤ x ↔ 3 < x) := fun x => le_lt (m := 3) rfl rfl (by omega)
  unfold w_L_scene w_X4_scene b_X4_scene_19 b_X4_scene_55
  rw [x4]
  refine ⟨fun c => Or.inl ⟨rfl, bad (fun q => q.1 c)⟩, fun c1 => ⟨fun c => Or.inl ⟨rfl, bad (fun q => q.2.1 c)⟩, fun c2 => ⟨fun c => Or.inl ⟨rfl, bad (fun q => q.2.2.1 c)⟩, fun c3 => ⟨fun c4 => ?_, fun c => Or.inl ⟨rfl, bad (fun q => q.2.2.2 (Int32.not_le.mp c))⟩⟩⟩⟩⟩
  have hV : scArg a1 a2 := ⟨c1, c2, c3, Int32.not_lt.mpr c4⟩
  refine X4_dayBehindPlan hn ht m9 hpl ?_
  rw [← eD, m7]
  have full : (10 ≤ n ∨ 30 ≤ D) → w_X5_scene (fun (b : Int32) (u2 : Mem) => w_X5_thrown (oT Inv n np 2 b) u2) a1 a2 μ := by
    intro h
    refine X5_newDay e0 hpl.2.2.1 (X5_sceneGo (fun _ => ?_) (fun q => absurd hV q))
    rw [← eD]
    unfold b_X5_scene_47 b_X5_scene_66 b_X5_scene_67
    rw [e3]
    refine ⟨fun _ => X5_goes2 rfl rfl ⟨fun q => absurd rfl q, fun _ => oT_k k2 hI⟩, fun c => ⟨fun _ => X5_goes2 rfl rfl ⟨fun q => absurd rfl q, fun _ => oT_k k2 hI⟩, fun c5 => ?_⟩⟩
    rcases h with h | h
    · exact absurd ((le10 (by omega)).mpr h) c
    · exact absurd ((le30 (by omega)).mpr h) c5
  refine ⟨fun c => Or.inr ⟨rfl, full (Or.inl ((le10 (by omega)).mp c))⟩, fun c5 => ⟨fun c6 => ?_, fun c => Or.inr ⟨rfl, full (Or.inr ?_)⟩⟩⟩
  · have hlt : n < 10 := by
      rcases Nat.lt_or_ge n 10 with q | q
      · exact q
      · exact absurd ((le10 (by omega)).mpr q) c5
    have hD : D < 30 := (lt_lit 30 rfl (by omega) rfl (by omega)).mp c6
    have htD : t ≤ D := by omega
    have hfree : μ 8 0 D = -1 := lpd_free (j := 30) (by omega) hD
    refine ⟨hlt, fun k hk c => ?_, fun k hk c => ?_, hz.1, fun u0 eu0 => ?_⟩
    · rw [htold k hk] at c ⊢
      by_cases h : k < n
      · rw [if_pos h, cl (by omega)]; exact h
      · rw [if_neg h] at c; exact absurd neg1 c
    · rw [hpl.1 k hk] at c ⊢
      rcases hpl.2.1 k hk with e | ⟨a, ha, e⟩
      · rw [e] at c; exact absurd neg1 c
      · rw [e, cl (by omega)]; exact ha
    · have z30 : ∀ f, f ≠ 70 → f ≠ 71 → f ≠ 72 → f ≠ 73 → u0 f = μ f := by
        intro f h1 h2 h3 h4
        rw [eu0]
        unfold zaddS
        rw [zcp_o h4, zcp_o h3, zcp_o h2, zcp_o h1]
      unfold b_X4_scene_78
      rw [z30 30 (by omega) (by omega) (by omega) (by omega), m7, cl (by omega)]
      refine ⟨vin hlt (by omega), fun _ => by omega, fun u1 eu1 u2 eu2 => ?_⟩
      rw [cl (by omega)]
      refine ⟨vin hD (by omega), fun u3 eu3 => ?_⟩
      have u70 : ∀ j i, u3 70 j i = if j = n then (if i = 0 then nI n else if i = 1 then a1 else if i = 2 then a2 else if i = 7 then -1 else 0) else μ 70 j i := by
        intro j i
        rw [eu3, zst_o (by omega), eu2, zst_o (by omega), eu1, zst_o (by omega), eu0]
        unfold zaddS
        rw [zcp_o (by omega), zcp_o (by omega), zcp_o (by omega)]
        unfold zcp
        by_cases h : j = n <;> simp [h]
      have u71 : ∀ j i, i < 5 → u3 71 j i = if j = n then -2 else μ 71 j i := by
        intro j i hi
        rw [eu3, zst_o (by omega), eu2, zst_o (by omega), eu1, zst_o (by omega), eu0]
        unfold zaddS
        rw [zcp_o (by omega), zcp_o (by omega)]
        unfold zcp
        by_cases h : j = n
        · simp [h, zfill, hi]
        · simp [h]
      have u72 : ∀ j i, i < 5 → u3 72 j i = if j = n then -1 else μ 72 j i := by
        intro j i hi
        rw [eu3, zst_o (by omega), eu2, zst_o (by omega), eu1, zst_o (by omega), eu0]
        unfold zaddS
        rw [zcp_o (by omega)]
        unfold zcp
        by_cases h : j = n
        · simp [h, zfill, hi]
        · simp [h]
      have u73 : ∀ j i, j ≠ n → u3 73 j i = μ 73 j i := by
        intro j i h
        rw [eu3, zst_o (by omega), eu2, zst_o (by omega), eu1, zst_o (by omega), eu0]
        unfold zaddS zcp
        simp [h]
      have uo : ∀ f, f ≠ 70 → f ≠ 71 → f ≠ 72 → f ≠ 73 → f ≠ 31 → f ≠ 30 → f ≠ 32 → u3 f = μ f := by
        intro f h1 h2 h3 h4 h5 h6 h7
        rw [eu3, zst_o h7, eu2, zst_o h6, eu1, zst_o h5]
        exact z30 f h1 h2 h3 h4
      have u31 : ∀ k, u3 31 0 k = if k = n then nI n else μ 31 0 k := by
        intro k
        rw [eu3, zst_o (by omega), eu2, zst_o (by omega), eu1, zst_ap, z30 31 (by omega) (by omega) (by omega) (by omega)]
        by_cases h : k = n <;> simp [h]
      have u30 : ∀ k, u3 30 0 k = if k = 7 then nI (n + 1) else μ 30 0 k := by
        intro k
        have e1 : u1 30 = μ 30 := by
          rw [eu1, zst_o (by omega)]
          exact z30 30 (by omega) (by omega) (by omega) (by omega)
        rw [eu3, zst_o (by omega), eu2, zst_ap, e1, m7, nI_s1]
        by_cases h : k = 7 <;> simp [h]
      have u32 : ∀ k, u3 32 0 k = if k = D then nI n else μ 32 0 k := by
        intro k
        rw [eu3, zst_ap, eu2, zst_o (f' := 32) (by omega), eu1, zst_o (f' := 32) (by omega), z30 32 (by omega) (by omega) (by omega) (by omega)]
        by_cases h : k = D <;> simp [h]
      refine ⟨pos (by omega), by omega, ?_⟩
      have e70 : u3 70 n 0 = nI n := by rw [u70, if_pos rfl, if_pos rfl]
      rw [e70]
      show w_X5_scene (fun (b : Int32) (u2 : Mem) => w_X5_thrown (oT Inv (n + 1) np 0 b) u2) a1 a2 (zst u3 21 0 0 (nI n))
      generalize hw : zst u3 21 0 0 (nI n) = w
      have r1 : rsame μ w := by
        rw [← hw]
        refine rsame.trans (u := u3) ⟨fun k _ => ?_, fun f a b => ?_⟩ (same_21 _ 0 _).r
        · rw [uo 0 (by omega) (by omega) (by omega) (by omega) (by omega) (by omega) (by omega)]
        · rw [uo f (by omega) (by omega) (by omega) (by omega) (by omega) (by omega) (by omega)]
      have c1' : csame u3 w := by
        rw [← hw]
        exact csame_st u3 (by omega) 0 0 _
      have w8 : w 8 0 = μ 8 0 := r1.2 8 (by omega) (by omega)
      refine X5_newDay (t := t) (by rw [r1.1 0 (by omega)]; exact e0) (by rw [w8]; exact hpl.2.2.1) ?_
      rw [w8, ← eD]
      refine X5_sceneGo (fun _ => ?_) (fun q => absurd hV q)
      unfold b_X5_scene_47
      rw [r1.1 3 (by omega), e3]
      refine ⟨fun q => absurd ((le10 (k := n) (by omega)).mp q) (by omega), fun _ => ⟨fun q => absurd ((le30 (k := D) (by omega)).mp q) (by omega), fun _ => X5_goes0 rfl rfl rfl ⟨fun _ => ?_, fun q => absurd q z10⟩⟩⟩
      have rw1 : rsame μ (zst w 0 0 25 0) := rsame.trans r1 (same_25 w 0).r
      have h3 : zst w 0 0 25 0 0 0 3 = nI n := (rw1.1 3 (by omega)).trans e3
      rw [h3, cl (by omega)]
      refine ⟨vin hlt (by omega), fun v1 ev1 => ?_⟩
      have h31 : v1 0 0 3 = nI n := by rw [ev1, zst_o (by omega)]; exact h3
      rw [h31, cl (by omega)]
      refine ⟨vin hlt (by omega), fun v2 ev2 => ?_⟩
      have h32 : v2 0 0 3 = nI n := by rw [ev2, zst_o (by omega)]; exact h31
      rw [h32, cl (by omega)]
      refine ⟨vin hlt (by omega), fun v3 ev3 => ?_⟩
      have h33 : v3 0 0 3 = nI n := by rw [ev3, zst_o (by omega)]; exact h32
      refine X5_sceneLoop hlt h33 (fun v4 h4o h45 h46 => ?_)
      refine X5_plans (n := n + 1) (by omega) hD (Or.inr ⟨n, by omega, rfl⟩) (fun v5 h5o h58 h54 => ?_)
      have h53 : v5 0 0 3 = nI n := by rw [h5o 0 (by omega) (by omega), h4o 0 (by omega) (by omega)]; exact h33
      intro v6 ev6
      rw [h53, nI_s1] at ev6
      have h63 : v6 0 0 3 = nI (n + 1) := by rw [ev6, zst_ap, if_pos ⟨rfl, rfl, rfl⟩]
      have f3o : ∀ f, 1 ≤ f → f ≤ 16 → f ≠ 1 → f ≠ 2 → f ≠ 3 → v3 f 0 = μ f 0 := by
        intro f a b q1 q2 q3
        rw [ev3, zst_o q3, ev2, zst_o q2, ev1, zst_o q1]
        exact rw1.2 f a b
      have f0 : ∀ k, k ≠ 25 → k ≠ 3 → v6 0 0 k = μ 0 0 k := by
        intro k hk h
        rw [ev6, zst_ap, if_neg (fun q => h q.2.2), h5o 0 (by omega) (by omega), h4o 0 (by omega) (by omega), ev3, zst_o (by omega), ev2, zst_o (by omega), ev1, zst_o (by omega)]
        exact rw1.1 k hk
      have f6o : ∀ f, 1 ≤ f → f ≠ 8 → f ≠ 4 → v6 f = v4 f := by
        intro f a h8 h4
        rw [ev6, zst_o (by omega), h5o f h8 h4]
      have fo : ∀ f, 1 ≤ f → f ≤ 16 → f ≠ 1 → f ≠ 2 → f ≠ 3 → f ≠ 4 → f ≠ 5 → f ≠ 6 → f ≠ 8 → v6 f 0 = μ f 0 := by
        intro f a b q1 q2 q3 q4 q5 q6 q8
        rw [f6o f a q8 q4, h4o f q5 q6]
        exact f3o f a b q1 q2 q3
      have f1 : ∀ k, v6 1 0 k = if k = n then a1 else μ 1 0 k := by
        intro k
        rw [f6o 1 (by omega) (by omega) (by omega), h4o 1 (by omega) (by omega), ev3, zst_o (by omega), ev2, zst_o (by omega), ev1, zst_ap, rw1.2 1 (by omega) (by omega)]
        by_cases h : k = n <;> simp [h]
      have f2 : ∀ k, v6 2 0 k = if k = n then a2 else μ 2 0 k := by
        intro k
        rw [f6o 2 (by omega) (by omega) (by omega), h4o 2 (by omega) (by omega), ev3, zst_o (by omega), ev2, zst_ap, ev1, zst_o (f' := 2) (by omega), rw1.2 2 (by omega) (by omega)]
        by_cases h : k = n <;> simp [h]
      have f3 : ∀ k, v6 3 0 k = if k = n then 0 else μ 3 0 k := by
        intro k
        rw [f6o 3 (by omega) (by omega) (by omega), h4o 3 (by omega) (by omega), ev3, zst_ap, ev2, zst_o (f' := 3) (by omega), ev1, zst_o (f' := 3) (by omega), rw1.2 3 (by omega) (by omega)]
        by_cases h : k = n <;> simp [h]
      have f5 : ∀ j, v6 5 0 j = if 5 * n ≤ j ∧ j < 5 * n + 5 then -2 else μ 5 0 j := by
        intro j
        rw [f6o 5 (by omega) (by omega) (by omega), h45, f3o 5 (by omega) (by omega) (by omega) (by omega) (by omega)]
      have f6 : ∀ j, v6 6 0 j = if 5 * n ≤ j ∧ j < 5 * n + 5 then -1 else μ 6 0 j := by
        intro j
        rw [f6o 6 (by omega) (by omega) (by omega), h46, f3o 6 (by omega) (by omega) (by omega) (by omega) (by omega)]
      have f8 : ∀ k, v6 8 0 k = if k = D then nI n else μ 8 0 k := by
        intro k
        rw [ev6, zst_o (by omega), h58, h4o 8 (by omega) (by omega), f3o 8 (by omega) (by omega) (by omega) (by omega) (by omega)]
        rfl
      have f4 : ∀ a, a < n + 1 → v6 4 0 a = if a = n then nI D else μ 4 0 a := by
        intro a ha
        rw [ev6, zst_o (by omega), h54 a ha, h4o 4 (by omega) (by omega), f3o 4 (by omega) (by omega) (by omega) (by omega) (by omega)]
        by_cases h : a = n
        · rw [if_pos h, if_pos (by rw [h])]
        · rw [if_neg h, if_neg (fun q => h ((nI_eq (by omega) (by omega)).mp q))]
      have cv : csame u3 v6 := by
        refine csame.trans c1' (csame.trans (same_25 w 0).c ?_)
        have q3 : csame (zst w 0 0 25 0) v3 := by
          rw [ev3, ev2, ev1]
          exact csame.trans (csame_st _ (by omega) 0 _ _) (csame.trans (csame_st _ (by omega) 0 _ _) (csame_st _ (by omega) 0 _ _))
        refine csame.trans q3 ?_
        have q4 : ∀ f, 30 ≤ f → v6 f = v3 f := fun f hf => by rw [f6o f (by omega) (by omega) (by omega), h4o f (by omega) (by omega)]
        exact ⟨fun f hf => q4 f (by omega), by rw [q4 42 (by omega)], fun j _ => by rw [q4 43 (by omega)], by rw [q4 40 (by omega)]⟩
      have hE : env (n + 1) np t v6 v6 := by
        have hfo : ∀ f, (f = 7 ∨ f = 9 ∨ f = 10 ∨ f = 11 ∨ f = 12 ∨ f = 13 ∨ f = 14 ∨ f = 15 ∨ f = 16) → v6 f 0 = μ f 0 := fun f h => fo f (by omega) (by omega) (by omega) (by omega) (by omega) (by omega) (by omega) (by omega) (by omega)
        have huo : ∀ f, (f = 33 ∨ f = 34 ∨ f = 40 ∨ f = 42 ∨ f = 43 ∨ f = 62 ∨ f = 80) → u3 f = μ f := fun f h => uo f (by omega) (by omega) (by omega) (by omega) (by omega) (by omega) (by omega)
        refine env_mv (μ := u3) ⟨⟨hlt, hnp, ht⟩, ⟨by rw [f0 0 (by omega) (by omega)]; exact e0, h63, by rw [f0 12 (by omega) (by omega)]; exact e12⟩, ⟨by rw [u30, if_pos rfl], by rw [u30, if_neg (by omega)]; exact m8, by rw [u30, if_neg (by omega)]; exact m9, by rw [u30, if_neg (by omega), f0 1 (by omega) (by omega)]; exact m10⟩, ⟨fun a ha => ?_, fun k hk => ?_, fun k hk => ?_, fun j d hj hd => ?_⟩, stRel_mv hst (by rw [huo 42 (by omega)]) (fun p _ => by rw [huo 43 (by omega)]) (by rw [huo 40 (by omega)]) ⟨hfo 15 (by omega), hfo 16 (by omega), f0 2 (by omega) (by omega)⟩, by rw [hfo 15 (by omega)]; exact hg, by rw [hfo 16 (by omega)]; exact hsk, fun a ha => ?_, fun k hk => ?_, ?_⟩ cv (rsame.rf v6)
        · unfold scRel
          rw [u70, u70, f1, f2, hfo 7 (by omega)]
          by_cases h : a = n
          · rw [if_pos h, if_pos h, if_pos h, if_pos h]
            refine ⟨by simp, by simp, fun k hk => ?_, fun k hk => ?_, fun k hk q => ?_⟩
            · rw [u71 a k hk, if_pos h, f5, if_pos (by omega)]
            · rw [u72 a k hk, if_pos h, f6, if_pos (by omega)]
            · rw [f6, if_pos (by omega)] at q
              exact absurd rfl q
          · obtain ⟨s1, s2, s3, s4, s5⟩ := hal.1 a (by omega)
            rw [if_neg h, if_neg h, if_neg h, if_neg h]
            refine ⟨s1, s2, fun k hk => ?_, fun k hk => ?_, fun k hk q => ?_⟩
            · rw [u71 a k hk, if_neg h, f5, if_neg (by omega)]; exact s3 k hk
            · rw [u72 a k hk, if_neg h, f6, if_neg (by omega)]; exact s4 k hk
            · rw [f6, if_neg (by omega)] at q
              rw [u73 a k h]; exact s5 k hk q
        · rw [huo 33 (by omega)]; exact hal.2.1 k hk
        · unfold pmRel
          rw [huo 80 (by omega), hfo 9 (by omega), hfo 10 (by omega), hfo 11 (by omega), hfo 12 (by omega), hfo 13 (by omega)]
          exact hal.2.2.1 k hk
        · rw [huo 34 (by omega), hfo 14 (by omega)]
          exact hal.2.2.2 j d hj hd
        · rw [u70, u70, u70, f3, f4 a ha]
          by_cases h : a = n
          · rw [if_pos h, if_pos h, if_pos h, if_pos h]
            refine ⟨by simp [h], by simp, Or.inl rfl, fun q => absurd q (by decide), fun p hp => Or.inl ?_⟩
            rw [f6, if_pos (by omega)]
          · obtain ⟨s1, s2, s3, s4, s5⟩ := hsc a (by omega)
            rw [if_neg h, if_neg h, if_neg h, if_neg h, if_neg h]
            refine ⟨s1, s2, s3, s4, fun p hp => ?_⟩
            rw [f6, if_neg (by omega), hfo 7 (by omega)]
            exact s5 p hp
        · rw [u31]
          by_cases h : k = n
          · rw [if_pos h, if_pos (by omega), h]
          · rw [if_neg h, htold k hk]
            by_cases h2 : k < n
            · rw [if_pos h2, if_pos (by omega)]
            · rw [if_neg h2, if_neg (by omega)]
        · refine ⟨fun k hk c => ?_, fun k a b => by rw [hfo 13 (by omega)]; exact hz.2 k a b⟩
          rw [huo 62 (by omega)] at c ⊢
          exact Nat.lt_succ_of_lt (hz.1 k hk c)
      have hP : planI (n + 1) t v6 v6 := planI_mv (planI_new hlt htD hD hfree hpl u32 f8 f3 f4) cv (rsame.rf v6)
      rw [h63, nI_pred]
      refine ⟨?_, fun _ => ?_, t, hE, hP⟩
      · rw [ev6, zst_ap, if_neg (by omega), h5o 0 (by omega) (by omega), h4o 0 (by omega) (by omega), ev3, zst_o (by omega), ev2, zst_o (by omega), ev1, zst_o (by omega), at_25]
      · rw [f6o 21 (by omega) (by omega) (by omega), h4o 21 (by omega) (by omega), ev3, zst_o (by omega), ev2, zst_o (by omega), ev1, zst_o (by omega), zst_o (by omega), ← hw, at_21]
  · rcases Nat.lt_or_ge D 30 with q | q
    · exact absurd ((lt_lit 30 rfl (by omega) rfl (by omega)).mpr q) c
    · exact q
