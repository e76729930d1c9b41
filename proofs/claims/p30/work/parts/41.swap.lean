/-! TWO DAYS SWAP THEIR SCENES -/
def pswap (P : Nat → Int32) (i j : Nat) : Nat → Int32 := fun d => if d = j then P i else if d = i then P j else P d
theorem zcp_o {μ : Mem} {f i : Nat} {r : Nat → Int32} {f' : Nat} (h : f' ≠ f) : zcp μ f i r f' = μ f' := by
  funext i' k'
  unfold zcp
  rw [if_neg (fun q => h q.1)]
theorem zcp_at {μ : Mem} {f i : Nat} {r : Nat → Int32} : zcp μ f i r f i = r := by
  funext k
  unfold zcp
  rw [if_pos ⟨rfl, rfl⟩]
theorem zst_zst_swap (μ : Mem) (f i j : Nat) : zst (zst μ f 0 i (μ f 0 j)) f 0 j (μ f 0 i) = zcp μ f 0 (pswap (μ f 0) i j) := by
  funext f' i' k'
  rw [zst_ap, zst_ap]
  unfold zcp pswap
  by_cases h : f' = f ∧ i' = 0
  · obtain ⟨rfl, rfl⟩ := h
    by_cases h1 : k' = j
    · simp [h1]
    · by_cases h2 : k' = i <;> simp [h1, h2]
  · rw [if_neg (fun q => h ⟨q.1, q.2.1⟩), if_neg (fun q => h ⟨q.1, q.2.1⟩), if_neg h]
theorem X4_swapDays {n np i j : Nat} {post : Mem → Prop} {μ : Mem} (hn : n ≤ 10) (hi : i < 30) (hj : j < 30) (hP : plOK n (μ 32 0)) (hp : post (zcp μ 32 0 (pswap (μ 32 0) i j))) : w_X4_swapDays n np post (nI i) (nI j) μ := by
  unfold w_X4_swapDays w_X4_exchange
  have val : ∀ d, d < 30 → ¬ μ 32 0 d < 0 → (μ 32 0 d).toNatClampNeg < n := by
    intro d hd c
    rcases hP d hd with e | ⟨a, ha, e⟩
    · exact absurd (by rw [e]; exact neg1) c
    · rw [e, cl (by omega)]; exact ha
  rw [cl (by omega), cl (by omega)]
  refine ⟨fun c => absurd c (pos (by omega)), fun _ => ⟨fun c => absurd ((le30 (k := i) (by omega)).mp c) (by omega), fun _ => ⟨fun c => absurd c (pos (by omega)), fun _ => ⟨fun _ => ⟨vin hi (by omega), vin hj (by omega), val j hj, fun u e => ⟨val i hi, fun u2 e2 => ?_⟩⟩, fun c => absurd ((lt_lit 30 rfl (by omega) rfl (by omega)).mpr hj) c⟩⟩⟩⟩
  subst e
  subst e2
  rw [zst_zst_swap]
  exact hp
theorem plOK_swap {n i j : Nat} {P : Nat → Int32} (hP : plOK n P) (hi : i < 30) (hj : j < 30) : plOK n (pswap P i j) := by
  intro d hd
  unfold pswap
  by_cases h1 : d = j
  · rw [if_pos h1]; exact hP i hi
  · rw [if_neg h1]
    by_cases h2 : d = i
    · rw [if_pos h2]; exact hP j hj
    · rw [if_neg h2]; exact hP d hd
def dswap (P : Nat → Int32) (D : Nat → Int32) (i j : Nat) (a : Nat) : Int32 := if nI a = P i then nI j else if nI a = P j then nI i else D a
theorem planI_swap {n t i j : Nat} {μ E u F : Mem} (hn : n ≤ 10) (hi : t ≤ i ∧ i < 30) (hj : t ≤ j ∧ j < 30) (h : planI n t μ E) (h32 : u 32 0 = pswap (μ 32 0) i j) (h8 : F 8 0 = pswap (E 8 0) i j) (h3 : F 3 0 = E 3 0) (h4 : ∀ a, a < n → F 4 0 a = dswap (E 8 0) (E 4 0) i j a) : planI n t u F := by
  obtain ⟨p1, p2, p3, p4, p5⟩ := h
  -- on which day a scene is now
  have key : ∀ d a, d < 30 → a < n → pswap (E 8 0) i j d = nI a → E 3 0 a = 0 ∧ dswap (E 8 0) (E 4 0) i j a = nI d := by
    intro d a hd ha e
    unfold pswap at e
    unfold dswap
    by_cases h1 : d = j
    · rw [if_pos h1] at e
      rw [if_pos e.symm, h1]
      exact ⟨(p4 i a hi.2 ha e).1, rfl⟩
    · rw [if_neg h1] at e
      by_cases h2 : d = i
      · rw [if_pos h2] at e
        have q := p4 j a hj.2 ha e
        have hne : ¬ nI a = E 8 0 i := by
          intro q2
          have q3 := p4 i a hi.2 ha q2.symm
          rw [q.2] at q3
          have := (nI_eq (by omega) (by omega)).mp q3.2
          omega
        rw [if_neg hne, if_pos e.symm, h2]
        exact ⟨q.1, rfl⟩
      · rw [if_neg h2] at e
        have q := p4 d a hd ha e
        have hn1 : ¬ nI a = E 8 0 i := by
          intro q2
          have q3 := p4 i a hi.2 ha q2.symm
          rw [q.2] at q3
          exact h2 ((nI_eq (by omega) (by omega)).mp q3.2)
        have hn2 : ¬ nI a = E 8 0 j := by
          intro q2
          have q3 := p4 j a hj.2 ha q2.symm
          rw [q.2] at q3
          exact h1 ((nI_eq (by omega) (by omega)).mp q3.2)
        rw [if_neg hn1, if_neg hn2]
        exact q
  refine ⟨fun d hd => ?_, ?_, fun d hd => ?_, fun d a hd ha e => ?_, fun a ha e => ?_⟩
  · rw [h32, h8]
    unfold pswap
    rw [p1 i hi.2, p1 j hj.2, p1 d hd]
  · rw [h8]
    exact plOK_swap p2 hi.2 hj.2
  · rw [h8]
    unfold pswap
    rw [if_neg (by omega), if_neg (by omega)]
    exact p3 d hd
  · rw [h8] at e
    rw [h3, h4 a ha]
    exact key d a hd ha e
  · rw [h3] at e
    obtain ⟨d, hd1, hd2, e2⟩ := p5 a ha e
    by_cases h1 : d = i
    · refine ⟨j, hj.1, hj.2, ?_⟩
      rw [h8]
      unfold pswap
      rw [if_pos rfl, ← h1]
      exact e2
    · by_cases h2 : d = j
      · refine ⟨i, hi.1, hi.2, ?_⟩
        rw [h8]
        unfold pswap
        by_cases h3' : i = j
        · exact absurd (h2.trans h3'.symm) h1
        · rw [if_neg h3', if_pos rfl, ← h2]
          exact e2
      · refine ⟨d, hd1, hd2, ?_⟩
        rw [h8]
        unfold pswap
        rw [if_neg h2, if_neg h1]
        exact e2
/-- a swap of days changes nothing but the plan: on the class's side, and on the reference's -/
theorem env_plan {n np t : Nat} {μ E u F : Mem} (h : env n np t μ E) (hu : ∀ f, f ≠ 32 → u f = μ f) (h0 : ∀ k, k ≠ 25 → F 0 0 k = E 0 0 k) (hf : ∀ f, 1 ≤ f → f ≤ 16 → f ≠ 8 → f ≠ 4 → F f 0 = E f 0) (h4 : ∀ a, a < n → E 3 0 a = 1 → F 4 0 a = E 4 0 a) : env n np t u F := by
  obtain ⟨b, ⟨e0, e3, e12⟩, ⟨m7, m8, m9, m10⟩, hal, ⟨st1, st2, st3⟩, hg, hsk, hsc, htold, hz⟩ := h
  refine ⟨b, ⟨by rw [h0 0 (by omega)]; exact e0, by rw [h0 3 (by omega)]; exact e3, by rw [h0 12 (by omega)]; exact e12⟩, ?_, ?_, ⟨?_, ?_, ?_⟩, ?_, ?_, ?_, ?_, ?_⟩
  · rw [hu 30 (by omega), h0 1 (by omega)]
    exact ⟨m7, m8, m9, m10⟩
  · obtain ⟨h1, h2, h3, h4⟩ := hal
    refine ⟨fun a ha => ?_, fun k hk => ?_, fun k hk => ?_, fun k d hk hd => ?_⟩
    · unfold scRel
      rw [hu 70 (by omega), hu 71 (by omega), hu 72 (by omega), hu 73 (by omega), hf 1 (by omega) (by omega) (by omega) (by omega), hf 2 (by omega) (by omega) (by omega) (by omega), hf 5 (by omega) (by omega) (by omega) (by omega), hf 6 (by omega) (by omega) (by omega) (by omega), hf 7 (by omega) (by omega) (by omega) (by omega)]
      exact h1 a ha
    · rw [hu 33 (by omega)]; exact h2 k hk
    · unfold pmRel
      rw [hu 80 (by omega), hf 9 (by omega) (by omega) (by omega) (by omega), hf 10 (by omega) (by omega) (by omega) (by omega), hf 11 (by omega) (by omega) (by omega) (by omega), hf 12 (by omega) (by omega) (by omega) (by omega), hf 13 (by omega) (by omega) (by omega) (by omega)]
      exact h3 k hk
    · rw [hu 34 (by omega), hf 14 (by omega) (by omega) (by omega) (by omega)]; exact h4 k d hk hd
  · rw [hu 42 (by omega), hf 15 (by omega) (by omega) (by omega) (by omega)]; exact st1
  · rw [hu 43 (by omega), hf 16 (by omega) (by omega) (by omega) (by omega)]
    exact st2
  · rw [hu 40 (by omega), h0 2 (by omega)]; exact st3
  · rw [hf 15 (by omega) (by omega) (by omega) (by omega)]; exact hg
  · rw [hf 16 (by omega) (by omega) (by omega) (by omega)]; exact hsk
  · intro a ha
    obtain ⟨q1, q2, q3, q4, q5⟩ := hsc a ha
    rw [hu 70 (by omega), hf 3 (by omega) (by omega) (by omega) (by omega)]
    exact ⟨q1, q2, q3, fun c => (q4 c).trans (h4 a ha c).symm, useOK_of (hf 6 (by omega) (by omega) (by omega) (by omega)) (hf 7 (by omega) (by omega) (by omega) (by omega)) q5⟩
  · rw [hu 31 (by omega)]; exact htold
  · rw [hu 62 (by omega)]
    refine ⟨hz.1, ?_⟩
    unfold revOK
    rw [hf 13 (by omega) (by omega) (by omega) (by omega)]
    exact hz.2
theorem dswap_shot {n t i j : Nat} {μ E : Mem} (hi : i < 30) (hj : j < 30) (hp : planI n t μ E) {a : Nat} (ha : a < n) (h : E 3 0 a = 1) : dswap (E 8 0) (E 4 0) i j a = E 4 0 a := by
  have no : ∀ d, d < 30 → ¬ nI a = E 8 0 d := by
    intro d hd e
    have := (hp.2.2.2.1 d a hd ha e.symm).1
    rw [h] at this
    exact absurd this (by decide)
  unfold dswap
  rw [if_neg (no i hi), if_neg (no j hj)]

