theorem rng_or {x : Int32} {t : Nat} (ht : t ≤ 30) : (∃ i, t ≤ i ∧ i < 30 ∧ x = nI i) ∨ (¬ ∃ i, t ≤ i ∧ i < 30 ∧ x = nI i) := Classical.em _
theorem rng_in {x : Int32} {t : Nat} (ht : t ≤ 30) (h1 : ¬ x < nI t) (h2 : x < 30) : ∃ i, t ≤ i ∧ i < 30 ∧ x = nI i := by
  have h0 : ¬ x < 0 := by
    intro c
    rw [Int32.lt_iff_toInt_lt] at h1 c
    rw [nI_toInt (by omega)] at h1
    have : (0 : Int32).toInt = 0 := rfl
    omega
  obtain ⟨i, hi, e⟩ := nI_of h0
  subst e
  refine ⟨i, ?_, (lt_lit 30 rfl (by omega) rfl hi).mp h2, rfl⟩
  rcases Nat.lt_or_ge i t with q | q
  · exact absurd (nI_lt q (by omega)) h1
  · exact q
theorem rng_out {t i : Nat} (h : t ≤ i ∧ i < 30) : ¬ nI i < nI t ∧ nI i < 30 ∧ ¬ 30 ≤ nI i := ⟨nI_nlt h.1 (by omega), (lt_lit 30 rfl (by omega) rfl (by omega)).mpr h.2, fun c => absurd ((le30 (k := i) (by omega)).mp c) (by omega)⟩
theorem X4_swapDays2 {n np t i j : Nat} {post : Mem → Prop} {μ E : Mem} (hn : n ≤ 10) (hpl : planI n t μ E) (hi : i < 30) (hj : j < 30) (hp : ∀ u : Mem, (∀ f, f ≠ 32 → u f = μ f) → u 32 0 = pswap (μ 32 0) i j → post u) : w_X4_swapDays n np post (nI i) (nI j) μ := by
  refine X4_swapDays hn hi hj (planI_cls hpl) (hp _ (fun f h => zcp_o h) zcp_at)
/-- the reference's world moved under its own swap and cost -/
theorem csame_84 {w w2 : Mem} (h : ∀ f, f ≠ 8 → f ≠ 4 → w2 f = w f) : csame w w2 := by
  refine ⟨fun f hf => h f (by omega) (by omega), ?_, fun j hj => ?_, ?_⟩
  · rw [h 42 (by omega) (by omega)]
  · rw [h 43 (by omega) (by omega)]
  · rw [h 40 (by omega) (by omega)]
