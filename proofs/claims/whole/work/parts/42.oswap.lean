theorem rng_or {x : Int32} {t : Nat} (ht : t ≤ 30) : (∃ i, t ≤ i ∧ i < 30 ∧ x = nI i) ∨ (¬ ∃ i, t ≤ i ∧ i < 30 ∧ x = nI i) := Classical.em _
theorem rng_in {x : Int32} {t : Nat} (ht : t ≤ 30) (h1 : ¬ x < nI t) (h2 : x < 30) : ∃ i, t ≤ i ∧ i < 30 ∧ x = nI i := by
  have h0 : ¬ x < 0 := by
    intro c
    rw [Int32.lt_iff_toInt_lt] at h1 c
    rw [nI_toInt (by omega)] at h1
    have : (0 : Int32).toInt = 0 := rfl
    omega
  obtain ⟨i, hi, e⟩ := nI_of h0
  subst e
  refine ⟨i, ?_, (lt_lit 30 rfl (by omega) rfl hi).mp h2, rfl⟩
  rcases Nat.lt_or_ge i t with q | q
  · exact absurd (nI_lt q (by omega)) h1
  · exact q
theorem rng_out {t i : Nat} (h : t ≤ i ∧ i < 30) : ¬ nI i < nI t ∧ nI i < 30 ∧ ¬ 30 ≤ nI i := ⟨nI_nlt h.1 (by omega), (lt_lit 30 rfl (by omega) rfl (by omega)).mpr h.2, fun c => absurd ((le30 (k := i) (by omega)).mp c) (by omega)⟩
/-- the reference's swap, with what it keeps -/
theorem ref_swaps {n np t i j : Nat} {post : Mem → Prop} {μ : Mem} {C : Mem} (hn : n ≤ 10) (he : env n np t C μ) (hpl : planI n t C μ) (hi : t ≤ i ∧ i < 30) (hj : t ≤ j ∧ j < 30) (hp : ∀ u : Mem, (∀ f, f ≠ 8 → f ≠ 4 → u f = μ f) → u 8 0 = pswap (μ 8 0) i j → (∀ D : Mem, (∀ f, f ≠ 32 → D f = C f) → D 32 0 = pswap (C 32 0) i j → env n np t D u ∧ planI n t D u) → post u) : w_X5_swaps post (nI i) (nI j) μ := by
  refine X5_swaps hn hi.2 hj.2 hpl.2.1 (fun u u1 u2 u3 => hp u u1 u2 (fun D d1 d2 => ⟨?_, ?_⟩))
  · refine env_plan he d1 (fun k _ => ?_) (fun f a b c d => ?_) (fun a ha c => ?_)
    · rw [u1 0 (by omega) (by omega)]
    · rw [u1 f c d]
    · rw [u3 a ha, dswap_shot hi.2 hj.2 hpl ha c]
  · exact planI_swap hn hi hj hpl d2 u2 (by rw [u1 3 (by omega) (by omega)]) u3
theorem X4_swapDays2 {n np t i j : Nat} {post : Mem → Prop} {μ E : Mem} (hn : n ≤ 10) (hpl : planI n t μ E) (hi : i < 30) (hj : j < 30) (hp : ∀ u : Mem, (∀ f, f ≠ 32 → u f = μ f) → u 32 0 = pswap (μ 32 0) i j → post u) : w_X4_swapDays n np post (nI i) (nI j) μ := by
  refine X4_swapDays hn hi hj (planI_cls hpl) (hp _ (fun f h => zcp_o h) zcp_at)
/-- the reference's world moved under its own swap and cost -/
theorem csame_84 {w w2 : Mem} (h : ∀ f, f ≠ 8 → f ≠ 4 → w2 f = w f) : csame w w2 := by
  refine ⟨fun f hf => h f (by omega) (by omega), ?_, fun j hj => ?_, ?_⟩
  · rw [h 42 (by omega) (by omega)]
  · rw [h 43 (by omega) (by omega)]
  · rw [h 40 (by omega) (by omega)]
theorem o_swap : ob_swap Inv := by
  intro n np μ a1 a2 hI
  obtain ⟨t, he, hpl⟩ := id hI
  obtain ⟨⟨hn, hnp, ht⟩, ⟨e0, e3, e12⟩, ⟨m7, m8, m9, m10⟩, -⟩ := id he
  have bad : (¬ ((∃ i, t ≤ i ∧ i < 30 ∧ a1 = nI i) ∧ ∃ i, t ≤ i ∧ i < 30 ∧ a2 = nI i)) → w_X5_swap (fun (b : Int32) (u2 : Mem) => w_X5_thrown (oT Inv n np 1 b) u2) a1 a2 μ := by
    intro hb
    unfold w_X5_swap b_X5_swap_21 b_X5_swap_22
    have g1 : w_X5_goes (fun (r5 : Int32) (μ4 : Mem) => ((¬ r5 = 0 → (w_X5_swaps (fun (μ7 : Mem) => (w_X5_costs (fun (r10 : Int32) (μ9 : Mem) => w_X5_thrown (oT Inv n np 1 r10) μ9) μ7)) a1 a2 μ4)) ∧ (r5 = 0 → w_X5_thrown (oT Inv n np 1 0) μ4))) 0 (1 : Int32) (1 : Int32) μ := X5_goes1 rfl ⟨fun q => absurd rfl q, fun _ => oT_k k1 hI⟩
    exact X5_isAhead ht e0 (fun k k1 k2 ek => ⟨fun q => absurd q z10, fun _ => X5_isAhead ht e0 (fun j j1 j2 ej => absurd ⟨⟨k, k1, k2, ek⟩, ⟨j, j1, j2, ej⟩⟩ hb) (fun _ => ⟨fun _ => g1, fun q => absurd rfl q⟩)⟩) (fun _ => ⟨fun _ => g1, fun q => absurd rfl q⟩)
  unfold w_L_swap w_X4_swap b_X4_swap_28
  rw [m9]
  refine ⟨fun c => ⟨rfl, bad (fun q => ?_)⟩, fun c1 => ⟨fun c => ⟨rfl, bad (fun q => ?_)⟩, fun c2 => ⟨fun c => ⟨rfl, bad (fun q => ?_)⟩, fun c3 => ⟨fun c4 => ?_, fun c => ⟨rfl, bad (fun q => ?_)⟩⟩⟩⟩⟩
  · obtain ⟨⟨i, i1, i2, e⟩, -⟩ := q
    rw [e] at c
    exact (rng_out ⟨i1, i2⟩).1 c
  · obtain ⟨⟨i, i1, i2, e⟩, -⟩ := q
    rw [e] at c
    exact (rng_out ⟨i1, i2⟩).2.2 c
  · obtain ⟨-, ⟨i, i1, i2, e⟩⟩ := q
    rw [e] at c
    exact (rng_out ⟨i1, i2⟩).1 c
  · obtain ⟨i, i1, i2, ei⟩ := rng_in ht c1 (Int32.not_le.mp c2)
    obtain ⟨j, j1, j2, ej⟩ := rng_in ht c3 c4
    subst ei
    subst ej
    refine X4_swapDays2 hn hpl i2 j2 (fun u u1 u2 => ?_)
    have heu : env n np t u μ := env_plan he u1 (fun _ _ => rfl) (fun _ _ _ _ _ => rfl) (fun _ _ _ => rfl)
    refine cost_cls (P := pswap (μ 8 0) i j) heu (fun d hd => ?_) (plOK_swap hpl.2.1 i2 j2) (fun g c x => ?_)
    · rw [u2]
      unfold pswap
      rw [hpl.1 i i2, hpl.1 j j2, hpl.1 d hd]
    · generalize hv : costF μ np t (pswap (μ 8 0) i j) = v
      have r0 : rsame μ (zst (tri 1 u g c x) 21 0 0 v) := by
        refine rsame.trans (u := u) ⟨fun k _ => ?_, fun f a b => ?_⟩ (rsame.trans (same_tri u g c x).r (same_21 _ 0 v).r)
        · rw [u1 0 (by omega)]
        · rw [u1 f (by omega)]
      generalize hw : zst (zst (tri 1 u g c x) 21 0 0 v) 0 0 25 0 = w
      have r1 : rsame μ w := by
        rw [← hw]
        exact rsame.trans r0 (same_25 _ 0).r
      have c1' : csame u w := by
        rw [← hw]
        exact csame.trans (same_tri u g c x).c (csame.trans (same_21 _ 0 v).c (same_25 _ 0).c)
      have w21 : w 21 0 0 = v := by
        rw [← hw, zst_o (by omega), at_21]
      have w25 : w 0 0 25 = 0 := by
        rw [← hw, at_25]
      have h00 : zst (tri 1 u g c x) 21 0 0 v 0 0 0 = nI t := (r0.1 0 (by omega)).trans e0
      unfold w_X5_swap b_X5_swap_21 b_X5_swap_22
      refine X5_isAhead ht h00 (fun _ _ _ _ => ⟨fun q => absurd q z10, fun _ => X5_isAhead ht h00 (fun _ _ _ _ => ⟨fun q => absurd q z10, fun _ => X5_goes0 rfl rfl rfl ⟨fun _ => ?_, fun q => absurd q z10⟩⟩) (fun q => absurd ⟨j, j1, j2, rfl⟩ q)⟩) (fun q => absurd ⟨i, i1, i2, rfl⟩ q)
      rw [hw]
      refine ref_swaps (C := μ) hn (env_mv he (csame.rf μ) r1) (planI_mv hpl (csame.rf μ) r1) ⟨i1, i2⟩ ⟨j1, j2⟩ (fun w2 d1 d2 d3 => ?_)
      obtain ⟨f1, f2⟩ := d3 u u1 u2
      have c2' : csame u w2 := csame.trans c1' (csame_84 d1)
      have hE : env n np t w2 w2 := env_mv f1 c2' (rsame.rf w2)
      have hPl : planI n t w2 w2 := planI_mv f2 c2' (rsame.rf w2)
      refine cost_ref hE hPl.2.1 (fun g2 h2 => ⟨?_, fun _ => ?_, Inv_same ⟨t, hE, hPl⟩ (same_wrk w2 g2 h2)⟩)
      · rw [wrk_o w2 g2 h2 0 (by omega) (by omega), d1 0 (by omega) (by omega), w25]
      · rw [wrk_o w2 g2 h2 0 (by omega) (by omega), d1 21 (by omega) (by omega), w21, ← hv, d2, r1.2 8 (by omega) (by omega)]
        refine (costF_of ?_ (fun f a b q8 q4 q3 => ?_)).symm
        · rw [d1 0 (by omega) (by omega)]
          exact r1.1 2 (by omega)
        · rw [d1 f q8 q4]
          exact r1.2 f a b
  · obtain ⟨-, ⟨i, i1, i2, e⟩⟩ := q
    rw [e] at c
    exact c (rng_out ⟨i1, i2⟩).2.1
