/-! swaps -/
section SWPS
variable {n np t : Nat} {E μ : Mem}
theorem a_swap {P : Int32 → Mem → Prop} (h : Jv n np t E μ) (hl : LI n np t E) {i j : Nat} (hi : t ≤ i ∧ i < 30) (hj : t ≤ j ∧ j < 30) {a1 a2 : Int32} (e1 : a1 = nI i) (e2 : a2 = nI j) (hp : ∀ F v : Mem, Jv n np t F v → LI n np t F → (∀ f, f ≠ 4 → f ≠ 8 → F f = E f) → F 8 0 = pswap (E 8 0) i j → P (costF E np t (pswap (E 8 0) i j)) v) : w_L_swap n np P a1 a2 μ := by
  subst e1
  subst e2
  refine s_swap h (fun i2 j2 hi2 hj2 e1 e2 F v hF fo f8 f4 => ?_) (fun q => absurd ⟨⟨i, hi.1, hi.2, rfl⟩, ⟨j, hj.1, hj.2, rfl⟩⟩ q)
  rw [← (nI_eq (by omega) (by omega)).mp e1, ← (nI_eq (by omega) (by omega)).mp e2] at f8 f4 ⊢
  exact hp F v hF (LI_mv hl (by rw [fo 0 (by omega) (by omega)]) (by rw [fo 3 (by omega) (by omega)]) (fun a ha q => by rw [f4]; exact dswap_shot hi.2 hj.2 h.pl ha q) (by rw [fo 6 (by omega) (by omega)]) (by rw [fo 7 (by omega) (by omega)]) (by rw [fo 13 (by omega) (by omega)]) (fun k _ => by rw [fo 22 (by omega) (by omega)]) (by rw [fo 23 (by omega) (by omega)]) (by rw [fo 24 (by omega) (by omega)])) fo f8
theorem x_swap {P : Int32 → Mem → Prop} (h : Jv n np t E μ) {a1 a2 : Int32} (q : ¬ ((∃ i, t ≤ i ∧ i < 30 ∧ a1 = nI i) ∧ ∃ i, t ≤ i ∧ i < 30 ∧ a2 = nI i)) (hp : P (-1000002) μ) : w_L_swap n np P a1 a2 μ := s_swap h (fun i j hi hj e1 e2 => absurd ⟨⟨i, hi.1, hi.2, e1⟩, ⟨j, hj.1, hj.2, e2⟩⟩ q) (fun _ => hp)
theorem no_day (h : t ≤ 30) : ¬ ∃ i, t ≤ i ∧ i < 30 ∧ nI t - 1 = nI i := by
  rintro ⟨i, h1, h2, e⟩
  cases t with
  | zero =>
    have : nI 0 - 1 < 0 := by decide
    rw [e] at this
    exact pos (by omega) this
  | succ k =>
    rw [nI_pred] at e
    have := (nI_eq (by omega) (by omega)).mp e
    omega
theorem no_d30 {x : Int32} (hx : x = 30) : ¬ ∃ i, t ≤ i ∧ i < 30 ∧ x = nI i := by
  rintro ⟨i, h1, h2, e⟩
  exact no_lit (x := x) (N := 30) (K := 30) hx (Nat.le_refl _) (by omega) ⟨i, h2, e⟩
theorem L_swaps_225 {post : Int32 → Mem → Prop} (h : Jv n np t E μ) (hl : LI n np t E) (hp : post 1 μ) {a3 a4 : Int32} : b_L_swaps_225 n np post a3 a4 μ := by
  obtain ⟨g0, g1, g2, g3, -⟩ := id hl
  unfold b_L_swaps_225
  simp only [tc2]
  rw [h.r22, g2]
  refine x_swap h (fun q => no_day h.t30 q.1) ⟨fun c => absurd rfl c, fun _ => ?_⟩
  rw [h.r22, g2]
  exact x_swap h (fun q => no_d30 rfl q.2) ⟨fun c => absurd rfl c, fun _ => hp⟩
theorem pswap_l (P : Nat → Int32) (i j : Nat) : pswap P i j i = P j := by
  unfold pswap
  by_cases c : i = j
  · rw [if_pos c, c]
  · rw [if_neg c, if_pos rfl]
theorem pswap_r (P : Nat → Int32) (i j : Nat) : pswap P i j j = P i := by
  unfold pswap
  rw [if_pos rfl]
theorem L_swaps_111 {post : Int32 → Mem → Prop} (h : Jv n np t E μ) (hl : LI n np t E) (hp : ∀ E' v, Jv n np t E' v → LI n np t E' → post 1 v) {a3 a4 : Int32} {i j : Nat} (hi : t ≤ i ∧ i < 30) (hj : t ≤ j ∧ j < 30) {v4 s0 : Int32} (e4 : v4 = nI i) (e0 : s0 = nI j) : b_L_swaps_111 n np post a3 a4 v4 s0 μ := by
  unfold b_L_swaps_111
  refine s_cost h (fun u hu => a_sceneOn hu hi.2 e4 (a_sceneOn hu hj.2 e0 (a_swap hu hl hi hj e4 e0 (fun F v hF hlF fo f8 => s_cost hF (fun w hw => ?_)))))
  rw [costF_gh (E := E) (fun f _ h2 h3 => fo f h2 h3), f8]
  have fin : b_L_swaps_190 n np post a3 a4 v4 s0 (costF E np t (E 8 0)) w := by
    unfold b_L_swaps_190 b_L_swaps_195
    refine ⟨fun c => absurd c z10, fun _ => s_low (m := 2) rfl (by omega) (by omega) (fun k hk => ⟨fun _ => L_swaps_225 hw hlF (hp F w hw hlF), fun _ => a_swap hw hlF hj hi e0 e4 (fun F2 v2 hF2 hlF2 fo2 f82 => ?_)⟩)⟩
    have e9 : costF F np t (pswap (F 8 0) j i) = costF E np t (E 8 0) := by
      rw [f8, pswap_sym _ j i, pswap_pswap, costF_gh (E := E) (fun f _ h2 h3 => fo f h2 h3)]
    rw [e9]
    exact ⟨fun c => absurd rfl c, fun _ => L_swaps_225 hF2 hlF2 (hp F2 v2 hF2 hlF2)⟩
  refine ⟨fun c => absurd rfl c, fun _ => a_sceneOn hw hi.2 e4 ⟨fun c => absurd ?_ c, fun _ => a_sceneOn hw hj.2 e0 ⟨fun c => absurd ?_ c, fun _ => ⟨fun _ => fin, fun c => ⟨fun c2 => absurd ?_ c2, fun _ => fin⟩⟩⟩⟩⟩
  · rw [f8]
    exact pswap_l _ _ _
  · rw [f8]
    exact pswap_r _ _ _
  · rw [e4, e0] at c
    have := (nI_eq (by omega) (by omega)).mp c
    subst this
    rw [pswap_eq rfl]
theorem L_swaps {post : Int32 → Mem → Prop} (h : Jv n np t E μ) (hl : LI n np t E) (hp : ∀ E' v, Jv n np t E' v → LI n np t E' → post 1 v) {a3 a4 : Int32} : w_L_swaps n np post a3 a4 μ := by
  obtain ⟨g0, g1, g2, g3, -⟩ := id hl
  have ht := h.t30
  unfold w_L_swaps
  simp only [tc2]
  rw [h.r22, g2]
  refine ⟨fun c => ?_, fun c => ?_⟩
  · have ht30 : t < 30 := by
      rcases Nat.lt_or_ge t 30 with w | w
      · exact w
      · exact absurd (show nI t = 30 by rw [show t = 30 by omega]; rfl) c
    have e30 : (30 : Int32) - nI t = nI (30 - t) := by rw [show (30 : Int32) = nI 30 from rfl, nI_sub (by omega)]
    refine s_low e30 (by omega) (by omega) (fun k hk => s_low (m := 3) rfl (by omega) (by omega) (fun k2 hk2 => ?_))
    rw [h.r22, g2]
    refine ⟨fun _ => ⟨fun c8 => ?_, fun _ => ?_⟩, fun _ => s_low e30 (by omega) (by omega) (fun k3 hk3 => L_swaps_111 h hl hp (i := t + k) (j := t + k3) ⟨by omega, by omega⟩ ⟨by omega, by omega⟩ (nI_add _ _) (nI_add _ _))⟩
    · rw [e30] at c8
      have h8 : 8 ≤ 30 - t := (nI_leI (a := 8) (by omega) (by omega)).mp c8
      unfold b_L_swaps_107
      exact s_low (m := 8) rfl (by omega) (by omega) (fun k3 hk3 => L_swaps_111 h hl hp (i := t + k) (j := t + k3) ⟨by omega, by omega⟩ ⟨by omega, by omega⟩ (nI_add _ _) (nI_add _ _))
    · unfold b_L_swaps_107
      exact s_low e30 (by omega) (by omega) (fun k3 hk3 => L_swaps_111 h hl hp (i := t + k) (j := t + k3) ⟨by omega, by omega⟩ ⟨by omega, by omega⟩ (nI_add _ _) (nI_add _ _))
  · have e : t = 30 := (nI_eq (a := t) (b := 30) (by omega) (by omega)).mp c
    refine x_swap h (fun q => ?_) ⟨fun c => absurd rfl c, fun _ => s_shoot h (fun q => by omega) (fun q => by omega) (fun q => by omega) (fun q => by omega) (fun _ => ⟨fun c => absurd rfl c, fun _ => hp E μ h hl⟩)⟩
    obtain ⟨⟨i, i1, i2, -⟩, -⟩ := q
    omega
end SWPS
