/-! PLANS, AS BOTH SIDES TRY THEM -/
noncomputable def pit {α : Type} (p : Prop) (a b : α) : α := @ite α p (Classical.propDecidable p) a b
theorem pit_pos {α : Type} {p : Prop} (h : p) (a b : α) : pit p a b = a := by
  unfold pit
  exact if_pos h
theorem pit_neg {α : Type} {p : Prop} (h : ¬ p) (a b : α) : pit p a b = b := by
  unfold pit
  exact if_neg h
def sg (i j d : Nat) : Nat := if d = j then i else if d = i then j else d
theorem sg_sg (i j d : Nat) : sg i j (sg i j d) = d := by
  unfold sg
  by_cases h1 : d = j
  · rw [if_pos h1]
    by_cases h2 : i = j
    · rw [if_pos h2]; omega
    · rw [if_neg h2, if_pos rfl]; omega
  · rw [if_neg h1]
    by_cases h2 : d = i
    · rw [if_pos h2, if_pos rfl]; omega
    · rw [if_neg h2, if_neg h1, if_neg h2]
theorem sg_lt {i j d : Nat} (hi : i < 30) (hj : j < 30) (hd : d < 30) : sg i j d < 30 := by
  unfold sg
  by_cases h1 : d = j
  · rw [if_pos h1]; exact hi
  · rw [if_neg h1]
    by_cases h2 : d = i
    · rw [if_pos h2]; exact hj
    · rw [if_neg h2]; exact hd
theorem pswap_sg (P : Nat → Int32) (i j : Nat) : pswap P i j = fun d => P (sg i j d) := by
  funext d
  unfold pswap sg
  by_cases h1 : d = j
  · rw [if_pos h1, if_pos h1]
  · rw [if_neg h1, if_neg h1]
    by_cases h2 : d = i
    · rw [if_pos h2, if_pos h2]
    · rw [if_neg h2, if_neg h2]
theorem pswap_pswap (P : Nat → Int32) (i j : Nat) : pswap (pswap P i j) i j = P := by
  rw [pswap_sg (pswap P i j), pswap_sg P]
  funext d
  show P (sg i j (sg i j d)) = P d
  rw [sg_sg]
/-- no scene stands on two days -/
def plJ (n : Nat) (P : Nat → Int32) : Prop := plOK n P ∧ ∀ i j, i < 30 → j < 30 → P i = P j → i = j ∨ P i = -1
theorem plJ_of {n t : Nat} {μ E : Mem} (hn : n ≤ 10) (h : planI n t μ E) : plJ n (E 8 0) := by
  refine ⟨h.2.1, fun i j hi hj e => ?_⟩
  rcases h.2.1 i hi with q | ⟨a, ha, q⟩
  · exact Or.inr q
  · have e1 := (h.2.2.2.1 i a hi ha q).2
    have e2 := (h.2.2.2.1 j a hj ha (e.symm.trans q)).2
    rw [e1] at e2
    exact Or.inl ((nI_eq (by omega) (by omega)).mp e2)
theorem plJ_swap {n i j : Nat} {P : Nat → Int32} (h : plJ n P) (hi : i < 30) (hj : j < 30) : plJ n (pswap P i j) := by
  refine ⟨plOK_swap h.1 hi hj, fun x y hx hy e => ?_⟩
  rw [pswap_sg] at e ⊢
  rcases h.2 _ _ (sg_lt hi hj hx) (sg_lt hi hj hy) e with q | q
  · left
    have := congrArg (sg i j) q
    rw [sg_sg, sg_sg] at this
    exact this
  · exact Or.inr q
/-- the class's memory while it tries plans: E is the world before, P the plan that it tries now -/
def CP (n np t : Nat) (E u : Mem) (P : Nat → Int32) : Prop := (∀ f, f ≤ 29 → u f = E f) ∧ env n np t u E ∧ (∀ d, d < 30 → u 32 0 d = P d) ∧ plJ n P
theorem CP_0 {n np t : Nat} {μ : Mem} (he : env n np t μ μ) (hpl : planI n t μ μ) : CP n np t μ μ (μ 8 0) := ⟨fun _ _ => rfl, he, hpl.1, plJ_of he.1.1 hpl⟩
theorem CP.tri {n np t : Nat} {E u : Mem} {P : Nat → Int32} (h : CP n np t E u P) (g : Nat → Int32) (c : Nat → Nat → Int32) (x : Int32) : CP n np t E (tri 1 u g c x) P := by
  obtain ⟨h1, h2, h3, h4⟩ := h
  refine ⟨fun f hf => ?_, env_mv h2 (same_tri u g c x).c (rsame.rf E), fun d hd => ?_, h4⟩
  · rw [← h1 f hf]
    funext i
    exact tri_o i (by omega) (by omega) (by omega)
  · rw [tri_o 0 (by omega) (by omega) (by omega)]
    exact h3 d hd
theorem CP.swaps {n np t i j : Nat} {E u : Mem} {P : Nat → Int32} {post : Mem → Prop} (h : CP n np t E u P) (hi : i < 30) (hj : j < 30) (hp : ∀ u', CP n np t E u' (pswap P i j) → (∀ f, f ≠ 32 → u' f = u f) → post u') : w_X4_swapDays n np post (nI i) (nI j) u := by
  obtain ⟨h1, h2, h3, h4⟩ := h
  refine X4_swapDays h2.1.1 hi hj (fun d hd => by rw [h3 d hd]; exact h4.1 d hd) (hp _ ⟨fun f hf => ?_, ?_, fun d hd => ?_, plJ_swap h4 hi hj⟩ (fun f hf => zcp_o hf))
  · rw [zcp_o (by omega)]
    exact h1 f hf
  · exact env_plan h2 (fun f hf => zcp_o hf) (fun _ _ => rfl) (fun _ _ _ _ _ => rfl) (fun _ _ _ => rfl)
  · rw [zcp_at]
    unfold pswap
    rw [h3 i hi, h3 j hj, h3 d hd]
theorem CP.costs {n np t : Nat} {E u : Mem} {P : Nat → Int32} {post : Int32 → Mem → Prop} (h : CP n np t E u P) (hp : ∀ u', CP n np t E u' P → (∀ f, f ≠ 40 → f ≠ 42 → f ≠ 43 → u' f = u f) → post (costF E np t P) u') : w_X4_planCost n np post u := by
  refine cost_cls h.2.1 h.2.2.1 h.2.2.2.1 (fun g c x => hp _ (h.tri g c x) (fun f a b d => ?_))
  funext i
  exact tri_o i a b d
theorem CP.costAfter {n np t i j : Nat} {E u : Mem} {P : Nat → Int32} {post : Int32 → Mem → Prop} (h : CP n np t E u P) (hi : i < 30) (hj : j < 30) (hp : ∀ u', CP n np t E u' P → post (costF E np t (pswap P i j)) u') : w_X4_costAfterSwap n np post (nI i) (nI j) u := by
  unfold w_X4_costAfterSwap
  refine h.swaps hi hj (fun u1 h1 _ => h1.costs (fun u2 h2 _ => h2.swaps hi hj (fun u3 h3 _ => hp u3 ?_)))
  rw [pswap_pswap] at h3
  exact h3
theorem CP.isRefusedOn {n np t d : Nat} {E u : Mem} {P : Nat → Int32} {post : Int32 → Mem → Prop} (h : CP n np t E u P) (hd : d < 30) (h0 : fre E np (P d) d → post 0 u) (h1 : ¬ fre E np (P d) d → post 1 u) : w_X4_isRefusedOn n np post (nI d) u := by
  obtain ⟨⟨hn, hnp, ht⟩, -, -, hal, -⟩ := id h.2.1
  exact X4_isRefusedOn (E := E) (P := P) h.2.2.1 h.2.2.2.1 hn hd hnp hal h0 h1
def mnds (E : Mem) (np : Nat) (P : Nat → Int32) (d k : Nat) : Prop := fre E np (P d) k ∧ fre E np (P k) d
theorem CP.wouldMend {n np t d k : Nat} {E u : Mem} {P : Nat → Int32} {post : Int32 → Mem → Prop} (h : CP n np t E u P) (hd : d < 30) (hk : k < 30) (h1 : mnds E np P d k → post 1 u) (h0 : ¬ mnds E np P d k → post 0 u) : w_X4_wouldMend n np post (nI d) (nI k) u := by
  obtain ⟨⟨hn, hnp, ht⟩, -, -, hal, -⟩ := id h.2.1
  unfold w_X4_wouldMend
  rw [cl (by omega), cl (by omega), h.2.2.1 d hd]
  refine ⟨vin hd (by omega), X4_isFree (E := E) (h.2.2.2.1 d hd) hn hk hnp hal (fun q => ⟨fun c => absurd c z10, fun _ => ⟨vin hk (by omega), ?_⟩⟩) (fun q => ⟨fun _ => h0 (fun w => q w.1), fun c => absurd rfl c⟩)⟩
  rw [h.2.2.1 k hk]
  exact X4_isFree (E := E) (h.2.2.2.1 k hk) hn hd hnp hal (fun q2 => ⟨fun c => absurd c z10, fun _ => h1 ⟨q, q2⟩⟩) (fun q2 => ⟨fun _ => h0 (fun w => q2 w.2), fun c => absurd rfl c⟩)
/-- the reference's memory while it tries plans: C is what stood when it began -/
def RP (n np t : Nat) (C E u : Mem) (P : Nat → Int32) : Prop := (∀ f, f ≠ 4 → f ≠ 8 → f ≠ 17 → f ≠ 18 → u f = C f) ∧ u 8 0 = P ∧ env n np t (zcp C 32 0 P) u ∧ planI n t (zcp C 32 0 P) u ∧ rsame E C
theorem RP.al {n np t : Nat} {C E u : Mem} {P : Nat → Int32} (h : RP n np t C E u P) (a d : Nat) : al u np a d ↔ al E np a d := al_of (fun f hf => by rw [h.1 f (by omega) (by omega) (by omega) (by omega)]; exact h.2.2.2.2.2 f (by omega) (by omega))
theorem RP.wrk {n np t : Nat} {C E u : Mem} {P : Nat → Int32} (h : RP n np t C E u P) (g hh : Nat → Int32) : RP n np t C E (wrk u g hh) P := by
  obtain ⟨h1, h2, h3, h4, h5⟩ := h
  refine ⟨fun f a b c d => ?_, ?_, env_mv h3 (csame.rf _) (same_wrk u g hh).r, planI_mv h4 (csame.rf _) (same_wrk u g hh).r, h5⟩
  · rw [← h1 f a b c d]
    funext i
    exact wrk_o u g hh i c d
  · rw [wrk_o u g hh 0 (by omega) (by omega)]
    exact h2
theorem RP_0 {n np t : Nat} {μ u w : Mem} (he : env n np t u μ) (hpl : planI n t μ μ) (hc : csame u w) (hr : rsame μ w) : RP n np t w μ w (μ 8 0) := by
  refine ⟨fun _ _ _ _ _ => rfl, hr.2 8 (by omega) (by omega), env_plan (env_mv he hc hr) (fun f hf => zcp_o hf) (fun _ _ => rfl) (fun _ _ _ _ _ => rfl) (fun _ _ _ => rfl), ?_, hr⟩
  refine ⟨fun d _ => by rw [zcp_at, hr.2 8 (by omega) (by omega)], ?_⟩
  rw [hr.2 8 (by omega) (by omega), hr.2 3 (by omega) (by omega), hr.2 4 (by omega) (by omega)]
  exact hpl.2
theorem RP.fin {n np t : Nat} {C E v : Mem} {P : Nat → Int32} (h : RP n np t C E v P) (h32 : ∀ d, d < 30 → C 32 0 d = P d) : Inv n np v := by
  obtain ⟨h1, h2, h3, h4, h5⟩ := h
  have cv : csame C v := by
    refine ⟨fun f hf => h1 f (by omega) (by omega) (by omega) (by omega), ?_, fun j hj => ?_, ?_⟩
    · rw [h1 42 (by omega) (by omega) (by omega) (by omega)]
    · rw [h1 43 (by omega) (by omega) (by omega) (by omega)]
    · rw [h1 40 (by omega) (by omega) (by omega) (by omega)]
  refine ⟨t, env_mv (env_plan (u := C) h3 (fun f hf => (zcp_o hf).symm) (fun _ _ => rfl) (fun _ _ _ _ _ => rfl) (fun _ _ _ => rfl)) cv (rsame.rf v), planI_mv (μ := C) ⟨fun d hd => ?_, h4.2⟩ cv (rsame.rf v)⟩
  rw [h2]
  exact h32 d hd
/-- .. with another note of what was thrown -/
theorem Inv_r25 {n np : Nat} {v : Mem} (h : Inv n np v) (x : Int32) : Inv n np (zst v 0 0 25 x) := Inv_25 h x

