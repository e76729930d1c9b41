/-! p30: THE WORLD AS THE LAW SEES IT. E tells the ghost families (0 to 16) and the law's own rows (22, 23, 24). -/
def Jv (n np t : Nat) (E μ : Mem) : Prop := env n np t μ μ ∧ planI n t μ μ ∧ ∀ f, f ≤ 29 → μ f = E f
theorem Jv.rs {n np t : Nat} {E μ : Mem} (h : Jv n np t E μ) : rsame μ E := ⟨fun k _ => by rw [h.2.2 0 (by omega)], fun f _ b => by rw [h.2.2 f (by omega)]⟩
theorem Jv.env {n np t : Nat} {E μ : Mem} (h : Jv n np t E μ) : env n np t μ E := env_mv h.1 (csame.rf μ) h.rs
theorem Jv.pl {n np t : Nat} {E μ : Mem} (h : Jv n np t E μ) : planI n t μ E := planI_mv h.2.1 (csame.rf μ) h.rs
theorem Jv.n10 {n np t : Nat} {E μ : Mem} (h : Jv n np t E μ) : n ≤ 10 := h.1.1.1
theorem Jv.t30 {n np t : Nat} {E μ : Mem} (h : Jv n np t E μ) : t ≤ 30 := h.1.1.2.2
theorem Jv.np20 {n np t : Nat} {E μ : Mem} (h : Jv n np t E μ) : np ≤ 20 := h.1.1.2.1
theorem Jv.use {n np t : Nat} {E μ : Mem} (h : Jv n np t E μ) : ∀ a, a < n → useOK E a := fun a ha => (h.env.2.2.2.2.2.2.2.1 a ha).2.2.2.2
theorem Jv.sc {n np t : Nat} {E μ : Mem} (h : Jv n np t E μ) : scOK n μ E := h.env.2.2.2.2.2.2.2.1
theorem Jv.told {n np t : Nat} {E μ : Mem} (h : Jv n np t E μ) : ∀ k, k < 10 → μ 31 0 k = if k < n then nI k else -1 := h.env.2.2.2.2.2.2.2.2.1
theorem Jv.al {n np t : Nat} {E μ : Mem} (h : Jv n np t E μ) : alRel n np μ E := h.env.2.2.2.1
theorem Jv.st {n np t : Nat} {E μ : Mem} (h : Jv n np t E μ) : stRel μ E := h.env.2.2.2.2.1
theorem Jv.g {n np t : Nat} {E μ : Mem} (h : Jv n np t E μ) : gOK (E 15 0) := h.env.2.2.2.2.2.1
theorem Jv.sk {n np t : Nat} {E μ : Mem} (h : Jv n np t E μ) : sok (fun p s => E 16 0 (4 * p + s)) (20 + t) := h.env.2.2.2.2.2.2.1
/-- a memory with another ghost: what the class's side then shows -/
def pu (u E : Mem) : Mem := fun f => if f ≤ 16 then E f else u f
theorem pu_gs (u E : Mem) : gs u (pu u E) := fun f hf => by
  unfold pu
  rw [if_neg (by omega)]
theorem pu_lo {u E : Mem} {f : Nat} (h : f ≤ 16) : pu u E f = E f := by
  unfold pu
  rw [if_pos h]
theorem pu_hi {u E : Mem} {f : Nat} (h : 17 ≤ f) : pu u E f = u f := by
  unfold pu
  rw [if_neg (by omega)]
theorem Jv_mk {n np t : Nat} {E u : Mem} (he : env n np t u E) (hp : planI n t u E) (hl : ∀ f, 17 ≤ f → f ≤ 29 → u f = E f) : Jv n np t E (pu u E) := by
  have hc : csame u (pu u E) := ⟨fun f hf => pu_hi (by omega), by rw [pu_hi (by omega)], fun j _ => by rw [pu_hi (by omega)], by rw [pu_hi (by omega)]⟩
  have hr : rsame E (pu u E) := ⟨fun k _ => by rw [pu_lo (by omega)], fun f _ b => by rw [pu_lo b]⟩
  refine ⟨env_mv he hc hr, planI_mv hp hc hr, fun f hf => ?_⟩
  by_cases c : f ≤ 16
  · exact pu_lo c
  · rw [pu_hi (by omega)]
    exact hl f (by omega) hf
/-- the law writes a row of its own -/
theorem Jv.row {n np t : Nat} {E μ : Mem} (h : Jv n np t E μ) {f k : Nat} (hf : 17 ≤ f ∧ f ≤ 29) (v : Int32) : Jv n np t (zst E f 0 k v) (zst μ f 0 k v) := by
  have hc : csame μ (zst μ f 0 k v) := csame_st μ hf.2 0 k v
  have hr : rsame μ (zst μ f 0 k v) := rsame_st μ hf.1 0 k v
  refine ⟨env_mv h.1 hc hr, planI_mv h.2.1 hc hr, fun g hg => ?_⟩
  funext i k'
  rw [zst_ap, zst_ap, h.2.2 g hg]
theorem Jv.same {n np t : Nat} {E μ u : Mem} (h : Jv n np t E μ) (hc : csame μ u) (hl : ∀ f, f ≤ 29 → u f = μ f) : Jv n np t E u := by
  have hr : rsame μ u := ⟨fun k _ => by rw [hl 0 (by omega)], fun f _ b => by rw [hl f (by omega)]⟩
  exact ⟨env_mv h.1 hc hr, planI_mv h.2.1 hc hr, fun f hf => (hl f hf).trans (h.2.2 f hf)⟩
/-- a search of the class has come back: the plan as it was -/
theorem Jv_CP {n np t : Nat} {E μ u : Mem} (h : Jv n np t E μ) (hu : CP n np t μ u (μ 8 0)) : Jv n np t E u := by
  obtain ⟨c1, c2, c3, c4⟩ := hu
  have hr : rsame μ u := ⟨fun k _ => by rw [c1 0 (by omega)], fun f _ b => by rw [c1 f (by omega)]⟩
  exact ⟨env_mv c2 (csame.rf u) hr, planI_pt h.2.1 c3 (fun d _ => by rw [c1 8 (by omega)]) h.t30 (by rw [c1 3 (by omega)]) (by rw [c1 4 (by omega)]), fun f hf => (c1 f hf).trans (h.2.2 f hf)⟩
theorem Jv_cost {n np t : Nat} {E μ : Mem} (h : Jv n np t E μ) (P : Nat → Int32) : costF μ np t P = costF E np t P := costF_of (by rw [h.2.2 0 (by omega)]) (fun f a b _ _ _ => by rw [h.2.2 f (by omega)])
theorem Jv_al {n np t : Nat} {E μ : Mem} (h : Jv n np t E μ) (a d : Nat) : al μ np a d ↔ al E np a d := al_of (fun f hf => by rw [h.2.2 f (by omega)])
/-! THE READING CALLS -/
section READS
variable {n np t : Nat} {E μ : Mem} {P : Int32 → Mem → Prop}
theorem s_today (h : Jv n np t E μ) (hp : P (nI t) μ) : w_X4_today n np (fun r u => ∃ v, gs u v ∧ P r v) μ := by
  refine ⟨μ, gs.rf μ, ?_⟩
  rw [h.env.2.2.1.2.2.1]
  exact hp
theorem s_spent (h : Jv n np t E μ) (hp : P (E 0 0 1) μ) : w_X4_spent n np (fun r u => ∃ v, gs u v ∧ P r v) μ := by
  refine ⟨μ, gs.rf μ, ?_⟩
  rw [h.env.2.2.1.2.2.2]
  exact hp
theorem s_scenes (h : Jv n np t E μ) (hp : P (nI n) μ) : w_X4_scenes n np (fun r u => ∃ v, gs u v ∧ P r v) μ := by
  refine ⟨μ, gs.rf μ, ?_⟩
  rw [h.env.2.2.1.1]
  exact hp
theorem s_cost (h : Jv n np t E μ) (hp : ∀ u, Jv n np t E u → P (costF E np t (E 8 0)) u) : w_X4_cost n np (fun r u => ∃ v, gs u v ∧ P r v) μ := by
  unfold w_X4_cost
  refine cost_cls h.env (fun d hd => h.pl.1 d hd) h.pl.2.1 (fun g c x => ⟨_, gs.rf _, hp _ (h.same (same_tri μ g c x).c (fun f hf => ?_))⟩)
  funext i
  exact tri_o i (by omega) (by omega) (by omega)
theorem s_refused (h : Jv n np t E μ) (hp : P (nI (sumN (rD E np (E 8 0)) 30)) μ) : w_X4_refused n np (fun r u => ∃ v, gs u v ∧ P r v) μ := by
  unfold w_X4_refused
  refine X4_countRefused h.env h.pl ⟨_, gs.rf _, ?_⟩
  rw [← cnt_eq h.n10 h.pl]
  exact hp
theorem s_stateOf (h : Jv n np t E μ) {a1 : Int32} (hp : ∀ a, a < n → a1 = nI a → P (E 3 0 a) μ) (hx : (¬ ∃ a, a < n ∧ a1 = nI a) → P (-1000001) μ) : w_L_stateOf n np P a1 μ := by
  unfold w_L_stateOf w_X4_stateOf
  have hn := h.n10
  refine X4_sceneNumbered hn h.told (fun a ha e => ?_) (fun q => ⟨rfl, hx q⟩)
  rw [cl (by omega)]
  refine ⟨pos (by omega), ha, μ, gs.rf μ, ?_⟩
  rw [(h.sc a ha).2.1]
  exact hp a ha e
theorem s_sceneOn (h : Jv n np t E μ) {a1 : Int32} (hp : ∀ d, d < 30 → a1 = nI d → P (E 8 0 d) μ) (hx : (¬ ∃ d, d < 30 ∧ a1 = nI d) → P (-1000002) μ) : w_L_sceneOn n np P a1 μ := by
  unfold w_L_sceneOn w_X4_sceneOn
  have hn := h.n10
  refine X4_requireDay (fun q => ?_) (fun q => ⟨rfl, hx q⟩)
  obtain ⟨d, hd, e⟩ := q
  subst e
  rw [cl (by omega), h.pl.1 d hd]
  have hpd := hp d hd rfl
  refine ⟨vin hd (by omega), fun c => ?_, fun c => ⟨μ, gs.rf μ, ?_⟩⟩
  · rcases h.pl.2.1 d hd with e | ⟨a, ha, e⟩
    · rw [e] at c
      exact absurd neg1 c
    · rw [e, cl (by omega)]
      rw [e] at hpd
      refine ⟨ha, μ, gs.rf μ, ?_⟩
      rw [(h.sc a ha).1]
      exact hpd
  · rcases h.pl.2.1 d hd with e | ⟨a, ha, e⟩
    · rw [e] at hpd
      exact hpd
    · rw [e] at c
      exact absurd c (pos (by omega))
theorem s_growth (h : Jv n np t E μ) {a1 : Int32} (hp : ∀ k, k < 5 → a1 = nI k → P (E 15 0 k) μ) (hx : (¬ ∃ k, k < 5 ∧ a1 = nI k) → P (-1000001) μ) : w_L_growth n np P a1 μ := by
  unfold w_L_growth w_X4_growth
  refine X4_requireActor (fun q => ?_) (fun q => ⟨rfl, hx q⟩)
  obtain ⟨k, hk, e⟩ := q
  subst e
  rw [cl (by omega)]
  refine ⟨vin hk (by omega), μ, gs.rf μ, ?_⟩
  rw [h.st.1 k hk]
  exact hp k hk rfl
theorem s_copies (h : Jv n np t E μ) {a1 a2 : Int32} (hp : ∀ p s, p < 5 → s < 4 → a1 = nI p → a2 = nI s → P (E 16 0 (4 * p + s)) μ) (hx : (¬ ∃ k, k < 5 ∧ a1 = nI k) → P (-1000001) μ) (hy : (∃ k, k < 5 ∧ a1 = nI k) → (¬ ∃ s, s < 4 ∧ a2 = nI s) → P (-1000002) μ) : w_L_copies n np P a1 a2 μ := by
  unfold w_L_copies w_X4_copies b_X4_copies_13
  refine X4_requireProp (fun q => ?_) (fun q => Or.inl ⟨rfl, hx q⟩)
  have hyq := hy q
  obtain ⟨p, hp5, e⟩ := q
  subst e
  rcases arg_or a2 4 with w | w
  · obtain ⟨s, hs, e⟩ := w
    subst e
    have hl4 : nI s < 4 := (lt_lit 4 rfl (by omega) rfl (by omega)).mpr hs
    refine ⟨fun c => absurd c (pos (by omega)), fun _ => ⟨fun _ => ?_, fun c => absurd hl4 c⟩⟩
    rw [cl (by omega), cl (by omega)]
    refine ⟨vin hp5 (by omega), by omega, vin hs (by omega), μ, gs.rf μ, ?_⟩
    rw [show 5 * 0 + p = p by omega]
    have e := h.st.2.1 p s hp5 hs
    rw [show μ 43 p s = E 16 0 (4 * p + s) from e]
    exact hp p s hp5 hs rfl rfl
  · exact ⟨fun _ => Or.inr ⟨rfl, hyq w⟩, fun c => ⟨fun c2 => absurd c2 (arg_not (N := 4) (M := 4) rfl (by decide) w c), fun _ => Or.inr ⟨rfl, hyq w⟩⟩⟩
theorem s_isAllowed (h : Jv n np t E μ) {a1 a2 : Int32} (h1 : ∀ a d, a < n → d < 30 → a1 = nI a → a2 = nI d → al E np a d → P 1 μ) (h0 : ∀ a d, a < n → d < 30 → a1 = nI a → a2 = nI d → ¬ al E np a d → P 0 μ) (hx : (¬ ∃ a, a < n ∧ a1 = nI a) → P (-1000001) μ) (hy : (∃ a, a < n ∧ a1 = nI a) → (¬ ∃ d, d < 30 ∧ a2 = nI d) → P (-1000002) μ) : w_L_isAllowed n np P a1 a2 μ := by
  unfold w_L_isAllowed w_X4_isAllowed
  have hn := h.n10
  refine X4_sceneNumbered hn h.told (fun a ha e => ?_) (fun q => Or.inl ⟨rfl, hx q⟩)
  subst e
  refine X4_requireDay (fun q => ?_) (fun q => Or.inr ⟨rfl, hy ⟨a, ha, rfl⟩ q⟩)
  obtain ⟨d, hd, e⟩ := q
  subst e
  rw [cl (by omega)]
  exact ⟨pos (by omega), X4_allows (E := E) ha hd h.np20 h.al (fun q => ⟨Or.inr rfl, μ, gs.rf μ, fun c => absurd c z10, fun _ => h1 a d ha hd rfl rfl q⟩) (fun q => ⟨Or.inl rfl, μ, gs.rf μ, fun _ => h0 a d ha hd rfl rfl q, fun c => absurd rfl c⟩)⟩
theorem s_dayOf (h : Jv n np t E μ) {a1 : Int32} (hp : ∀ a, a < n → a1 = nI a → P (if E 3 0 a = 2 then -1 else E 4 0 a) μ) (hx : (¬ ∃ a, a < n ∧ a1 = nI a) → P (-1000001) μ) : w_L_dayOf n np P a1 μ := by
  unfold w_L_dayOf w_X4_dayOf
  have hn := h.n10
  refine X4_sceneNumbered hn h.told (fun a ha e => ?_) (fun q => ⟨rfl, hx q⟩)
  have hpa := hp a ha e
  obtain ⟨q1, q2, q3, q4, q5⟩ := h.sc a ha
  have hpl := h.pl
  rw [cl (by omega), q2]
  refine ⟨pos (by omega), ha, fun c => ?_, fun c => ⟨μ, gs.rf μ, ?_⟩⟩
  · refine X4_plannedDay hn ha (planI_cls hpl) (fun d hd e2 => ⟨μ, gs.rf μ, ?_⟩) (fun hno => ⟨μ, gs.rf μ, ?_⟩)
    · rw [hpl.1 d hd] at e2
      obtain ⟨w1, w2⟩ := hpl.2.2.2.1 d a hd ha e2
      rw [w1, w2, if_neg (by decide)] at hpa
      exact hpa
    · rcases q3 with q | q | q
      · obtain ⟨d, -, hd, e2⟩ := hpl.2.2.2.2 a ha q
        exact absurd ((hpl.1 d hd).trans e2) (hno d hd)
      · exact absurd q c
      · rw [if_pos q] at hpa
        exact hpa
  · rw [c, if_neg (by decide)] at hpa
    rw [q4 c]
    exact hpa
theorem s_ahead (h : Jv n np t E μ) {a1 a2 : Int32} (hp : ∀ a p, a < n → p < 5 → a1 = nI a → a2 = nI p → P (ahd E p a) μ) (hx : (¬ ∃ a, a < n ∧ a1 = nI a) → P (-1000001) μ) (hy : (∃ a, a < n ∧ a1 = nI a) → (¬ ∃ p, p < 5 ∧ a2 = nI p) → P (-1000001) μ) : w_L_ahead n np P a1 a2 μ := by
  unfold w_L_ahead w_X4_ahead
  have hn := h.n10
  refine X4_sceneNumbered hn h.told (fun a ha e => ?_) (fun q => ⟨rfl, hx q⟩)
  subst e
  refine X4_requireProp (fun q => ?_) (fun q => ⟨rfl, hy ⟨a, ha, rfl⟩ q⟩)
  obtain ⟨p, hp5, e⟩ := q
  subst e
  have eq : ∀ k, ahd μ p k = ahd E p k := by
    intro k
    induction k with
    | zero => rfl
    | succ k ih =>
      unfold ahd
      rw [ih, h.2.2 3 (by omega), h.2.2 6 (by omega), h.2.2 7 (by omega)]
  exact X4_aheadLoop hn ha hp5 h.1.2.2.2.1 h.1.2.2.2.2.2.2.2.1 h.told (fun r er => ⟨μ, gs.rf μ, by rw [er, eq]; exact hp a p ha hp5 rfl rfl⟩)
end READS
