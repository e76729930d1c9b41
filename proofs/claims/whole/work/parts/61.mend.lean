/-! MEND -/
noncomputable def mdy (E : Mem) (np t : Nat) (P : Nat → Int32) (d : Nat) : Nat → Nat → Int32 → Int32 → Int32
  | 0, _, b, _ => b
  | m + 1, k, b, l => pit (k = d ∨ ¬ mnds E np P d k) (mdy E np t P d m (k + 1) b l) (pit (b = -1 ∨ ¬ l ≤ costF E np t (pswap P d k)) (mdy E np t P d m (k + 1) (nI k) (costF E np t (pswap P d k))) (mdy E np t P d m (k + 1) b l))
theorem mdy_or (E : Mem) (np t : Nat) (P : Nat → Int32) (d : Nat) : ∀ (m k : Nat) (b l : Int32), mdy E np t P d m k b l = b ∨ ∃ i, k ≤ i ∧ i < k + m ∧ mdy E np t P d m k b l = nI i := by
  intro m
  induction m with
  | zero => intro k b l; exact Or.inl rfl
  | succ m ih =>
    intro k b l
    unfold mdy
    by_cases h1 : k = d ∨ ¬ mnds E np P d k
    · rw [pit_pos h1]
      rcases ih (k + 1) b l with e | ⟨i, i1, i2, e⟩
      · exact Or.inl e
      · exact Or.inr ⟨i, by omega, by omega, e⟩
    · rw [pit_neg h1]
      by_cases h2 : b = -1 ∨ ¬ l ≤ costF E np t (pswap P d k)
      · rw [pit_pos h2]
        rcases ih (k + 1) (nI k) (costF E np t (pswap P d k)) with e | ⟨i, i1, i2, e⟩
        · exact Or.inr ⟨k, Nat.le_refl k, by omega, e⟩
        · exact Or.inr ⟨i, by omega, by omega, e⟩
      · rw [pit_neg h2]
        rcases ih (k + 1) b l with e | ⟨i, i1, i2, e⟩
        · exact Or.inl e
        · exact Or.inr ⟨i, by omega, by omega, e⟩
noncomputable def mdv (E : Mem) (np t : Nat) (P : Nat → Int32) (d : Nat) : Int32 := mdy E np t P d (30 - t) t (-1) 0
theorem mdv_or {E : Mem} {np t : Nat} {P : Nat → Int32} {d : Nat} (ht : t ≤ 30) : mdv E np t P d = -1 ∨ ∃ i, t ≤ i ∧ i < 30 ∧ mdv E np t P d = nI i := by
  rcases mdy_or E np t P d (30 - t) t (-1) 0 with e | ⟨i, i1, i2, e⟩
  · exact Or.inl e
  · exact Or.inr ⟨i, i1, by omega, e⟩
theorem X4_mendingDay {n np t d : Nat} {E : Mem} {P : Nat → Int32} {post : Int32 → Mem → Prop} {u0 : Mem} (h0 : CP n np t E u0 P) (hd : d < 30) (hp : ∀ u', CP n np t E u' P → post (mdv E np t P d) u') : w_X4_mendingDay n np post (nI d) u0 := by
  have loop : ∀ m k : Nat, k + m = 30 → ∀ (b l : Int32) (u : Mem), CP n np t E u P → (∀ u', CP n np t E u' P → post (mdy E np t P d m k b l) u') → l_X4_mendingDay_10 n np post (nI d) (m + 1) b l (nI k) u := by
    intro m
    induction m with
    | zero =>
      intro k hk b l u h hpost
      have e : k = 30 := by omega
      subst e
      show lb_X4_mendingDay_10 n np post _ _ _ _ _ _
      unfold lb_X4_mendingDay_10
      exact ⟨fun _ => hpost u h, fun c => absurd (by decide) c⟩
    | succ m ih =>
      intro k hk b l u h hpost
      show lb_X4_mendingDay_10 n np post (l_X4_mendingDay_10 n np post (nI d) (m + 1)) _ _ _ _ _
      unfold lb_X4_mendingDay_10 b_X4_mendingDay_56 b_X4_mendingDay_62
      rw [nI_s1]
      unfold mdy at hpost
      have ne : ¬ nI k = nI d → ¬ k = d := fun c q => c (by rw [q])
      refine ⟨fun c => absurd ((le30 (k := k) (by omega)).mp c) (by omega), fun _ => ⟨fun c => ?_, fun c => ?_⟩⟩
      · rw [pit_pos (Or.inl ((nI_eq (by omega) (by omega)).mp c))] at hpost
        exact ih (k + 1) (by omega) b l u h hpost
      · refine h.wouldMend hd (by omega) (fun q => ⟨fun _ => ?_, fun c2 => absurd c2 z10⟩) (fun q => ⟨fun c2 => absurd rfl c2, fun _ => ?_⟩)
        · rw [pit_neg (fun w => w.elim (ne c) (fun w2 => w2 q))] at hpost
          refine h.costAfter hd (by omega) (fun u1 h1 => ⟨fun c3 => ?_, fun c3 => ⟨fun c4 => ?_, fun c4 => ?_⟩⟩)
          · rw [pit_pos (Or.inl c3)] at hpost
            exact ih (k + 1) (by omega) _ _ u1 h1 hpost
          · rw [pit_neg (fun w => w.elim c3 (fun w2 => w2 c4))] at hpost
            exact ih (k + 1) (by omega) _ _ u1 h1 hpost
          · rw [pit_pos (Or.inr c4)] at hpost
            exact ih (k + 1) (by omega) _ _ u1 h1 hpost
        · rw [pit_pos (Or.inr q)] at hpost
          exact ih (k + 1) (by omega) b l u h hpost
  have ht := h0.2.1.1.2.2
  unfold w_X4_mendingDay
  rw [h0.2.1.2.2.1.2.2.1]
  exact ⟨30 - t + 1, loop (30 - t) t (by omega) (-1) 0 u0 h0 hp⟩
theorem X5_bestFor {n np t d : Nat} {C E : Mem} {P : Nat → Int32} {post : Int32 → Mem → Prop} {u0 : Mem} (h0 : RP n np t C E u0 P) (htd : t ≤ d) (hd : d < 30) (hp : ∀ u', RP n np t C E u' P → post (mdv E np t P d) u') : w_X5_bestFor post (nI d) u0 := by
  have loop : ∀ m k : Nat, k + m = 30 → t ≤ k → ∀ (b l : Int32) (u : Mem), RP n np t C E u P → (∀ u', RP n np t C E u' P → post (mdy E np t P d m k b l) u') → l_X5_bestFor_10 post (nI d) (m + 1) b l (nI k) u := by
    intro m
    induction m with
    | zero =>
      intro k hk _ b l u h hpost
      have e : k = 30 := by omega
      subst e
      show lb_X5_bestFor_10 post _ _ _ _ _ _
      unfold lb_X5_bestFor_10
      exact ⟨fun _ => hpost u h, fun c => absurd (by decide) c⟩
    | succ m ih =>
      intro k hk htk b l u h hpost
      show lb_X5_bestFor_10 post (l_X5_bestFor_10 post (nI d) (m + 1)) _ _ _ _ _
      unfold lb_X5_bestFor_10
      unfold mdy at hpost
      have ne : ¬ nI k = nI d → ¬ k = d := fun c q => c (by rw [q])
      -- the swap is taken back, and the next day is tried
      have back : ∀ (b' l' : Int32) (u1 : Mem), RP n np t C E u1 (pswap P d k) → (∀ u', RP n np t C E u' P → post (mdy E np t P d m (k + 1) b' l') u') → w_X5_swaps (fun (μ12 : Mem) => b_X5_bestFor_102 post (l_X5_bestFor_10 post (nI d) (m + 1)) (nI d) b' l' (nI k) μ12) (nI d) (nI k) u1 := by
        intro b' l' u1 h1 hpost'
        refine h1.swaps ⟨htd, hd⟩ ⟨htk, by omega⟩ (fun u2 h2 => ?_)
        rw [pswap_pswap] at h2
        unfold b_X5_bestFor_102
        rw [nI_s1]
        exact ih (k + 1) (by omega) (by omega) b' l' u2 h2 hpost'
      have no : ∀ (u1 : Mem) (x : Int32), RP n np t C E u1 (pswap P d k) → (∀ u', RP n np t C E u' P → post (mdy E np t P d m (k + 1) b l) u') → b_X5_bestFor_68 post (l_X5_bestFor_10 post (nI d) (m + 1)) (nI d) b l (nI k) x u1 := fun u1 x h1 hpost' => ⟨fun _ => ⟨fun _ => back b l u1 h1 hpost', fun c => absurd rfl c⟩, fun c => absurd rfl c⟩
      have yes : ∀ (u1 : Mem) (x : Int32), RP n np t C E u1 (pswap P d k) → (∀ u', RP n np t C E u' P → post (mdy E np t P d m (k + 1) (nI k) x) u') → b_X5_bestFor_64 post (l_X5_bestFor_10 post (nI d) (m + 1)) (nI d) b l (nI k) x u1 := fun u1 x h1 hpost' => ⟨fun c => absurd c z10, fun _ => ⟨fun c => absurd c z10, fun _ => back (nI k) x u1 h1 hpost'⟩⟩
      refine ⟨fun c => absurd ((le30 (k := k) (by omega)).mp c) (by omega), fun _ => ⟨fun c => ?_, fun c => ?_⟩⟩
      · rw [pit_pos (Or.inl ((nI_eq (by omega) (by omega)).mp c))] at hpost
        unfold b_X5_bestFor_102
        rw [nI_s1]
        exact ih (k + 1) (by omega) (by omega) b l u h hpost
      · have hkd := ne c
        have s1 : pswap P d k d = P k := by
          unfold pswap
          rw [if_neg (fun q => hkd q.symm), if_pos rfl]
        have s2 : pswap P d k k = P d := by
          unfold pswap
          rw [if_pos rfl]
        refine h.swaps ⟨htd, hd⟩ ⟨htk, by omega⟩ (fun u1 h1 => h1.costs (fun u2 h2 => h2.isRefused hd (fun q1 => ⟨fun c2 => absurd rfl c2, fun _ => ?_⟩) (fun q1 => ⟨fun _ => ?_, fun c2 => absurd c2 z10⟩)))
        · rw [s1] at q1
          refine h2.isRefused (by omega) (fun q2 => ⟨fun c2 => absurd rfl c2, fun _ => ?_⟩) (fun q2 => ⟨fun _ => ?_, fun c2 => absurd c2 z10⟩)
          · rw [s2] at q2
            rw [pit_neg (fun w => w.elim hkd (fun w2 => w2 ⟨q2, q1⟩))] at hpost
            refine ⟨fun c3 => yes u2 _ h2 ?_, fun c3 => ⟨fun c4 => no u2 _ h2 ?_, fun c4 => yes u2 _ h2 ?_⟩⟩
            · rw [pit_pos (Or.inl c3)] at hpost
              exact hpost
            · rw [pit_neg (fun w => w.elim c3 (fun w2 => w2 c4))] at hpost
              exact hpost
            · rw [pit_pos (Or.inr c4)] at hpost
              exact hpost
          · rw [s2] at q2
            rw [pit_pos (Or.inr (fun w => q2 w.1))] at hpost
            exact no u2 _ h2 hpost
        · rw [s1] at q1
          rw [pit_pos (Or.inr (fun w => q1 w.2))] at hpost
          exact no u2 _ h2 hpost
  have ht := h0.2.2.1.1.2.2
  unfold w_X5_bestFor
  rw [h0.2.2.1.2.1.1]
  exact ⟨30 - t + 1, loop (30 - t) t (by omega) (Nat.le_refl t) (-1) 0 u0 h0 hp⟩
noncomputable def mnd (E : Mem) (np t : Nat) : Nat → Nat → Nat → (Nat → Int32) → Nat × (Nat → Int32)
  | 0, _, v, P => (v, P)
  | m + 1, d, v, P => pit (fre E np (P d) d) (mnd E np t m (d + 1) v P) (pit (mdv E np t P d = -1) (mnd E np t m (d + 1) v P) (mnd E np t m (d + 1) (v + 1) (pswap P d (mdv E np t P d).toNatClampNeg)))
theorem X4_mend {n np t : Nat} {E : Mem} {P0 : Nat → Int32} {post : Int32 → Mem → Prop} {u0 : Mem} (h0 : CP n np t E u0 P0) (hp : ∀ u', CP n np t E u' (mnd E np t (30 - t) t 0 P0).2 → post (nI (mnd E np t (30 - t) t 0 P0).1) u') : w_X4_mend n np post u0 := by
  have ht := h0.2.1.1.2.2
  have loop : ∀ m d : Nat, d + m = 30 → t ≤ d → ∀ (v : Nat) (P : Nat → Int32) (u : Mem), CP n np t E u P → (∀ u', CP n np t E u' (mnd E np t m d v P).2 → post (nI (mnd E np t m d v P).1) u') → l_X4_mend_7 n np post (m + 1) (nI v) (nI d) u := by
    intro m
    induction m with
    | zero =>
      intro d hd _ v P u h hpost
      have e : d = 30 := by omega
      subst e
      show lb_X4_mend_7 n np post _ _ _ _
      unfold lb_X4_mend_7
      exact ⟨fun _ => hpost u h, fun c => absurd (by decide) c⟩
    | succ m ih =>
      intro d hd htd v P u h hpost
      show lb_X4_mend_7 n np post (l_X4_mend_7 n np post (m + 1)) _ _ _
      unfold lb_X4_mend_7 b_X4_mend_30 b_X4_mend_45
      rw [nI_s1, nI_s1]
      unfold mnd at hpost
      refine ⟨fun c => absurd ((le30 (k := d) (by omega)).mp c) (by omega), fun _ => h.isRefusedOn (by omega) (fun q => ⟨fun _ => ⟨fun _ => ?_, fun c => absurd rfl c⟩, fun c => absurd rfl c⟩) (fun q => ⟨fun c => absurd c z10, fun _ => ?_⟩)⟩
      · rw [pit_pos q] at hpost
        exact ih (d + 1) (by omega) (by omega) v P u h hpost
      · rw [pit_neg q] at hpost
        refine X4_mendingDay h (by omega) (fun u1 h1 => ⟨fun c => ?_, fun c => ?_⟩)
        · rw [pit_pos c] at hpost
          exact ih (d + 1) (by omega) (by omega) v P u1 h1 hpost
        · rw [pit_neg c] at hpost
          rcases mdv_or (E := E) (np := np) (P := P) (d := d) ht with e | ⟨i, i1, i2, e⟩
          · exact absurd e c
          · rw [e, cl (by omega)] at hpost
            rw [e]
            exact h1.swaps (by omega) i2 (fun u2 h2 _ => ih (d + 1) (by omega) (by omega) (v + 1) _ u2 h2 hpost)
  unfold w_X4_mend
  rw [h0.2.1.2.2.1.2.2.1]
  exact ⟨30 - t + 1, loop (30 - t) t (by omega) (Nat.le_refl t) 0 P0 u0 h0 hp⟩
theorem X5_mend {n np t : Nat} {C E : Mem} {P0 : Nat → Int32} {post : Int32 → Mem → Prop} {u0 : Mem} (h0 : RP n np t C E u0 P0) (hp : ∀ u', RP n np t C E u' (mnd E np t (30 - t) t 0 P0).2 → post (nI (mnd E np t (30 - t) t 0 P0).1) (zst u' 0 0 25 0)) : w_X5_mend post u0 := by
  have ht := h0.2.2.1.1.2.2
  have loop : ∀ m d : Nat, d + m = 30 → t ≤ d → ∀ (v : Nat) (P : Nat → Int32) (u : Mem), RP n np t C E u P → (∀ u', RP n np t C E u' (mnd E np t m d v P).2 → post (nI (mnd E np t m d v P).1) (zst u' 0 0 25 0)) → l_X5_mend_7 post (m + 1) (nI v) (nI d) u := by
    intro m
    induction m with
    | zero =>
      intro d hd _ v P u h hpost
      have e : d = 30 := by omega
      subst e
      show lb_X5_mend_7 post _ _ _ _
      unfold lb_X5_mend_7 w_X5_told
      refine ⟨fun _ u' e => ?_, fun c => absurd (by decide) c⟩
      subst e
      exact hpost u h
    | succ m ih =>
      intro d hd htd v P u h hpost
      show lb_X5_mend_7 post (l_X5_mend_7 post (m + 1)) _ _ _
      unfold lb_X5_mend_7 b_X5_mend_30 b_X5_mend_45
      rw [nI_s1, nI_s1]
      unfold mnd at hpost
      refine ⟨fun c => absurd ((le30 (k := d) (by omega)).mp c) (by omega), fun _ => h.isRefused (by omega) (fun q => ⟨fun _ => ⟨fun _ => ?_, fun c => absurd rfl c⟩, fun c => absurd rfl c⟩) (fun q => ⟨fun c => absurd c z10, fun _ => ?_⟩)⟩
      · rw [pit_pos q] at hpost
        exact ih (d + 1) (by omega) (by omega) v P u h hpost
      · rw [pit_neg q] at hpost
        refine X5_bestFor h htd (by omega) (fun u1 h1 => ⟨fun c => ?_, fun c => ?_⟩)
        · rw [pit_pos c] at hpost
          exact ih (d + 1) (by omega) (by omega) v P u1 h1 hpost
        · rw [pit_neg c] at hpost
          rcases mdv_or (E := E) (np := np) (P := P) (d := d) ht with e | ⟨i, i1, i2, e⟩
          · exact absurd e c
          · rw [e, cl (by omega)] at hpost
            rw [e]
            exact h1.swaps ⟨htd, by omega⟩ ⟨i1, i2⟩ (fun u2 h2 => ih (d + 1) (by omega) (by omega) (v + 1) _ u2 h2 hpost)
  unfold w_X5_mend
  rw [h0.2.2.1.2.1.1]
  exact ⟨30 - t + 1, loop (30 - t) t (by omega) (Nat.le_refl t) 0 P0 u0 h0 hp⟩
theorem CP.rs {n np t : Nat} {E u : Mem} {P : Nat → Int32} (h : CP n np t E u P) : rsame E u := ⟨fun k _ => by rw [h.1 0 (by omega)], fun f _ b => by rw [h.1 f (by omega)]⟩
theorem o_mend : ob_mend Inv := by
  intro n np μ hI
  obtain ⟨t, he, hpl⟩ := id hI
  refine X4_mend (CP_0 he hpl) (fun u hu => ?_)
  exact X5_mend (RP_0 hu.2.1 hpl (csame.rf u) hu.rs) (fun v hv => ⟨rfl, Inv_25 (hv.fin hu.2.2.1) 0⟩)
