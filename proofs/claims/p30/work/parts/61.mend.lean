/-! MEND -/
noncomputable def mdy (E : Mem) (np t : Nat) (P : Nat → Int32) (d : Nat) : Nat → Nat → Int32 → Int32 → Int32
  | 0, _, b, _ => b
  | m + 1, k, b, l => pit (k = d ∨ ¬ mnds E np P d k) (mdy E np t P d m (k + 1) b l) (pit (b = -1 ∨ ¬ l ≤ costF E np t (pswap P d k)) (mdy E np t P d m (k + 1) (nI k) (costF E np t (pswap P d k))) (mdy E np t P d m (k + 1) b l))
theorem mdy_or (E : Mem) (np t : Nat) (P : Nat → Int32) (d : Nat) : ∀ (m k : Nat) (b l : Int32), mdy E np t P d m k b l = b ∨ ∃ i, k ≤ i ∧ i < k + m ∧ mdy E np t P d m k b l = nI i := by
  intro m
  induction m with
  | zero => intro k b l; exact Or.inl rfl
  | succ m ih =>
    intro k b l
    unfold mdy
    by_cases h1 : k = d ∨ ¬ mnds E np P d k
    · rw [pit_pos h1]
      rcases ih (k + 1) b l with e | ⟨i, i1, i2, e⟩
      · exact Or.inl e
      · exact Or.inr ⟨i, by omega, by omega, e⟩
    · rw [pit_neg h1]
      by_cases h2 : b = -1 ∨ ¬ l ≤ costF E np t (pswap P d k)
      · rw [pit_pos h2]
        rcases ih (k + 1) (nI k) (costF E np t (pswap P d k)) with e | ⟨i, i1, i2, e⟩
        · exact Or.inr ⟨k, Nat.le_refl k, by omega, e⟩
        · exact Or.inr ⟨i, by omega, by omega, e⟩
      · rw [pit_neg h2]
        rcases ih (k + 1) b l with e | ⟨i, i1, i2, e⟩
        · exact Or.inl e
        · exact Or.inr ⟨i, by omega, by omega, e⟩
noncomputable def mdv (E : Mem) (np t : Nat) (P : Nat → Int32) (d : Nat) : Int32 := mdy E np t P d (30 - t) t (-1) 0
theorem mdv_or {E : Mem} {np t : Nat} {P : Nat → Int32} {d : Nat} (ht : t ≤ 30) : mdv E np t P d = -1 ∨ ∃ i, t ≤ i ∧ i < 30 ∧ mdv E np t P d = nI i := by
  rcases mdy_or E np t P d (30 - t) t (-1) 0 with e | ⟨i, i1, i2, e⟩
  · exact Or.inl e
  · exact Or.inr ⟨i, i1, by omega, e⟩
theorem X4_mendingDay {n np t d : Nat} {E : Mem} {P : Nat → Int32} {post : Int32 → Mem → Prop} {u0 : Mem} (h0 : CP n np t E u0 P) (hd : d < 30) (hp : ∀ u', CP n np t E u' P → post (mdv E np t P d) u') : w_X4_mendingDay n np post (nI d) u0 := by
  have loop : ∀ m k : Nat, k + m = 30 → ∀ (b l : Int32) (u : Mem), CP n np t E u P → (∀ u', CP n np t E u' P → post (mdy E np t P d m k b l) u') → l_X4_mendingDay_10 n np post (nI d) (m + 1) b l (nI k) u := by
    intro m
    induction m with
    | zero =>
      intro k hk b l u h hpost
      have e : k = 30 := by omega
      subst e
      show lb_X4_mendingDay_10 n np post _ _ _ _ _ _
      unfold lb_X4_mendingDay_10
      exact ⟨fun _ => hpost u h, fun c => absurd (by decide) c⟩
    | succ m ih =>
      intro k hk b l u h hpost
      show lb_X4_mendingDay_10 n np post (l_X4_mendingDay_10 n np post (nI d) (m + 1)) _ _ _ _ _
      unfold lb_X4_mendingDay_10 b_X4_mendingDay_56 b_X4_mendingDay_62
      rw [nI_s1]
      unfold mdy at hpost
      have ne : ¬ nI k = nI d → ¬ k = d := fun c q => c (by rw [q])
      refine ⟨fun c => absurd ((le30 (k := k) (by omega)).mp c) (by omega), fun _ => ⟨fun c => ?_, fun c => ?_⟩⟩
      · rw [pit_pos (Or.inl ((nI_eq (by omega) (by omega)).mp c))] at hpost
        exact ih (k + 1) (by omega) b l u h hpost
      · refine h.wouldMend hd (by omega) (fun q => ⟨fun _ => ?_, fun c2 => absurd c2 z10⟩) (fun q => ⟨fun c2 => absurd rfl c2, fun _ => ?_⟩)
        · rw [pit_neg (fun w => w.elim (ne c) (fun w2 => w2 q))] at hpost
          refine h.costAfter hd (by omega) (fun u1 h1 => ⟨fun c3 => ?_, fun c3 => ⟨fun c4 => ?_, fun c4 => ?_⟩⟩)
          · rw [pit_pos (Or.inl c3)] at hpost
            exact ih (k + 1) (by omega) _ _ u1 h1 hpost
          · rw [pit_neg (fun w => w.elim c3 (fun w2 => w2 c4))] at hpost
            exact ih (k + 1) (by omega) _ _ u1 h1 hpost
          · rw [pit_pos (Or.inr c4)] at hpost
            exact ih (k + 1) (by omega) _ _ u1 h1 hpost
        · rw [pit_pos (Or.inr q)] at hpost
          exact ih (k + 1) (by omega) b l u h hpost
  have ht := h0.2.1.1.2.2
  unfold w_X4_mendingDay
  rw [h0.2.1.2.2.1.2.2.1]
  exact ⟨30 - t + 1, loop (30 - t) t (by omega) (-1) 0 u0 h0 hp⟩
noncomputable def mnd (E : Mem) (np t : Nat) : Nat → Nat → Nat → (Nat → Int32) → Nat × (Nat → Int32)
  | 0, _, v, P => (v, P)
  | m + 1, d, v, P => pit (fre E np (P d) d) (mnd E np t m (d + 1) v P) (pit (mdv E np t P d = -1) (mnd E np t m (d + 1) v P) (mnd E np t m (d + 1) (v + 1) (pswap P d (mdv E np t P d).toNatClampNeg)))
theorem X4_mend {n np t : Nat} {E : Mem} {P0 : Nat → Int32} {post : Int32 → Mem → Prop} {u0 : Mem} (h0 : CP n np t E u0 P0) (hp : ∀ u', CP n np t E u' (mnd E np t (30 - t) t 0 P0).2 → post (nI (mnd E np t (30 - t) t 0 P0).1) u') : w_X4_mend n np post u0 := by
  have ht := h0.2.1.1.2.2
  have loop : ∀ m d : Nat, d + m = 30 → t ≤ d → ∀ (v : Nat) (P : Nat → Int32) (u : Mem), CP n np t E u P → (∀ u', CP n np t E u' (mnd E np t m d v P).2 → post (nI (mnd E np t m d v P).1) u') → l_X4_mend_7 n np post (m + 1) (nI v) (nI d) u := by
    intro m
    induction m with
    | zero =>
      intro d hd _ v P u h hpost
      have e : d = 30 := by omega
      subst e
      show lb_X4_mend_7 n np post _ _ _ _
      unfold lb_X4_mend_7
      exact ⟨fun _ => hpost u h, fun c => absurd (by decide) c⟩
    | succ m ih =>
      intro d hd htd v P u h hpost
      show lb_X4_mend_7 n np post (l_X4_mend_7 n np post (m + 1)) _ _ _
      unfold lb_X4_mend_7 b_X4_mend_30 b_X4_mend_45
      rw [nI_s1, nI_s1]
      unfold mnd at hpost
      refine ⟨fun c => absurd ((le30 (k := d) (by omega)).mp c) (by omega), fun _ => h.isRefusedOn (by omega) (fun q => ⟨fun _ => ⟨fun _ => ?_, fun c => absurd rfl c⟩, fun c => absurd rfl c⟩) (fun q => ⟨fun c => absurd c z10, fun _ => ?_⟩)⟩
      · rw [pit_pos q] at hpost
        exact ih (d + 1) (by omega) (by omega) v P u h hpost
      · rw [pit_neg q] at hpost
        refine X4_mendingDay h (by omega) (fun u1 h1 => ⟨fun c => ?_, fun c => ?_⟩)
        · rw [pit_pos c] at hpost
          exact ih (d + 1) (by omega) (by omega) v P u1 h1 hpost
        · rw [pit_neg c] at hpost
          rcases mdv_or (E := E) (np := np) (P := P) (d := d) ht with e | ⟨i, i1, i2, e⟩
          · exact absurd e c
          · rw [e, cl (by omega)] at hpost
            rw [e]
            exact h1.swaps (by omega) i2 (fun u2 h2 _ => ih (d + 1) (by omega) (by omega) (v + 1) _ u2 h2 hpost)
  unfold w_X4_mend
  rw [h0.2.1.2.2.1.2.2.1]
  exact ⟨30 - t + 1, loop (30 - t) t (by omega) (Nat.le_refl t) 0 P0 u0 h0 hp⟩
theorem CP.rs {n np t : Nat} {E u : Mem} {P : Nat → Int32} (h : CP n np t E u P) : rsame E u := ⟨fun k _ => by rw [h.1 0 (by omega)], fun f _ b => by rw [h.1 f (by omega)]⟩
