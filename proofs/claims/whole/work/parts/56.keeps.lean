/-! WHAT WAS TRIED IS KEPT -/
theorem X5_keeps {post : Mem → Prop} {μ : Mem} (hp : ∀ u : Mem, (∀ f, f ≠ 15 → f ≠ 16 → u f = μ f) → (∀ k, k < 5 → u 15 0 k = μ 17 0 k) → (∀ k, k < 20 → u 16 0 k = μ 18 0 k) → post u) : w_X5_keeps post μ := by
  have l2 : ∀ m j : Nat, j + m = 20 → ∀ u : Mem, (∀ f, f ≠ 15 → f ≠ 16 → u f = μ f) → (∀ k, k < 5 → u 15 0 k = μ 17 0 k) → (∀ k, k < j → u 16 0 k = μ 18 0 k) → l_X5_keeps_27 post (m + 1) (nI j) u := by
    intro m
    induction m with
    | zero =>
      intro j hj u uo u15 u16
      have e : j = 20 := by omega
      subst e
      show lb_X5_keeps_27 post _ _ _
      unfold lb_X5_keeps_27
      exact ⟨fun _ => hp u uo u15 u16, fun c => absurd (by decide) c⟩
    | succ m ih =>
      intro j hj u uo u15 u16
      show lb_X5_keeps_27 post (l_X5_keeps_27 post (m + 1)) _ _
      unfold lb_X5_keeps_27
      rw [nI_s1, cl (by omega), uo 18 (by omega) (by omega)]
      refine ⟨fun c1 => absurd ((le20 (k := j) (by omega)).mp c1) (by omega), fun _ => ⟨vin (by omega) (by omega), fun v ev => ih (j + 1) (by omega) v (fun f h1 h2 => by rw [ev, zst_o h2, uo f h1 h2]) (fun k hk => by rw [ev, zst_o (by omega), u15 k hk]) (fun k hk => ?_)⟩⟩
      rw [ev, zst_ap]
      by_cases h : k = j
      · rw [if_pos ⟨rfl, rfl, h⟩, h]
      · rw [if_neg (fun q => h q.2.2)]
        exact u16 k (by omega)
  have l1 : ∀ m j : Nat, j + m = 5 → ∀ u : Mem, (∀ f, f ≠ 15 → f ≠ 16 → u f = μ f) → (∀ k, k < j → u 15 0 k = μ 17 0 k) → l_X5_keeps_2 post (m + 1) (nI j) u := by
    intro m
    induction m with
    | zero =>
      intro j hj u uo u15
      have e : j = 5 := by omega
      subst e
      show lb_X5_keeps_2 post _ _ _
      unfold lb_X5_keeps_2
      exact ⟨fun _ => ⟨21, l2 20 0 rfl u uo u15 (fun k hk => absurd hk (Nat.not_lt_zero k))⟩, fun c => absurd (by decide) c⟩
    | succ m ih =>
      intro j hj u uo u15
      show lb_X5_keeps_2 post (l_X5_keeps_2 post (m + 1)) _ _
      unfold lb_X5_keeps_2
      rw [nI_s1, cl (by omega), uo 17 (by omega) (by omega)]
      refine ⟨fun c1 => absurd ((le5 (k := j) (by omega)).mp c1) (by omega), fun _ => ⟨vin (by omega) (by omega), fun v ev => ih (j + 1) (by omega) v (fun f h1 h2 => by rw [ev, zst_o h1, uo f h1 h2]) (fun k hk => ?_)⟩⟩
      rw [ev, zst_ap]
      by_cases h : k = j
      · rw [if_pos ⟨rfl, rfl, h⟩, h]
      · rw [if_neg (fun q => h q.2.2)]
        exact u15 k (by omega)
  exact ⟨6, l1 5 0 rfl μ (fun _ _ _ => rfl) (fun k hk => absurd hk (Nat.not_lt_zero k))⟩
