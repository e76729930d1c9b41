/-! A PROP AGES FORWARDS -/
def agK (E : Mem) (a p : Nat) (f t : Int32) (k : Nat) : Prop := k ≠ a → ¬ E 3 0 k = 2 → ¬ E 6 0 (5 * k + p) = -1 → (k < a → ¬ f < E 7 0 (5 * k + p)) ∧ (a < k → ¬ E 6 0 (5 * k + p) < t)
def agP (E : Mem) (n a p : Nat) (f t : Int32) : Prop := ∀ k, k < n → agK E a p f t k
theorem X4_agesForwards {n np a p : Nat} {f t : Int32} {post : Int32 → Mem → Prop} {μ E : Mem} (hn : n ≤ 10) (ha : a < n) (hp : p < 5) (hal : alRel n np μ E) (hsc : scOK n μ E) (htold : ∀ k, k < 10 → μ 31 0 k = if k < n then nI k else -1) (h1 : agP E n a p f t → post 1 μ) (h0 : ¬ agP E n a p f t → post 0 μ) : w_X4_agesForwards n np post (nI a) (nI p) f t μ := by
  have loop : ∀ m j : Nat, j + m = 10 → (∀ k, k < j → k < n → agK E a p f t k) → l_X4_agesForwards_14 n np post (nI a) (nI p) f t (m + 1) 10 (nI j) μ := by
    intro m
    induction m with
    | zero =>
      intro j hj hk
      have e : j = 10 := by omega
      subst e
      show lb_X4_agesForwards_14 n np post _ _ _ _ _ _ _ _
      unfold lb_X4_agesForwards_14
      exact ⟨fun _ => h1 (fun k hkn => hk k (by omega) hkn), fun c => absurd (by decide) c⟩
    | succ m ih =>
      intro j hj hk
      show lb_X4_agesForwards_14 n np post (l_X4_agesForwards_14 n np post (nI a) (nI p) f t (m + 1)) _ _ _ _ _ _ _
      unfold lb_X4_agesForwards_14 b_X4_agesForwards_91
      rw [nI_s1, cl (by omega), htold j (by omega)]
      have nx : (j < n → agK E a p f t j) → l_X4_agesForwards_14 n np post (nI a) (nI p) f t (m + 1) 10 (nI (j + 1)) μ := fun h => ih (j + 1) (by omega) (fun k hkj hkn => by
        by_cases c : k = j
        · subst c; exact h hkn
        · exact hk k (by omega) hkn)
      refine ⟨fun c1 => absurd ((le10 (k := j) (by omega)).mp c1) (by omega), fun _ => ⟨vin (by omega) (by omega), fun c => nx (fun hjn => ?_), fun c => ?_⟩⟩
      · rw [if_pos hjn] at c
        exact absurd c (pos (by omega))
      · by_cases hjn : j < n
        · rw [if_pos hjn, cl (by omega), (hsc j hjn).1]
          obtain ⟨s1, s2, s3, s4, s5⟩ := hal.1 j hjn
          refine ⟨hjn, fun c2 => nx (fun _ hne => absurd ((nI_eq (by omega) (by omega)).mp c2) hne), fun c2 => ?_⟩
          have hja : j ≠ a := fun q => c2 (by rw [q])
          refine X2_ages (E := E) hjn hp (hsc j hjn).2.1 (s4 p hp) (fun c3 c4 => ⟨fun _ => ?_, fun q => absurd q z10⟩) (fun c3 => ⟨fun q => absurd rfl q, fun _ => nx (fun _ _ q3 q4 => (c3.elim q3 q4).elim)⟩)
          rw [(hsc j hjn).1, cl (by omega), s4 p hp, s5 p hp c4]
          refine ⟨fun c5 => ⟨vin hp (by omega), fun c6 => nx (fun _ _ _ _ => ⟨fun q => ?_, fun _ => Int32.not_lt.mpr c6⟩), fun c6 => h0 (fun q => ?_)⟩, fun c5 => ⟨vin hp (by omega), fun c6 => nx (fun _ _ _ _ => ⟨fun _ => Int32.not_lt.mpr c6, fun q => ?_⟩), fun c6 => h0 (fun q => ?_)⟩⟩
          · have := (nI_leI (by omega) (by omega)).mp c5
            omega
          · have h2 := (nI_leI (by omega) (by omega)).mp c5
            exact (q j hjn hja c3 c4).2 (by omega) (Int32.not_le.mp c6)
          · exact absurd (nI_le (show a ≤ j by omega) (by omega)) c5
          · have h2 : j < a := by
              rcases Nat.lt_or_ge j a with w | w
              · exact w
              · exact absurd (nI_le w (by omega)) c5
            exact (q j hjn hja c3 c4).1 h2 (Int32.not_le.mp c6)
        · rw [if_neg hjn] at c
          exact absurd neg1 c
  exact ⟨11, loop 10 0 rfl (fun k hk => absurd hk (Nat.not_lt_zero k))⟩
