theorem X4_plannedDay {n np : Nat} {post : Int32 → Mem → Prop} {a : Nat} {μ : Mem} (hn : n ≤ 10) (ha : a < n) (hP : ∀ d, d < 30 → μ 32 0 d = -1 ∨ ∃ a, a < n ∧ μ 32 0 d = nI a) (h1 : ∀ d, d < 30 → μ 32 0 d = nI a → post (nI d) μ) (h0 : (∀ d, d < 30 → ¬ μ 32 0 d = nI a) → post (-1) μ) : w_X4_plannedDay n np post (nI a) μ := by
  have loop : ∀ m d : Nat, d + m = 30 → (∀ k, k < d → ¬ μ 32 0 k = nI a) → l_X4_plannedDay_2 n np post (nI a) (m + 1) (nI d) μ := by
    intro m
    induction m with
    | zero =>
      intro d hd hno
      have e : d = 30 := by omega
      subst e
      show lb_X4_plannedDay_2 n np post _ _ _ _
      unfold lb_X4_plannedDay_2
      exact ⟨fun _ => h0 hno, fun c => absurd (by decide) c⟩
    | succ m ih =>
      intro d hd hno
      show lb_X4_plannedDay_2 n np post (l_X4_plannedDay_2 n np post (nI a) (m + 1)) _ _ _
      unfold lb_X4_plannedDay_2
      rw [nI_s1, cl (by omega), cl (by omega)]
      refine ⟨fun c1 => absurd ((le30 (k := d) (by omega)).mp c1) (by omega), fun _ => ⟨vin (by omega) (by omega), fun c => ?_, fun _ => ha, fun c => ih (d + 1) (by omega) (fun k hk => ?_), fun c => ?_⟩⟩
      · rcases hP d (by omega) with e | ⟨a2, ha2, e⟩
        · exact absurd (by rw [e]; exact neg1) c
        · rw [e, cl (by omega)]; exact ha2
      · by_cases hkd : k = d
        · subst hkd
          exact fun e => c (Or.inl e)
        · exact hno k (by omega)
      · rcases c with e | ⟨-, e⟩
        · exact h1 d (by omega) e
        · exact absurd e (pos (by omega))
  exact ⟨31, loop 30 0 rfl (fun k hk => absurd hk (Nat.not_lt_zero k))⟩
theorem planI_cls {n t : Nat} {μ E : Mem} (h : planI n t μ E) : ∀ d, d < 30 → μ 32 0 d = -1 ∨ ∃ a, a < n ∧ μ 32 0 d = nI a := fun d hd => by
  rw [h.1 d hd]
  exact h.2.1 d hd
def ahd (E : Mem) (p : Nat) : Nat → Int32
  | 0 => 0
  | k + 1 => if E 3 0 k = 2 then ahd E p k else if E 6 0 (5 * k + p) = -1 then ahd E p k else E 7 0 (5 * k + p)
theorem X2_ages {n np : Nat} {post : Int32 → Mem → Prop} {a p : Nat} {μ E : Mem} (ha : a < n) (hp : p < 5) (h6 : μ 70 a 6 = E 3 0 a) (h72 : μ 72 a p = E 6 0 (5 * a + p)) (h1 : ¬ E 3 0 a = 2 → ¬ E 6 0 (5 * a + p) = -1 → post 1 μ) (h0 : (E 3 0 a = 2 ∨ E 6 0 (5 * a + p) = -1) → post 0 μ) : w_X2_ages n np post a (nI p) μ := by
  unfold w_X2_ages
  rw [h6, cl (by omega), h72]
  exact ⟨ha, fun c => h0 (Or.inl c), fun c => ⟨fun c2 => absurd c2 (pos (by omega)), fun _ => ⟨fun c3 => absurd ((le5 (k := p) (by omega)).mp c3) (by omega), fun _ => ⟨vin hp (by omega), fun c4 => h0 (Or.inr c4), fun c4 => h1 c c4⟩⟩⟩⟩
theorem X4_aheadLoop {n np a p : Nat} {μ : Mem} {post : Int32 → Mem → Prop} {xpost : String → Mem → Prop} (hn : n ≤ 10) (ha : a < n) (hp5 : p < 5) (hal : alRel n np μ μ) (hsc : scOK n μ μ) (htold : ∀ k, k < 10 → μ 31 0 k = if k < n then nI k else -1) (fin : ∀ r : Int32, r = ahd μ p a → post r μ) : ∃ f, l_X4_ahead_26 n np post xpost (nI a) (nI p) f 0 10 0 μ := by
  have loop : ∀ m j : Nat, j + m = 10 → ∀ v3 : Int32, v3 = ahd μ p (min j a) → l_X4_ahead_26 n np post xpost (nI a) (nI p) (m + 1) v3 10 (nI j) μ := by
    intro m
    induction m with
    | zero =>
      intro j hj v3 e3'
      have e : j = 10 := by omega
      subst e
      show lb_X4_ahead_26 n np _ _ _ _ _ _ _ _ _
      unfold lb_X4_ahead_26
      refine ⟨fun _ => fin v3 ?_, fun c => absurd (by decide) c⟩
      rw [e3']
      congr 1
      omega
    | succ m ih =>
      intro j hj v3 e3'
      show lb_X4_ahead_26 n np _ _ (l_X4_ahead_26 n np _ _ (nI a) (nI p) (m + 1)) _ _ _ _ _ _
      unfold lb_X4_ahead_26 b_X4_ahead_71
      rw [nI_s1, cl (by omega), htold j (by omega)]
      refine ⟨fun c1 => absurd ((le10 (k := j) (by omega)).mp c1) (by omega), fun _ => ⟨vin (by omega) (by omega), fun c => ih (j + 1) (by omega) v3 ?_, fun c => ?_⟩⟩
      · by_cases hjn : j < n
        · rw [if_pos hjn] at c
          exact absurd c (pos (by omega))
        · rw [e3']
          congr 1
          omega
      · by_cases hjn : j < n
        · rw [if_pos hjn, cl (by omega), (hsc j hjn).1]
          refine ⟨hjn, fun c2 => ih (j + 1) (by omega) v3 ?_, fun c2 => ?_⟩
          · have := (nI_leI (by omega) (by omega)).mp c2
            rw [e3']
            congr 1
            omega
          · have hja : j < a := by
              rcases Nat.lt_or_ge j a with q | q
              · exact q
              · exact absurd ((nI_leI (by omega) (by omega)).mpr q) c2
            have em : min j a = j := by omega
            have em1 : min (j + 1) a = j + 1 := by omega
            obtain ⟨q1, q2, q3, q4, q5⟩ := hsc j hjn
            obtain ⟨s1, s2, s3, s4, s5⟩ := hal.1 j hjn
            refine X2_ages (E := μ) hjn hp5 q2 (s4 p hp5) (fun c3 c4 => ⟨fun q => absurd q z10, fun _ => ⟨vin hp5 (by omega), fun v ev => ih (j + 1) (by omega) v ?_⟩⟩) (fun c3 => ⟨fun _ => ih (j + 1) (by omega) v3 ?_, fun q => absurd rfl q⟩)
            · rw [ev, cl (by omega), s5 p hp5 c4, em1]
              unfold ahd
              rw [if_neg c3, if_neg c4]
            · rw [e3', em, em1]
              conv => rhs; unfold ahd
              by_cases c5 : μ 3 0 j = 2
              · rw [if_pos c5]
              · rw [if_neg c5, if_pos (c3.resolve_left c5)]
        · rw [if_neg hjn] at c
          exact absurd neg1 c
  exact ⟨11, loop 10 0 rfl 0 (by rw [show min 0 a = 0 by omega]; rfl)⟩
