/-! WHETHER A SCENE IS ALLOWED -/
def cov (E : Mem) (a d k : Nat) : Prop := E 13 0 k = 0 ∧ E 9 0 k = E 1 0 a ∧ ¬ nI d < E 10 0 k ∧ ¬ E 11 0 k < nI d ∧ ¬ E 12 0 k < E 2 0 a
def alP (E : Mem) (np a d : Nat) : Prop := E 2 0 a = 0 ∨ ∃ k, k < np ∧ cov E a d k
def alC (E : Mem) (a d j : Nat) : Prop := ∀ k, k < j → E 5 0 (5 * a + k) = -2 ∨ E 14 0 (30 * k + d) = 0
def al (E : Mem) (np a d : Nat) : Prop := alP E np a d ∧ alC E a d 5
theorem z10 : ¬ (1 : Int32) = 0 := by decide
def pmRel (μ E : Mem) (k : Nat) : Prop := μ 80 k 0 = E 9 0 k ∧ μ 80 k 1 = E 10 0 k ∧ μ 80 k 2 = E 11 0 k ∧ μ 80 k 3 = E 12 0 k ∧ μ 80 k 4 = E 13 0 k
def awRel (μ E : Mem) : Prop := ∀ k d, k < 5 → d < 30 → ((μ 34 0 k) >>> (nI d &&& 31)) &&& 1 = E 14 0 (30 * k + d)
def alRel (n np : Nat) (μ E : Mem) : Prop := (∀ a, a < n → scRel μ E a) ∧ (∀ k, k < 20 → μ 33 0 k = if k < np then nI k else -1) ∧ (∀ k, k < np → pmRel μ E k) ∧ awRel μ E
theorem alRel_of {n np : Nat} {μ u E : Mem} (h : ∀ f, f = 33 ∨ f = 34 ∨ f = 70 ∨ f = 71 ∨ f = 72 ∨ f = 73 ∨ f = 80 → u f = μ f) (hr : alRel n np μ E) : alRel n np u E := by
  obtain ⟨h1, h2, h3, h4⟩ := hr
  refine ⟨fun a ha => ?_, fun k hk => ?_, fun k hk => ?_, fun k d hk hd => ?_⟩
  · obtain ⟨s1, s2, s3, s4, s5⟩ := h1 a ha
    unfold scRel
    rw [h 70 (by simp), h 71 (by simp), h 72 (by simp), h 73 (by simp)]
    exact ⟨s1, s2, s3, s4, s5⟩
  · rw [h 33 (by simp)]; exact h2 k hk
  · unfold pmRel
    rw [h 80 (by simp)]
    exact h3 k hk
  · rw [h 34 (by simp)]; exact h4 k d hk hd
theorem alRel_tri {n np b : Nat} {μ E : Mem} {g : Nat → Int32} {c : Nat → Nat → Int32} {x : Int32} (hr : alRel n np μ E) : alRel n np (tri b μ g c x) E := by
  refine alRel_of (fun f hf => ?_) hr
  funext i
  exact tri_o i (by omega) (by omega) (by omega)
theorem X4_isAwayOn {n np : Nat} {post : Int32 → Mem → Prop} {k d : Nat} {μ E : Mem} (hk : k < 5) (hd : d < 30) (hr : awRel μ E) (h0 : E 14 0 (30 * k + d) = 0 → post 0 μ) (h1 : ¬ E 14 0 (30 * k + d) = 0 → post 1 μ) : w_X4_isAwayOn n np post (nI k) (nI d) μ := by
  unfold w_X4_isAwayOn
  rw [cl (by omega), hr k d hk hd]
  exact ⟨vin hk (by omega), h0, h1⟩
theorem X4_isCastThere {n np : Nat} {post : Int32 → Mem → Prop} {a d : Nat} {μ E : Mem} (ha : a < n) (hd : d < 30) (hr : alRel n np μ E) (h1 : alC E a d 5 → post 1 μ) (h0 : ¬ alC E a d 5 → post 0 μ) : w_X4_isCastThere n np post a (nI d) μ := by
  have loop : ∀ m j : Nat, j + m = 5 → alC E a d j → l_X4_isCastThere_2 n np post a (nI d) (m + 1) (nI j) μ := by
    intro m
    induction m with
    | zero =>
      intro j hj hc
      have e : j = 5 := by omega
      subst e
      show lb_X4_isCastThere_2 n np post _ _ _ _ _
      unfold lb_X4_isCastThere_2
      exact ⟨fun _ => h1 hc, fun c => absurd (by decide) c⟩
    | succ m ih =>
      intro j hj hc
      show lb_X4_isCastThere_2 n np post (l_X4_isCastThere_2 n np post a (nI d) (m + 1)) _ _ _ _
      unfold lb_X4_isCastThere_2 b_X4_isCastThere_29
      have hj5 : j < 5 := by omega
      rw [nI_s1, cl (by omega), (hr.1 a ha).2.2.1 j hj5]
      have nx : (E 5 0 (5 * a + j) = -2 ∨ E 14 0 (30 * j + d) = 0) → l_X4_isCastThere_2 n np post a (nI d) (m + 1) (nI (j + 1)) μ := fun h => ih (j + 1) (by omega) (fun k hk => by
        by_cases hkj : k = j
        · subst hkj; exact h
        · exact hc k (by omega))
      refine ⟨fun c1 => absurd ((le5 (k := j) (by omega)).mp c1) (by omega), fun _ => ⟨ha, vin hj5 (by omega), fun c2 => nx (Or.inl c2), fun c2 => ?_⟩⟩
      refine X4_isAwayOn hj5 hd hr.2.2.2 (fun e => ⟨fun _ => nx (Or.inr e), fun c => absurd rfl c⟩) (fun e => ⟨fun c => absurd c z10, fun _ => h0 (fun hall => ?_)⟩)
      exact (hall j hj5).elim c2 e
  exact ⟨6, loop 5 0 rfl (fun k hk => absurd hk (Nat.not_lt_zero k))⟩
theorem X4_isPermitted {n np : Nat} {post : Int32 → Mem → Prop} {a d : Nat} {μ E : Mem} (ha : a < n) (hd : d < 30) (hnp : np ≤ 20) (hr : alRel n np μ E) (h1 : alP E np a d → post 1 μ) (h0 : ¬ alP E np a d → post 0 μ) : w_X4_isPermitted n np post a (nI d) μ := by
  obtain ⟨s1, s2, s3, s4, s5⟩ := hr.1 a ha
  have loop : ¬ E 2 0 a = 0 → ∀ m j : Nat, j + m = 20 → (∀ k, k < j → k < np → ¬ cov E a d k) → l_X4_isPermitted_21 n np post a (nI d) (m + 1) 20 (nI j) μ := by
    intro hf m
    induction m with
    | zero =>
      intro j hj hc
      have e : j = 20 := by omega
      subst e
      show lb_X4_isPermitted_21 n np post _ _ _ _ _ _
      unfold lb_X4_isPermitted_21
      refine ⟨fun _ => h0 ?_, fun c => absurd (by decide) c⟩
      rintro (h | ⟨k, hk, h⟩)
      · exact hf h
      · exact hc k (by omega) hk h
    | succ m ih =>
      intro j hj hc
      show lb_X4_isPermitted_21 n np post (l_X4_isPermitted_21 n np post a (nI d) (m + 1)) _ _ _ _ _
      unfold lb_X4_isPermitted_21 b_X4_isPermitted_51
      rw [nI_s1, cl (by omega), hr.2.1 j (by omega)]
      have nx : (j < np → ¬ cov E a d j) → l_X4_isPermitted_21 n np post a (nI d) (m + 1) 20 (nI (j + 1)) μ := fun h => ih (j + 1) (by omega) (fun k hk hkn => by
        by_cases hkj : k = j
        · subst hkj; exact h hkn
        · exact hc k (by omega) hkn)
      refine ⟨fun c1 => absurd ((le20 (k := j) (by omega)).mp c1) (by omega), fun _ => ⟨vin (by omega) (by omega), fun c2 => nx (fun hjn => ?_), fun c2 => ?_⟩⟩
      · rw [if_pos hjn] at c2
        exact absurd c2 (pos (by omega))
      · by_cases hjn : j < np
        · rw [if_pos hjn, cl (by omega)]
          refine ⟨hjn, ?_⟩
          obtain ⟨p0, p1, p2, p3, p4⟩ := hr.2.2.1 j hjn
          unfold w_X1_covers
          rw [p0, p1, p2, p3, p4, s1, s2]
          have no : ¬ cov E a d j → ((0 : Int32) = 0 → l_X4_isPermitted_21 n np post a (nI d) (m + 1) 20 (nI (j + 1)) μ) ∧ (¬ (0 : Int32) = 0 → post 1 μ) := fun h => ⟨fun _ => nx (fun _ => h), fun c => absurd rfl c⟩
          exact ⟨hjn, fun c3 => no (fun h => c3 h.1), fun c3 => ⟨ha, fun c4 => no (fun h => c4 h.2.1), fun c4 => ⟨fun c5 => no (fun h => h.2.2.1 c5), fun c5 => ⟨fun c6 => no (fun h => h.2.2.2.1 c6), fun c6 => ⟨fun c7 => no (fun h => h.2.2.2.2 c7), fun c7 => ⟨fun c => absurd c z10, fun _ => h1 (Or.inr ⟨j, hjn, c3, c4, c5, c6, c7⟩)⟩⟩⟩⟩⟩⟩
        · rw [if_neg hjn] at c2
          exact absurd neg1 c2
  unfold w_X4_isPermitted
  rw [s2]
  exact ⟨ha, fun c1 => ⟨21, loop c1 20 0 rfl (fun k hk => absurd hk (Nat.not_lt_zero k))⟩, fun c1 => h1 (Or.inl c1)⟩
theorem X4_allows {n np : Nat} {post : Int32 → Mem → Prop} {a d : Nat} {μ E : Mem} (ha : a < n) (hd : d < 30) (hnp : np ≤ 20) (hr : alRel n np μ E) (h1 : al E np a d → post 1 μ) (h0 : ¬ al E np a d → post 0 μ) : w_X4_allows n np post a (nI d) μ := by
  unfold w_X4_allows
  refine X4_isPermitted ha hd hnp hr (fun e1 => ⟨fun c => absurd c z10, fun _ => ?_⟩) (fun e1 => ⟨fun _ => h0 (fun h => e1 h.1), fun c => absurd rfl c⟩)
  exact X4_isCastThere ha hd hr (fun e2 => ⟨fun c => absurd c z10, fun _ => h1 ⟨e1, e2⟩⟩) (fun e2 => ⟨fun _ => h0 (fun h => e2 h.2), fun c => absurd rfl c⟩)

