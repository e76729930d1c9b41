theorem env_state {n np t : Nat} {μ E u F : Mem} (h : env n np t μ E) (hu : ∀ f, (f = 30 ∨ f = 31 ∨ f = 33 ∨ f = 34 ∨ f = 40 ∨ f = 42 ∨ f = 43 ∨ f = 62 ∨ f = 71 ∨ f = 72 ∨ f = 73 ∨ f = 80) → u f = μ f) (h70 : ∀ j i, i ≤ 5 → u 70 j i = μ 70 j i) (h0 : ∀ k, k ≠ 25 → F 0 0 k = E 0 0 k) (hf : ∀ f, 1 ≤ f → f ≤ 16 → f ≠ 3 → f ≠ 4 → f ≠ 8 → F f 0 = E f 0) (hsc : scOK n u F) : env n np t u F := by
  obtain ⟨b, -, ⟨m7, m8, m9, m10⟩, hal, hst, hg, hsk, -, -, hzz⟩ := id h
  have hf' : ∀ f, (f = 1 ∨ f = 2 ∨ f = 5 ∨ f = 6 ∨ f = 7 ∨ (9 ≤ f ∧ f ≤ 16)) → F f 0 = E f 0 := fun f h => hf f (by omega) (by omega) (by omega) (by omega) (by omega)
  refine env_build h (fun k _ => by rw [hu 30 (by omega)]) (by rw [hu 30 (by omega), h0 1 (by omega)]; exact m10) (fun k hk => h0 k (by omega)) ?_ (stRel_mv hst (by rw [hu 42 (by omega)]) (fun p _ => by rw [hu 43 (by omega)]) (by rw [hu 40 (by omega)]) ⟨hf' 15 (by omega), hf' 16 (by omega), h0 2 (by omega)⟩) (by rw [hf' 15 (by omega)]; exact hg) (by rw [hf' 16 (by omega)]; exact hsk) hsc (by rw [hu 31 (by omega)]) (by rw [hu 62 (by omega)]) (fun j a b => by rw [hf' 13 (by omega)]; exact hzz.2 j a b)
  obtain ⟨h1, h2, h3, h4⟩ := hal
  refine ⟨fun a ha => ?_, fun k hk => ?_, fun j hj => ?_, fun j d hj hd => ?_⟩
  · unfold scRel
    rw [h70 a 1 (by omega), h70 a 2 (by omega), hu 71 (by omega), hu 72 (by omega), hu 73 (by omega), hf' 1 (by omega), hf' 2 (by omega), hf' 5 (by omega), hf' 6 (by omega), hf' 7 (by omega)]
    exact h1 a ha
  · rw [hu 33 (by omega)]; exact h2 k hk
  · unfold pmRel
    rw [hu 80 (by omega), hf' 9 (by omega), hf' 10 (by omega), hf' 11 (by omega), hf' 12 (by omega), hf' 13 (by omega)]
    exact h3 j hj
  · rw [hu 34 (by omega), hf' 14 (by omega)]; exact h4 j d hj hd
theorem X4_requirePlanned {n np a : Nat} {post : Mem → Prop} {xpost : String → Mem → Prop} {μ E : Mem} (ha : a < n) (h6 : μ 70 a 6 = E 3 0 a) (h1 : E 3 0 a = 0 → post μ) (h0 : ¬ E 3 0 a = 0 → xpost "java/lang/IllegalStateException" μ) : w_X4_requirePlanned n np post xpost a μ := by
  unfold w_X4_requirePlanned
  rw [h6]
  exact ⟨ha, h1, h0⟩
/-- a scene leaves the plan: it was on day d, its state is v now (not PLANNED) -/
theorem planI_drop {n t d a : Nat} {v : Int32} {μ E u F : Mem} (hn : n ≤ 10) (hd : d < 30) (ha : a < n) (hv : ¬ v = 0) (hda : E 8 0 d = nI a) (h : planI n t μ E) (h32 : ∀ k, u 32 0 k = if k = d then -1 else μ 32 0 k) (h8 : ∀ k, F 8 0 k = if k = d then -1 else E 8 0 k) (h3 : ∀ k, F 3 0 k = if k = a then v else E 3 0 k) (h4 : ∀ k, k ≠ a → F 4 0 k = E 4 0 k) : planI n t u F := by
  obtain ⟨p1, p2, p3, p4, p5⟩ := h
  have nota : ∀ k b, k < 30 → b < n → F 8 0 k = nI b → b ≠ a ∧ E 8 0 k = nI b ∧ k ≠ d := by
    intro k b hk hb e
    rw [h8] at e
    by_cases c : k = d
    · rw [if_pos c] at e
      exact absurd e.symm (nI_neg1 (by omega))
    · rw [if_neg c] at e
      refine ⟨fun q => ?_, e, c⟩
      subst q
      have e1 := (p4 k b hk hb e).2
      have e2 := (p4 d b hd hb hda).2
      rw [e1] at e2
      exact c ((nI_eq (by omega) (by omega)).mp e2)
  refine ⟨fun k hk => ?_, fun k hk => ?_, fun k hk => ?_, fun k b hk hb e => ?_, fun b hb e => ?_⟩
  · rw [h32, h8, p1 k hk]
  · rw [h8]
    by_cases c : k = d
    · rw [if_pos c]; exact Or.inl rfl
    · rw [if_neg c]; exact p2 k hk
  · rw [h8, p3 k hk]
    by_cases c : k = d <;> simp [c]
  · obtain ⟨q1, q2, q3⟩ := nota k b hk hb e
    rw [h3, if_neg q1, h4 b q1]
    exact p4 k b hk hb q2
  · rw [h3] at e
    by_cases c : b = a
    · rw [if_pos c] at e
      exact absurd e hv
    · rw [if_neg c] at e
      obtain ⟨k, k1, k2, k3⟩ := p5 b hb e
      refine ⟨k, k1, k2, ?_⟩
      rw [h8, if_neg (fun q => c ?_)]
      · exact k3
      · rw [q, hda] at k3
        exact ((nI_eq (by omega) (by omega)).mp k3).symm
