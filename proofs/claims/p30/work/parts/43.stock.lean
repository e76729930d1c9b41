/-! COPIES: buy, clear, mishap -/
theorem planI_of {n t : Nat} {μ E u F : Mem} (h : planI n t μ E) (h32 : u 32 0 = μ 32 0) (h8 : F 8 0 = E 8 0) (h3 : F 3 0 = E 3 0) (h4 : F 4 0 = E 4 0) : planI n t u F := by
  unfold planI
  rw [h32, h8, h3, h4]
  exact h
theorem env_stock {n np t : Nat} {μ E u F : Mem} (h : env n np t μ E) (hu : ∀ f, (f = 31 ∨ f = 33 ∨ f = 34 ∨ f = 40 ∨ f = 42 ∨ f = 62 ∨ f = 70 ∨ f = 71 ∨ f = 72 ∨ f = 73 ∨ f = 80) → u f = μ f) (h30 : u 30 0 7 = μ 30 0 7 ∧ u 30 0 8 = μ 30 0 8 ∧ u 30 0 9 = μ 30 0 9) (hpaid : u 30 0 10 = F 0 0 1) (h0 : F 0 0 0 = E 0 0 0 ∧ F 0 0 2 = E 0 0 2 ∧ F 0 0 3 = E 0 0 3 ∧ F 0 0 12 = E 0 0 12) (hf : ∀ f, 1 ≤ f → f ≤ 15 → F f 0 = E f 0) (hst : eq45 (fun p => u 43 p) (fun p s => F 16 0 (4 * p + s))) (hsk : sok (fun p s => F 16 0 (4 * p + s)) (20 + t)) : env n np t u F := by
  obtain ⟨b, ⟨e0, e3, e12⟩, ⟨m7, m8, m9, m10⟩, hal, ⟨st1, st2, st3⟩, hg, -, hsc, htold, hz⟩ := h
  refine ⟨b, ⟨by rw [h0.1]; exact e0, by rw [h0.2.2.1]; exact e3, by rw [h0.2.2.2]; exact e12⟩, ⟨by rw [h30.1]; exact m7, by rw [h30.2.1]; exact m8, by rw [h30.2.2]; exact m9, hpaid⟩, ?_, ⟨?_, hst, ?_⟩, ?_, hsk, ?_, ?_, ?_⟩
  · obtain ⟨h1, h2, h3, h4⟩ := hal
    refine ⟨fun a ha => ?_, fun k hk => ?_, fun k hk => ?_, fun k d hk hd => ?_⟩
    · unfold scRel
      rw [hu 70 (by omega), hu 71 (by omega), hu 72 (by omega), hu 73 (by omega), hf 1 (by omega) (by omega), hf 2 (by omega) (by omega), hf 5 (by omega) (by omega), hf 6 (by omega) (by omega), hf 7 (by omega) (by omega)]
      exact h1 a ha
    · rw [hu 33 (by omega)]; exact h2 k hk
    · unfold pmRel
      rw [hu 80 (by omega), hf 9 (by omega) (by omega), hf 10 (by omega) (by omega), hf 11 (by omega) (by omega), hf 12 (by omega) (by omega), hf 13 (by omega) (by omega)]
      exact h3 k hk
    · rw [hu 34 (by omega), hf 14 (by omega) (by omega)]; exact h4 k d hk hd
  · rw [hu 42 (by omega), hf 15 (by omega) (by omega)]; exact st1
  · rw [hu 40 (by omega), h0.2.1]; exact st3
  · rw [hf 15 (by omega) (by omega)]; exact hg
  · intro a ha
    obtain ⟨q1, q2, q3, q4, q5⟩ := hsc a ha
    rw [hu 70 (by omega), hf 3 (by omega) (by omega), hf 4 (by omega) (by omega)]
    exact ⟨q1, q2, q3, q4, useOK_of (hf 6 (by omega) (by omega)) (hf 7 (by omega) (by omega)) q5⟩
  · rw [hu 31 (by omega)]; exact htold
  · rw [hu 62 (by omega)]
    refine ⟨hz.1, ?_⟩
    unfold revOK
    rw [hf 13 (by omega) (by omega)]
    exact hz.2
def csm (r : Nat → Int32) : Nat → Int32
  | 0 => 0
  | k + 1 => csm r k + r k
theorem csm_congr {r r' : Nat → Int32} : ∀ j : Nat, (∀ s, s < j → r s = r' s) → csm r j = csm r' j := by
  intro j
  induction j with
  | zero => intro _; rfl
  | succ j ih =>
    intro h
    show csm r j + r j = csm r' j + r' j
    rw [ih (fun s hs => h s (by omega)), h j (by omega)]
theorem csm_X {r : Nat → Int32} {X : Nat → Nat} (h : ∀ s, s < 4 → r s = nI (X s)) : csm r 4 = nI (X 0 + X 1 + X 2 + X 3) := by
  show (((0 + r 0) + r 1) + r 2) + r 3 = _
  rw [h 0 (by omega), h 1 (by omega), h 2 (by omega), h 3 (by omega), show (0 : Int32) = nI 0 from rfl, nI_add, nI_add, nI_add, nI_add, Nat.zero_add]
theorem X3_countCopies {n np p : Nat} {post : Int32 → Mem → Prop} {μ : Mem} (hp : p < 5) (h : post (csm (μ 43 p) 4) μ) : w_X3_countCopies n np post 0 (nI p) μ := by
  have loop : ∀ m j : Nat, j + m = 4 → l_X3_countCopies_4 n np post 0 (nI p) (m + 1) (csm (μ 43 p) j) (nI j) μ := by
    intro m
    induction m with
    | zero =>
      intro j hj
      have e : j = 4 := by omega
      subst e
      show lb_X3_countCopies_4 n np post _ _ _ _ _ _
      unfold lb_X3_countCopies_4
      exact ⟨fun _ => h, fun c => absurd (by decide) c⟩
    | succ m ih =>
      intro j hj
      show lb_X3_countCopies_4 n np post (l_X3_countCopies_4 n np post 0 (nI p) (m + 1)) _ _ _ _ _
      unfold lb_X3_countCopies_4
      rw [nI_s1, cl (by omega), cl (by omega), show 5 * 0 + p = p by omega]
      exact ⟨fun c => absurd ((le4 (k := j) (by omega)).mp c) (by omega), fun _ => ⟨by omega, vin hp (by omega), by omega, vin (by omega) (by omega), ih (j + 1) (by omega)⟩⟩
  exact ⟨5, loop 4 0 rfl⟩
/-- a row of copies changes -/
theorem sok_row {E : Nat → Int32} {F : Nat → Int32} {p M : Nat} (h : sok (fun p s => E (4 * p + s)) M) (ho : ∀ q s, q < 5 → s < 4 → q ≠ p → F (4 * q + s) = E (4 * q + s)) (hp : sokr (fun s => F (4 * p + s)) M) : sok (fun p s => F (4 * p + s)) M := by
  intro q hq
  by_cases c : q = p
  · subst c
    exact hp
  · obtain ⟨X, h1, h2⟩ := h q hq
    exact ⟨X, fun s hs => (ho q s hq hs c).trans (h1 s hs), h2⟩
theorem ix40 (p : Nat) : (4 : Int32) * nI p = nI (4 * p) := by
  rw [show (4 : Int32) = nI 4 from rfl, nI_mul]
