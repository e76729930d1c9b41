/-! A BEARD IS TOLD; COPIES ARE CLEARED -/
theorem env_scene {n np t : Nat} {μ E u F : Mem} (h : env n np t μ E) (hu : ∀ f, (f = 30 ∨ f = 31 ∨ f = 33 ∨ f = 34 ∨ f = 40 ∨ f = 42 ∨ f = 43 ∨ f = 62 ∨ f = 70 ∨ f = 80) → u f = μ f) (h0 : ∀ k, k ≠ 25 → F 0 0 k = E 0 0 k) (hf : ∀ f, 1 ≤ f → f ≤ 16 → f ≠ 5 → f ≠ 6 → f ≠ 7 → F f 0 = E f 0) (hr : ∀ a, a < n → scRel u F a) (huse : ∀ a, a < n → useOK F a) : env n np t u F := by
  obtain ⟨b, -, ⟨m7, m8, m9, m10⟩, hal, hst, hg, hsk, hsc, -, hzz⟩ := id h
  have hf' : ∀ f, (f = 1 ∨ f = 2 ∨ f = 3 ∨ f = 4 ∨ f = 8 ∨ (9 ≤ f ∧ f ≤ 16)) → F f 0 = E f 0 := fun f h => hf f (by omega) (by omega) (by omega) (by omega) (by omega)
  refine env_build h (fun k _ => by rw [hu 30 (by omega)]) (by rw [hu 30 (by omega), h0 1 (by omega)]; exact m10) (fun k hk => h0 k (by omega)) ?_ (stRel_mv hst (by rw [hu 42 (by omega)]) (fun p _ => by rw [hu 43 (by omega)]) (by rw [hu 40 (by omega)]) ⟨hf' 15 (by omega), hf' 16 (by omega), h0 2 (by omega)⟩) (by rw [hf' 15 (by omega)]; exact hg) (by rw [hf' 16 (by omega)]; exact hsk) ?_ (by rw [hu 31 (by omega)]) (by rw [hu 62 (by omega)]) (fun j a b => by rw [hf' 13 (by omega)]; exact hzz.2 j a b)
  · obtain ⟨h1, h2, h3, h4⟩ := hal
    refine ⟨hr, fun k hk => ?_, fun j hj => ?_, fun j d hj hd => ?_⟩
    · rw [hu 33 (by omega)]; exact h2 k hk
    · unfold pmRel
      rw [hu 80 (by omega), hf' 9 (by omega), hf' 10 (by omega), hf' 11 (by omega), hf' 12 (by omega), hf' 13 (by omega)]
      exact h3 j hj
    · rw [hu 34 (by omega), hf' 14 (by omega)]; exact h4 j d hj hd
  · intro a ha
    obtain ⟨q1, q2, q3, q4, q5⟩ := hsc a ha
    rw [hu 70 (by omega), hf' 3 (by omega), hf' 4 (by omega)]
    exact ⟨q1, q2, q3, q4, huse a ha⟩
/-- how many of five are not v -/
def cne (r : Nat → Int32) (v : Int32) : Nat → Int32
  | 0 => 0
  | k + 1 => cne r v k + (if r k = v then 0 else 1)
theorem cne_congr {r r' : Nat → Int32} {v : Int32} : ∀ j : Nat, (∀ s, s < j → r s = r' s) → cne r v j = cne r' v j := by
  intro j
  induction j with
  | zero => intro _; rfl
  | succ j ih =>
    intro h
    show cne r v j + _ = cne r' v j + _
    rw [ih (fun s hs => h s (by omega)), h j (by omega)]
theorem X2_countActors {n np a : Nat} {post : Int32 → Mem → Prop} {μ : Mem} (ha : a < n) (h : post (cne (μ 71 a) (-2) 5) μ) : w_X2_countActors n np post a μ := by
  have loop : ∀ m j : Nat, j + m = 5 → l_X2_countActors_13 n np post a (m + 1) (cne (μ 71 a) (-2) j) 5 (nI j) μ := by
    intro m
    induction m with
    | zero =>
      intro j hj
      have e : j = 5 := by omega
      subst e
      show lb_X2_countActors_13 n np post _ _ _ _ _ _
      unfold lb_X2_countActors_13
      exact ⟨fun _ => h, fun c => absurd (by decide) c⟩
    | succ m ih =>
      intro j hj
      show lb_X2_countActors_13 n np post (l_X2_countActors_13 n np post a (m + 1)) _ _ _ _ _
      unfold lb_X2_countActors_13 b_X2_countActors_38
      rw [nI_s1, cl (by omega)]
      have ihj := ih (j + 1) (by omega)
      refine ⟨fun c => absurd ((le5 (k := j) (by omega)).mp c) (by omega), fun _ => ⟨ha, vin (by omega) (by omega), fun c => ?_, fun c => ?_⟩⟩
      · unfold cne at ihj
        rw [if_neg c] at ihj
        exact ihj
      · unfold cne at ihj
        rw [if_pos c] at ihj
        exact ihj
  exact ⟨ha, 6, loop 5 0 rfl⟩
theorem X2_countProps {n np a : Nat} {post : Int32 → Mem → Prop} {μ : Mem} (ha : a < n) (h : post (cne (μ 72 a) (-1) 5) μ) : w_X2_countProps n np post a μ := by
  have loop : ∀ m j : Nat, j + m = 5 → l_X2_countProps_13 n np post a (m + 1) (cne (μ 72 a) (-1) j) 5 (nI j) μ := by
    intro m
    induction m with
    | zero =>
      intro j hj
      have e : j = 5 := by omega
      subst e
      show lb_X2_countProps_13 n np post _ _ _ _ _ _
      unfold lb_X2_countProps_13
      exact ⟨fun _ => h, fun c => absurd (by decide) c⟩
    | succ m ih =>
      intro j hj
      show lb_X2_countProps_13 n np post (l_X2_countProps_13 n np post a (m + 1)) _ _ _ _ _
      unfold lb_X2_countProps_13 b_X2_countProps_37
      rw [nI_s1, cl (by omega)]
      have ihj := ih (j + 1) (by omega)
      refine ⟨fun c => absurd ((le5 (k := j) (by omega)).mp c) (by omega), fun _ => ⟨ha, vin (by omega) (by omega), fun c => ?_, fun c => ?_⟩⟩
      · unfold cne at ihj
        rw [if_neg c] at ihj
        exact ihj
      · unfold cne at ihj
        rw [if_pos c] at ihj
        exact ihj
  exact ⟨ha, 6, loop 5 0 rfl⟩
