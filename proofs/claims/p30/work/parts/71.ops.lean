/-! THE CALLS THAT CHANGE A SCENE, OR THE PLAN -/
theorem cne_bd (r : Nat → Int32) (v : Int32) : ∀ j : Nat, ∃ c, c ≤ j ∧ cne r v j = nI c ∧ ((∃ k, k < j ∧ ¬ r k = v) → 1 ≤ c) := by
  intro j
  induction j with
  | zero => exact ⟨0, Nat.le_refl 0, rfl, fun ⟨k, hk, _⟩ => absurd hk (Nat.not_lt_zero k)⟩
  | succ j ih =>
    obtain ⟨c, h1, h2, h3⟩ := ih
    by_cases q : r j = v
    · refine ⟨c, by omega, ?_, fun ⟨k, hk, hne⟩ => h3 ⟨k, ?_, hne⟩⟩
      · show cne r v j + (if r j = v then 0 else 1) = nI c
        rw [if_pos q, h2, Int32.add_zero]
      · rcases Nat.lt_or_ge k j with w | w
        · exact w
        · have : k = j := by omega
          rw [this] at hne
          exact absurd q hne
    · refine ⟨c + 1, by omega, ?_, fun _ => by omega⟩
      show cne r v j + (if r j = v then 0 else 1) = nI (c + 1)
      rw [if_neg q, h2, nI_s1]
section OPS1
variable {n np t : Nat} {E μ : Mem} {P : Int32 → Mem → Prop}
theorem s_plays (h : Jv n np t E μ) {a1 a2 a3 : Int32}
    (hp : ∀ a k, a < n → k < 5 → a1 = nI a → a2 = nI k → E 3 0 a = 0 → ¬ a3 < (-1) → a3 ≤ 20 → ∀ (F v : Mem) (r : Int32), Jv n np t F v → (∀ f, f ≠ 5 → F f = E f) → (∃ c, 1 ≤ c ∧ c ≤ 5 ∧ r = nI c) → P r v)
    (hs : ∀ a k, a < n → k < 5 → a1 = nI a → a2 = nI k → ¬ E 3 0 a = 0 → ¬ a3 < (-1) → a3 ≤ 20 → P (-1000003) μ)
    (hi : (∃ a, a < n ∧ a1 = nI a) → (∃ k, k < 5 ∧ a2 = nI k) → ¬ (¬ a3 < (-1) ∧ a3 ≤ 20) → P (-1000002) μ)
    (hx : ¬ ((∃ a, a < n ∧ a1 = nI a) ∧ ∃ k, k < 5 ∧ a2 = nI k) → P (-1000001) μ) : w_L_plays n np P a1 a2 a3 μ := by
  unfold w_L_plays w_X4_plays b_X4_plays_22
  have hn := h.n10
  refine X4_sceneNumbered hn h.told (fun a ha e => ?_) (fun q => Or.inl ⟨rfl, hx (fun w => q w.1)⟩)
  refine X4_requireActor (fun q => ?_) (fun q => Or.inl ⟨rfl, hx (fun w => q w.2)⟩)
  obtain ⟨k, hk, e2⟩ := q
  have hib := hi ⟨a, ha, e⟩ ⟨k, hk, e2⟩
  have hpa := hp a k ha hk e e2
  have hsa := hs a k ha hk e e2
  clear hp hs hi hx
  subst e
  subst e2
  rw [cl (by omega), cl (by omega)]
  refine ⟨fun c => Or.inr (Or.inl ⟨rfl, hib (fun w => w.1 c)⟩), fun c1 => ⟨fun c2 => ⟨pos (by omega), X4_requirePlanned (E := E) ha (h.sc a ha).2.1 (fun c3 => ⟨ha, vin hk (by omega), fun u eu => X2_countActors ha ?_⟩) (fun c3 => Or.inr (Or.inr ⟨rfl, hsa c3 c1 c2⟩))⟩, fun c2 => Or.inr (Or.inl ⟨rfl, hib (fun w => c2 w.2)⟩)⟩⟩
  obtain ⟨F, hF⟩ : ∃ F, F = zst E 5 0 (5 * a + k) a3 := ⟨_, rfl⟩
  have uo : ∀ f, f ≠ 71 → u f = μ f := fun f hf => by rw [eu, zst_o hf]
  have fo : ∀ f, f ≠ 5 → F f = E f := fun f hf => by rw [hF, zst_o hf]
  have f5 : ∀ j, F 5 0 j = if j = 5 * a + k then a3 else E 5 0 j := by
    intro j
    rw [hF, zst_ap]
    by_cases c : j = 5 * a + k <;> simp [c]
  have u71 : ∀ j i, u 71 j i = if j = a ∧ i = k then a3 else μ 71 j i := by
    intro j i
    rw [eu, zst_ap]
    by_cases c : j = a ∧ i = k
    · rw [if_pos c, if_pos ⟨rfl, c⟩]
    · rw [if_neg c, if_neg (fun q => c q.2)]
  have hE : env n np t u F := by
    refine env_scene h.env (fun f hf => uo f (by omega)) (fun j _ => by rw [fo 0 (by omega)]) (fun f _ _ q _ _ => by rw [fo f q]) (fun j hj => ?_) (fun j hj => ?_)
    · obtain ⟨s1, s2, s3, s4, s5⟩ := h.al.1 j hj
      unfold scRel
      rw [uo 70 (by omega), uo 72 (by omega), uo 73 (by omega), fo 1 (by omega), fo 2 (by omega), fo 6 (by omega), fo 7 (by omega)]
      refine ⟨s1, s2, fun i hi => ?_, s4, s5⟩
      rw [u71, f5]
      by_cases c : j = a ∧ i = k
      · rw [if_pos c, if_pos (show 5 * j + i = 5 * a + k by omega)]
      · rw [if_neg c, if_neg (show ¬ 5 * j + i = 5 * a + k by omega)]
        exact s3 i hi
    · exact useOK_of (by rw [fo 6 (by omega)]) (by rw [fo 7 (by omega)]) (h.use j hj)
  have hP : planI n t u F := planI_of h.pl (by rw [uo 32 (by omega)]) (by rw [fo 8 (by omega)]) (by rw [fo 3 (by omega)]) (by rw [fo 4 (by omega)])
  have hJ := Jv_mk hE hP (fun f h1 h2 => by rw [uo f (by omega), h.2.2 f h2, fo f (by omega)])
  obtain ⟨c, b1, b2, b3⟩ := cne_bd (u 71 a) (-2) 5
  refine ⟨_, pu_gs u F, hpa c3 c1 c2 F _ _ hJ fo ⟨c, b3 ⟨k, hk, ?_⟩, b1, b2⟩⟩
  rw [u71, if_pos ⟨rfl, rfl⟩]
  intro q
  rw [q] at c1
  exact c1 (by decide)
def usVal (f g : Int32) : Prop := ∃ q s, q ≤ s ∧ s < 4 ∧ f = nI q ∧ g = nI s
theorem s_uses (h : Jv n np t E μ) {a1 a2 f g : Int32}
    (hp : ∀ a p, a < n → p < 5 → a1 = nI a → a2 = nI p → usVal f g → E 3 0 a = 0 → agP E n a p f g → ∀ (F v : Mem) (r : Int32), Jv n np t F v → (∀ j, j ≠ 6 → j ≠ 7 → F j = E j) → (∀ j, F 6 0 j = if j = 5 * a + p then f else E 6 0 j) → (∀ j, F 7 0 j = if j = 5 * a + p then g else E 7 0 j) → (∃ c, 1 ≤ c ∧ c ≤ 5 ∧ r = nI c) → P r v)
    (hs : ∀ a p, a < n → p < 5 → a1 = nI a → a2 = nI p → usVal f g → (¬ E 3 0 a = 0 ∨ ¬ agP E n a p f g) → P (-1000003) μ)
    (hi : (∃ a, a < n ∧ a1 = nI a) → (∃ k, k < 5 ∧ a2 = nI k) → ¬ usVal f g → P (-1000002) μ)
    (hx : ¬ ((∃ a, a < n ∧ a1 = nI a) ∧ ∃ k, k < 5 ∧ a2 = nI k) → P (-1000001) μ) : w_L_uses n np P a1 a2 f g μ := by
  unfold w_L_uses w_X4_uses b_X4_uses_32
  have hn := h.n10
  refine X4_sceneNumbered hn h.told (fun a ha e => ?_) (fun q => Or.inl ⟨rfl, hx (fun w => q w.1)⟩)
  refine X4_requireProp (fun q => ?_) (fun q => Or.inl ⟨rfl, hx (fun w => q w.2)⟩)
  obtain ⟨p, hp5, e2⟩ := q
  have hib := hi ⟨a, ha, e⟩ ⟨p, hp5, e2⟩
  have hpa := hp a p ha hp5 e e2
  have hsa := hs a p ha hp5 e e2
  clear hp hs hi hx
  subst e
  subst e2
  have x4 : ∀ x : Int32, (4 ≤ x ↔ 3 < x) := fun x => le_lt (m := 3) rfl rfl (by omega)
  have y4 : ∀ x : Int32, (x < 4 ↔ ¬ 3 < x) := fun x => lt_nlt (m := 3) rfl rfl (by omega)
  have no : ¬ usArg f g → ¬ usVal f g := by
    rintro hb ⟨q, s, h1, h2, e1, e2⟩
    refine hb ⟨?_, ?_, ?_, ?_⟩
    · rw [e1]; exact pos (by omega)
    · rw [e1]; exact nI_nlt (a := 3) (by omega) (by omega)
    · rw [e1, e2]; exact nI_nlt h1 (by omega)
    · rw [e2]; exact nI_nlt (a := 3) (by omega) (by omega)
  rw [x4, y4]
  refine ⟨fun c => Or.inr (Or.inl ⟨rfl, hib (no (fun q => q.1 c))⟩), fun c1 => ⟨fun c => Or.inr (Or.inl ⟨rfl, hib (no (fun q => q.2.1 c))⟩), fun c2 => ⟨fun c => Or.inr (Or.inl ⟨rfl, hib (no (fun q => q.2.2.1 c))⟩), fun c3 => ⟨fun c4 => ?_, fun c => Or.inr (Or.inl ⟨rfl, hib (no (fun q => c q.2.2.2))⟩)⟩⟩⟩⟩
  obtain ⟨qf, hqf, ef⟩ := nI_of2 (M := 3) (n := 3) rfl c1 (Int32.not_lt.mp c2)
  have hg0 : ¬ g < 0 := by
    intro q
    exact c3 (Int32.lt_of_lt_of_le q (Int32.not_lt.mp c1))
  obtain ⟨qg, hqg, eg⟩ := nI_of2 (M := 3) (n := 3) rfl hg0 (Int32.not_lt.mp c4)
  have hV : usVal f g := by
    refine ⟨qf, qg, ?_, by omega, ef, eg⟩
    rcases Nat.lt_or_ge qg qf with w | w
    · rw [ef, eg] at c3
      exact absurd (nI_lt w (by omega)) c3
    · exact w
  rw [cl (by omega), cl (by omega)]
  refine ⟨pos (by omega), X4_requirePlanned (E := E) ha (h.sc a ha).2.1 (fun c5 => ?_) (fun c5 => Or.inr (Or.inr ⟨rfl, hsa hV (Or.inl c5)⟩))⟩
  refine X4_agesForwards hn ha hp5 h.al h.sc h.told (fun c6 => ⟨fun _ => ⟨ha, vin hp5 (by omega), fun u0 eu0 u eu => X2_countProps ha ?_⟩, fun q => absurd q z10⟩) (fun c6 => ⟨fun q => absurd rfl q, fun _ => Or.inr (Or.inr ⟨rfl, hsa hV (Or.inr c6)⟩)⟩)
  obtain ⟨F, hF⟩ : ∃ F, F = zst (zst E 6 0 (5 * a + p) f) 7 0 (5 * a + p) g := ⟨_, rfl⟩
  have uo : ∀ f, f ≠ 72 → f ≠ 73 → u f = μ f := fun f h1 h2 => by rw [eu, zst_o h2, eu0, zst_o h1]
  have fo : ∀ j, j ≠ 6 → j ≠ 7 → F j = E j := fun j h1 h2 => by rw [hF, zst_o h2, zst_o h1]
  have f6 : ∀ j, F 6 0 j = if j = 5 * a + p then f else E 6 0 j := by
    intro j
    rw [hF, zst_o (by omega), zst_ap]
    by_cases c : j = 5 * a + p <;> simp [c]
  have f7 : ∀ j, F 7 0 j = if j = 5 * a + p then g else E 7 0 j := by
    intro j
    rw [hF, zst_ap, zst_o (f' := 7) (by omega)]
    by_cases c : j = 5 * a + p <;> simp [c]
  have u72 : ∀ j i, u 72 j i = if j = a ∧ i = p then f else μ 72 j i := by
    intro j i
    rw [eu, zst_o (by omega), eu0, zst_ap]
    by_cases c : j = a ∧ i = p
    · rw [if_pos c, if_pos ⟨rfl, c⟩]
    · rw [if_neg c, if_neg (fun q => c q.2)]
  have u73 : ∀ j i, u 73 j i = if j = a ∧ i = p then g else μ 73 j i := by
    intro j i
    rw [eu, zst_ap, eu0, zst_o (f' := 73) (by omega)]
    by_cases c : j = a ∧ i = p
    · rw [if_pos c, if_pos ⟨rfl, c⟩]
    · rw [if_neg c, if_neg (fun q => c q.2)]
  have hE : env n np t u F := by
    refine env_scene h.env (fun f hf => uo f (by omega) (by omega)) (fun j _ => by rw [fo 0 (by omega) (by omega)]) (fun f _ _ _ q1 q2 => by rw [fo f q1 q2]) (fun j hj => ?_) (fun j hj => ?_)
    · obtain ⟨s1, s2, s3, s4, s5⟩ := h.al.1 j hj
      unfold scRel
      rw [uo 70 (by omega) (by omega), uo 71 (by omega) (by omega), fo 1 (by omega) (by omega), fo 2 (by omega) (by omega), fo 5 (by omega) (by omega)]
      refine ⟨s1, s2, s3, fun i hi => ?_, fun i hi c => ?_⟩
      · rw [u72, f6]
        by_cases c : j = a ∧ i = p
        · rw [if_pos c, if_pos (show 5 * j + i = 5 * a + p by omega)]
        · rw [if_neg c, if_neg (show ¬ 5 * j + i = 5 * a + p by omega)]
          exact s4 i hi
      · rw [f6] at c
        rw [u73, f7]
        by_cases w : j = a ∧ i = p
        · rw [if_pos w, if_pos (show 5 * j + i = 5 * a + p by omega)]
        · rw [if_neg (show ¬ 5 * j + i = 5 * a + p by omega)] at c
          rw [if_neg w, if_neg (show ¬ 5 * j + i = 5 * a + p by omega)]
          exact s5 i hi c
    · intro i hi
      rw [f6, f7]
      by_cases c : 5 * j + i = 5 * a + p
      · rw [if_pos c, if_pos c]
        exact Or.inr ⟨qf, qg, by omega, by omega, ef, eg⟩
      · rw [if_neg c, if_neg c]
        exact h.use j hj i hi
  have hP : planI n t u F := planI_of h.pl (by rw [uo 32 (by omega) (by omega)]) (by rw [fo 8 (by omega) (by omega)]) (by rw [fo 3 (by omega) (by omega)]) (by rw [fo 4 (by omega) (by omega)])
  have hJ := Jv_mk hE hP (fun f h1 h2 => by rw [uo f (by omega) (by omega), h.2.2 f h2, fo f (by omega) (by omega)])
  obtain ⟨c, b1, b2, b3⟩ := cne_bd (u 72 a) (-1) 5
  refine ⟨_, pu_gs u F, hpa hV c5 c6 F _ _ hJ fo f6 f7 ⟨c, b3 ⟨p, hp5, ?_⟩, b1, b2⟩⟩
  rw [u72, if_pos ⟨rfl, rfl⟩, ef]
  exact nI_neg1 (by omega)
theorem s_cut (h : Jv n np t E μ) {a1 : Int32}
    (hp : ∀ a d, a < n → d < 30 → a1 = nI a → E 3 0 a = 0 → E 4 0 a = nI d → E 8 0 d = nI a → ∀ F v : Mem, Jv n np t F v → (∀ f, f ≠ 3 → f ≠ 8 → F f = E f) → (∀ k, F 3 0 k = if k = a then 2 else E 3 0 k) → (∀ k, F 8 0 k = if k = d then -1 else E 8 0 k) → P (nI d) v)
    (hs : ∀ a, a < n → a1 = nI a → ¬ E 3 0 a = 0 → P (-1000003) μ) (hx : (¬ ∃ a, a < n ∧ a1 = nI a) → P (-1000001) μ) : w_L_cut n np P a1 μ := by
  unfold w_L_cut w_X4_cut
  have hn := h.n10
  have hpl := h.pl
  refine X4_sceneNumbered hn h.told (fun a ha e => ?_) (fun q => Or.inl ⟨rfl, hx q⟩)
  have hpa := fun d hd => hp a d ha hd e
  have hsa := hs a ha e
  clear hp hs hx
  subst e
  rw [cl (by omega)]
  refine ⟨pos (by omega), X4_requirePlanned (E := E) ha (h.sc a ha).2.1 (fun c => ?_) (fun c => Or.inr ⟨rfl, hsa c⟩)⟩
  refine X4_plannedDay hn ha (planI_cls hpl) (fun d hd ed => ?_) (fun hno => ?_)
  · rw [hpl.1 d hd] at ed
    have e4 := (hpl.2.2.2.1 d a hd ha ed).2
    unfold w_X4_put
    rw [cl (by omega)]
    refine ⟨fun q => absurd q (pos (by omega)), fun _ => ⟨fun q => absurd ((le30 (k := d) (by omega)).mp q) (by omega), fun _ => ⟨vin hd (by omega), fun q => absurd neg1 q, fun u eu => ⟨ha, fun u2 eu2 => ?_⟩⟩⟩⟩
    obtain ⟨F, hF⟩ : ∃ F, F = zst (zst E 3 0 a 2) 8 0 d (-1) := ⟨_, rfl⟩
    have f3 : ∀ k, F 3 0 k = if k = a then 2 else E 3 0 k := by
      intro k
      rw [hF, zst_o (by omega), zst_ap]
      by_cases w : k = a <;> simp [w]
    have f8 : ∀ k, F 8 0 k = if k = d then -1 else E 8 0 k := by
      intro k
      rw [hF, zst_ap, zst_o (f' := 8) (by omega)]
      by_cases w : k = d <;> simp [w]
    have fo : ∀ f, f ≠ 3 → f ≠ 8 → F f = E f := fun f h1 h2 => by rw [hF, zst_o h2, zst_o h1]
    have uo : ∀ f, f ≠ 32 → f ≠ 70 → u2 f = μ f := fun f h1 h2 => by rw [eu2, zst_o h2, eu, zst_o h1]
    have u70 : ∀ j i, u2 70 j i = if j = a ∧ i = 6 then 2 else μ 70 j i := by
      intro j i
      rw [eu2, zst_ap, eu, zst_o (f' := 70) (by omega)]
      by_cases w : j = a ∧ i = 6
      · rw [if_pos w, if_pos ⟨rfl, w⟩]
      · rw [if_neg w, if_neg (fun q => w q.2)]
    have u32 : ∀ k, u2 32 0 k = if k = d then -1 else μ 32 0 k := by
      intro k
      rw [eu2, zst_o (by omega), eu, zst_ap]
      by_cases w : k = d <;> simp [w]
    have hsc2 : scOK n u2 F := scOK_set (a := a) (s := 2) (d := 0) h.sc (Or.inr rfl) (fun j i => by rw [u70, if_neg (show ¬ (j = a ∧ i = 7 ∧ (2 : Int32) = 1) from fun q => absurd q.2.2 (by decide))]) f3 (by rw [fo 4 (by omega) (by omega)]) (fun q => absurd q (by decide)) (by rw [fo 6 (by omega) (by omega)]) (by rw [fo 7 (by omega) (by omega)])
    have hE : env n np t u2 F := env_state h.env (fun f hf => uo f (by omega) (by omega)) (fun j i hi => by rw [u70, if_neg (by omega)]) (fun k _ => by rw [fo 0 (by omega) (by omega)]) (fun f _ _ q1 _ q2 => by rw [fo f q1 q2]) hsc2
    have hP : planI n t u2 F := planI_drop hn hd ha (v := 2) (by decide) ed hpl u32 f8 f3 (fun k _ => by rw [fo 4 (by omega) (by omega)])
    exact ⟨_, pu_gs u2 F, hpa d hd c e4 ed F _ (Jv_mk hE hP (fun f h1 h2 => by rw [uo f (by omega) (by omega), h.2.2 f h2, fo f (by omega) (by omega)])) fo f3 f8⟩
  · obtain ⟨d, -, hd, e⟩ := hpl.2.2.2.2 a ha c
    exact absurd ((hpl.1 d hd).trans e) (hno d hd)
/-- the cost reads neither states nor days nor the plan's row -/
theorem costF_gh {F : Mem} {Q : Nat → Int32} (h : ∀ f, f ≠ 3 → f ≠ 4 → f ≠ 8 → F f = E f) : costF F np t Q = costF E np t Q := costF_of (by rw [h 0 (by omega) (by omega) (by omega)]) (fun f _ _ q8 q4 q3 => by rw [h f q3 q4 q8])
theorem s_swap (h : Jv n np t E μ) {a1 a2 : Int32}
    (hp : ∀ i j, (t ≤ i ∧ i < 30) → (t ≤ j ∧ j < 30) → a1 = nI i → a2 = nI j → ∀ F v : Mem, Jv n np t F v → (∀ f, f ≠ 4 → f ≠ 8 → F f = E f) → F 8 0 = pswap (E 8 0) i j → (∀ a, F 4 0 a = dswap (E 8 0) (E 4 0) i j a) → P (costF E np t (pswap (E 8 0) i j)) v)
    (hx : ¬ ((∃ i, t ≤ i ∧ i < 30 ∧ a1 = nI i) ∧ ∃ i, t ≤ i ∧ i < 30 ∧ a2 = nI i) → P (-1000002) μ) : w_L_swap n np P a1 a2 μ := by
  unfold w_L_swap w_X4_swap b_X4_swap_28
  have hn := h.n10
  have ht := h.t30
  have hpl := h.pl
  rw [h.env.2.2.1.2.2.1]
  refine ⟨fun c => ⟨rfl, hx (fun q => ?_)⟩, fun c1 => ⟨fun c => ⟨rfl, hx (fun q => ?_)⟩, fun c2 => ⟨fun c => ⟨rfl, hx (fun q => ?_)⟩, fun c3 => ⟨fun c4 => ?_, fun c => ⟨rfl, hx (fun q => ?_)⟩⟩⟩⟩⟩
  · obtain ⟨⟨i, i1, i2, e⟩, -⟩ := q
    rw [e] at c
    exact (rng_out ⟨i1, i2⟩).1 c
  · obtain ⟨⟨i, i1, i2, e⟩, -⟩ := q
    rw [e] at c
    exact (rng_out ⟨i1, i2⟩).2.2 c
  · obtain ⟨-, ⟨i, i1, i2, e⟩⟩ := q
    rw [e] at c
    exact (rng_out ⟨i1, i2⟩).1 c
  · obtain ⟨i, i1, i2, ei⟩ := rng_in ht c1 (Int32.not_le.mp c2)
    obtain ⟨j, j1, j2, ej⟩ := rng_in ht c3 c4
    have hpp := hp i j ⟨i1, i2⟩ ⟨j1, j2⟩ ei ej
    clear hp hx
    subst ei
    subst ej
    refine X4_swapDays2 hn hpl i2 j2 (fun u u1 u2 => ?_)
    obtain ⟨F, hF⟩ : ∃ F, F = zcp (zcp E 8 0 (pswap (E 8 0) i j)) 4 0 (dswap (E 8 0) (E 4 0) i j) := ⟨_, rfl⟩
    have fo : ∀ f, f ≠ 4 → f ≠ 8 → F f = E f := fun f h1 h2 => by rw [hF, zcp_o h1, zcp_o h2]
    have f8 : F 8 0 = pswap (E 8 0) i j := by rw [hF, zcp_o (by omega)]; exact zcp_at
    have f4 : F 4 0 = dswap (E 8 0) (E 4 0) i j := by rw [hF]; exact zcp_at
    have hE : env n np t u F := env_plan h.env u1 (fun k _ => by rw [fo 0 (by omega) (by omega)]) (fun f _ _ q8 q4 => by rw [fo f q4 q8]) (fun a ha q => by rw [f4]; exact dswap_shot i2 j2 hpl ha q)
    have hP : planI n t u F := planI_swap hn ⟨i1, i2⟩ ⟨j1, j2⟩ hpl u2 f8 (by rw [fo 3 (by omega) (by omega)]) (fun a _ => by rw [f4])
    have hJ := Jv_mk hE hP (fun f h1 h2 => by rw [u1 f (by omega), h.2.2 f h2, fo f (by omega) (by omega)])
    refine cost_cls hE (fun d hd => hP.1 d hd) hP.2.1 (fun g c x => ?_)
    rw [f8, costF_gh (E := E) (fun f _ h2 h3 => fo f h2 h3)]
    refine ⟨pu (tri 1 u g c x) F, pu_gs _ F, hpp F _ (Jv_mk (env_mv hE (same_tri u g c x).c (rsame.rf F)) (planI_mv hP (same_tri u g c x).c (rsame.rf F)) (fun f h1 h2 => ?_)) fo f8 (fun a => by rw [f4])⟩
    rw [show tri 1 u g c x f = u f from by funext i; exact tri_o i (by omega) (by omega) (by omega), u1 f (by omega), h.2.2 f h2, fo f (by omega) (by omega)]
  · obtain ⟨-, ⟨i, i1, i2, e⟩⟩ := q
    rw [e] at c
    exact c (rng_out ⟨i1, i2⟩).2.1
end OPS1
