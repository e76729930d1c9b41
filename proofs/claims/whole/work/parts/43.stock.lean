/-! COPIES: buy, clear, mishap -/
theorem planI_of {n t : Nat} {μ E u F : Mem} (h : planI n t μ E) (h32 : u 32 0 = μ 32 0) (h8 : F 8 0 = E 8 0) (h3 : F 3 0 = E 3 0) (h4 : F 4 0 = E 4 0) : planI n t u F := by
  unfold planI
  rw [h32, h8, h3, h4]
  exact h
theorem env_stock {n np t : Nat} {μ E u F : Mem} (h : env n np t μ E) (hu : ∀ f, (f = 31 ∨ f = 33 ∨ f = 34 ∨ f = 40 ∨ f = 42 ∨ f = 62 ∨ f = 70 ∨ f = 71 ∨ f = 72 ∨ f = 73 ∨ f = 80) → u f = μ f) (h30 : u 30 0 7 = μ 30 0 7 ∧ u 30 0 8 = μ 30 0 8 ∧ u 30 0 9 = μ 30 0 9) (hpaid : u 30 0 10 = F 0 0 1) (h0 : F 0 0 0 = E 0 0 0 ∧ F 0 0 2 = E 0 0 2 ∧ F 0 0 3 = E 0 0 3 ∧ F 0 0 12 = E 0 0 12) (hf : ∀ f, 1 ≤ f → f ≤ 15 → F f 0 = E f 0) (hst : eq45 (fun p => u 43 p) (fun p s => F 16 0 (4 * p + s))) (hsk : sok (fun p s => F 16 0 (4 * p + s)) (20 + t)) : env n np t u F := by
  obtain ⟨b, ⟨e0, e3, e12⟩, ⟨m7, m8, m9, m10⟩, hal, ⟨st1, st2, st3⟩, hg, -, hsc, htold, hz⟩ := h
  refine ⟨b, ⟨by rw [h0.1]; exact e0, by rw [h0.2.2.1]; exact e3, by rw [h0.2.2.2]; exact e12⟩, ⟨by rw [h30.1]; exact m7, by rw [h30.2.1]; exact m8, by rw [h30.2.2]; exact m9, hpaid⟩, ?_, ⟨?_, hst, ?_⟩, ?_, hsk, ?_, ?_, ?_⟩
  · obtain ⟨h1, h2, h3, h4⟩ := hal
    refine ⟨fun a ha => ?_, fun k hk => ?_, fun k hk => ?_, fun k d hk hd => ?_⟩
    · unfold scRel
      rw [hu 70 (by omega), hu 71 (by omega), hu 72 (by omega), hu 73 (by omega), hf 1 (by omega) (by omega), hf 2 (by omega) (by omega), hf 5 (by omega) (by omega), hf 6 (by omega) (by omega), hf 7 (by omega) (by omega)]
      exact h1 a ha
    · rw [hu 33 (by omega)]; exact h2 k hk
    · unfold pmRel
      rw [hu 80 (by omega), hf 9 (by omega) (by omega), hf 10 (by omega) (by omega), hf 11 (by omega) (by omega), hf 12 (by omega) (by omega), hf 13 (by omega) (by omega)]
      exact h3 k hk
    · rw [hu 34 (by omega), hf 14 (by omega) (by omega)]; exact h4 k d hk hd
  · rw [hu 42 (by omega), hf 15 (by omega) (by omega)]; exact st1
  · rw [hu 40 (by omega), h0.2.1]; exact st3
  · rw [hf 15 (by omega) (by omega)]; exact hg
  · intro a ha
    obtain ⟨q1, q2, q3, q4, q5⟩ := hsc a ha
    rw [hu 70 (by omega), hf 3 (by omega) (by omega), hf 4 (by omega) (by omega)]
    exact ⟨q1, q2, q3, q4, useOK_of (hf 6 (by omega) (by omega)) (hf 7 (by omega) (by omega)) q5⟩
  · rw [hu 31 (by omega)]; exact htold
  · rw [hu 62 (by omega)]
    refine ⟨hz.1, ?_⟩
    unfold revOK
    rw [hf 13 (by omega) (by omega)]
    exact hz.2
def csm (r : Nat → Int32) : Nat → Int32
  | 0 => 0
  | k + 1 => csm r k + r k
theorem csm_congr {r r' : Nat → Int32} : ∀ j : Nat, (∀ s, s < j → r s = r' s) → csm r j = csm r' j := by
  intro j
  induction j with
  | zero => intro _; rfl
  | succ j ih =>
    intro h
    show csm r j + r j = csm r' j + r' j
    rw [ih (fun s hs => h s (by omega)), h j (by omega)]
theorem csm_X {r : Nat → Int32} {X : Nat → Nat} (h : ∀ s, s < 4 → r s = nI (X s)) : csm r 4 = nI (X 0 + X 1 + X 2 + X 3) := by
  show (((0 + r 0) + r 1) + r 2) + r 3 = _
  rw [h 0 (by omega), h 1 (by omega), h 2 (by omega), h 3 (by omega), show (0 : Int32) = nI 0 from rfl, nI_add, nI_add, nI_add, nI_add, Nat.zero_add]
theorem X3_countCopies {n np p : Nat} {post : Int32 → Mem → Prop} {μ : Mem} (hp : p < 5) (h : post (csm (μ 43 p) 4) μ) : w_X3_countCopies n np post 0 (nI p) μ := by
  have loop : ∀ m j : Nat, j + m = 4 → l_X3_countCopies_4 n np post 0 (nI p) (m + 1) (csm (μ 43 p) j) (nI j) μ := by
    intro m
    induction m with
    | zero =>
      intro j hj
      have e : j = 4 := by omega
      subst e
      show lb_X3_countCopies_4 n np post _ _ _ _ _ _
      unfold lb_X3_countCopies_4
      exact ⟨fun _ => h, fun c => absurd (by decide) c⟩
    | succ m ih =>
      intro j hj
      show lb_X3_countCopies_4 n np post (l_X3_countCopies_4 n np post 0 (nI p) (m + 1)) _ _ _ _ _
      unfold lb_X3_countCopies_4
      rw [nI_s1, cl (by omega), cl (by omega), show 5 * 0 + p = p by omega]
      exact ⟨fun c => absurd ((le4 (k := j) (by omega)).mp c) (by omega), fun _ => ⟨by omega, vin hp (by omega), by omega, vin (by omega) (by omega), ih (j + 1) (by omega)⟩⟩
  exact ⟨5, loop 4 0 rfl⟩
theorem X5_allOf {p : Nat} {post : Int32 → Mem → Prop} {μ : Mem} (hp : p < 5) (h : post (csm (fun s => μ 16 0 (4 * p + s)) 4) μ) : w_X5_allOf post (nI p) μ := by
  have loop : ∀ m j : Nat, j + m = 4 → l_X5_allOf_4 post (nI p) (m + 1) (csm (fun s => μ 16 0 (4 * p + s)) j) (nI j) μ := by
    intro m
    induction m with
    | zero =>
      intro j hj
      have e : j = 4 := by omega
      subst e
      show lb_X5_allOf_4 post _ _ _ _ _
      unfold lb_X5_allOf_4
      exact ⟨fun _ => h, fun c => absurd (by decide) c⟩
    | succ m ih =>
      intro j hj
      show lb_X5_allOf_4 post (l_X5_allOf_4 post (nI p) (m + 1)) _ _ _ _
      unfold lb_X5_allOf_4
      rw [nI_s1, ix4, cl (by omega)]
      exact ⟨fun c => absurd ((le4 (k := j) (by omega)).mp c) (by omega), fun _ => ⟨vin (by omega) (by omega), ih (j + 1) (by omega)⟩⟩
  exact ⟨5, loop 4 0 rfl⟩
/-- a row of copies changes -/
theorem sok_row {E : Nat → Int32} {F : Nat → Int32} {p M : Nat} (h : sok (fun p s => E (4 * p + s)) M) (ho : ∀ q s, q < 5 → s < 4 → q ≠ p → F (4 * q + s) = E (4 * q + s)) (hp : sokr (fun s => F (4 * p + s)) M) : sok (fun p s => F (4 * p + s)) M := by
  intro q hq
  by_cases c : q = p
  · subst c
    exact hp
  · obtain ⟨X, h1, h2⟩ := h q hq
    exact ⟨X, fun s hs => (ho q s hq hs c).trans (h1 s hs), h2⟩
theorem ix40 (p : Nat) : (4 : Int32) * nI p = nI (4 * p) := by
  rw [show (4 : Int32) = nI 4 from rfl, nI_mul]
theorem o_buy : ob_buy Inv := by
  intro n np μ a1 hI
  obtain ⟨t, he, hpl⟩ := id hI
  obtain ⟨⟨hn, hnp, ht⟩, ⟨e0, e3, e12⟩, ⟨m7, m8, m9, m10⟩, hal, hst, hg, hsk, hsc, htold, hz⟩ := id he
  unfold w_L_buy w_X4_buy
  refine X4_requireProp (fun h => ?_) (fun h => Or.inl ⟨rfl, ?_⟩)
  · obtain ⟨p, hp, e⟩ := h
    subst e
    obtain ⟨X, hX, hS⟩ := hsk p hp
    have hc : csm (μ 43 p) 4 = nI (X 0 + X 1 + X 2 + X 3) := csm_X (fun s hs => (hst.2.1 p s hp hs).trans (hX s hs))
    have hc5 : csm (fun s => μ 16 0 (4 * p + s)) 4 = nI (X 0 + X 1 + X 2 + X 3) := csm_X hX
    generalize hSS : X 0 + X 1 + X 2 + X 3 = S at hc hc5 hS
    refine X3_countCopies hp ?_
    rw [hc]
    refine ⟨fun c => ⟨vin hp (by omega), ?_⟩, fun c => Or.inr ⟨rfl, ?_⟩⟩
    · have hS20 : S < 20 := (lt_lit 20 rfl (by omega) rfl (by omega)).mp c
      rw [cl (by omega), show 5 * 0 + p = p by omega, show (0 : Int32).toNatClampNeg = 0 from rfl]
      refine ⟨by omega, fun u eu u2 eu2 => ?_⟩
      show w_X5_buy (fun (b : Int32) (u2 : Mem) => w_X5_thrown (oT Inv n np 0 b) u2) (nI p) (zst u2 21 0 0 (nI S + 1))
      unfold w_X5_buy b_X5_buy_26
      generalize hw : zst u2 21 0 0 (nI S + 1) = w
      have w16 : w 16 = μ 16 := by
        rw [← hw, eu2, eu]
        repeat rw [zst_o (by omega)]
      refine X5_isProp (fun _ _ _ => ⟨fun q => absurd q z10, fun _ => X5_allOf hp ?_⟩) (fun q => absurd ⟨p, hp, rfl⟩ q)
      rw [w16, hc5]
      refine ⟨fun q => absurd ((le20 (k := S) (by omega)).mp q) (by omega), fun _ => X5_goes0 rfl rfl rfl ⟨fun _ => ?_, fun q => absurd q z10⟩⟩
      rw [ix40, cl (by omega)]
      refine ⟨vin (by omega) (by omega), fun v ev v2 ev2 => X5_allOf hp ?_⟩
      have hr : ∀ k, v2 16 0 k = if k = 4 * p then μ 16 0 (4 * p) + 1 else μ 16 0 k := by
        intro k
        rw [ev2, ev, zst_o (by omega), zst_ap, zst_o (f' := 16) (by omega), w16]
        by_cases hk : k = 4 * p <;> simp [hk]
      have hX0 := hX 0 (by omega)
      simp only [Nat.add_zero] at hX0
      have hX' : ∀ s, s < 4 → v2 16 0 (4 * p + s) = nI ((fun s => if s = 0 then X 0 + 1 else X s) s) := by
        intro s hs
        rw [hr]
        by_cases hs0 : s = 0
        · subst hs0
          rw [if_pos (by omega), hX0, nI_s1]
          rfl
        · rw [if_neg (by omega)]
          show μ 16 0 (4 * p + s) = nI (if s = 0 then X 0 + 1 else X s)
          rw [if_neg hs0]
          exact hX s hs
      have hsum := csm_X hX'
      simp only [if_true] at hsum
      have hval : csm (fun s => v2 16 0 (4 * p + s)) 4 = nI S + 1 := by
        rw [hsum, nI_s1]
        congr 1
        simp
        omega
      have v30 : ∀ f, (f = 31 ∨ f = 32 ∨ f = 33 ∨ f = 34 ∨ f = 40 ∨ f = 42 ∨ f = 62 ∨ f = 70 ∨ f = 71 ∨ f = 72 ∨ f = 73 ∨ f = 80) → v2 f = μ f := by
        intro f hf
        rw [ev2, ev, ← hw, eu2, eu]
        repeat rw [zst_o (by omega)]
      have v1 : ∀ f, 1 ≤ f → f ≤ 15 → v2 f 0 = μ f 0 := by
        intro f h1 h2
        rw [ev2, ev, ← hw, eu2, eu]
        repeat rw [zst_o (by omega)]
      have v43 : v2 43 = zst μ 43 p 0 (μ 43 p 0 + 1) 43 := by
        rw [ev2, ev, ← hw, eu2]
        repeat rw [zst_o (by omega)]
        rw [eu]
      have v25 : v2 0 0 25 = 0 := by
        rw [ev2, ev, zst_ap, if_neg (by omega), zst_o (by omega), at_25]
      have v21 : v2 21 0 0 = nI S + 1 := by
        rw [ev2, ev]
        repeat rw [zst_o (by omega)]
        rw [← hw, at_21]
      have u30 : u 30 = μ 30 := by rw [eu, zst_o (by omega)]
      have v300 : ∀ k, v2 30 0 k = if k = 10 then μ 30 0 10 + 5 else μ 30 0 k := by
        intro k
        rw [ev2, ev, ← hw, eu2]
        repeat rw [zst_o (f' := 30) (f := 0) (by omega)]
        rw [zst_o (f' := 30) (f := 16) (by omega)]
        repeat rw [zst_o (f' := 30) (f := 0) (by omega)]
        rw [zst_o (f' := 30) (f := 21) (by omega), zst_ap, u30]
        by_cases hk : k = 10 <;> simp [hk]
      have v00 : ∀ k, k ≠ 25 → v2 0 0 k = if k = 1 then μ 0 0 1 + 5 else μ 0 0 k := by
        intro k hk
        have w0 : w 0 = μ 0 := by
          rw [← hw, eu2, eu]
          repeat rw [zst_o (by omega)]
        rw [ev2, ev, zst_ap]
        rw [zst_o (f' := 0) (f := 16) (by omega), zst_ap, zst_ap, w0]
        by_cases hk1 : k = 1 <;> simp [hk1, hk]
      have hE : env n np t v2 v2 := by
        refine env_stock he (fun f hf => v30 f (by omega)) ⟨by rw [v300]; rfl, by rw [v300]; rfl, by rw [v300]; rfl⟩ ?_ ⟨by rw [v00 _ (by omega)]; rfl, by rw [v00 _ (by omega)]; rfl, by rw [v00 _ (by omega)]; rfl, by rw [v00 _ (by omega)]; rfl⟩ v1 (fun q s hq hs => ?_) ?_
        · rw [v300, v00 _ (by omega), if_pos rfl, if_pos rfl, m10]
        · show v2 43 q s = v2 16 0 (4 * q + s)
          rw [v43, hr, zst_ap]
          have := hst.2.1 q s hq hs
          have h00 := hst.2.1 p 0 hp (by omega)
          simp only [Nat.add_zero] at h00
          by_cases hc1 : q = p ∧ s = 0
          · obtain ⟨rfl, rfl⟩ := hc1
            rw [if_pos ⟨rfl, rfl, rfl⟩, if_pos (by omega), h00]
          · rw [if_neg (fun w => hc1 ⟨w.2.1, w.2.2⟩), if_neg (by omega)]
            exact this
        · refine sok_row hsk (p := p) (fun q s hq hs hne => ?_) ⟨_, hX', ?_⟩
          · rw [hr, if_neg (by omega)]
          · simp
            omega
      have hP : planI n t v2 v2 := planI_of hpl (by rw [v30 32 (by omega)]) (v1 8 (by omega) (by omega)) (v1 3 (by omega) (by omega)) (v1 4 (by omega) (by omega))
      rw [hval]
      exact ⟨v25, fun _ => v21, t, hE, hP⟩
    · unfold w_X5_buy b_X5_buy_25 b_X5_buy_26
      refine X5_isProp (fun _ _ _ => ⟨fun q => absurd q z10, fun _ => X5_allOf hp ?_⟩) (fun q => absurd ⟨p, hp, rfl⟩ q)
      rw [hc5]
      exact ⟨fun _ => X5_goes2 rfl rfl ⟨fun q => absurd rfl q, fun _ => oT_k k2 hI⟩, fun q => absurd (Int32.not_lt.mp c) q⟩
  · unfold w_X5_buy b_X5_buy_25 b_X5_buy_26
    exact X5_isProp (fun k hk e => absurd ⟨k, hk, e⟩ h) (fun _ => ⟨fun _ => X5_goes1 rfl ⟨fun q => absurd rfl q, fun _ => oT_k k1 hI⟩, fun q => absurd rfl q⟩)
