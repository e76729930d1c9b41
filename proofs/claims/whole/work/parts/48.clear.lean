theorem o_clear : ob_clear Inv := by
  intro n np μ hI
  obtain ⟨t, he, hpl⟩ := id hI
  obtain ⟨⟨hn, hnp, ht⟩, ⟨e0, e3, e12⟩, ⟨m7, m8, m9, m10⟩, hal, hst, hg, hsk, hsc, htold, hz⟩ := id he
  have h43 : ∀ p s, p < 5 → s < 4 → μ 43 p s = μ 16 0 (4 * p + s) := fun p s hp hs => hst.2.1 p s hp hs
  -- the reference, from a world of the class cleared
  have ref : ∀ u : Mem, (∀ f, f ≠ 43 → u f = μ f) → (∀ q r, u 43 q r = if q < 5 ∧ r = 3 then 0 else μ 43 q r) → w_X5_clear (fun (b : Int32) (u2 : Mem) => csm (fun q => μ 43 q 3) 5 = b ∧ Inv n np u2) u := by
    intro u uo u43
    have r1 : rsame μ u := ⟨fun k _ => by rw [uo 0 (by omega)], fun f a b => by rw [uo f (by omega)]⟩
    have loop : ∀ m j : Nat, j + m = 5 → ∀ w : Mem, (∀ f, f ≠ 16 → w f = u f) → (∀ k, w 16 0 k = if ∃ q, q < j ∧ k = 4 * q + 3 then 0 else μ 16 0 k) → l_X5_clear_4 (fun (b : Int32) (u2 : Mem) => csm (fun q => μ 43 q 3) 5 = b ∧ Inv n np u2) (m + 1) (csm (fun q => μ 43 q 3) j) (nI j) w := by
      intro m
      induction m with
      | zero =>
        intro j hj w wo w16
        have e : j = 5 := by omega
        subst e
        show lb_X5_clear_4 _ _ _ _ _
        unfold lb_X5_clear_4 w_X5_told
        refine ⟨fun _ => fun v ev => ⟨rfl, ?_⟩, fun c => absurd (by decide) c⟩
        subst ev
        refine Inv_25 ⟨t, ?_, ?_⟩ 0
        · have cv : csame u w := ⟨fun f hf => wo f (by omega), by rw [wo 42 (by omega)], fun j _ => by rw [wo 43 (by omega)], by rw [wo 40 (by omega)]⟩
          have w16' : ∀ p s, p < 5 → s < 4 → w 16 0 (4 * p + s) = if s = 3 then 0 else μ 16 0 (4 * p + s) := by
            intro p s hp hs
            rw [w16]
            by_cases h : s = 3
            · rw [if_pos h, if_pos ⟨p, hp, by omega⟩]
            · rw [if_neg h, if_neg (by rintro ⟨q, hq, e⟩; omega)]
          refine env_mv (env_stock he (fun f hf => uo f (by omega)) ⟨by rw [uo 30 (by omega)], by rw [uo 30 (by omega)], by rw [uo 30 (by omega)]⟩ (by rw [uo 30 (by omega), wo 0 (by omega), r1.1 1 (by omega)]; exact m10) ⟨by rw [wo 0 (by omega), r1.1 0 (by omega)], by rw [wo 0 (by omega), r1.1 2 (by omega)], by rw [wo 0 (by omega), r1.1 3 (by omega)], by rw [wo 0 (by omega), r1.1 12 (by omega)]⟩ (fun f a b => by rw [wo f (by omega), r1.2 f a (by omega)]) (fun p s hp hs => ?_) (fun p hp => ?_)) cv (rsame.rf w)
          · show u 43 p s = w 16 0 (4 * p + s)
            rw [u43, w16' p s hp hs]
            by_cases h : s = 3
            · rw [if_pos ⟨hp, h⟩, if_pos h]
            · rw [if_neg (fun q => h q.2), if_neg h]
              exact h43 p s hp hs
          · obtain ⟨X, hX, hS⟩ := hsk p hp
            refine ⟨fun s => if s = 3 then 0 else X s, fun s hs => ?_, ?_⟩
            · show w 16 0 (4 * p + s) = nI (if s = 3 then 0 else X s)
              rw [w16' p s hp hs]
              by_cases h : s = 3
              · rw [if_pos h, if_pos h]
                rfl
              · rw [if_neg h, if_neg h]
                exact hX s hs
            · simp
              omega
        · have cv : csame u w := ⟨fun f hf => wo f (by omega), by rw [wo 42 (by omega)], fun j _ => by rw [wo 43 (by omega)], by rw [wo 40 (by omega)]⟩
          exact planI_mv (planI_of (u := u) (F := w) hpl (by rw [uo 32 (by omega)]) (by rw [wo 8 (by omega), r1.2 8 (by omega) (by omega)]) (by rw [wo 3 (by omega), r1.2 3 (by omega) (by omega)]) (by rw [wo 4 (by omega), r1.2 4 (by omega) (by omega)])) cv (rsame.rf w)
      | succ m ih =>
        intro j hj w wo w16
        show lb_X5_clear_4 _ (l_X5_clear_4 _ (m + 1)) _ _ _
        unfold lb_X5_clear_4
        rw [nI_s1, show (3 : Int32) = nI 3 from rfl, ix4, cl (by omega)]
        refine ⟨fun c => absurd ((le5 (k := j) (by omega)).mp c) (by omega), fun _ => ⟨vin (by omega) (by omega), fun v ev => ?_⟩⟩
        have e1 : w 16 0 (4 * j + 3) = μ 43 j 3 := by
          rw [w16, if_neg (by rintro ⟨q, hq, e⟩; omega), h43 j 3 (by omega) (by omega)]
        rw [e1]
        refine ih (j + 1) (by omega) v (fun f hf => by rw [ev, zst_o hf, wo f hf]) (fun k => ?_)
        rw [ev, zst_ap]
        by_cases h : k = 4 * j + 3
        · rw [if_pos ⟨rfl, rfl, h⟩, if_pos ⟨j, by omega, h⟩]
        · rw [if_neg (fun q => h q.2.2), w16]
          by_cases h2 : ∃ q, q < j ∧ k = 4 * q + 3
          · obtain ⟨q, hq, e⟩ := h2
            rw [if_pos ⟨q, hq, e⟩, if_pos ⟨q, by omega, e⟩]
          · rw [if_neg h2, if_neg ?_]
            rintro ⟨q, hq, e⟩
            by_cases hqj : q = j
            · subst hqj
              exact h e
            · exact h2 ⟨q, by omega, e⟩
    exact ⟨6, loop 5 0 rfl u (fun _ _ => rfl) (fun k => by rw [if_neg (by rintro ⟨q, hq, -⟩; omega), r1.2 16 (by omega) (by omega)])⟩
  have loop : ∀ m j : Nat, j + m = 5 → ∀ u : Mem, (∀ f, f ≠ 43 → u f = μ f) → (∀ q r, u 43 q r = if q < j ∧ r = 3 then 0 else μ 43 q r) → l_X4_clear_4 n np (fun (r : Int32) (u : Mem) => w_X5_clear (fun (b : Int32) (u2 : Mem) => r = b ∧ Inv n np u2) u) (m + 1) (csm (fun q => μ 43 q 3) j) (nI j) u := by
    intro m
    induction m with
    | zero =>
      intro j hj u uo u43
      have e : j = 5 := by omega
      subst e
      show lb_X4_clear_4 n np _ _ _ _ _
      unfold lb_X4_clear_4
      exact ⟨fun _ => ref u uo u43, fun c => absurd (by decide) c⟩
    | succ m ih =>
      intro j hj u uo u43
      show lb_X4_clear_4 n np _ (l_X4_clear_4 n np _ (m + 1)) _ _ _
      unfold lb_X4_clear_4
      rw [nI_s1, cl (by omega), show 5 * 0 + j = j by omega, show (3 : Int32).toNatClampNeg = 3 from rfl]
      refine ⟨fun c => absurd ((le5 (k := j) (by omega)).mp c) (by omega), fun _ => ⟨vin (by omega) (by omega), by omega, fun x ex v ev => ?_⟩⟩
      have e1 : u 43 j 3 = μ 43 j 3 := by rw [u43, if_neg (by omega)]
      have e2 : x = csm (fun q => μ 43 q 3) (j + 1) := by
        rw [ex, e1]
        rfl
      rw [e2]
      refine ih (j + 1) (by omega) v (fun f hf => by rw [ev, zst_o hf, uo f hf]) (fun q r => ?_)
      rw [ev, zst_ap]
      by_cases h : q = j ∧ r = 3
      · rw [if_pos ⟨rfl, h⟩, if_pos ⟨by omega, h.2⟩]
      · rw [if_neg (fun w => h w.2), u43]
        by_cases h2 : q < j ∧ r = 3
        · rw [if_pos h2, if_pos ⟨by omega, h2.2⟩]
        · rw [if_neg h2, if_neg (fun w => ?_)]
          have : q = j := by omega
          exact h ⟨this, w.2⟩
  unfold w_X4_clear
  exact ⟨6, loop 5 0 rfl μ (fun _ _ => rfl) (fun q r => by rw [if_neg (by omega)])⟩
theorem Inv_0 : Inv 0 0 mu0 := by
  refine ⟨0, ⟨⟨by omega, by omega, by omega⟩, ⟨rfl, rfl, rfl⟩, ⟨rfl, rfl, rfl, rfl⟩, ⟨fun a ha => absurd ha (Nat.not_lt_zero a), fun k hk => ?_, fun k hk => absurd hk (Nat.not_lt_zero k), fun k d hk hd => ?_⟩, ⟨fun k hk => rfl, fun p s hp hs => rfl, rfl⟩, fun k hk => ⟨0, by omega, rfl⟩, fun p hp => ⟨fun _ => 0, fun s hs => rfl, show 0 + 0 + 0 + 0 ≤ 20 + 0 from by omega⟩, fun a ha => absurd ha (Nat.not_lt_zero a), fun k hk => ?_, ⟨fun k hk c => absurd (show mu0 62 0 k < 0 from neg1) c, fun k _ _ => rfl⟩⟩, fun d hd => ?_, fun d hd => Or.inl ?_, fun d hd => absurd hd (Nat.not_lt_zero d), fun d a hd ha => absurd ha (Nat.not_lt_zero a), fun a ha => absurd ha (Nat.not_lt_zero a)⟩
  · rw [if_neg (Nat.not_lt_zero k)]
    rfl
  · show ((0 : Int32) >>> (nI d &&& 31)) &&& 1 = 0
    simp
  · rw [if_neg (Nat.not_lt_zero k)]
    rfl
  · show (-1 : Int32) = zfill 30 (-1) (fun _ => 0) d
    unfold zfill
    rw [if_pos hd]
  · show zfill 30 (-1) (fun _ => 0) d = -1
    unfold zfill
    rw [if_pos hd]
