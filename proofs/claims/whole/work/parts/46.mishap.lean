theorem o_mishap : ob_mishap Inv := by
  intro n np μ a1 a2 hI
  obtain ⟨t, he, hpl⟩ := id hI
  obtain ⟨⟨hn, hnp, ht⟩, ⟨e0, e3, e12⟩, ⟨m7, m8, m9, m10⟩, hal, hst, hg, hsk, hsc, htold, hz⟩ := id he
  unfold w_L_mishap w_X4_mishap b_X4_mishap_13
  refine X4_requireProp (fun h => ?_) (fun h => Or.inl ⟨rfl, ?_⟩)
  · obtain ⟨p, hp, e⟩ := h
    subst e
    have bad2 : (¬ ∃ k, k < 3 ∧ a2 = nI k) → w_X5_mishap (fun (b : Int32) (u2 : Mem) => w_X5_thrown (oT Inv n np 2 b) u2) (nI p) a2 μ := by
      intro h
      unfold w_X5_mishap b_X5_mishap_43 b_X5_mishap_44
      exact X5_isProp (fun j _ _ => X5_in0 (N := 3) rfl (by omega) (fun j2 hj2 e => absurd ⟨j2, hj2, e⟩ h) (fun _ => ⟨fun q => absurd q z10, fun _ => ⟨fun _ => X5_goes2 rfl rfl ⟨fun q => absurd rfl q, fun _ => oT_k k2 hI⟩, fun q => absurd rfl q⟩⟩)) (fun q => absurd ⟨p, hp, rfl⟩ q)
    rcases arg_or a2 3 with h | h
    · obtain ⟨s, hs, e⟩ := h
      subst e
      have hl3 : nI s < 3 := (lt_lit 3 rfl (by omega) rfl (by omega)).mpr hs
      refine ⟨fun c => absurd c (pos (by omega)), fun _ => ⟨fun _ => ?_, fun c => absurd hl3 c⟩⟩
      rw [cl (by omega), cl (by omega), show 5 * 0 + p = p by omega, show (3 : Int32).toNatClampNeg = 3 from rfl]
      obtain ⟨X, hX, hS⟩ := hsk p hp
      have hX' : ∀ s, s < 4 → μ 16 0 (4 * p + s) = nI (X s) := hX
      have h43 : ∀ s, s < 4 → μ 43 p s = μ 16 0 (4 * p + s) := fun s hs => hst.2.1 p s hp hs
      refine ⟨vin hp (by omega), by omega, vin (by omega) (by omega), fun c => ?_, fun c => Or.inr (Or.inr ⟨rfl, ?_⟩)⟩
      · intro u eu u2 eu2
        have hc0 : X s ≠ 0 := by
          intro q
          rw [h43 s (by omega), hX' s (by omega), q] at c
          exact absurd c (by decide)
        have u43 : ∀ q r, u2 43 q r = if q = p ∧ r = 3 then μ 43 p 3 + 1 else if q = p ∧ r = s then μ 43 p s - 1 else μ 43 q r := by
          intro q r
          have e3' : u 43 p 3 = μ 43 p 3 := by
            rw [eu, zst_ap, if_neg (by omega)]
          rw [eu2, zst_ap, e3', eu, zst_ap]
          by_cases h1 : q = p ∧ r = 3
          · rw [if_pos h1, if_pos ⟨rfl, h1⟩]
          · rw [if_neg h1, if_neg (fun w => h1 w.2)]
            by_cases h2 : q = p ∧ r = s
            · rw [if_pos h2, if_pos ⟨rfl, h2⟩]
            · rw [if_neg h2, if_neg (fun w => h2 w.2)]
        have uo : ∀ f, f ≠ 43 → u2 f = μ f := fun f hf => by rw [eu2, zst_o hf, eu, zst_o hf]
        generalize hval : u2 43 p 3 = val
        have hval' : val = μ 43 p 3 + 1 := by rw [← hval, u43, if_pos ⟨rfl, rfl⟩]
        show w_X5_mishap (fun (b : Int32) (u2 : Mem) => w_X5_thrown (oT Inv n np 0 b) u2) (nI p) (nI s) (zst u2 21 0 0 val)
        unfold w_X5_mishap b_X5_mishap_44
        generalize hw : zst u2 21 0 0 val = w
        have r1 : rsame μ w := by
          rw [← hw]
          refine rsame.trans (u := u2) ⟨fun k _ => ?_, fun f a b => ?_⟩ (same_21 _ 0 val).r
          · rw [uo 0 (by omega)]
          · rw [uo f (by omega)]
        have c1' : csame u2 w := by
          rw [← hw]
          exact csame_st u2 (by omega) 0 0 _
        refine X5_isProp (fun _ _ _ => X5_in0 (N := 3) rfl (by omega) (fun _ _ _ => ⟨fun q => absurd q z10, fun _ => ⟨fun q => absurd q z10, fun _ => ?_⟩⟩) (fun q => absurd ⟨s, hs, rfl⟩ q)) (fun q => absurd ⟨p, hp, rfl⟩ q)
        rw [ix4, cl (by omega), r1.2 16 (by omega) (by omega)]
        refine ⟨vin (by omega) (by omega), fun q => ?_, fun _ => X5_goes0 rfl rfl rfl ⟨fun _ => ?_, fun q => absurd q z10⟩⟩
        · rw [h43 s (by omega)] at c
          exact absurd c (Int32.not_lt.mpr q)
        · rw [show (3 : Int32) = nI 3 from rfl, ix4, cl (by omega)]
          refine ⟨vin (by omega) (by omega), fun v ev => ⟨vin (by omega) (by omega), fun v2 ev2 => ?_⟩⟩
          have rw1 : rsame μ (zst w 0 0 25 0) := rsame.trans r1 (same_25 w 0).r
          have f16 : ∀ k, v2 16 0 k = if k = 4 * p + 3 then μ 16 0 (4 * p + 3) + 1 else if k = 4 * p + s then μ 16 0 (4 * p + s) - 1 else μ 16 0 k := by
            intro k
            have e3' : v 16 0 (4 * p + 3) = μ 16 0 (4 * p + 3) := by
              rw [ev, zst_ap, if_neg (by omega), rw1.2 16 (by omega) (by omega)]
            rw [ev2, zst_ap, e3', ev, zst_ap, rw1.2 16 (by omega) (by omega)]
            by_cases h1 : k = 4 * p + 3
            · simp [h1]
            · by_cases h2 : k = 4 * p + s <;> simp [h1, h2]
          have fo : ∀ f, 1 ≤ f → f ≤ 15 → v2 f 0 = μ f 0 := by
            intro f a1 b1
            rw [ev2, zst_o (by omega), ev, zst_o (by omega), rw1.2 f a1 (by omega)]
          have f0 : ∀ k, k ≠ 25 → v2 0 0 k = μ 0 0 k := by
            intro k hk
            rw [ev2, zst_o (by omega), ev, zst_o (by omega), rw1.1 k hk]
          have cv : csame u2 v2 := by
            rw [ev2, ev]
            exact csame.trans c1' (csame.trans (same_25 w 0).c (csame.trans (csame_st _ (by omega) 0 _ _) (csame_st _ (by omega) 0 _ _)))
          have hE : env n np t v2 v2 := by
            refine env_mv (env_stock he (fun f hf => uo f (by omega)) ⟨by rw [uo 30 (by omega)], by rw [uo 30 (by omega)], by rw [uo 30 (by omega)]⟩ (by rw [uo 30 (by omega), f0 1 (by omega)]; exact m10) ⟨f0 0 (by omega), f0 2 (by omega), f0 3 (by omega), f0 12 (by omega)⟩ fo (fun q r hq hr => ?_) (sok_row hsk (p := p) (fun q r hq hr hne => ?_) ⟨fun r => if r = 3 then X 3 + 1 else if r = s then X s - 1 else X r, fun r hr => ?_, ?_⟩)) cv (rsame.rf v2)
            · show u2 43 q r = v2 16 0 (4 * q + r)
              rw [u43, f16]
              by_cases h1 : q = p ∧ r = 3
              · rw [if_pos h1, if_pos (show 4 * q + r = 4 * p + 3 by omega), h43 3 (by omega)]
              · rw [if_neg h1, if_neg (show ¬ 4 * q + r = 4 * p + 3 by omega)]
                by_cases h2 : q = p ∧ r = s
                · rw [if_pos h2, if_pos (show 4 * q + r = 4 * p + s by omega), h43 s (by omega)]
                · rw [if_neg h2, if_neg (show ¬ 4 * q + r = 4 * p + s by omega)]
                  exact hst.2.1 q r hq hr
            · rw [f16, if_neg (by omega), if_neg (by omega)]
            · show v2 16 0 (4 * p + r) = nI (if r = 3 then X 3 + 1 else if r = s then X s - 1 else X r)
              rw [f16]
              by_cases h1 : r = 3
              · rw [if_pos (show 4 * p + r = 4 * p + 3 by omega), if_pos h1, hX' 3 (by omega), nI_s1]
              · rw [if_neg (show ¬ 4 * p + r = 4 * p + 3 by omega), if_neg h1]
                by_cases h2 : r = s
                · rw [if_pos (show 4 * p + r = 4 * p + s by omega), if_pos h2, hX' s (by omega)]
                  have := nI_pred (X s - 1)
                  rw [show X s - 1 + 1 = X s by omega] at this
                  exact this
                · rw [if_neg (show ¬ 4 * p + r = 4 * p + s by omega), if_neg h2]
                  exact hX' r hr
            · rcases (show s = 0 ∨ s = 1 ∨ s = 2 by omega) with rfl | rfl | rfl <;> simp <;> omega
          have hP : planI n t v2 v2 := planI_mv (planI_of (u := u2) (F := v2) hpl (by rw [uo 32 (by omega)]) (fo 8 (by omega) (by omega)) (fo 3 (by omega) (by omega)) (fo 4 (by omega) (by omega))) cv (rsame.rf v2)
          refine ⟨?_, fun _ => ?_, t, hE, hP⟩
          · rw [ev2, zst_o (by omega), ev, zst_o (by omega), at_25]
          · rw [f16, if_pos rfl, ev2, zst_o (by omega), ev, zst_o (by omega), zst_o (by omega), ← hw, at_21, hval', h43 3 (by omega)]
      · unfold w_X5_mishap b_X5_mishap_43 b_X5_mishap_44
        refine X5_isProp (fun _ _ _ => X5_in0 (N := 3) rfl (by omega) (fun _ _ _ => ⟨fun q => absurd q z10, fun _ => ⟨fun q => absurd q z10, fun _ => ?_⟩⟩) (fun q => absurd ⟨s, hs, rfl⟩ q)) (fun q => absurd ⟨p, hp, rfl⟩ q)
        rw [ix4, cl (by omega)]
        refine ⟨vin (by omega) (by omega), fun _ => X5_goes3 rfl rfl rfl ⟨fun q => absurd rfl q, fun _ => oT_k k3 hI⟩, fun q => ?_⟩
        rw [h43 s (by omega)] at c
        exact absurd (Int32.not_lt.mp c) q
    · refine ⟨fun _ => Or.inr (Or.inl ⟨rfl, bad2 h⟩), fun c => ⟨fun c2 => absurd c2 (arg_not (N := 3) (M := 3) rfl (by decide) h c), fun _ => Or.inr (Or.inl ⟨rfl, bad2 h⟩)⟩⟩
  · unfold w_X5_mishap b_X5_mishap_43 b_X5_mishap_44
    exact X5_isProp (fun k hk e => absurd ⟨k, hk, e⟩ h) (fun _ => X5_in0 (N := 3) rfl (by omega) (fun _ _ _ => ⟨fun _ => X5_goes1 rfl ⟨fun q => absurd rfl q, fun _ => oT_k k1 hI⟩, fun q => absurd rfl q⟩) (fun _ => ⟨fun _ => X5_goes1 rfl ⟨fun q => absurd rfl q, fun _ => oT_k k1 hI⟩, fun q => absurd rfl q⟩))
