theorem o_away : ob_away Inv := by
  intro n np μ a1 a2 a3 hI h3
  obtain ⟨t, he, hpl⟩ := id hI
  obtain ⟨⟨hn, hnp, ht⟩, ⟨e0, e3, e12⟩, ⟨m7, m8, m9, m10⟩, hal, hst, hg, hsk, hsc, htold, hz⟩ := id he
  unfold w_L_away w_X4_away
  refine X4_requireActor (fun h => ?_) (fun h => Or.inl ⟨rfl, ?_⟩)
  · obtain ⟨k, hk, e⟩ := h
    subst e
    refine X4_requireDay (fun h => ?_) (fun h => Or.inr ⟨rfl, ?_⟩)
    · obtain ⟨d, hd, e⟩ := h
      subst e
      have fin : ∀ (u : Mem) (r b : Int32), (∀ f, f ≠ 34 → u f = μ f) → (∀ F : Mem, (∀ j, F 14 0 j = if j = 30 * k + d then a3 else μ 14 0 j) → awRel u F) → (b = μ 14 0 (30 * k + d)) → (b = 0 ∨ b = 1) → ((b = 0 → r = 0) ∧ (¬ b = 0 → r = 1)) → w_X5_away (fun (b : Int32) (u2 : Mem) => w_X5_thrown (oB Inv n np 0 b) u2) (nI k) (nI d) a3 (zst u 21 0 0 r) := by
        intro u r b uo haw eb hb hr
        generalize hw : zst u 21 0 0 r = w
        have r1 : rsame μ w := by
          rw [← hw]
          refine rsame.trans (u := u) ⟨fun k _ => ?_, fun f a b => ?_⟩ (same_21 _ 0 _).r
          · rw [uo 0 (by omega)]
          · rw [uo f (by omega)]
        have c1' : csame u w := by
          rw [← hw]
          exact csame_st u (by omega) 0 0 _
        unfold w_X5_away
        refine X5_isActor (fun _ _ _ => X5_isDay (fun _ _ _ => X5_goes0 rfl rfl rfl ⟨fun _ => ?_, fun q => absurd q z10⟩) (fun q => absurd ⟨d, hd, rfl⟩ q)) (fun q => absurd ⟨k, hk, rfl⟩ q)
        have rw1 : rsame μ (zst w 0 0 25 0) := rsame.trans r1 (same_25 w 0).r
        rw [ix30, cl (by omega), rw1.2 14 (by omega) (by omega), ← eb]
        refine ⟨vin (by omega) (by omega), h3, fun v ev => ⟨hb, ?_⟩⟩
        have f14 : ∀ j, v 14 0 j = if j = 30 * k + d then a3 else μ 14 0 j := by
          intro j
          rw [ev, zst_ap, rw1.2 14 (by omega) (by omega)]
          by_cases h : j = 30 * k + d <;> simp [h]
        have fo : ∀ f, 1 ≤ f → f ≤ 16 → f ≠ 14 → v f 0 = μ f 0 := by
          intro f a1 b1 c1
          rw [ev, zst_o c1, rw1.2 f a1 b1]
        have f0 : ∀ j, j ≠ 25 → v 0 0 j = μ 0 0 j := by
          intro j hj
          rw [ev, zst_o (by omega), rw1.1 j hj]
        have cv : csame u v := by
          rw [ev]
          exact csame.trans c1' (csame.trans (same_25 w 0).c (csame_st _ (by omega) 0 _ _))
        have hE : env n np t v v := by
          refine env_mv (μ := u) (env_build he (fun k _ => by rw [uo 30 (by omega)]) (by rw [uo 30 (by omega), f0 1 (by omega)]; exact m10) (fun k hk => f0 k (by omega)) ⟨fun a ha => ?_, fun k hk => ?_, fun j hj => ?_, haw v f14⟩ (stRel_mv hst (by rw [uo 42 (by omega)]) (fun p _ => by rw [uo 43 (by omega)]) (by rw [uo 40 (by omega)]) ⟨fo 15 (by omega) (by omega) (by omega), fo 16 (by omega) (by omega) (by omega), f0 2 (by omega)⟩) (by rw [fo 15 (by omega) (by omega) (by omega)]; exact hg) (by rw [fo 16 (by omega) (by omega) (by omega)]; exact hsk) (scOK_mv hsc (uo 70 (by omega)) (fun f h => fo f (by omega) (by omega) (by omega))) (by rw [uo 31 (by omega)]) (by rw [uo 62 (by omega)]) (fun j a b => by rw [fo 13 (by omega) (by omega) (by omega)]; exact hz.2 j a b)) cv (rsame.rf v)
          · unfold scRel
            rw [uo 70 (by omega), uo 71 (by omega), uo 72 (by omega), uo 73 (by omega), fo 1 (by omega) (by omega) (by omega), fo 2 (by omega) (by omega) (by omega), fo 5 (by omega) (by omega) (by omega), fo 6 (by omega) (by omega) (by omega), fo 7 (by omega) (by omega) (by omega)]
            exact hal.1 a ha
          · rw [uo 33 (by omega)]; exact hal.2.1 k hk
          · unfold pmRel
            rw [uo 80 (by omega), fo 9 (by omega) (by omega) (by omega), fo 10 (by omega) (by omega) (by omega), fo 11 (by omega) (by omega) (by omega), fo 12 (by omega) (by omega) (by omega), fo 13 (by omega) (by omega) (by omega)]
            exact hal.2.2.1 j hj
        have hP : planI n t v v := planI_mv (planI_of (u := u) (F := v) hpl (by rw [uo 32 (by omega)]) (fo 8 (by omega) (by omega) (by omega)) (fo 3 (by omega) (by omega) (by omega)) (fo 4 (by omega) (by omega) (by omega))) cv (rsame.rf v)
        have v21 : v 21 0 0 = r := by
          rw [ev, zst_o (by omega), zst_o (by omega), ← hw, at_21]
        refine ⟨?_, fun _ => ⟨fun q => ?_, fun q => ?_⟩, t, hE, hP⟩
        · rw [ev, zst_o (by omega), at_25]
        · rw [v21]; exact hr.1 q
        · rw [v21]; exact hr.2 q
      have haw0 := hal.2.2.2 k d hk hd
      have old01 : μ 14 0 (30 * k + d) = 0 ∨ μ 14 0 (30 * k + d) = 1 := by
        rw [← haw0]
        exact aw_01 hd
      -- nothing changes: it was so
      have keep : ∀ r : Int32, μ 14 0 (30 * k + d) = a3 → ((a3 = 0 → r = 0) ∧ (¬ a3 = 0 → r = 1)) → w_X5_away (fun (b : Int32) (u2 : Mem) => w_X5_thrown (oB Inv n np 0 b) u2) (nI k) (nI d) a3 (zst μ 21 0 0 r) := by
        intro r e hr
        refine fin μ r a3 (fun _ _ => rfl) (fun F hF j i hj hi => ?_) e.symm h3 hr
        rw [hal.2.2.2 j i hj hi, hF]
        by_cases c : 30 * j + i = 30 * k + d
        · rw [if_pos c, c, e]
        · rw [if_neg c]
      have flip : ∀ (r b : Int32) (u : Mem), b = μ 14 0 (30 * k + d) → ¬ b = a3 → u = zst μ 34 0 k ((μ 34 0 k) ^^^ ((1 : Int32) <<< (nI d &&& 31))) → ((b = 0 → r = 0) ∧ (¬ b = 0 → r = 1)) → w_X5_away (fun (b : Int32) (u2 : Mem) => w_X5_thrown (oB Inv n np 0 b) u2) (nI k) (nI d) a3 (zst u 21 0 0 r) := by
        intro r b u eb hne eu hr
        refine fin u r b (fun f hf => by rw [eu, zst_o hf]) (fun F hF j i hj hi => ?_) eb (by rw [eb]; exact old01) hr
        rw [hF, eu, zst_ap]
        by_cases cj : j = k
        · subst cj
          rw [if_pos ⟨rfl, rfl, rfl⟩, aw_flip hd hi]
          by_cases ci : i = d
          · subst ci
            rw [if_pos rfl, if_pos rfl, haw0, ← eb]
            rcases old01 with q | q
            · rw [← eb] at q
              rw [q] at hne ⊢
              rcases h3 with w | w
              · exact absurd w.symm hne
              · rw [w]; rfl
            · rw [← eb] at q
              rw [q] at hne ⊢
              rcases h3 with w | w
              · rw [w]; rfl
              · exact absurd w.symm hne
          · rw [if_neg ci, if_neg (show ¬ 30 * j + i = 30 * j + d by omega)]
            exact hal.2.2.2 j i hj hi
        · rw [if_neg (fun q => cj q.2.2), if_neg (show ¬ 30 * j + i = 30 * k + d by omega)]
          exact hal.2.2.2 j i hj hi
      refine X4_isAwayOn (E := μ) hk hd hal.2.2.2 (fun e => ⟨fun c => ⟨Or.inl rfl, fun _ => keep 0 (e.trans c) ⟨fun _ => rfl, fun q => absurd c.symm q⟩, fun q => absurd rfl q⟩, fun c => ⟨vin hk (by omega), fun u eu => ⟨Or.inl rfl, fun _ => ?_, fun q => absurd rfl q⟩⟩⟩) (fun e => ⟨fun c => ⟨Or.inr rfl, fun q => absurd q z10, fun _ => keep 1 ((old01.resolve_left e).trans c) ⟨fun q => absurd (c.trans q) z10, fun _ => rfl⟩⟩, fun c => ⟨vin hk (by omega), fun u eu => ⟨Or.inr rfl, fun q => absurd q z10, fun _ => ?_⟩⟩⟩)
      · rw [cl (by omega)] at eu
        exact flip 0 0 u e.symm c eu ⟨fun _ => rfl, fun q => absurd rfl q⟩
      · rw [cl (by omega)] at eu
        exact flip 1 1 u (old01.resolve_left e).symm c eu ⟨fun q => absurd q z10, fun _ => rfl⟩
    · unfold w_X5_away
      exact X5_isActor (fun _ _ _ => X5_isDay (fun j hj e => absurd ⟨j, hj, e⟩ h) (fun _ => X5_goes2 rfl rfl ⟨fun q => absurd rfl q, fun _ => oB_k k2 hI⟩)) (fun q => absurd ⟨k, hk, rfl⟩ q)
  · unfold w_X5_away
    exact X5_isActor (fun k hk e => absurd ⟨k, hk, e⟩ h) (fun _ => X5_isDay (fun _ _ _ => X5_goes1 rfl ⟨fun q => absurd rfl q, fun _ => oB_k k1 hI⟩) (fun _ => X5_goes1 rfl ⟨fun q => absurd rfl q, fun _ => oB_k k1 hI⟩))
