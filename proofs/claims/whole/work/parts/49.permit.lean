/-! A NEW PERMIT -/
theorem le_lt {x : Int32} {m : Nat} {M N : Int32} (hM : M = nI (m + 1)) (hN : N = nI m) (hm : m < 1000) : M ≤ x ↔ N < x := by
  subst hM
  subst hN
  rw [Int32.le_iff_toInt_le, Int32.lt_iff_toInt_lt, nI_toInt (by omega), nI_toInt (by omega)]
  omega
theorem lt_nlt {x : Int32} {m : Nat} {M N : Int32} (hM : M = nI (m + 1)) (hN : N = nI m) (hm : m < 1000) : x < M ↔ ¬ N < x := by
  subst hM
  subst hN
  rw [Int32.lt_iff_toInt_lt, Int32.lt_iff_toInt_lt, nI_toInt (by omega), nI_toInt (by omega)]
  omega
def pmArg (a1 a2 a3 a4 : Int32) : Prop := ¬ a1 < 0 ∧ ¬ 3 < a1 ∧ ¬ a2 < 0 ∧ ¬ 29 < a2 ∧ ¬ a3 < a2 ∧ ¬ 29 < a3 ∧ ¬ a4 < 1 ∧ ¬ 9 < a4
theorem X5_permitGo {post : Int32 → Mem → Prop} {a1 a2 a3 a4 : Int32} {μ : Mem} (h1 : pmArg a1 a2 a3 a4 → b_X5_permit_42 post a1 a2 a3 a4 1 μ) (h0 : ¬ pmArg a1 a2 a3 a4 → b_X5_permit_41 post a1 a2 a3 a4 μ) : w_X5_permit post a1 a2 a3 a4 μ := by
  unfold w_X5_permit w_X5_isDay w_X5_in
  have no : ¬ pmArg a1 a2 a3 a4 → ((0 : Int32) = 0 → b_X5_permit_41 post a1 a2 a3 a4 μ) := fun h _ => h0 h
  refine ⟨fun c => ⟨fun _ => h0 (fun q => q.1 c), fun q => absurd rfl q⟩, fun c1 => ⟨fun c => ⟨fun _ => h0 (fun q => q.2.1 c), fun q => absurd rfl q⟩, fun c2 => ⟨fun q => absurd q z10, fun _ => ?_⟩⟩⟩
  refine ⟨fun c => ⟨Or.inl rfl, fun _ => h0 (fun q => q.2.2.1 c), fun q => absurd rfl q⟩, fun c3 => ⟨fun c => ⟨Or.inl rfl, fun _ => h0 (fun q => q.2.2.2.1 c), fun q => absurd rfl q⟩, fun c4 => ⟨Or.inr rfl, fun q => absurd q z10, fun _ => ?_⟩⟩⟩
  refine ⟨fun c => ⟨fun _ => h0 (fun q => q.2.2.2.2.1 c), fun q => absurd rfl q⟩, fun c5 => ⟨fun c => ⟨fun _ => h0 (fun q => q.2.2.2.2.2.1 c), fun q => absurd rfl q⟩, fun c6 => ⟨fun q => absurd q z10, fun _ => ?_⟩⟩⟩
  refine ⟨fun c => ⟨fun _ => h0 (fun q => q.2.2.2.2.2.2.1 c), fun q => absurd rfl q⟩, fun c7 => ⟨fun c => ⟨fun _ => h0 (fun q => q.2.2.2.2.2.2.2 c), fun q => absurd rfl q⟩, fun c8 => ⟨fun q => absurd q z10, fun _ => h1 ⟨c1, c2, c3, c4, c5, c6, c7, c8⟩⟩⟩⟩
theorem o_permit : ob_permit Inv := by
  intro n np μ a1 a2 a3 a4 hI
  obtain ⟨t, he, hpl⟩ := id hI
  obtain ⟨⟨hn, hnp, ht⟩, ⟨e0, e3, e12⟩, ⟨m7, m8, m9, m10⟩, hal, hst, hg, hsk, hsc, htold, hz⟩ := id he
  have bad : ¬ pmArg a1 a2 a3 a4 → w_X5_permit (fun (b : Int32) (u2 : Mem) => w_X5_thrown (oT Inv n np 1 b) u2) a1 a2 a3 a4 μ := by
    intro h
    have g1 : ∀ s2 : Int32, b_X5_permit_61 (fun (b : Int32) (u2 : Mem) => w_X5_thrown (oT Inv n np 1 b) u2) a1 a2 a3 a4 0 s2 μ := fun s2 => X5_goes1 rfl ⟨fun q => absurd rfl q, fun _ => oT_k k1 hI⟩
    exact X5_permitGo (fun q => absurd q h) (fun _ => ⟨fun _ => g1 0, fun _ => g1 1⟩)
  have x4 : ∀ x : Int32, (4 ≤ x ↔ 3 < x) := fun x => le_lt (m := 3) rfl rfl (by omega)
  have x30 : ∀ x : Int32, (30 ≤ x ↔ 29 < x) := fun x => le_lt (m := 29) rfl rfl (by omega)
  have y30 : ∀ x : Int32, (x < 30 ↔ ¬ 29 < x) := fun x => lt_nlt (m := 29) rfl rfl (by omega)
  unfold w_L_permit w_X4_permit b_X4_permit_22 b_X4_permit_53
  rw [x4, x30, y30]
  refine ⟨fun c => Or.inl ⟨rfl, bad (fun q => q.1 c)⟩, fun c1 => ⟨fun c => Or.inl ⟨rfl, bad (fun q => q.2.1 c)⟩, fun c2 => ⟨fun c => Or.inl ⟨rfl, bad (fun q => q.2.2.2.2.2.2.1 c)⟩, fun c7 => ⟨fun c8 => ?_, fun c => Or.inl ⟨rfl, bad (fun q => q.2.2.2.2.2.2.2 (Int32.not_le.mp c))⟩⟩⟩⟩⟩
  refine ⟨fun c => Or.inl ⟨rfl, bad (fun q => q.2.2.1 c)⟩, fun c3 => ⟨fun c => Or.inl ⟨rfl, bad (fun q => q.2.2.2.1 c)⟩, fun c4 => ⟨fun c => Or.inl ⟨rfl, bad (fun q => q.2.2.2.2.1 c)⟩, fun c5 => ⟨fun c6 => ?_, fun c => Or.inl ⟨rfl, bad (fun q => c q.2.2.2.2.2.1)⟩⟩⟩⟩⟩
  have hV : pmArg a1 a2 a3 a4 := ⟨c1, c2, c3, c4, c5, c6, c7, Int32.not_lt.mpr c8⟩
  rw [m8]
  refine ⟨fun c9 => ?_, fun c9 => Or.inr ⟨rfl, ?_⟩⟩
  · have hlt : np < 20 := (lt_lit 20 rfl (by omega) rfl (by omega)).mp c9
    refine ⟨hlt, fun k hk c => ?_, fun u0 eu0 => ?_⟩
    · rw [hal.2.1 k hk] at c ⊢
      by_cases h : k < np
      · rw [if_pos h, cl (by omega)]; exact h
      · rw [if_neg h] at c; exact absurd neg1 c
    · unfold b_X4_permit_109
      rw [cl (by omega)]
      refine ⟨vin hlt (by omega), fun _ => by omega, fun u1 eu1 u2 eu2 => ?_⟩
      show w_X5_permit (fun (b : Int32) (u2 : Mem) => w_X5_thrown (oT Inv n (np + 1) 0 b) u2) a1 a2 a3 a4 (zst u2 21 0 0 (nI np))
      generalize hw : zst u2 21 0 0 (nI np) = w
      have uo : ∀ f, f ≠ 80 → f ≠ 33 → f ≠ 30 → u2 f = μ f := by
        intro f h1 h2 h3
        rw [eu2, zst_o h3, eu1, zst_o h2, eu0]
        exact zcp_o h1
      have u80 : ∀ j i, u2 80 j i = if j = np then (if i = 0 then a1 else if i = 1 then a2 else if i = 2 then a3 else if i = 3 then a4 else 0) else μ 80 j i := by
        intro j i
        rw [eu2, zst_o (by omega), eu1, zst_o (by omega), eu0]
        unfold zaddP zcp
        by_cases h : j = np <;> simp [h]
      have u33 : ∀ k, u2 33 0 k = if k = np then nI np else μ 33 0 k := by
        intro k
        rw [eu2, zst_o (by omega), eu1, zst_ap, eu0, show zaddP np a1 a2 a3 a4 μ 33 = μ 33 from zcp_o (by omega)]
        by_cases h : k = np <;> simp [h]
      have u30 : ∀ k, u2 30 0 k = if k = 8 then nI (np + 1) else μ 30 0 k := by
        intro k
        have e1 : u1 30 = μ 30 := by
          rw [eu1, zst_o (by omega), eu0]
          exact zcp_o (by omega)
        rw [eu2, zst_ap, e1, m8, nI_s1]
        by_cases h : k = 8 <;> simp [h]
      have r1 : rsame μ w := by
        rw [← hw]
        refine rsame.trans (u := u2) ⟨fun k _ => ?_, fun f a b => ?_⟩ (same_21 _ 0 _).r
        · rw [uo 0 (by omega) (by omega) (by omega)]
        · rw [uo f (by omega) (by omega) (by omega)]
      have c1' : csame u2 w := by
        rw [← hw]
        exact csame_st u2 (by omega) 0 0 _
      refine X5_permitGo (fun _ => ?_) (fun q => absurd hV q)
      unfold b_X5_permit_42 b_X5_permit_61
      rw [r1.1 12 (by omega), e12]
      refine ⟨fun q => absurd ((le20 (k := np) (by omega)).mp q) (by omega), fun _ => X5_goes0 rfl rfl rfl ⟨fun _ => ?_, fun q => absurd q z10⟩⟩
      have rw1 : rsame μ (zst w 0 0 25 0) := rsame.trans r1 (same_25 w 0).r
      have h12 : zst w 0 0 25 0 0 0 12 = nI np := (rw1.1 12 (by omega)).trans e12
      rw [h12, cl (by omega)]
      refine ⟨vin hlt (by omega), fun v1 ev1 => ?_⟩
      have h12a : v1 0 0 12 = nI np := by rw [ev1, zst_o (by omega)]; exact h12
      rw [h12a, cl (by omega)]
      refine ⟨vin hlt (by omega), fun v2 ev2 => ?_⟩
      have h12b : v2 0 0 12 = nI np := by rw [ev2, zst_o (by omega)]; exact h12a
      rw [h12b, cl (by omega)]
      refine ⟨vin hlt (by omega), fun v3 ev3 => ?_⟩
      have h12c : v3 0 0 12 = nI np := by rw [ev3, zst_o (by omega)]; exact h12b
      rw [h12c, cl (by omega)]
      refine ⟨vin hlt (by omega), fun v4 ev4 v5 ev5 => ?_⟩
      have h12d : v4 0 0 12 = nI np := by rw [ev4, zst_o (by omega)]; exact h12c
      rw [h12d, nI_s1] at ev5
      have h12e : v5 0 0 12 = nI (np + 1) := by rw [ev5, zst_ap, if_pos ⟨rfl, rfl, rfl⟩]
      have f0 : ∀ k, k ≠ 25 → k ≠ 12 → v5 0 0 k = μ 0 0 k := by
        intro k hk h
        rw [ev5, zst_ap, if_neg (fun q => h q.2.2), ev4, zst_o (by omega), ev3, zst_o (by omega), ev2, zst_o (by omega), ev1, zst_o (by omega)]
        exact rw1.1 k hk
      have fo : ∀ f, 1 ≤ f → f ≤ 16 → f ≠ 9 → f ≠ 10 → f ≠ 11 → f ≠ 12 → v5 f 0 = μ f 0 := by
        intro f a b h9 h10 h11 h12
        rw [ev5, zst_o (by omega), ev4, zst_o h12, ev3, zst_o h11, ev2, zst_o h10, ev1, zst_o h9]
        exact rw1.2 f a b
      have f9 : ∀ k, v5 9 0 k = if k = np then a1 else μ 9 0 k := by
        intro k
        rw [ev5, zst_o (by omega), ev4, zst_o (by omega), ev3, zst_o (by omega), ev2, zst_o (by omega), ev1, zst_ap, rw1.2 9 (by omega) (by omega)]
        by_cases h : k = np <;> simp [h]
      have f10 : ∀ k, v5 10 0 k = if k = np then a2 else μ 10 0 k := by
        intro k
        rw [ev5, zst_o (by omega), ev4, zst_o (by omega), ev3, zst_o (by omega), ev2, zst_ap, ev1, zst_o (f' := 10) (by omega), rw1.2 10 (by omega) (by omega)]
        by_cases h : k = np <;> simp [h]
      have f11 : ∀ k, v5 11 0 k = if k = np then a3 else μ 11 0 k := by
        intro k
        rw [ev5, zst_o (by omega), ev4, zst_o (by omega), ev3, zst_ap, ev2, zst_o (f' := 11) (by omega), ev1, zst_o (f' := 11) (by omega), rw1.2 11 (by omega) (by omega)]
        by_cases h : k = np <;> simp [h]
      have f12 : ∀ k, v5 12 0 k = if k = np then a4 else μ 12 0 k := by
        intro k
        rw [ev5, zst_o (by omega), ev4, zst_ap, ev3, zst_o (f' := 12) (by omega), ev2, zst_o (f' := 12) (by omega), ev1, zst_o (f' := 12) (by omega), rw1.2 12 (by omega) (by omega)]
        by_cases h : k = np <;> simp [h]
      have cv : csame u2 v5 := by
        rw [ev5, ev4, ev3, ev2, ev1]
        exact csame.trans c1' (csame.trans (same_25 w 0).c (csame.trans (csame_st _ (by omega) 0 _ _) (csame.trans (csame_st _ (by omega) 0 _ _) (csame.trans (csame_st _ (by omega) 0 _ _) (csame.trans (csame_st _ (by omega) 0 _ _) (csame_st _ (by omega) 0 _ _))))))
      have hE : env n (np + 1) t v5 v5 := by
        have hfo : ∀ f, (f = 1 ∨ f = 2 ∨ f = 3 ∨ f = 4 ∨ f = 5 ∨ f = 6 ∨ f = 7 ∨ f = 8 ∨ f = 13 ∨ f = 14 ∨ f = 15 ∨ f = 16) → v5 f 0 = μ f 0 := fun f h => fo f (by omega) (by omega) (by omega) (by omega) (by omega) (by omega)
        refine env_mv (μ := u2) ⟨⟨hn, hlt, ht⟩, ⟨by rw [f0 0 (by omega) (by omega)]; exact e0, by rw [f0 3 (by omega) (by omega)]; exact e3, h12e⟩, ⟨by rw [u30, if_neg (by omega)]; exact m7, by rw [u30, if_pos rfl], by rw [u30, if_neg (by omega)]; exact m9, by rw [u30, if_neg (by omega), f0 1 (by omega) (by omega)]; exact m10⟩, ⟨fun a ha => ?_, fun k hk => ?_, fun k hk => ?_, fun j d hj hd => ?_⟩, stRel_mv hst (by rw [uo 42 (by omega) (by omega) (by omega)]) (fun p _ => by rw [uo 43 (by omega) (by omega) (by omega)]) (by rw [uo 40 (by omega) (by omega) (by omega)]) ⟨hfo 15 (by omega), hfo 16 (by omega), f0 2 (by omega) (by omega)⟩, by rw [hfo 15 (by omega)]; exact hg, by rw [hfo 16 (by omega)]; exact hsk, scOK_mv hsc (uo 70 (by omega) (by omega) (by omega)) (fun f h => hfo f (by omega)), by rw [uo 31 (by omega) (by omega) (by omega)]; exact htold, by rw [uo 62 (by omega) (by omega) (by omega)]; exact hz.1, fun k h1 h2 => by rw [hfo 13 (by omega)]; exact hz.2 k (by omega) h2⟩ cv (rsame.rf v5)
        · unfold scRel
          rw [uo 70 (by omega) (by omega) (by omega), uo 71 (by omega) (by omega) (by omega), uo 72 (by omega) (by omega) (by omega), uo 73 (by omega) (by omega) (by omega), hfo 1 (by omega), hfo 2 (by omega), hfo 5 (by omega), hfo 6 (by omega), hfo 7 (by omega)]
          exact hal.1 a ha
        · rw [u33]
          by_cases h : k = np
          · rw [if_pos h, if_pos (by omega), h]
          · rw [if_neg h, hal.2.1 k hk]
            by_cases h2 : k < np
            · rw [if_pos h2, if_pos (by omega)]
            · rw [if_neg h2, if_neg (by omega)]
        · unfold pmRel
          rw [u80, u80, u80, u80, u80, f9, f10, f11, f12, hfo 13 (by omega)]
          by_cases h : k = np
          · have e := hz.2 np (Nat.le_refl np) hlt
            exact ⟨by simp [h], by simp [h], by simp [h], by simp [h], by simp [h, e]⟩
          · simp only [h, if_false]
            exact hal.2.2.1 k (by omega)
        · rw [uo 34 (by omega) (by omega) (by omega), hfo 14 (by omega)]
          exact hal.2.2.2 j d hj hd
      have hP : planI n t v5 v5 := planI_mv (planI_of (u := u2) (F := v5) hpl (by rw [uo 32 (by omega) (by omega) (by omega)]) (fo 8 (by omega) (by omega) (by omega) (by omega) (by omega) (by omega)) (fo 3 (by omega) (by omega) (by omega) (by omega) (by omega) (by omega)) (fo 4 (by omega) (by omega) (by omega) (by omega) (by omega) (by omega))) cv (rsame.rf v5)
      rw [h12e, nI_pred]
      refine ⟨?_, fun _ => ?_, t, hE, hP⟩
      · rw [ev5, zst_ap, if_neg (by omega), ev4, zst_o (by omega), ev3, zst_o (by omega), ev2, zst_o (by omega), ev1, zst_o (by omega), at_25]
      · rw [ev5, zst_o (by omega), ev4, zst_o (by omega), ev3, zst_o (by omega), ev2, zst_o (by omega), ev1, zst_o (by omega), zst_o (by omega), ← hw, at_21]
  · refine X5_permitGo (fun _ => ?_) (fun q => absurd hV q)
    unfold b_X5_permit_42 b_X5_permit_61
    rw [e12]
    exact ⟨fun _ => X5_goes2 rfl rfl ⟨fun q => absurd rfl q, fun _ => oT_k k2 hI⟩, fun q => absurd (Int32.not_lt.mp c9) q⟩
