/-! PERMITS, ACTORS, COPIES -/
theorem s_RF {n np t : Nat} {E μ : Mem} {F : Int32 → Mem → Prop} (he : env n np t μ E) (hpl : planI n t μ E) (hp : F (nI (sumN (rD E np (E 8 0)) 30)) μ) : w_X4_countRefused n np F μ := by
  refine X4_countRefused he hpl ?_
  rw [← cnt_eq he.1.1 hpl]
  exact hp
section OPS2
variable {n np t : Nat} {E μ : Mem} {P : Int32 → Mem → Prop}
theorem s_permit {P : Int32 → Nat → Nat → Mem → Prop} (h : Jv n np t E μ) {a1 a2 a3 a4 : Int32}
    (hp : pmArg a1 a2 a3 a4 → np < 20 → ∀ F v : Mem, Jv n (np + 1) t F v → (∀ f, f ≠ 0 → f ≠ 9 → f ≠ 10 → f ≠ 11 → f ≠ 12 → F f = E f) → (∀ k, k ≠ 12 → F 0 0 k = E 0 0 k) → (∀ f k, k < np → (f = 9 ∨ f = 10 ∨ f = 11 ∨ f = 12) → F f 0 k = E f 0 k) → P (nI np) n (np + 1) v)
    (hs : pmArg a1 a2 a3 a4 → ¬ np < 20 → P (-1000003) n np μ) (hi : ¬ pmArg a1 a2 a3 a4 → P (-1000002) n np μ) : w_L_permit n np P a1 a2 a3 a4 μ := by
  have x4 : ∀ x : Int32, (4 ≤ x ↔ 3 < x) := fun x => le_lt (m := 3) rfl rfl (by omega)
  have x30 : ∀ x : Int32, (30 ≤ x ↔ 29 < x) := fun x => le_lt (m := 29) rfl rfl (by omega)
  have y30 : ∀ x : Int32, (x < 30 ↔ ¬ 29 < x) := fun x => lt_nlt (m := 29) rfl rfl (by omega)
  unfold w_L_permit w_X4_permit b_X4_permit_22 b_X4_permit_53
  have hal := h.al
  have he := h.env
  have hz := he.2.2.2.2.2.2.2.2.2
  rw [x4, x30, y30]
  refine ⟨fun c => Or.inl ⟨rfl, hi (fun q => q.1 c)⟩, fun c1 => ⟨fun c => Or.inl ⟨rfl, hi (fun q => q.2.1 c)⟩, fun c2 => ⟨fun c => Or.inl ⟨rfl, hi (fun q => q.2.2.2.2.2.2.1 c)⟩, fun c7 => ⟨fun c8 => ?_, fun c => Or.inl ⟨rfl, hi (fun q => q.2.2.2.2.2.2.2 (Int32.not_le.mp c))⟩⟩⟩⟩⟩
  refine ⟨fun c => Or.inl ⟨rfl, hi (fun q => q.2.2.1 c)⟩, fun c3 => ⟨fun c => Or.inl ⟨rfl, hi (fun q => q.2.2.2.1 c)⟩, fun c4 => ⟨fun c => Or.inl ⟨rfl, hi (fun q => q.2.2.2.2.1 c)⟩, fun c5 => ⟨fun c6 => ?_, fun c => Or.inl ⟨rfl, hi (fun q => c q.2.2.2.2.2.1)⟩⟩⟩⟩⟩
  have hV : pmArg a1 a2 a3 a4 := ⟨c1, c2, c3, c4, c5, c6, c7, Int32.not_lt.mpr c8⟩
  have m8 := he.2.2.1.2.1
  have hpV := hp hV
  have hsV := hs hV
  clear hp hs hi
  rw [m8]
  refine ⟨fun c9 => ?_, fun c9 => Or.inr ⟨rfl, hsV (fun q => c9 ((lt_lit 20 rfl (by omega) rfl (by omega)).mpr q))⟩⟩
  have hlt : np < 20 := (lt_lit 20 rfl (by omega) rfl (by have := h.np20; omega)).mp c9
  refine ⟨hlt, fun k hk c => ?_, fun u0 eu0 => ?_⟩
  · rw [hal.2.1 k hk] at c ⊢
    by_cases w : k < np
    · rw [if_pos w, cl (by omega)]; exact w
    · rw [if_neg w] at c; exact absurd neg1 c
  unfold b_X4_permit_109
  rw [cl (by omega)]
  refine ⟨vin hlt (by omega), fun _ => by omega, fun u1 eu1 u2 eu2 => ?_⟩
  have uo : ∀ f, f ≠ 80 → f ≠ 33 → f ≠ 30 → u2 f = μ f := by
    intro f h1 h2 h3
    rw [eu2, zst_o h3, eu1, zst_o h2, eu0]
    exact zcp_o h1
  have u80 : ∀ j i, u2 80 j i = if j = np then (if i = 0 then a1 else if i = 1 then a2 else if i = 2 then a3 else if i = 3 then a4 else 0) else μ 80 j i := by
    intro j i
    rw [eu2, zst_o (by omega), eu1, zst_o (by omega), eu0]
    unfold zaddP zcp
    by_cases w : j = np <;> simp [w]
  have u33 : ∀ k, u2 33 0 k = if k = np then nI np else μ 33 0 k := by
    intro k
    rw [eu2, zst_o (by omega), eu1, zst_ap, eu0, show zaddP np a1 a2 a3 a4 μ 33 = μ 33 from zcp_o (by omega)]
    by_cases w : k = np <;> simp [w]
  have u30 : ∀ k, u2 30 0 k = if k = 8 then nI (np + 1) else μ 30 0 k := by
    intro k
    have e1 : u1 30 = μ 30 := by
      rw [eu1, zst_o (by omega), eu0]
      exact zcp_o (by omega)
    rw [eu2, zst_ap, e1, m8, nI_s1]
    by_cases w : k = 8 <;> simp [w]
  obtain ⟨F, hF⟩ : ∃ F, F = zst (zst (zst (zst (zst E 9 0 np a1) 10 0 np a2) 11 0 np a3) 12 0 np a4) 0 0 12 (nI (np + 1)) := ⟨_, rfl⟩
  have fo : ∀ f, f ≠ 0 → f ≠ 9 → f ≠ 10 → f ≠ 11 → f ≠ 12 → F f = E f := by
    intro f h0 h9 h10 h11 h12
    rw [hF, zst_o h0, zst_o h12, zst_o h11, zst_o h10, zst_o h9]
  have f0 : ∀ k, F 0 0 k = if k = 12 then nI (np + 1) else E 0 0 k := by
    intro k
    rw [hF, zst_ap, zst_o (f' := 0) (by omega), zst_o (f' := 0) (by omega), zst_o (f' := 0) (by omega), zst_o (f' := 0) (by omega)]
    by_cases w : k = 12 <;> simp [w]
  have f9 : ∀ k, F 9 0 k = if k = np then a1 else E 9 0 k := by
    intro k
    rw [hF, zst_o (by omega), zst_o (by omega), zst_o (by omega), zst_o (by omega), zst_ap]
    by_cases w : k = np <;> simp [w]
  have f10 : ∀ k, F 10 0 k = if k = np then a2 else E 10 0 k := by
    intro k
    rw [hF, zst_o (by omega), zst_o (by omega), zst_o (by omega), zst_ap, zst_o (f' := 10) (by omega)]
    by_cases w : k = np <;> simp [w]
  have f11 : ∀ k, F 11 0 k = if k = np then a3 else E 11 0 k := by
    intro k
    rw [hF, zst_o (by omega), zst_o (by omega), zst_ap, zst_o (f' := 11) (by omega), zst_o (f' := 11) (by omega)]
    by_cases w : k = np <;> simp [w]
  have f12 : ∀ k, F 12 0 k = if k = np then a4 else E 12 0 k := by
    intro k
    rw [hF, zst_o (by omega), zst_ap, zst_o (f' := 12) (by omega), zst_o (f' := 12) (by omega), zst_o (f' := 12) (by omega)]
    by_cases w : k = np <;> simp [w]
  have hfo : ∀ f, (f = 1 ∨ f = 2 ∨ f = 3 ∨ f = 4 ∨ f = 5 ∨ f = 6 ∨ f = 7 ∨ f = 8 ∨ f = 13 ∨ f = 14 ∨ f = 15 ∨ f = 16) → F f = E f := fun f w => fo f (by omega) (by omega) (by omega) (by omega) (by omega)
  obtain ⟨⟨hn, hnp, ht⟩, ⟨e0, e3, e12⟩, ⟨m7, -, m9, m10⟩, -, hst, hg, hsk, hsc, htold, hz1, hz2⟩ := he
  have hE : env n (np + 1) t u2 F := by
    refine ⟨⟨hn, hlt, ht⟩, ⟨by rw [f0, if_neg (by omega)]; exact e0, by rw [f0, if_neg (by omega)]; exact e3, by rw [f0, if_pos rfl]⟩, ⟨by rw [u30, if_neg (by omega)]; exact m7, by rw [u30, if_pos rfl], by rw [u30, if_neg (by omega)]; exact m9, by rw [u30, if_neg (by omega), f0, if_neg (by omega)]; exact m10⟩, ⟨fun a ha => ?_, fun k hk => ?_, fun k hk => ?_, fun j d hj hd => ?_⟩, stRel_mv hst (by rw [uo 42 (by omega) (by omega) (by omega)]) (fun p _ => by rw [uo 43 (by omega) (by omega) (by omega)]) (by rw [uo 40 (by omega) (by omega) (by omega)]) ⟨by rw [hfo 15 (by omega)], by rw [hfo 16 (by omega)], by rw [f0, if_neg (by omega)]⟩, by rw [hfo 15 (by omega)]; exact hg, by rw [hfo 16 (by omega)]; exact hsk, scOK_mv hsc (uo 70 (by omega) (by omega) (by omega)) (fun f w => by rw [hfo f (by omega)]), by rw [uo 31 (by omega) (by omega) (by omega)]; exact htold, by rw [uo 62 (by omega) (by omega) (by omega)]; exact hz1, fun k a b => by rw [hfo 13 (by omega)]; exact hz2 k (by omega) b⟩
    · unfold scRel
      rw [uo 70 (by omega) (by omega) (by omega), uo 71 (by omega) (by omega) (by omega), uo 72 (by omega) (by omega) (by omega), uo 73 (by omega) (by omega) (by omega), hfo 1 (by omega), hfo 2 (by omega), hfo 5 (by omega), hfo 6 (by omega), hfo 7 (by omega)]
      exact hal.1 a ha
    · rw [u33]
      by_cases w : k = np
      · rw [if_pos w, if_pos (by omega), w]
      · rw [if_neg w, hal.2.1 k hk]
        by_cases h2 : k < np
        · rw [if_pos h2, if_pos (by omega)]
        · rw [if_neg h2, if_neg (by omega)]
    · unfold pmRel
      rw [u80, u80, u80, u80, u80, f9, f10, f11, f12, hfo 13 (by omega)]
      by_cases w : k = np
      · have e := hz2 np (Nat.le_refl np) hlt
        exact ⟨by simp [w], by simp [w], by simp [w], by simp [w], by simp [w, e]⟩
      · simp only [w, if_false]
        exact hal.2.2.1 k (by omega)
    · rw [uo 34 (by omega) (by omega) (by omega), hfo 14 (by omega)]
      exact hal.2.2.2 j d hj hd
  have hP : planI n t u2 F := planI_of h.pl (by rw [uo 32 (by omega) (by omega) (by omega)]) (by rw [hfo 8 (by omega)]) (by rw [hfo 3 (by omega)]) (by rw [hfo 4 (by omega)])
  refine ⟨_, pu_gs u2 F, hpV hlt F _ (Jv_mk hE hP (fun f h1 h2 => by rw [uo f (by omega) (by omega) (by omega), h.2.2 f h2, fo f (by omega) (by omega) (by omega) (by omega) (by omega)])) fo (fun k w => by rw [f0, if_neg w]) (fun f k hk hf => ?_)⟩
  rcases hf with rfl | rfl | rfl | rfl
  · rw [f9, if_neg (by omega)]
  · rw [f10, if_neg (by omega)]
  · rw [f11, if_neg (by omega)]
  · rw [f12, if_neg (by omega)]
theorem s_revoke (h : Jv n np t E μ) {a1 : Int32}
    (hp : ∀ k, k < np → a1 = nI k → E 13 0 k = 0 → ∀ F v : Mem, Jv n np t F v → (∀ f, f ≠ 13 → F f = E f) → (∀ j, F 13 0 j = if j = k then 1 else E 13 0 j) → P (nI (sumN (rD F np (F 8 0)) 30) - nI (sumN (rD E np (E 8 0)) 30)) v)
    (hs : ∀ k, k < np → a1 = nI k → ¬ E 13 0 k = 0 → P (-1000003) μ) (hx : (¬ ∃ k, k < np ∧ a1 = nI k) → P (-1000001) μ) : w_L_revoke n np P a1 μ := by
  unfold w_L_revoke w_X4_revoke
  have hnp := h.np20
  have hal := h.al
  refine X4_permitNumbered hnp hal.2.1 (fun k hk e => ?_) (fun q => Or.inl ⟨rfl, hx q⟩)
  have hpk := hp k hk e
  have hsk := hs k hk e
  clear hp hs hx
  subst e
  rw [cl (by omega), (hal.2.2.1 k hk).2.2.2.2]
  refine ⟨pos (by omega), hk, fun c => ?_, fun c => Or.inr ⟨rfl, hsk c⟩⟩
  refine s_RF h.env h.pl (fun u eu => ?_)
  have h80 : ∀ j i, u 80 j i = if j = k ∧ i = 4 then 1 else μ 80 j i := by
    intro j i
    rw [eu, zst_ap]
    by_cases w : j = k ∧ i = 4
    · rw [if_pos w, if_pos ⟨rfl, w⟩]
    · rw [if_neg w, if_neg (fun q => w q.2)]
  have uo : ∀ f, f ≠ 80 → u f = μ f := fun f hf => by rw [eu, zst_o hf]
  obtain ⟨F, hF⟩ : ∃ F, F = zst E 13 0 k 1 := ⟨_, rfl⟩
  have fo : ∀ f, f ≠ 13 → F f = E f := fun f hf => by rw [hF, zst_o hf]
  have f13 : ∀ j, F 13 0 j = if j = k then 1 else E 13 0 j := by
    intro j
    rw [hF, zst_ap]
    by_cases w : j = k <;> simp [w]
  have hE : env n np t u F := env_permit hk h.env (fun f hf => uo f (by omega)) h80 (fun j _ => by rw [fo 0 (by omega)]) (fun f a b c => by rw [fo f c]) f13
  have hP : planI n t u F := planI_of h.pl (by rw [uo 32 (by omega)]) (by rw [fo 8 (by omega)]) (by rw [fo 3 (by omega)]) (by rw [fo 4 (by omega)])
  exact s_RF hE hP ⟨_, pu_gs u F, hpk c F _ (Jv_mk hE hP (fun f h1 h2 => by rw [uo f (by omega), h.2.2 f h2, fo f (by omega)])) fo f13⟩
theorem s_away (h : Jv n np t E μ) {a1 a2 a3 : Int32} (h3 : a3 = 0 ∨ a3 = 1)
    (hp : ∀ k d, k < 5 → d < 30 → a1 = nI k → a2 = nI d → ∀ F v : Mem, Jv n np t F v → (∀ f, f ≠ 14 → F f = E f) → (∀ j, F 14 0 j = if j = 30 * k + d then a3 else E 14 0 j) → ∀ r, (r = 0 ∨ r = 1) → r = E 14 0 (30 * k + d) → P r v)
    (hx : (¬ ∃ k, k < 5 ∧ a1 = nI k) → P (-1000001) μ) (hi : (∃ k, k < 5 ∧ a1 = nI k) → (¬ ∃ d, d < 30 ∧ a2 = nI d) → P (-1000002) μ) : w_L_away n np P a1 a2 a3 μ := by
  unfold w_L_away w_X4_away
  refine X4_requireActor (fun q => ?_) (fun q => Or.inl ⟨rfl, hx q⟩)
  have hiq := hi q
  obtain ⟨k, hk, e⟩ := q
  refine X4_requireDay (fun q => ?_) (fun q => Or.inr ⟨rfl, hiq q⟩)
  obtain ⟨d, hd, e2⟩ := q
  have hpk := hp k d hk hd e e2
  clear hp hx hi hiq
  subst e
  subst e2
  have hal := h.al
  have he := h.env
  have haw0 := hal.2.2.2 k d hk hd
  have old01 : E 14 0 (30 * k + d) = 0 ∨ E 14 0 (30 * k + d) = 1 := by
    rw [← haw0]
    exact aw_01 hd
  obtain ⟨F, hF⟩ : ∃ F, F = zst E 14 0 (30 * k + d) a3 := ⟨_, rfl⟩
  have fo : ∀ f, f ≠ 14 → F f = E f := fun f hf => by rw [hF, zst_o hf]
  have f14 : ∀ j, F 14 0 j = if j = 30 * k + d then a3 else E 14 0 j := by
    intro j
    rw [hF, zst_ap]
    by_cases w : j = 30 * k + d <;> simp [w]
  -- the world behind, where the bits are right
  have fin : ∀ u : Mem, (∀ f, f ≠ 34 → u f = μ f) → awRel u F → Jv n np t F (pu u F) := by
    intro u uo haw
    obtain ⟨-, -, ⟨m7, m8, m9, m10⟩, -, hst, hg, hsk, hsc, htold, hz⟩ := he
    have hE : env n np t u F := by
      refine env_build h.env (fun k _ => by rw [uo 30 (by omega)]) (by rw [uo 30 (by omega), fo 0 (by omega)]; exact m10) (fun k _ => by rw [fo 0 (by omega)]) ⟨fun a ha => ?_, fun k hk => ?_, fun j hj => ?_, haw⟩ (stRel_mv hst (by rw [uo 42 (by omega)]) (fun p _ => by rw [uo 43 (by omega)]) (by rw [uo 40 (by omega)]) ⟨by rw [fo 15 (by omega)], by rw [fo 16 (by omega)], by rw [fo 0 (by omega)]⟩) (by rw [fo 15 (by omega)]; exact hg) (by rw [fo 16 (by omega)]; exact hsk) (scOK_mv hsc (uo 70 (by omega)) (fun f w => by rw [fo f (by omega)])) (by rw [uo 31 (by omega)]) (by rw [uo 62 (by omega)]) (fun j a b => by rw [fo 13 (by omega)]; exact hz.2 j a b)
      · unfold scRel
        rw [uo 70 (by omega), uo 71 (by omega), uo 72 (by omega), uo 73 (by omega), fo 1 (by omega), fo 2 (by omega), fo 5 (by omega), fo 6 (by omega), fo 7 (by omega)]
        exact hal.1 a ha
      · rw [uo 33 (by omega)]; exact hal.2.1 k hk
      · unfold pmRel
        rw [uo 80 (by omega), fo 9 (by omega), fo 10 (by omega), fo 11 (by omega), fo 12 (by omega), fo 13 (by omega)]
        exact hal.2.2.1 j hj
    have hP : planI n t u F := planI_of h.pl (by rw [uo 32 (by omega)]) (by rw [fo 8 (by omega)]) (by rw [fo 3 (by omega)]) (by rw [fo 4 (by omega)])
    exact Jv_mk hE hP (fun f h1 h2 => by rw [uo f (by omega), h.2.2 f h2, fo f (by omega)])
  have keep : E 14 0 (30 * k + d) = a3 → Jv n np t F (pu μ F) := by
    intro e
    refine fin μ (fun _ _ => rfl) (fun j i hj hi => ?_)
    rw [hal.2.2.2 j i hj hi, f14]
    by_cases c : 30 * j + i = 30 * k + d
    · rw [if_pos c, c, e]
    · rw [if_neg c]
  have flip : ∀ u : Mem, ¬ E 14 0 (30 * k + d) = a3 → u = zst μ 34 0 k ((μ 34 0 k) ^^^ ((1 : Int32) <<< (nI d &&& 31))) → Jv n np t F (pu u F) := by
    intro u hne eu
    refine fin u (fun f hf => by rw [eu, zst_o hf]) (fun j i hj hi => ?_)
    rw [f14, eu, zst_ap]
    by_cases cj : j = k
    · subst cj
      rw [if_pos ⟨rfl, rfl, rfl⟩, aw_flip hd hi]
      by_cases ci : i = d
      · subst ci
        rw [if_pos rfl, if_pos rfl, haw0]
        rcases old01 with q | q
        · rw [q] at hne ⊢
          rcases h3 with w | w
          · exact absurd w.symm hne
          · rw [w]; rfl
        · rw [q] at hne ⊢
          rcases h3 with w | w
          · rw [w]; rfl
          · exact absurd w.symm hne
      · rw [if_neg ci, if_neg (show ¬ 30 * j + i = 30 * j + d by omega)]
        exact hal.2.2.2 j i hj hi
    · rw [if_neg (fun q => cj q.2.2), if_neg (show ¬ 30 * j + i = 30 * k + d by omega)]
      exact hal.2.2.2 j i hj hi
  have fin1 : ∀ (r : Int32) (u : Mem), (r = 0 ∨ r = 1) → r = E 14 0 (30 * k + d) → Jv n np t F (pu u F) → ∃ v, gs u v ∧ (r = 0 → P 0 v) ∧ (¬ r = 0 → P 1 v) := by
    intro r u h01 er hj
    refine ⟨_, pu_gs u F, fun q => ?_, fun q => ?_⟩
    · exact hpk F _ hj fo f14 0 (Or.inl rfl) (q.symm.trans er)
    · have q1 := h01.resolve_left q
      exact hpk F _ hj fo f14 1 (Or.inr rfl) (q1.symm.trans er)
  refine X4_isAwayOn (E := E) hk hd hal.2.2.2 (fun e => ⟨fun c => ⟨Or.inl rfl, fin1 0 μ (Or.inl rfl) e.symm (keep (e.trans c))⟩, fun c => ⟨vin hk (by omega), fun u eu => ⟨Or.inl rfl, fin1 0 u (Or.inl rfl) e.symm (flip u (fun q => c (e.symm.trans q)) ?_)⟩⟩⟩) (fun e => ⟨fun c => ⟨Or.inr rfl, fin1 1 μ (Or.inr rfl) (old01.resolve_left e).symm (keep ((old01.resolve_left e).trans c))⟩, fun c => ⟨vin hk (by omega), fun u eu => ⟨Or.inr rfl, fin1 1 u (Or.inr rfl) (old01.resolve_left e).symm (flip u (fun q => c ((old01.resolve_left e).symm.trans q)) ?_)⟩⟩⟩)
  · rw [cl (by omega)] at eu
    exact eu
  · rw [cl (by omega)] at eu
    exact eu
theorem s_buy (h : Jv n np t E μ) {a1 : Int32}
    (hp : ∀ p S, p < 5 → a1 = nI p → csm (fun s => E 16 0 (4 * p + s)) 4 = nI S → S < 20 → ∀ F v : Mem, Jv n np t F v → (∀ f, f ≠ 0 → f ≠ 16 → F f = E f) → (∀ k, F 0 0 k = if k = 1 then E 0 0 1 + 5 else E 0 0 k) → P (nI S + 1) v)
    (hs : ∀ p S, p < 5 → a1 = nI p → csm (fun s => E 16 0 (4 * p + s)) 4 = nI S → S < 1000 → ¬ S < 20 → P (-1000003) μ)
    (hx : (¬ ∃ k, k < 5 ∧ a1 = nI k) → P (-1000001) μ) : w_L_buy n np P a1 μ := by
  unfold w_L_buy w_X4_buy
  refine X4_requireProp (fun q => ?_) (fun q => Or.inl ⟨rfl, hx q⟩)
  obtain ⟨p, hp5, e⟩ := q
  have hpp := fun S => hp p S hp5 e
  have hss := fun S => hs p S hp5 e
  clear hp hs hx
  subst e
  have ht := h.t30
  have hst := h.st
  obtain ⟨X, hX, hS⟩ := h.sk p hp5
  have hc : csm (μ 43 p) 4 = nI (X 0 + X 1 + X 2 + X 3) := csm_X (fun s hs => (hst.2.1 p s hp5 hs).trans (hX s hs))
  have hc5 : csm (fun s => E 16 0 (4 * p + s)) 4 = nI (X 0 + X 1 + X 2 + X 3) := csm_X hX
  generalize hSS : X 0 + X 1 + X 2 + X 3 = S at hc hc5 hS
  refine X3_countCopies hp5 ?_
  rw [hc]
  refine ⟨fun c => ⟨vin hp5 (by omega), ?_⟩, fun c => Or.inr ⟨rfl, hss S hc5 (by omega) (fun q => c ((lt_lit 20 rfl (by omega) rfl (by omega)).mpr q))⟩⟩
  have hS20 : S < 20 := (lt_lit 20 rfl (by omega) rfl (by omega)).mp c
  rw [cl (by omega), show 5 * 0 + p = p by omega, show (0 : Int32).toNatClampNeg = 0 from rfl]
  refine ⟨by omega, fun u eu u2 eu2 => ?_⟩
  obtain ⟨F, hF⟩ : ∃ F, F = zst (zst E 16 0 (4 * p) (E 16 0 (4 * p) + 1)) 0 0 1 (E 0 0 1 + 5) := ⟨_, rfl⟩
  have fo : ∀ f, f ≠ 0 → f ≠ 16 → F f = E f := fun f h1 h2 => by rw [hF, zst_o h1, zst_o h2]
  have f16 : ∀ k, F 16 0 k = if k = 4 * p then E 16 0 (4 * p) + 1 else E 16 0 k := by
    intro k
    rw [hF, zst_o (by omega), zst_ap]
    by_cases w : k = 4 * p <;> simp [w]
  have f0 : ∀ k, F 0 0 k = if k = 1 then E 0 0 1 + 5 else E 0 0 k := by
    intro k
    rw [hF, zst_ap, zst_o (f' := 0) (by omega)]
    by_cases w : k = 1 <;> simp [w]
  have uo : ∀ f, f ≠ 43 → f ≠ 30 → u2 f = μ f := fun f h1 h2 => by rw [eu2, zst_o h2, eu, zst_o h1]
  have u30 : ∀ k, u2 30 0 k = if k = 10 then μ 30 0 10 + 5 else μ 30 0 k := by
    intro k
    rw [eu2, zst_ap, eu, zst_o (f' := 30) (by omega)]
    by_cases w : k = 10 <;> simp [w]
  have u43 : u2 43 = zst μ 43 p 0 (μ 43 p 0 + 1) 43 := by rw [eu2, zst_o (by omega), eu]
  have hX0 := hX 0 (by omega)
  simp only [Nat.add_zero] at hX0
  have hX' : ∀ s, s < 4 → F 16 0 (4 * p + s) = nI ((fun s => if s = 0 then X 0 + 1 else X s) s) := by
    intro s hs
    rw [f16]
    by_cases hs0 : s = 0
    · subst hs0
      rw [if_pos (by omega), hX0, nI_s1]
      rfl
    · rw [if_neg (by omega)]
      show E 16 0 (4 * p + s) = nI (if s = 0 then X 0 + 1 else X s)
      rw [if_neg hs0]
      exact hX s hs
  have hE : env n np t u2 F := by
    refine env_stock h.env (fun f hf => uo f (by omega) (by omega)) ⟨by rw [u30]; rfl, by rw [u30]; rfl, by rw [u30]; rfl⟩ ?_ ⟨by rw [f0]; rfl, by rw [f0]; rfl, by rw [f0]; rfl, by rw [f0]; rfl⟩ (fun f a b => by rw [fo f (by omega) (by omega)]) (fun q s hq hs => ?_) ?_
    · rw [u30, f0, if_pos rfl, if_pos rfl, h.env.2.2.1.2.2.2]
    · show u2 43 q s = F 16 0 (4 * q + s)
      rw [u43, f16, zst_ap]
      have := hst.2.1 q s hq hs
      have h00 := hst.2.1 p 0 hp5 (by omega)
      simp only [Nat.add_zero] at h00
      by_cases hc1 : q = p ∧ s = 0
      · obtain ⟨rfl, rfl⟩ := hc1
        rw [if_pos ⟨rfl, rfl, rfl⟩, if_pos (by omega), h00]
      · rw [if_neg (fun w => hc1 ⟨w.2.1, w.2.2⟩), if_neg (by omega)]
        exact this
    · refine sok_row h.sk (p := p) (fun q s hq hs hne => ?_) ⟨_, hX', ?_⟩
      · rw [f16, if_neg (by omega)]
      · simp
        omega
  have hP : planI n t u2 F := planI_of h.pl (by rw [uo 32 (by omega) (by omega)]) (by rw [fo 8 (by omega) (by omega)]) (by rw [fo 3 (by omega) (by omega)]) (by rw [fo 4 (by omega) (by omega)])
  exact ⟨_, pu_gs u2 F, hpp S hc5 hS20 F _ (Jv_mk hE hP (fun f h1 h2 => by rw [uo f (by omega) (by omega), h.2.2 f h2, fo f (by omega) (by omega)])) fo f0⟩
theorem s_mishap (h : Jv n np t E μ) {a1 a2 : Int32}
    (hp : ∀ p s, p < 5 → s < 3 → a1 = nI p → a2 = nI s → 0 < E 16 0 (4 * p + s) → ∀ F v : Mem, Jv n np t F v → (∀ f, f ≠ 16 → F f = E f) → (∀ k, F 16 0 k = if k = 4 * p + 3 then E 16 0 (4 * p + 3) + 1 else if k = 4 * p + s then E 16 0 (4 * p + s) - 1 else E 16 0 k) → P (E 16 0 (4 * p + 3) + 1) v)
    (hs : ∀ p s, p < 5 → s < 3 → a1 = nI p → a2 = nI s → ¬ 0 < E 16 0 (4 * p + s) → P (-1000003) μ)
    (hi : (∃ k, k < 5 ∧ a1 = nI k) → (¬ ∃ s, s < 3 ∧ a2 = nI s) → P (-1000002) μ)
    (hx : (¬ ∃ k, k < 5 ∧ a1 = nI k) → P (-1000001) μ) : w_L_mishap n np P a1 a2 μ := by
  unfold w_L_mishap w_X4_mishap b_X4_mishap_13
  refine X4_requireProp (fun q => ?_) (fun q => Or.inl ⟨rfl, hx q⟩)
  have hiq := hi q
  obtain ⟨p, hp5, e⟩ := q
  have hpp := fun s hs => hp p s hp5 hs e
  have hss := fun s hsl => hs p s hp5 hsl e
  clear hp hs hx hi
  subst e
  have hst := h.st
  rcases arg_or a2 3 with w | w
  · obtain ⟨s, hs, e2⟩ := w
    have hps := hpp s hs e2
    have hsc := hss s hs e2
    clear hpp hss hiq
    subst e2
    have hl3 : nI s < 3 := (lt_lit 3 rfl (by omega) rfl (by omega)).mpr hs
    refine ⟨fun c => absurd c (pos (by omega)), fun _ => ⟨fun _ => ?_, fun c => absurd hl3 c⟩⟩
    rw [cl (by omega), cl (by omega), show 5 * 0 + p = p by omega, show (3 : Int32).toNatClampNeg = 3 from rfl]
    obtain ⟨X, hX, hS⟩ := h.sk p hp5
    have hX' : ∀ s, s < 4 → E 16 0 (4 * p + s) = nI (X s) := hX
    have h43 : ∀ s, s < 4 → μ 43 p s = E 16 0 (4 * p + s) := fun s hs => hst.2.1 p s hp5 hs
    refine ⟨vin hp5 (by omega), by omega, vin (by omega) (by omega), fun c => ?_, fun c => Or.inr (Or.inr ⟨rfl, hsc (by rw [← h43 s (by omega)]; exact Int32.not_lt.mpr (Int32.not_lt.mp (fun q => c q)))⟩)⟩
    intro u eu u2 eu2
    have c' : 0 < E 16 0 (4 * p + s) := by rw [← h43 s (by omega)]; exact c
    have hc0 : X s ≠ 0 := by
      intro q
      rw [hX' s (by omega), q] at c'
      exact absurd c' (by decide)
    have u43 : ∀ q r, u2 43 q r = if q = p ∧ r = 3 then μ 43 p 3 + 1 else if q = p ∧ r = s then μ 43 p s - 1 else μ 43 q r := by
      intro q r
      have e3' : u 43 p 3 = μ 43 p 3 := by
        rw [eu, zst_ap, if_neg (by omega)]
      rw [eu2, zst_ap, e3', eu, zst_ap]
      by_cases h1 : q = p ∧ r = 3
      · rw [if_pos h1, if_pos ⟨rfl, h1⟩]
      · rw [if_neg h1, if_neg (fun w => h1 w.2)]
        by_cases h2 : q = p ∧ r = s
        · rw [if_pos h2, if_pos ⟨rfl, h2⟩]
        · rw [if_neg h2, if_neg (fun w => h2 w.2)]
    have uo : ∀ f, f ≠ 43 → u2 f = μ f := fun f hf => by rw [eu2, zst_o hf, eu, zst_o hf]
    obtain ⟨F, hF⟩ : ∃ F, F = zst (zst E 16 0 (4 * p + s) (E 16 0 (4 * p + s) - 1)) 16 0 (4 * p + 3) (E 16 0 (4 * p + 3) + 1) := ⟨_, rfl⟩
    have fo : ∀ f, f ≠ 16 → F f = E f := fun f h1 => by rw [hF, zst_o h1, zst_o h1]
    have f16 : ∀ k, F 16 0 k = if k = 4 * p + 3 then E 16 0 (4 * p + 3) + 1 else if k = 4 * p + s then E 16 0 (4 * p + s) - 1 else E 16 0 k := by
      intro k
      rw [hF, zst_ap, zst_ap]
      by_cases h1 : k = 4 * p + 3
      · simp [h1]
      · by_cases h2 : k = 4 * p + s <;> simp [h1, h2]
    have hE : env n np t u2 F := by
      refine env_stock h.env (fun f hf => uo f (by omega)) ⟨by rw [uo 30 (by omega)], by rw [uo 30 (by omega)], by rw [uo 30 (by omega)]⟩ (by rw [uo 30 (by omega), fo 0 (by omega)]; exact h.env.2.2.1.2.2.2) ⟨by rw [fo 0 (by omega)], by rw [fo 0 (by omega)], by rw [fo 0 (by omega)], by rw [fo 0 (by omega)]⟩ (fun f a b => by rw [fo f (by omega)]) (fun q r hq hr => ?_) (sok_row h.sk (p := p) (fun q r hq hr hne => ?_) ⟨fun r => if r = 3 then X 3 + 1 else if r = s then X s - 1 else X r, fun r hr => ?_, ?_⟩)
      · show u2 43 q r = F 16 0 (4 * q + r)
        rw [u43, f16]
        by_cases h1 : q = p ∧ r = 3
        · rw [if_pos h1, if_pos (show 4 * q + r = 4 * p + 3 by omega), h43 3 (by omega)]
        · rw [if_neg h1, if_neg (show ¬ 4 * q + r = 4 * p + 3 by omega)]
          by_cases h2 : q = p ∧ r = s
          · rw [if_pos h2, if_pos (show 4 * q + r = 4 * p + s by omega), h43 s (by omega)]
          · rw [if_neg h2, if_neg (show ¬ 4 * q + r = 4 * p + s by omega)]
            exact hst.2.1 q r hq hr
      · rw [f16, if_neg (by omega), if_neg (by omega)]
      · show F 16 0 (4 * p + r) = nI (if r = 3 then X 3 + 1 else if r = s then X s - 1 else X r)
        rw [f16]
        by_cases h1 : r = 3
        · rw [if_pos (show 4 * p + r = 4 * p + 3 by omega), if_pos h1, hX' 3 (by omega), nI_s1]
        · rw [if_neg (show ¬ 4 * p + r = 4 * p + 3 by omega), if_neg h1]
          by_cases h2 : r = s
          · rw [if_pos (show 4 * p + r = 4 * p + s by omega), if_pos h2, hX' s (by omega)]
            have := nI_pred (X s - 1)
            rw [show X s - 1 + 1 = X s by omega] at this
            exact this
          · rw [if_neg (show ¬ 4 * p + r = 4 * p + s by omega), if_neg h2]
            exact hX' r hr
      · rcases (show s = 0 ∨ s = 1 ∨ s = 2 by omega) with rfl | rfl | rfl <;> simp <;> omega
    have hP : planI n t u2 F := planI_of h.pl (by rw [uo 32 (by omega)]) (by rw [fo 8 (by omega)]) (by rw [fo 3 (by omega)]) (by rw [fo 4 (by omega)])
    refine ⟨_, pu_gs u2 F, ?_⟩
    rw [u43, if_pos ⟨rfl, rfl⟩, h43 3 (by omega)]
    exact hps c' F _ (Jv_mk hE hP (fun f h1 h2 => by rw [uo f (by omega), h.2.2 f h2, fo f (by omega)])) fo f16
  · exact ⟨fun _ => Or.inr (Or.inl ⟨rfl, hiq w⟩), fun c => ⟨fun c2 => absurd c2 (arg_not (N := 3) (M := 3) rfl (by decide) w c), fun _ => Or.inr (Or.inl ⟨rfl, hiq w⟩)⟩⟩
theorem s_clear (h : Jv n np t E μ)
    (hp : ∀ F v : Mem, Jv n np t F v → (∀ f, f ≠ 16 → F f = E f) → (∀ p s, p < 5 → s < 4 → F 16 0 (4 * p + s) = if s = 3 then 0 else E 16 0 (4 * p + s)) → P (csm (fun q => E 16 0 (4 * q + 3)) 5) v) : w_X4_clear n np (fun r u => ∃ v, gs u v ∧ P r v) μ := by
  have hst := h.st
  have h43 : ∀ p s, p < 5 → s < 4 → μ 43 p s = E 16 0 (4 * p + s) := fun p s hp hs => hst.2.1 p s hp hs
  have fin : ∀ u : Mem, (∀ f, f ≠ 43 → u f = μ f) → (∀ q r, u 43 q r = if q < 5 ∧ r = 3 then 0 else μ 43 q r) → ∃ v, gs u v ∧ P (csm (fun q => μ 43 q 3) 5) v := by
    intro u uo u43
    obtain ⟨F, hF⟩ : ∃ F : Mem, F = zcp E 16 0 (fun k => if k % 4 = 3 then 0 else E 16 0 k) := ⟨_, rfl⟩
    have fo : ∀ f, f ≠ 16 → F f = E f := fun f h1 => by rw [hF, zcp_o h1]
    have f16 : ∀ p s, p < 5 → s < 4 → F 16 0 (4 * p + s) = if s = 3 then 0 else E 16 0 (4 * p + s) := by
      intro p s hp hs
      rw [hF, zcp_at]
      show (if (4 * p + s) % 4 = 3 then 0 else E 16 0 (4 * p + s)) = _
      rw [show (4 * p + s) % 4 = s by omega]
    have hE : env n np t u F := by
      refine env_stock h.env (fun f hf => uo f (by omega)) ⟨by rw [uo 30 (by omega)], by rw [uo 30 (by omega)], by rw [uo 30 (by omega)]⟩ (by rw [uo 30 (by omega), fo 0 (by omega)]; exact h.env.2.2.1.2.2.2) ⟨by rw [fo 0 (by omega)], by rw [fo 0 (by omega)], by rw [fo 0 (by omega)], by rw [fo 0 (by omega)]⟩ (fun f a b => by rw [fo f (by omega)]) (fun p s hp hs => ?_) (fun p hp => ?_)
      · show u 43 p s = F 16 0 (4 * p + s)
        rw [u43, f16 p s hp hs]
        by_cases w : s = 3
        · rw [if_pos ⟨hp, w⟩, if_pos w]
        · rw [if_neg (fun q => w q.2), if_neg w]
          exact h43 p s hp hs
      · obtain ⟨X, hX, hS⟩ := h.sk p hp
        refine ⟨fun s => if s = 3 then 0 else X s, fun s hs => ?_, ?_⟩
        · show F 16 0 (4 * p + s) = nI (if s = 3 then 0 else X s)
          rw [f16 p s hp hs]
          by_cases w : s = 3
          · rw [if_pos w, if_pos w]
            rfl
          · rw [if_neg w, if_neg w]
            exact hX s hs
        · simp
          omega
    have hP : planI n t u F := planI_of h.pl (by rw [uo 32 (by omega)]) (by rw [fo 8 (by omega)]) (by rw [fo 3 (by omega)]) (by rw [fo 4 (by omega)])
    refine ⟨_, pu_gs u F, ?_⟩
    rw [csm_congr (r' := fun q => E 16 0 (4 * q + 3)) 5 (fun q hq => h43 q 3 hq (by omega))]
    exact hp F _ (Jv_mk hE hP (fun f h1 h2 => by rw [uo f (by omega), h.2.2 f h2, fo f (by omega)])) fo f16
  have loop : ∀ m j : Nat, j + m = 5 → ∀ u : Mem, (∀ f, f ≠ 43 → u f = μ f) → (∀ q r, u 43 q r = if q < j ∧ r = 3 then 0 else μ 43 q r) → l_X4_clear_4 n np (fun (r : Int32) (u : Mem) => ∃ v, gs u v ∧ P r v) (m + 1) (csm (fun q => μ 43 q 3) j) (nI j) u := by
    intro m
    induction m with
    | zero =>
      intro j hj u uo u43
      have e : j = 5 := by omega
      subst e
      show lb_X4_clear_4 n np _ _ _ _ _
      unfold lb_X4_clear_4
      exact ⟨fun _ => fin u uo u43, fun c => absurd (by decide) c⟩
    | succ m ih =>
      intro j hj u uo u43
      show lb_X4_clear_4 n np _ (l_X4_clear_4 n np _ (m + 1)) _ _ _
      unfold lb_X4_clear_4
      rw [nI_s1, cl (by omega), show 5 * 0 + j = j by omega, show (3 : Int32).toNatClampNeg = 3 from rfl]
      refine ⟨fun c => absurd ((le5 (k := j) (by omega)).mp c) (by omega), fun _ => ⟨vin (by omega) (by omega), by omega, fun x ex v ev => ?_⟩⟩
      have e1 : u 43 j 3 = μ 43 j 3 := by rw [u43, if_neg (by omega)]
      have e2 : x = csm (fun q => μ 43 q 3) (j + 1) := by
        rw [ex, e1]
        rfl
      rw [e2]
      refine ih (j + 1) (by omega) v (fun f hf => by rw [ev, zst_o hf, uo f hf]) (fun q r => ?_)
      rw [ev, zst_ap]
      by_cases w : q = j ∧ r = 3
      · rw [if_pos ⟨rfl, w⟩, if_pos ⟨by omega, w.2⟩]
      · rw [if_neg (fun z => w z.2), u43]
        by_cases h2 : q < j ∧ r = 3
        · rw [if_pos h2, if_pos ⟨by omega, h2.2⟩]
        · rw [if_neg h2, if_neg (fun z => ?_)]
          have : q = j := by omega
          exact w ⟨this, z.2⟩
  unfold w_X4_clear
  exact ⟨6, loop 5 0 rfl μ (fun _ _ => rfl) (fun q r => by rw [if_neg (by omega)])⟩
end OPS2
