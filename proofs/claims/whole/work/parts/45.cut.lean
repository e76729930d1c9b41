theorem env_state {n np t : Nat} {μ E u F : Mem} (h : env n np t μ E) (hu : ∀ f, (f = 30 ∨ f = 31 ∨ f = 33 ∨ f = 34 ∨ f = 40 ∨ f = 42 ∨ f = 43 ∨ f = 62 ∨ f = 71 ∨ f = 72 ∨ f = 73 ∨ f = 80) → u f = μ f) (h70 : ∀ j i, i ≤ 5 → u 70 j i = μ 70 j i) (h0 : ∀ k, k ≠ 25 → F 0 0 k = E 0 0 k) (hf : ∀ f, 1 ≤ f → f ≤ 16 → f ≠ 3 → f ≠ 4 → f ≠ 8 → F f 0 = E f 0) (hsc : scOK n u F) : env n np t u F := by
  obtain ⟨b, -, ⟨m7, m8, m9, m10⟩, hal, hst, hg, hsk, -, -, hzz⟩ := id h
  have hf' : ∀ f, (f = 1 ∨ f = 2 ∨ f = 5 ∨ f = 6 ∨ f = 7 ∨ (9 ≤ f ∧ f ≤ 16)) → F f 0 = E f 0 := fun f h => hf f (by omega) (by omega) (by omega) (by omega) (by omega)
  refine env_build h (fun k _ => by rw [hu 30 (by omega)]) (by rw [hu 30 (by omega), h0 1 (by omega)]; exact m10) (fun k hk => h0 k (by omega)) ?_ (stRel_mv hst (by rw [hu 42 (by omega)]) (fun p _ => by rw [hu 43 (by omega)]) (by rw [hu 40 (by omega)]) ⟨hf' 15 (by omega), hf' 16 (by omega), h0 2 (by omega)⟩) (by rw [hf' 15 (by omega)]; exact hg) (by rw [hf' 16 (by omega)]; exact hsk) hsc (by rw [hu 31 (by omega)]) (by rw [hu 62 (by omega)]) (fun j a b => by rw [hf' 13 (by omega)]; exact hzz.2 j a b)
  obtain ⟨h1, h2, h3, h4⟩ := hal
  refine ⟨fun a ha => ?_, fun k hk => ?_, fun j hj => ?_, fun j d hj hd => ?_⟩
  · unfold scRel
    rw [h70 a 1 (by omega), h70 a 2 (by omega), hu 71 (by omega), hu 72 (by omega), hu 73 (by omega), hf' 1 (by omega), hf' 2 (by omega), hf' 5 (by omega), hf' 6 (by omega), hf' 7 (by omega)]
    exact h1 a ha
  · rw [hu 33 (by omega)]; exact h2 k hk
  · unfold pmRel
    rw [hu 80 (by omega), hf' 9 (by omega), hf' 10 (by omega), hf' 11 (by omega), hf' 12 (by omega), hf' 13 (by omega)]
    exact h3 j hj
  · rw [hu 34 (by omega), hf' 14 (by omega)]; exact h4 j d hj hd
theorem X4_requirePlanned {n np a : Nat} {post : Mem → Prop} {xpost : String → Mem → Prop} {μ E : Mem} (ha : a < n) (h6 : μ 70 a 6 = E 3 0 a) (h1 : E 3 0 a = 0 → post μ) (h0 : ¬ E 3 0 a = 0 → xpost "java/lang/IllegalStateException" μ) : w_X4_requirePlanned n np post xpost a μ := by
  unfold w_X4_requirePlanned
  rw [h6]
  exact ⟨ha, h1, h0⟩
/-- a scene leaves the plan: it was on day d, its state is v now (not PLANNED) -/
theorem planI_drop {n t d a : Nat} {v : Int32} {μ E u F : Mem} (hn : n ≤ 10) (hd : d < 30) (ha : a < n) (hv : ¬ v = 0) (hda : E 8 0 d = nI a) (h : planI n t μ E) (h32 : ∀ k, u 32 0 k = if k = d then -1 else μ 32 0 k) (h8 : ∀ k, F 8 0 k = if k = d then -1 else E 8 0 k) (h3 : ∀ k, F 3 0 k = if k = a then v else E 3 0 k) (h4 : ∀ k, k ≠ a → F 4 0 k = E 4 0 k) : planI n t u F := by
  obtain ⟨p1, p2, p3, p4, p5⟩ := h
  have nota : ∀ k b, k < 30 → b < n → F 8 0 k = nI b → b ≠ a ∧ E 8 0 k = nI b ∧ k ≠ d := by
    intro k b hk hb e
    rw [h8] at e
    by_cases c : k = d
    · rw [if_pos c] at e
      exact absurd e.symm (nI_neg1 (by omega))
    · rw [if_neg c] at e
      refine ⟨fun q => ?_, e, c⟩
      subst q
      have e1 := (p4 k b hk hb e).2
      have e2 := (p4 d b hd hb hda).2
      rw [e1] at e2
      exact c ((nI_eq (by omega) (by omega)).mp e2)
  refine ⟨fun k hk => ?_, fun k hk => ?_, fun k hk => ?_, fun k b hk hb e => ?_, fun b hb e => ?_⟩
  · rw [h32, h8, p1 k hk]
  · rw [h8]
    by_cases c : k = d
    · rw [if_pos c]; exact Or.inl rfl
    · rw [if_neg c]; exact p2 k hk
  · rw [h8, p3 k hk]
    by_cases c : k = d <;> simp [c]
  · obtain ⟨q1, q2, q3⟩ := nota k b hk hb e
    rw [h3, if_neg q1, h4 b q1]
    exact p4 k b hk hb q2
  · rw [h3] at e
    by_cases c : b = a
    · rw [if_pos c] at e
      exact absurd e hv
    · rw [if_neg c] at e
      obtain ⟨k, k1, k2, k3⟩ := p5 b hb e
      refine ⟨k, k1, k2, ?_⟩
      rw [h8, if_neg (fun q => c ?_)]
      · exact k3
      · rw [q, hda] at k3
        exact ((nI_eq (by omega) (by omega)).mp k3).symm
theorem o_cut : ob_cut Inv := by
  intro n np μ a1 hI
  obtain ⟨t, he, hpl⟩ := id hI
  obtain ⟨⟨hn, hnp, ht⟩, ⟨e0, e3, e12⟩, ⟨m7, m8, m9, m10⟩, hal, hst, hg, hsk, hsc, htold, hz⟩ := id he
  unfold w_L_cut w_X4_cut
  refine X4_sceneNumbered hn htold (fun a ha e => ?_) (fun h => Or.inl ⟨rfl, ?_⟩)
  · subst e
    obtain ⟨q1, q2, q3, q4, q5⟩ := hsc a ha
    rw [cl (by omega)]
    refine ⟨pos (by omega), X4_requirePlanned (E := μ) ha q2 (fun c => ?_) (fun c => Or.inr ⟨rfl, ?_⟩)⟩
    · refine X4_plannedDay hn ha (planI_cls hpl) (fun d hd ed => ?_) (fun hno => ?_)
      · rw [hpl.1 d hd] at ed
        have e4 := (hpl.2.2.2.1 d a hd ha ed).2
        unfold w_X4_put
        rw [cl (by omega)]
        refine ⟨fun q => absurd q (pos (by omega)), fun _ => ⟨fun q => absurd ((le30 (k := d) (by omega)).mp q) (by omega), fun _ => ⟨vin hd (by omega), fun q => absurd neg1 q, fun u eu => ⟨ha, fun u2 eu2 => ?_⟩⟩⟩⟩
        show w_X5_cut (fun (b : Int32) (u2 : Mem) => w_X5_thrown (oT Inv n np 0 b) u2) (nI a) (zst u2 21 0 0 (nI d))
        unfold w_X5_cut b_X5_cut_26
        generalize hw : zst u2 21 0 0 (nI d) = w
        have r1 : rsame μ w := by
          rw [← hw, eu2, eu]
          exact rsame.trans (rsame_st μ (by omega) 0 d (-1)) (rsame.trans (rsame_st _ (by omega) a 6 2) (rsame_st _ (by omega) 0 0 _))
        have c1' : csame u2 w := by
          rw [← hw]
          exact csame_st u2 (by omega) 0 0 _
        refine X5_isScene hn (by rw [r1.1 3 (by omega)]; exact e3) (fun _ _ _ => ⟨fun q => absurd q z10, fun _ => ?_⟩) (fun q => absurd ⟨a, ha, rfl⟩ q)
        rw [cl (by omega), r1.2 3 (by omega) (by omega)]
        refine ⟨vin (by omega) (by omega), fun q => absurd c q, fun _ => X5_goes0 rfl rfl rfl ⟨fun _ => ⟨vin (by omega) (by omega), fun v ev => ?_⟩, fun q => absurd q z10⟩⟩
        have rw1 : rsame μ (zst w 0 0 25 0) := rsame.trans r1 (same_25 w 0).r
        have hv4 : v 4 0 a = nI d := by
          rw [ev, zst_o (by omega), rw1.2 4 (by omega) (by omega)]
          exact e4
        rw [hv4, cl (by omega)]
        refine ⟨vin hd (by omega), fun v2 ev2 => ?_⟩
        have hv24 : v2 4 0 a = nI d := by
          rw [ev2, zst_o (by omega)]
          exact hv4
        rw [hv24]
        have f3 : ∀ k, v2 3 0 k = if k = a then 2 else μ 3 0 k := by
          intro k
          rw [ev2, zst_o (by omega), ev, zst_ap, rw1.2 3 (by omega) (by omega)]
          by_cases h : k = a <;> simp [h]
        have f8 : ∀ k, v2 8 0 k = if k = d then -1 else μ 8 0 k := by
          intro k
          rw [ev2, zst_ap, ev, zst_o (f' := 8) (by omega), rw1.2 8 (by omega) (by omega)]
          by_cases h : k = d <;> simp [h]
        have fo : ∀ f, 1 ≤ f → f ≤ 16 → f ≠ 3 → f ≠ 8 → v2 f 0 = μ f 0 := by
          intro f a1 b1 c1 d1
          rw [ev2, zst_o d1, ev, zst_o c1, rw1.2 f a1 b1]
        have f0 : ∀ k, k ≠ 25 → v2 0 0 k = μ 0 0 k := by
          intro k hk
          rw [ev2, zst_o (by omega), ev, zst_o (by omega), rw1.1 k hk]
        have cv : csame u2 v2 := by
          rw [ev2, ev]
          exact csame.trans c1' (csame.trans (same_25 w 0).c (csame.trans (csame_st _ (by omega) 0 a 2) (csame_st _ (by omega) 0 d (-1))))
        have uo : ∀ f, f ≠ 32 → f ≠ 70 → u2 f = μ f := by
          intro f h1 h2
          rw [eu2, zst_o h2, eu, zst_o h1]
        have u70 : ∀ j i, u2 70 j i = if j = a ∧ i = 6 then 2 else μ 70 j i := by
          intro j i
          rw [eu2, zst_ap, eu, zst_o (f' := 70) (by omega)]
          by_cases h : j = a ∧ i = 6
          · rw [if_pos h, if_pos ⟨rfl, h⟩]
          · rw [if_neg h, if_neg (fun q => h q.2)]
        have u32 : ∀ k, u2 32 0 k = if k = d then -1 else μ 32 0 k := by
          intro k
          rw [eu2, zst_o (by omega), eu, zst_ap]
          by_cases h : k = d <;> simp [h]
        have hsc2 : scOK n u2 v2 := by
          intro j hj
          obtain ⟨s1, s2, s3, s4, s5⟩ := hsc j hj
          have g0 : u2 70 j 0 = μ 70 j 0 := by rw [u70, if_neg (by omega)]
          have g7 : u2 70 j 7 = μ 70 j 7 := by rw [u70, if_neg (by omega)]
          rw [g0, g7, u70, f3, fo 4 (by omega) (by omega) (by omega) (by omega)]
          by_cases h : j = a
          · rw [if_pos ⟨h, rfl⟩, if_pos h]
            exact ⟨s1, rfl, Or.inr (Or.inr rfl), fun q => absurd q (by decide), useOK_of (fo 6 (by omega) (by omega) (by omega) (by omega)) (fo 7 (by omega) (by omega) (by omega) (by omega)) s5⟩
          · rw [if_neg (fun q => h q.1), if_neg h]
            exact ⟨s1, s2, s3, s4, useOK_of (fo 6 (by omega) (by omega) (by omega) (by omega)) (fo 7 (by omega) (by omega) (by omega) (by omega)) s5⟩
        have hE : env n np t v2 v2 := env_mv (env_state he (fun f hf => uo f (by omega) (by omega)) (fun j i hi => by rw [u70, if_neg (by omega)]) f0 (fun f a1 b1 c1 _ d1 => fo f a1 b1 c1 d1) hsc2) cv (rsame.rf v2)
        have hP : planI n t v2 v2 := planI_mv (planI_drop hn hd ha (v := 2) (by decide) ed hpl u32 f8 f3 (fun k _ => by rw [fo 4 (by omega) (by omega) (by omega) (by omega)])) cv (rsame.rf v2)
        refine ⟨?_, fun _ => ?_, t, hE, hP⟩
        · rw [ev2, zst_o (by omega), ev, zst_o (by omega), at_25]
        · rw [ev2, zst_o (by omega), ev, zst_o (by omega), zst_o (by omega), ← hw, at_21]
      · obtain ⟨d, -, hd, e⟩ := hpl.2.2.2.2 a ha c
        exact absurd ((hpl.1 d hd).trans e) (hno d hd)
    · unfold w_X5_cut b_X5_cut_25 b_X5_cut_26
      refine X5_isScene hn e3 (fun _ _ _ => ⟨fun q => absurd q z10, fun _ => ?_⟩) (fun q => absurd ⟨a, ha, rfl⟩ q)
      rw [cl (by omega)]
      exact ⟨vin (by omega) (by omega), fun _ => X5_goes2 rfl rfl ⟨fun q => absurd rfl q, fun _ => oT_k k2 hI⟩, fun q => absurd q c⟩
  · unfold w_X5_cut b_X5_cut_25 b_X5_cut_26
    exact X5_isScene hn e3 (fun k hk e => absurd ⟨k, hk, e⟩ h) (fun _ => ⟨fun _ => X5_goes1 rfl ⟨fun q => absurd rfl q, fun _ => oT_k k1 hI⟩, fun q => absurd rfl q⟩)
