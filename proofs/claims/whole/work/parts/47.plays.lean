/-! A BEARD IS TOLD; COPIES ARE CLEARED -/
theorem env_scene {n np t : Nat} {μ E u F : Mem} (h : env n np t μ E) (hu : ∀ f, (f = 30 ∨ f = 31 ∨ f = 33 ∨ f = 34 ∨ f = 40 ∨ f = 42 ∨ f = 43 ∨ f = 62 ∨ f = 70 ∨ f = 80) → u f = μ f) (h0 : ∀ k, k ≠ 25 → F 0 0 k = E 0 0 k) (hf : ∀ f, 1 ≤ f → f ≤ 16 → f ≠ 5 → f ≠ 6 → f ≠ 7 → F f 0 = E f 0) (hr : ∀ a, a < n → scRel u F a) (huse : ∀ a, a < n → useOK F a) : env n np t u F := by
  obtain ⟨b, -, ⟨m7, m8, m9, m10⟩, hal, hst, hg, hsk, hsc, -, hzz⟩ := id h
  have hf' : ∀ f, (f = 1 ∨ f = 2 ∨ f = 3 ∨ f = 4 ∨ f = 8 ∨ (9 ≤ f ∧ f ≤ 16)) → F f 0 = E f 0 := fun f h => hf f (by omega) (by omega) (by omega) (by omega) (by omega)
  refine env_build h (fun k _ => by rw [hu 30 (by omega)]) (by rw [hu 30 (by omega), h0 1 (by omega)]; exact m10) (fun k hk => h0 k (by omega)) ?_ (stRel_mv hst (by rw [hu 42 (by omega)]) (fun p _ => by rw [hu 43 (by omega)]) (by rw [hu 40 (by omega)]) ⟨hf' 15 (by omega), hf' 16 (by omega), h0 2 (by omega)⟩) (by rw [hf' 15 (by omega)]; exact hg) (by rw [hf' 16 (by omega)]; exact hsk) ?_ (by rw [hu 31 (by omega)]) (by rw [hu 62 (by omega)]) (fun j a b => by rw [hf' 13 (by omega)]; exact hzz.2 j a b)
  · obtain ⟨h1, h2, h3, h4⟩ := hal
    refine ⟨hr, fun k hk => ?_, fun j hj => ?_, fun j d hj hd => ?_⟩
    · rw [hu 33 (by omega)]; exact h2 k hk
    · unfold pmRel
      rw [hu 80 (by omega), hf' 9 (by omega), hf' 10 (by omega), hf' 11 (by omega), hf' 12 (by omega), hf' 13 (by omega)]
      exact h3 j hj
    · rw [hu 34 (by omega), hf' 14 (by omega)]; exact h4 j d hj hd
  · intro a ha
    obtain ⟨q1, q2, q3, q4, q5⟩ := hsc a ha
    rw [hu 70 (by omega), hf' 3 (by omega), hf' 4 (by omega)]
    exact ⟨q1, q2, q3, q4, huse a ha⟩
/-- how many of five are not v -/
def cne (r : Nat → Int32) (v : Int32) : Nat → Int32
  | 0 => 0
  | k + 1 => cne r v k + (if r k = v then 0 else 1)
theorem cne_congr {r r' : Nat → Int32} {v : Int32} : ∀ j : Nat, (∀ s, s < j → r s = r' s) → cne r v j = cne r' v j := by
  intro j
  induction j with
  | zero => intro _; rfl
  | succ j ih =>
    intro h
    show cne r v j + _ = cne r' v j + _
    rw [ih (fun s hs => h s (by omega)), h j (by omega)]
theorem X2_countActors {n np a : Nat} {post : Int32 → Mem → Prop} {μ : Mem} (ha : a < n) (h : post (cne (μ 71 a) (-2) 5) μ) : w_X2_countActors n np post a μ := by
  have loop : ∀ m j : Nat, j + m = 5 → l_X2_countActors_13 n np post a (m + 1) (cne (μ 71 a) (-2) j) 5 (nI j) μ := by
    intro m
    induction m with
    | zero =>
      intro j hj
      have e : j = 5 := by omega
      subst e
      show lb_X2_countActors_13 n np post _ _ _ _ _ _
      unfold lb_X2_countActors_13
      exact ⟨fun _ => h, fun c => absurd (by decide) c⟩
    | succ m ih =>
      intro j hj
      show lb_X2_countActors_13 n np post (l_X2_countActors_13 n np post a (m + 1)) _ _ _ _ _
      unfold lb_X2_countActors_13 b_X2_countActors_38
      rw [nI_s1, cl (by omega)]
      have ihj := ih (j + 1) (by omega)
      refine ⟨fun c => absurd ((le5 (k := j) (by omega)).mp c) (by omega), fun _ => ⟨ha, vin (by omega) (by omega), fun c => ?_, fun c => ?_⟩⟩
      · unfold cne at ihj
        rw [if_neg c] at ihj
        exact ihj
      · unfold cne at ihj
        rw [if_pos c] at ihj
        exact ihj
  exact ⟨ha, 6, loop 5 0 rfl⟩
theorem X2_countProps {n np a : Nat} {post : Int32 → Mem → Prop} {μ : Mem} (ha : a < n) (h : post (cne (μ 72 a) (-1) 5) μ) : w_X2_countProps n np post a μ := by
  have loop : ∀ m j : Nat, j + m = 5 → l_X2_countProps_13 n np post a (m + 1) (cne (μ 72 a) (-1) j) 5 (nI j) μ := by
    intro m
    induction m with
    | zero =>
      intro j hj
      have e : j = 5 := by omega
      subst e
      show lb_X2_countProps_13 n np post _ _ _ _ _ _
      unfold lb_X2_countProps_13
      exact ⟨fun _ => h, fun c => absurd (by decide) c⟩
    | succ m ih =>
      intro j hj
      show lb_X2_countProps_13 n np post (l_X2_countProps_13 n np post a (m + 1)) _ _ _ _ _
      unfold lb_X2_countProps_13 b_X2_countProps_37
      rw [nI_s1, cl (by omega)]
      have ihj := ih (j + 1) (by omega)
      refine ⟨fun c => absurd ((le5 (k := j) (by omega)).mp c) (by omega), fun _ => ⟨ha, vin (by omega) (by omega), fun c => ?_, fun c => ?_⟩⟩
      · unfold cne at ihj
        rw [if_neg c] at ihj
        exact ihj
      · unfold cne at ihj
        rw [if_pos c] at ihj
        exact ihj
  exact ⟨ha, 6, loop 5 0 rfl⟩
theorem X5_playsCount {a : Nat} {a2 a3 : Int32} {post : Int32 → Mem → Prop} {μ : Mem} (ha : a < 10) (h : post (cne (fun k => μ 5 0 (5 * a + k)) (-2) 5) μ) : ∃ f, l_X5_plays_76 post (nI a) a2 a3 f 0 0 μ := by
  have loop : ∀ m j : Nat, j + m = 5 → l_X5_plays_76 post (nI a) a2 a3 (m + 1) (cne (fun k => μ 5 0 (5 * a + k)) (-2) j) (nI j) μ := by
    intro m
    induction m with
    | zero =>
      intro j hj
      have e : j = 5 := by omega
      subst e
      show lb_X5_plays_76 post _ _ _ _ _ _ _
      unfold lb_X5_plays_76
      exact ⟨fun _ => h, fun c => absurd (by decide) c⟩
    | succ m ih =>
      intro j hj
      show lb_X5_plays_76 post (l_X5_plays_76 post (nI a) a2 a3 (m + 1)) _ _ _ _ _ _
      unfold lb_X5_plays_76 b_X5_plays_105
      rw [nI_s1, ix5, cl (by omega)]
      have ihj := ih (j + 1) (by omega)
      unfold cne at ihj
      refine ⟨fun c => absurd ((le5 (k := j) (by omega)).mp c) (by omega), fun _ => ⟨vin (by omega) (by omega), fun c => ?_, fun c => ?_⟩⟩
      · rw [if_neg c] at ihj
        exact ihj
      · rw [if_pos c] at ihj
        exact ihj
  exact ⟨6, loop 5 0 rfl⟩
theorem o_plays : ob_plays Inv := by
  intro n np μ a1 a2 a3 hI
  obtain ⟨t, he, hpl⟩ := id hI
  obtain ⟨⟨hn, hnp, ht⟩, ⟨e0, e3, e12⟩, ⟨m7, m8, m9, m10⟩, hal, hst, hg, hsk, hsc, htold, hz⟩ := id he
  unfold w_L_plays w_X4_plays b_X4_plays_22
  refine X4_sceneNumbered hn htold (fun a ha e => ?_) (fun h => Or.inl ⟨rfl, ?_⟩)
  · subst e
    obtain ⟨q1, q2, q3, q4, q5⟩ := hsc a ha
    refine X4_requireActor (fun h => ?_) (fun h => Or.inl ⟨rfl, ?_⟩)
    · obtain ⟨k, hk, e⟩ := h
      subst e
      have bad2 : (a3 < -1 ∨ 20 < a3) → w_X5_plays (fun (b : Int32) (u2 : Mem) => w_X5_thrown (oT Inv n np 2 b) u2) (nI a) (nI k) a3 μ := by
        intro hb
        have g2 : ∀ s3 : Int32, b_X5_plays_51 (fun (b : Int32) (u2 : Mem) => w_X5_thrown (oT Inv n np 2 b) u2) (nI a) (nI k) a3 1 0 s3 μ := fun s3 => X5_goes2 rfl rfl ⟨fun q => absurd rfl q, fun _ => oT_k k2 hI⟩
        have rest : ((¬ (μ 3 0 (nI a).toNatClampNeg) = 0 → b_X5_plays_50 (fun (b : Int32) (u2 : Mem) => w_X5_thrown (oT Inv n np 2 b) u2) (nI a) (nI k) a3 1 0 μ) ∧ ((μ 3 0 (nI a).toNatClampNeg) = 0 → b_X5_plays_51 (fun (b : Int32) (u2 : Mem) => w_X5_thrown (oT Inv n np 2 b) u2) (nI a) (nI k) a3 1 0 (1 : Int32) μ)) := ⟨fun _ => g2 0, fun _ => g2 1⟩
        unfold w_X5_plays b_X5_plays_20
        refine X5_isScene hn e3 (fun _ _ _ => ⟨fun q => absurd q z10, fun _ => X5_isActor (fun _ _ _ => ⟨fun q => absurd q z10, fun _ => ?_⟩) (fun q => absurd ⟨k, hk, rfl⟩ q)⟩) (fun q => absurd ⟨a, ha, rfl⟩ q)
        unfold w_X5_in
        refine ⟨fun _ => ⟨fun q => absurd q z10, fun _ => ⟨vin (by omega) (by omega), rest⟩⟩, fun c => ⟨fun _ => ⟨fun q => absurd q z10, fun _ => ⟨vin (by omega) (by omega), rest⟩⟩, fun c2 => ?_⟩⟩
        exact (hb.elim c c2).elim
      refine ⟨fun c => Or.inr (Or.inl ⟨rfl, bad2 (Or.inl c)⟩), fun c => ⟨fun c2 => ?_, fun c2 => Or.inr (Or.inl ⟨rfl, bad2 (Or.inr (Int32.not_le.mp c2))⟩)⟩⟩
      rw [cl (by omega), cl (by omega)]
      refine ⟨pos (by omega), X4_requirePlanned (E := μ) ha q2 (fun c3 => ?_) (fun c3 => Or.inr (Or.inr ⟨rfl, ?_⟩))⟩
      · refine ⟨ha, vin hk (by omega), fun u eu => X2_countActors ha ?_⟩
        generalize hv : cne (u 71 a) (-2) 5 = val
        show w_X5_plays (fun (b : Int32) (u2 : Mem) => w_X5_thrown (oT Inv n np 0 b) u2) (nI a) (nI k) a3 (zst u 21 0 0 val)
        unfold w_X5_plays b_X5_plays_20 b_X5_plays_51
        generalize hw : zst u 21 0 0 val = w
        have r1 : rsame μ w := by
          rw [← hw, eu]
          exact rsame.trans (rsame_st μ (by omega) a k a3) (rsame_st _ (by omega) 0 0 _)
        have c1' : csame u w := by
          rw [← hw]
          exact csame_st u (by omega) 0 0 _
        refine X5_isScene hn (by rw [r1.1 3 (by omega)]; exact e3) (fun _ _ _ => ⟨fun q => absurd q z10, fun _ => X5_isActor (fun _ _ _ => ⟨fun q => absurd q z10, fun _ => ?_⟩) (fun q => absurd ⟨k, hk, rfl⟩ q)⟩) (fun q => absurd ⟨a, ha, rfl⟩ q)
        unfold w_X5_in
        refine ⟨fun q => absurd q c, fun _ => ⟨fun q => absurd c2 (Int32.not_le.mpr q), fun _ => ⟨fun q => absurd q z10, fun _ => ⟨vin (by omega) (by omega), ?_⟩⟩⟩⟩
        rw [cl (by omega), r1.2 3 (by omega) (by omega)]
        refine ⟨fun q => absurd c3 q, fun _ => X5_goes0 rfl rfl rfl ⟨fun _ => ?_, fun q => absurd q z10⟩⟩
        rw [ix5, cl (by omega)]
        refine ⟨vin (by omega) (by omega), fun v ev => X5_playsCount (by omega) ?_⟩
        have rw1 : rsame μ (zst w 0 0 25 0) := rsame.trans r1 (same_25 w 0).r
        have f5 : ∀ j, v 5 0 j = if j = 5 * a + k then a3 else μ 5 0 j := by
          intro j
          rw [ev, zst_ap, rw1.2 5 (by omega) (by omega)]
          by_cases h : j = 5 * a + k <;> simp [h]
        have fo : ∀ f, 1 ≤ f → f ≤ 16 → f ≠ 5 → v f 0 = μ f 0 := by
          intro f a1 b1 c1
          rw [ev, zst_o c1, rw1.2 f a1 b1]
        have f0 : ∀ j, j ≠ 25 → v 0 0 j = μ 0 0 j := by
          intro j hj
          rw [ev, zst_o (by omega), rw1.1 j hj]
        have cv : csame u v := by
          rw [ev]
          exact csame.trans c1' (csame.trans (same_25 w 0).c (csame_st _ (by omega) 0 _ _))
        have uo : ∀ f, f ≠ 71 → u f = μ f := fun f hf => by rw [eu, zst_o hf]
        have u71 : ∀ j i, u 71 j i = if j = a ∧ i = k then a3 else μ 71 j i := by
          intro j i
          rw [eu, zst_ap]
          by_cases h : j = a ∧ i = k
          · rw [if_pos h, if_pos ⟨rfl, h⟩]
          · rw [if_neg h, if_neg (fun q => h q.2)]
        have hE : env n np t v v := by
          refine env_mv (env_scene he (fun f hf => uo f (by omega)) f0 (fun f a b c _ _ => fo f a b c) (fun j hj => ?_) (fun j hj => useOK_of (fo 6 (by omega) (by omega) (by omega)) (fo 7 (by omega) (by omega) (by omega)) (hsc j hj).2.2.2.2)) cv (rsame.rf v)
          obtain ⟨s1, s2, s3, s4, s5⟩ := hal.1 j hj
          unfold scRel
          rw [uo 70 (by omega), uo 72 (by omega), uo 73 (by omega), fo 1 (by omega) (by omega) (by omega), fo 2 (by omega) (by omega) (by omega), fo 6 (by omega) (by omega) (by omega), fo 7 (by omega) (by omega) (by omega)]
          refine ⟨s1, s2, fun i hi => ?_, s4, s5⟩
          rw [u71, f5]
          by_cases h : j = a ∧ i = k
          · rw [if_pos h, if_pos (show 5 * j + i = 5 * a + k by omega)]
          · rw [if_neg h, if_neg (show ¬ 5 * j + i = 5 * a + k by omega)]
            exact s3 i hi
        have hP : planI n t v v := planI_mv (planI_of (u := u) (F := v) hpl (by rw [uo 32 (by omega)]) (fo 8 (by omega) (by omega) (by omega)) (fo 3 (by omega) (by omega) (by omega)) (fo 4 (by omega) (by omega) (by omega))) cv (rsame.rf v)
        have hval : val = cne (fun i => v 5 0 (5 * a + i)) (-2) 5 := by
          rw [← hv]
          refine cne_congr 5 (fun i hi => ?_)
          show u 71 a i = v 5 0 (5 * a + i)
          rw [← cv.1 71 (by omega)]
          exact (hE.2.2.2.1.1 a ha).2.2.1 i hi
        rw [← hval]
        refine ⟨?_, fun _ => ?_, t, hE, hP⟩
        · rw [ev, zst_o (by omega), at_25]
        · rw [ev, zst_o (by omega), zst_o (by omega), ← hw, at_21]
      · unfold w_X5_plays b_X5_plays_20 b_X5_plays_50 b_X5_plays_51
        refine X5_isScene hn e3 (fun _ _ _ => ⟨fun q => absurd q z10, fun _ => X5_isActor (fun _ _ _ => ⟨fun q => absurd q z10, fun _ => ?_⟩) (fun q => absurd ⟨k, hk, rfl⟩ q)⟩) (fun q => absurd ⟨a, ha, rfl⟩ q)
        unfold w_X5_in
        refine ⟨fun q => absurd q c, fun _ => ⟨fun q => absurd c2 (Int32.not_le.mpr q), fun _ => ⟨fun q => absurd q z10, fun _ => ⟨vin (by omega) (by omega), ?_⟩⟩⟩⟩
        rw [cl (by omega)]
        exact ⟨fun _ => X5_goes3 rfl rfl rfl ⟨fun q => absurd rfl q, fun _ => oT_k k3 hI⟩, fun q => absurd q c3⟩
    · have g1 : ∀ s2 s3 : Int32, b_X5_plays_51 (fun (b : Int32) (u2 : Mem) => w_X5_thrown (oT Inv n np 1 b) u2) (nI a) a2 a3 0 s2 s3 μ := fun s2 s3 => X5_goes1 rfl ⟨fun q => absurd rfl q, fun _ => oT_k k1 hI⟩
      unfold w_X5_plays b_X5_plays_19 b_X5_plays_20 b_X5_plays_50
      refine X5_isScene hn e3 (fun _ _ _ => ⟨fun q => absurd q z10, fun _ => X5_isActor (fun k hk e => absurd ⟨k, hk, e⟩ h) (fun _ => ⟨fun _ => ?_, fun q => absurd rfl q⟩)⟩) (fun q => absurd ⟨a, ha, rfl⟩ q)
      unfold w_X5_in
      exact ⟨fun _ => ⟨fun _ => g1 _ _, fun q => absurd rfl q⟩, fun _ => ⟨fun _ => ⟨fun _ => g1 _ _, fun q => absurd rfl q⟩, fun _ => ⟨fun _ => g1 _ _, fun q => absurd rfl q⟩⟩⟩
  · have g1 : ∀ s2 s3 : Int32, b_X5_plays_51 (fun (b : Int32) (u2 : Mem) => w_X5_thrown (oT Inv n np 1 b) u2) a1 a2 a3 0 s2 s3 μ := fun s2 s3 => X5_goes1 rfl ⟨fun q => absurd rfl q, fun _ => oT_k k1 hI⟩
    unfold w_X5_plays b_X5_plays_19 b_X5_plays_20 b_X5_plays_50
    refine X5_isScene hn e3 (fun k hk e => absurd ⟨k, hk, e⟩ h) (fun _ => ⟨fun _ => ?_, fun q => absurd rfl q⟩)
    unfold w_X5_in
    exact ⟨fun _ => ⟨fun _ => g1 _ _, fun q => absurd rfl q⟩, fun _ => ⟨fun _ => ⟨fun _ => g1 _ _, fun q => absurd rfl q⟩, fun _ => ⟨fun _ => g1 _ _, fun q => absurd rfl q⟩⟩⟩
