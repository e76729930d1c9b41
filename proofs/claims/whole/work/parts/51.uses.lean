theorem X5_usesCount {a : Nat} {a2 a3 a4 : Int32} {post : Int32 → Mem → Prop} {μ : Mem} (ha : a < 10) (h : post (cne (fun k => μ 6 0 (5 * a + k)) (-1) 5) μ) : ∃ f, l_X5_uses_126 post (nI a) a2 a3 a4 f 0 0 μ := by
  have loop : ∀ m j : Nat, j + m = 5 → l_X5_uses_126 post (nI a) a2 a3 a4 (m + 1) (cne (fun k => μ 6 0 (5 * a + k)) (-1) j) (nI j) μ := by
    intro m
    induction m with
    | zero =>
      intro j hj
      have e : j = 5 := by omega
      subst e
      show lb_X5_uses_126 post _ _ _ _ _ _ _ _
      unfold lb_X5_uses_126
      exact ⟨fun _ => h, fun c => absurd (by decide) c⟩
    | succ m ih =>
      intro j hj
      show lb_X5_uses_126 post (l_X5_uses_126 post (nI a) a2 a3 a4 (m + 1)) _ _ _ _ _ _ _
      unfold lb_X5_uses_126 b_X5_uses_154
      rw [nI_s1, ix5, cl (by omega)]
      have ihj := ih (j + 1) (by omega)
      unfold cne at ihj
      refine ⟨fun c => absurd ((le5 (k := j) (by omega)).mp c) (by omega), fun _ => ⟨vin (by omega) (by omega), fun c => ?_, fun c => ?_⟩⟩
      · rw [if_neg c] at ihj
        exact ihj
      · rw [if_pos c] at ihj
        exact ihj
  exact ⟨6, loop 5 0 rfl⟩
def usArg (f t : Int32) : Prop := ¬ f < 0 ∧ ¬ 3 < f ∧ ¬ t < f ∧ ¬ 3 < t
/-- the reference: where scene and prop are there -/
theorem X5_usesGo {n a p : Nat} {post : Int32 → Mem → Prop} {f t : Int32} {μ : Mem} (hn : n ≤ 10) (e3 : μ 0 0 3 = nI n) (ha : a < n) (hp : p < 5) (h1 : usArg f t → b_X5_uses_46 post (nI a) (nI p) f t 1 1 μ) (h0 : ¬ usArg f t → b_X5_uses_45 post (nI a) (nI p) f t 1 μ) : w_X5_uses post (nI a) (nI p) f t μ := by
  unfold w_X5_uses b_X5_uses_20 w_X5_in
  refine X5_isScene hn e3 (fun _ _ _ => ⟨fun q => absurd q z10, fun _ => X5_isProp (fun _ _ _ => ⟨fun q => absurd q z10, fun _ => ?_⟩) (fun q => absurd ⟨p, hp, rfl⟩ q)⟩) (fun q => absurd ⟨a, ha, rfl⟩ q)
  refine ⟨fun c => ⟨fun _ => h0 (fun q => q.1 c), fun q => absurd rfl q⟩, fun c1 => ⟨fun c => ⟨fun _ => h0 (fun q => q.2.1 c), fun q => absurd rfl q⟩, fun c2 => ⟨fun q => absurd q z10, fun _ => ?_⟩⟩⟩
  exact ⟨fun c => ⟨fun _ => h0 (fun q => q.2.2.1 c), fun q => absurd rfl q⟩, fun c3 => ⟨fun c => ⟨fun _ => h0 (fun q => q.2.2.2 c), fun q => absurd rfl q⟩, fun c4 => ⟨fun q => absurd q z10, fun _ => h1 ⟨c1, c2, c3, c4⟩⟩⟩⟩
theorem o_uses : ob_uses Inv := by
  intro n np μ a1 a2 f g hI
  obtain ⟨t, he, hpl⟩ := id hI
  obtain ⟨⟨hn, hnp, ht⟩, ⟨e0, e3, e12⟩, ⟨m7, m8, m9, m10⟩, hal, hst, hg, hsk, hsc, htold, hz⟩ := id he
  have bad1 : ∀ f g : Int32, (¬ ((∃ a, a < n ∧ a1 = nI a) ∧ ∃ p, p < 5 ∧ a2 = nI p)) → w_X5_uses (fun (b : Int32) (u2 : Mem) => w_X5_thrown (oT Inv n np 1 b) u2) a1 a2 f g μ := by
    intro f g hb
    have g1 : ∀ s2 s3 : Int32, b_X5_uses_89 (fun (b : Int32) (u2 : Mem) => w_X5_thrown (oT Inv n np 1 b) u2) a1 a2 f g 0 s2 s3 μ := fun s2 s3 => X5_goes1 rfl ⟨fun q => absurd rfl q, fun _ => oT_k k1 hI⟩
    have g46 : ∀ s0 : Int32, b_X5_uses_46 (fun (b : Int32) (u2 : Mem) => w_X5_thrown (oT Inv n np 1 b) u2) a1 a2 f g 0 s0 μ := fun s0 => ⟨fun _ => g1 _ _, fun q => absurd rfl q⟩
    have g19 : b_X5_uses_19 (fun (b : Int32) (u2 : Mem) => w_X5_thrown (oT Inv n np 1 b) u2) a1 a2 f g μ := by
      unfold b_X5_uses_19 b_X5_uses_20 w_X5_in
      exact ⟨fun _ => ⟨fun _ => g46 0, fun q => absurd rfl q⟩, fun _ => ⟨fun _ => ⟨fun _ => g46 0, fun q => absurd rfl q⟩, fun _ => ⟨fun q => absurd q z10, fun _ => ⟨fun _ => ⟨fun _ => g46 0, fun q => absurd rfl q⟩, fun _ => ⟨fun _ => ⟨fun _ => g46 0, fun q => absurd rfl q⟩, fun _ => ⟨fun q => absurd q z10, fun _ => g46 1⟩⟩⟩⟩⟩⟩
    unfold w_X5_uses
    exact X5_isScene hn e3 (fun k hk e => ⟨fun q => absurd q z10, fun _ => X5_isProp (fun j hj e2 => absurd ⟨⟨k, hk, e⟩, ⟨j, hj, e2⟩⟩ hb) (fun _ => ⟨fun _ => g19, fun q => absurd rfl q⟩)⟩) (fun _ => ⟨fun _ => g19, fun q => absurd rfl q⟩)
  unfold w_L_uses w_X4_uses b_X4_uses_32
  refine X4_sceneNumbered hn htold (fun a ha e => ?_) (fun h => Or.inl ⟨rfl, bad1 f g (fun q => h q.1)⟩)
  refine X4_requireProp (fun h => ?_) (fun h => Or.inl ⟨rfl, bad1 f g (fun q => h q.2)⟩)
  obtain ⟨p, hp, e2⟩ := h
  subst e
  subst e2
  obtain ⟨q1, q2, q3, q4, q5⟩ := hsc a ha
  have x4 : ∀ x : Int32, (4 ≤ x ↔ 3 < x) := fun x => le_lt (m := 3) rfl rfl (by omega)
  have y4 : ∀ x : Int32, (x < 4 ↔ ¬ 3 < x) := fun x => lt_nlt (m := 3) rfl rfl (by omega)
  have bad2 : ¬ usArg f g → w_X5_uses (fun (b : Int32) (u2 : Mem) => w_X5_thrown (oT Inv n np 2 b) u2) (nI a) (nI p) f g μ := fun h => X5_usesGo hn e3 ha hp (fun q => absurd q h) (fun _ => ⟨fun q => absurd q z10, fun _ => ⟨fun _ => X5_goes2 rfl rfl ⟨fun q => absurd rfl q, fun _ => oT_k k2 hI⟩, fun q => absurd rfl q⟩⟩)
  rw [x4, y4]
  refine ⟨fun c => Or.inr (Or.inl ⟨rfl, bad2 (fun q => q.1 c)⟩), fun c1 => ⟨fun c => Or.inr (Or.inl ⟨rfl, bad2 (fun q => q.2.1 c)⟩), fun c2 => ⟨fun c => Or.inr (Or.inl ⟨rfl, bad2 (fun q => q.2.2.1 c)⟩), fun c3 => ⟨fun c4 => ?_, fun c => Or.inr (Or.inl ⟨rfl, bad2 (fun q => c q.2.2.2)⟩)⟩⟩⟩⟩
  have hV : usArg f g := ⟨c1, c2, c3, c4⟩
  have bad3 : (¬ μ 3 0 a = 0 ∨ ¬ agP μ n a p f g) → w_X5_uses (fun (b : Int32) (u2 : Mem) => w_X5_thrown (oT Inv n np 3 b) u2) (nI a) (nI p) f g μ := by
    intro hb
    refine X5_usesGo hn e3 ha hp (fun _ => ?_) (fun q => absurd hV q)
    unfold b_X5_uses_46 b_X5_uses_88
    have g3 : b_X5_uses_89 (fun (b : Int32) (u2 : Mem) => w_X5_thrown (oT Inv n np 3 b) u2) (nI a) (nI p) f g 1 1 0 μ := X5_goes3 rfl rfl rfl ⟨fun q => absurd rfl q, fun _ => oT_k k3 hI⟩
    rw [cl (by omega)]
    refine ⟨fun q => absurd q z10, fun _ => ⟨fun q => absurd q z10, fun _ => ⟨vin (by omega) (by omega), fun _ => g3, fun c => X5_ages hn ha hp e3 (fun q => (hb.elim (fun w => w c) (fun w => w q)).elim) (fun _ => ⟨fun _ => g3, fun q => absurd rfl q⟩)⟩⟩⟩
  rw [cl (by omega), cl (by omega)]
  refine ⟨pos (by omega), X4_requirePlanned (E := μ) ha q2 (fun c5 => ?_) (fun c5 => Or.inr (Or.inr ⟨rfl, bad3 (Or.inl c5)⟩))⟩
  refine X4_agesForwards hn ha hp hal hsc htold (fun c6 => ⟨fun _ => ⟨ha, vin hp (by omega), fun u0 eu0 u eu => X2_countProps ha ?_⟩, fun q => absurd q z10⟩) (fun c6 => ⟨fun q => absurd rfl q, fun _ => Or.inr (Or.inr ⟨rfl, bad3 (Or.inr c6)⟩)⟩)
  generalize hv : cne (u 72 a) (-1) 5 = val
  show w_X5_uses (fun (b : Int32) (u2 : Mem) => w_X5_thrown (oT Inv n np 0 b) u2) (nI a) (nI p) f g (zst u 21 0 0 val)
  generalize hw : zst u 21 0 0 val = w
  have uo : ∀ f, f ≠ 72 → f ≠ 73 → u f = μ f := fun f h1 h2 => by rw [eu, zst_o h2, eu0, zst_o h1]
  have r1 : rsame μ w := by
    rw [← hw]
    refine rsame.trans (u := u) ⟨fun k _ => ?_, fun f a b => ?_⟩ (same_21 _ 0 _).r
    · rw [uo 0 (by omega) (by omega)]
    · rw [uo f (by omega) (by omega)]
  have c1' : csame u w := by
    rw [← hw]
    exact csame_st u (by omega) 0 0 _
  have w03 : w 0 0 3 = nI n := (r1.1 3 (by omega)).trans e3
  refine X5_usesGo hn w03 ha hp (fun _ => ?_) (fun q => absurd hV q)
  unfold b_X5_uses_46 b_X5_uses_89
  rw [cl (by omega), r1.2 3 (by omega) (by omega)]
  have hagk : agP w n a p f g ↔ agP μ n a p f g := by
    unfold agP agK
    rw [r1.2 3 (by omega) (by omega), r1.2 6 (by omega) (by omega), r1.2 7 (by omega) (by omega)]
  refine ⟨fun q => absurd q z10, fun _ => ⟨fun q => absurd q z10, fun _ => ⟨vin (by omega) (by omega), fun q => absurd c5 q, fun _ => X5_ages hn ha hp w03 (fun _ => ⟨fun q => absurd q z10, fun _ => X5_goes0 rfl rfl rfl ⟨fun _ => ?_, fun q => absurd q z10⟩⟩) (fun q => absurd (hagk.mpr c6) q)⟩⟩⟩
  rw [ix5, cl (by omega)]
  refine ⟨vin (by omega) (by omega), fun v0 ev0 v ev => X5_usesCount (by omega) ?_⟩
  have rw1 : rsame μ (zst w 0 0 25 0) := rsame.trans r1 (same_25 w 0).r
  have f6 : ∀ j, v 6 0 j = if j = 5 * a + p then f else μ 6 0 j := by
    intro j
    rw [ev, zst_o (by omega), ev0, zst_ap, rw1.2 6 (by omega) (by omega)]
    by_cases h : j = 5 * a + p <;> simp [h]
  have f7 : ∀ j, v 7 0 j = if j = 5 * a + p then g else μ 7 0 j := by
    intro j
    rw [ev, zst_ap, ev0, zst_o (f' := 7) (by omega), rw1.2 7 (by omega) (by omega)]
    by_cases h : j = 5 * a + p <;> simp [h]
  have fo : ∀ f, 1 ≤ f → f ≤ 16 → f ≠ 6 → f ≠ 7 → v f 0 = μ f 0 := by
    intro f a1 b1 c1 d1
    rw [ev, zst_o d1, ev0, zst_o c1, rw1.2 f a1 b1]
  have f0 : ∀ j, j ≠ 25 → v 0 0 j = μ 0 0 j := by
    intro j hj
    rw [ev, zst_o (by omega), ev0, zst_o (by omega), rw1.1 j hj]
  have cv : csame u v := by
    rw [ev, ev0]
    exact csame.trans c1' (csame.trans (same_25 w 0).c (csame.trans (csame_st _ (by omega) 0 _ _) (csame_st _ (by omega) 0 _ _)))
  have u72 : ∀ j i, u 72 j i = if j = a ∧ i = p then f else μ 72 j i := by
    intro j i
    rw [eu, zst_o (by omega), eu0, zst_ap]
    by_cases h : j = a ∧ i = p
    · rw [if_pos h, if_pos ⟨rfl, h⟩]
    · rw [if_neg h, if_neg (fun q => h q.2)]
  have u73 : ∀ j i, u 73 j i = if j = a ∧ i = p then g else μ 73 j i := by
    intro j i
    rw [eu, zst_ap, eu0, zst_o (f' := 73) (by omega)]
    by_cases h : j = a ∧ i = p
    · rw [if_pos h, if_pos ⟨rfl, h⟩]
    · rw [if_neg h, if_neg (fun q => h q.2)]
  obtain ⟨qf, hqf, ef⟩ := nI_of2 (M := 3) (n := 3) rfl c1 (Int32.not_lt.mp c2)
  have hg0 : ¬ g < 0 := by
    intro q
    exact c3 (Int32.lt_of_lt_of_le q (Int32.not_lt.mp c1))
  obtain ⟨qg, hqg, eg⟩ := nI_of2 (M := 3) (n := 3) rfl hg0 (Int32.not_lt.mp c4)
  have hE : env n np t v v := by
    refine env_mv (env_scene he (fun f hf => uo f (by omega) (by omega)) f0 (fun f a b _ c d => fo f a b c d) (fun j hj => ?_) (fun j hj => ?_)) cv (rsame.rf v)
    · obtain ⟨s1, s2, s3, s4, s5⟩ := hal.1 j hj
      unfold scRel
      rw [uo 70 (by omega) (by omega), uo 71 (by omega) (by omega), fo 1 (by omega) (by omega) (by omega) (by omega), fo 2 (by omega) (by omega) (by omega) (by omega), fo 5 (by omega) (by omega) (by omega) (by omega)]
      refine ⟨s1, s2, s3, fun i hi => ?_, fun i hi c => ?_⟩
      · rw [u72, f6]
        by_cases h : j = a ∧ i = p
        · rw [if_pos h, if_pos (show 5 * j + i = 5 * a + p by omega)]
        · rw [if_neg h, if_neg (show ¬ 5 * j + i = 5 * a + p by omega)]
          exact s4 i hi
      · rw [f6] at c
        rw [u73, f7]
        by_cases h : j = a ∧ i = p
        · rw [if_pos h, if_pos (show 5 * j + i = 5 * a + p by omega)]
        · rw [if_neg (show ¬ 5 * j + i = 5 * a + p by omega)] at c
          rw [if_neg h, if_neg (show ¬ 5 * j + i = 5 * a + p by omega)]
          exact s5 i hi c
    · intro i hi
      rw [f6, f7]
      by_cases h : 5 * j + i = 5 * a + p
      · rw [if_pos h, if_pos h]
        exact Or.inr ⟨qf, qg, by omega, by omega, ef, eg⟩
      · rw [if_neg h, if_neg h]
        exact (hsc j hj).2.2.2.2 i hi
  have hP : planI n t v v := planI_mv (planI_of (u := u) (F := v) hpl (by rw [uo 32 (by omega) (by omega)]) (fo 8 (by omega) (by omega) (by omega) (by omega)) (fo 3 (by omega) (by omega) (by omega) (by omega)) (fo 4 (by omega) (by omega) (by omega) (by omega))) cv (rsame.rf v)
  have hval : val = cne (fun i => v 6 0 (5 * a + i)) (-1) 5 := by
    rw [← hv]
    refine cne_congr 5 (fun i hi => ?_)
    show u 72 a i = v 6 0 (5 * a + i)
    rw [← cv.1 72 (by omega)]
    exact (hE.2.2.2.1.1 a ha).2.2.2.1 i hi
  rw [← hval]
  refine ⟨?_, fun _ => ?_, t, hE, hP⟩
  · rw [ev, zst_o (by omega), ev0, zst_o (by omega), at_25]
  · rw [ev, zst_o (by omega), ev0, zst_o (by omega), zst_o (by omega), ← hw, at_21]
