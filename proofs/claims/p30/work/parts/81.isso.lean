/-! isSo -/
theorem z1 : (0 : Int32) = nI 0 := rfl
theorem i0_add (x : Nat) : nI x + 0 = nI x := Int32.add_zero _
theorem L_isSo_end {n np t : Nat} {E μ : Mem} {post : Int32 → Mem → Prop} (h : Jv n np t E μ) (hl : LI n np t E) (hp : ∀ v, Jv n np t E v → post 1 v) : ∀ (f : Int32 → Int32 → Int32 → Mem → Prop) (v3 v5 : Int32), v3 = 0 → v5 = 5 → lb_L_isSo_231 n np post f v3 (nI (sumN (rD E np (E 8 0)) 30)) v5 μ := by
  intro f v3 v5 h3 h5
  have hn := h.n10
  obtain ⟨g0, g1, g2, g3, -⟩ := id hl
  unfold lb_L_isSo_231
  simp only [tc0, tc2, tc3]
  refine ⟨fun _ => ⟨fun c => absurd h3 c, fun _ => s_refused h ⟨fun c => absurd rfl c, fun _ => s_today h ⟨fun c => absurd ?_ c, fun _ => s_spent h ⟨fun c => absurd ?_ c, fun _ => s_scenes h ⟨fun c => absurd ?_ c, fun _ => s_cost h (fun u hu => ⟨fun c => absurd c (cost_low h), fun _ => ?_⟩)⟩⟩⟩⟩⟩, fun c => absurd (by rw [h5]; decide) c⟩
  · rw [h.r22, g2]
  · rw [h.r22, g3]
  · rw [h.r22, g0]
  · refine x_sceneOn hu (no_lit (K := 30) rfl (by omega) (by omega)) ⟨fun c => absurd rfl c, fun _ => ?_⟩
    refine x_sceneOn hu (no_neg (by decide) (by omega)) ⟨fun c => absurd rfl c, fun _ => ?_⟩
    refine x_stateOf hu (by rw [hu.r22, g0]; exact no_lit (K := n) rfl (by omega) (by omega)) ⟨fun c => absurd rfl c, fun _ => ?_⟩
    refine x_dayOf hu (no_neg (by decide) (by omega)) ⟨fun c => absurd rfl c, fun _ => ?_⟩
    refine x_isAllowed hu (by rw [hu.r22, g0]; exact no_lit (K := n) rfl (by omega) (by omega)) ⟨fun c => absurd rfl c, fun _ => ?_⟩
    refine x_ahead hu (by rw [hu.r22, g0]; exact no_lit (K := n) rfl (by omega) (by omega)) ⟨fun c => absurd rfl c, fun _ => ?_⟩
    refine x_growth hu (no_lit (K := 5) rfl (by omega) (by omega)) ⟨fun c => absurd rfl c, fun _ => ?_⟩
    refine x_copies hu (no_lit (K := 5) rfl (by omega) (by omega)) ⟨fun c => absurd rfl c, fun _ => ?_⟩
    exact y_copies hu ⟨0, by omega, rfl⟩ (no_lit (K := 4) rfl (by omega) (by omega)) ⟨fun c => absurd rfl c, fun _ => hp u hu⟩
/-- the props, in story order -/
theorem L_isSo_props {n np t : Nat} {E μ : Mem} {post : Int32 → Mem → Prop} (h : Jv n np t E μ) (hl : LI n np t E) (hp : ∀ v, Jv n np t E v → post 1 v) : ∃ fuel : Nat, fuel ≤ 6 ∧ l_L_isSo_231 n np post fuel 0 (nI (sumN (rD E np (E 8 0)) 30)) 0 μ := by
  have hn := h.n10
  obtain ⟨g0, g1, g2, g3, gu, gv, hf, -⟩ := id hl
  have loop : ∀ m p : Nat, p + m = 5 → l_L_isSo_231 n np post (m + 1) 0 (nI (sumN (rD E np (E 8 0)) 30)) (nI p) μ := by
    intro m
    induction m with
    | zero =>
      intro p hpm
      have e : p = 5 := by omega
      subst e
      exact L_isSo_end h hl hp _ _ _ rfl rfl
    | succ m ih =>
      intro p hpm
      show lb_L_isSo_231 n np post (l_L_isSo_231 n np post (m + 1)) 0 _ (nI p) μ
      unfold lb_L_isSo_231
      refine ⟨fun c => absurd ((le5 (k := p) (by omega)).mp c) (by omega), fun _ => ⟨n + 1, by omega, ?_⟩⟩
      have inner : ∀ m2 a : Nat, a + m2 = n → l_L_isSo_243 n np post (l_L_isSo_231 n np post (m + 1)) (m2 + 1) 0 (nI (sumN (rD E np (E 8 0)) 30)) (nI p) (ahd E p a) (nI a) μ := by
        intro m2
        induction m2 with
        | zero =>
          intro a ha
          have e : a = n := by omega
          subst e
          show lb_L_isSo_243 a np post _ _ _ _ _ _ _ _
          unfold lb_L_isSo_243
          simp only [tc0]
          rw [h.r22, g0, nI_s1]
          exact ⟨fun _ => ih (p + 1) (by omega), fun c => absurd (Int32.le_refl _) c⟩
        | succ m2 ih2 =>
          intro a ha
          show lb_L_isSo_243 n np post _ (l_L_isSo_243 n np post _ (m2 + 1)) _ _ _ _ _ _
          unfold lb_L_isSo_243
          simp only [tc0]
          rw [h.r22, g0]
          have haN : a < n := by omega
          have ih3 := ih2 (a + 1) (by omega)
          refine ⟨fun c => absurd ((nI_leI (by omega) (by omega)).mp c) (by omega), fun _ => a_ahead h haN (by omega) rfl rfl ⟨fun _ => a_stateOf h haN rfl ⟨fun c3 => ?_, fun c3 => ?_⟩, fun c => absurd rfl c⟩⟩
          · have hu : μ 23 0 (5 * a + p) = uvl E (5 * a + p) := by
              rw [h.r23, gu a p (by omega) (by omega), if_pos haN]
            rw [ix5, cl (by omega), hu]
            refine ⟨vin (by omega) (by omega), ?_⟩
            unfold b_L_isSo_289 b_L_isSo_325 b_L_isSo_340
            rw [nI_s1]
            by_cases c6 : E 6 0 (5 * a + p) = -1
            · have e0 : uvl E (5 * a + p) = 0 := by
                unfold uvl
                rw [if_pos c6]
              have ea : ahd E p (a + 1) = ahd E p a := by
                conv => lhs; unfold ahd
                rw [if_neg c3, if_pos c6]
              rw [ea] at ih3
              rw [e0]
              exact ⟨fun _ => ⟨fun _ => ih3, fun c => absurd (Int32.le_refl _) c⟩, fun c => absurd (Int32.le_refl _) c⟩
            · obtain ⟨q, s, q1, q2, e1, e2, e3, e4, e5, e6⟩ := uvl_val hf haN (p := p) (by omega) c6
              have ea : ahd E p (a + 1) = nI s := by
                conv => lhs; unfold ahd
                rw [if_neg c3, if_neg c6, e2]
              have hfw := ahd_fwd hf haN (p := p) (by omega) c3 c6
              rw [e1] at hfw
              rw [ea] at ih3
              rw [e5, e4]
              have step : ((uvl E (5 * a + p) ≤ 0 → l_L_isSo_243 n np post (l_L_isSo_231 n np post (m + 1)) (m2 + 1) 0 (nI (sumN (rD E np (E 8 0)) 30)) (nI p) (ahd E p a) (nI (a + 1)) μ) ∧ (¬ uvl E (5 * a + p) ≤ 0 → l_L_isSo_243 n np post (l_L_isSo_231 n np post (m + 1)) (m2 + 1) 0 (nI (sumN (rD E np (E 8 0)) 30)) (nI p) (nI s) (nI (a + 1)) μ)) := ⟨fun c => absurd c e6, fun _ => ih3⟩
              exact ⟨fun c => absurd c e6, fun _ => ⟨fun c => absurd c hfw, fun _ => ⟨fun _ => step, fun c => absurd (nI_le q1 (by omega)) c⟩⟩⟩
          · unfold b_L_isSo_289 b_L_isSo_325 b_L_isSo_340
            rw [nI_s1]
            have ea : ahd E p (a + 1) = ahd E p a := by
              conv => lhs; unfold ahd
              rw [if_pos c3]
            rw [ea] at ih3
            exact ⟨fun _ => ⟨fun _ => ih3, fun c => absurd (Int32.le_refl _) c⟩, fun c => absurd (Int32.le_refl _) c⟩
      exact inner n 0 (by omega)
  exact ⟨6, by omega, loop 5 0 rfl⟩
/-- the scenes and their days -/
theorem L_isSo_sc {n np t : Nat} {E μ : Mem} {post : Int32 → Mem → Prop} (h : Jv n np t E μ) (hl : LI n np t E) (hp : ∀ v, Jv n np t E v → post 1 v) : ∃ fuel : Nat, fuel ≤ 11 ∧ l_L_isSo_120 n np post fuel (nI (cnt (E 8 0) 30)) (nI (sumN (rD E np (E 8 0)) 30)) 0 μ := by
  have hn := h.n10
  have hpl := h.pl
  have ht := h.t30
  obtain ⟨g0, g1, g2, g3, gu, gv, hf, hsh⟩ := id hl
  rw [pln_eq hn hpl]
  obtain ⟨G, hG⟩ : ∃ G : Nat → Nat, G = fun k => ind (E 3 0 k = 0) := ⟨_, rfl⟩
  rw [← hG]
  have loop : ∀ m a : Nat, a + m = n → l_L_isSo_120 n np post (m + 1) (nI (sumN G n - sumN G a)) (nI (sumN (rD E np (E 8 0)) 30)) (nI a) μ := by
    intro m
    induction m with
    | zero =>
      intro a ha
      have e : a = n := by omega
      subst e
      show lb_L_isSo_120 a np post _ _ _ _ _
      unfold lb_L_isSo_120
      simp only [tc0]
      rw [h.r22, g0, Nat.sub_self]
      exact ⟨fun _ => L_isSo_props h hl hp, fun c => absurd (Int32.le_refl _) c⟩
    | succ m ih =>
      intro a ha
      show lb_L_isSo_120 n np post (l_L_isSo_120 n np post (m + 1)) _ _ _ _
      unfold lb_L_isSo_120
      simp only [tc0]
      rw [h.r22, g0]
      have haN : a < n := by omega
      have ih3 := ih (a + 1) (by omega)
      have hGs : sumN G (a + 1) = sumN G a + G a := rfl
      have hm1 : sumN G (a + 1) ≤ sumN G n := sumN_mono (by omega)
      refine ⟨fun c => absurd ((nI_leI (by omega) (by omega)).mp c) (by omega), fun _ => a_stateOf h haN rfl (a_dayOf h haN rfl ?_)⟩
      have fin : b_L_isSo_222 n np post (l_L_isSo_120 n np post (m + 1)) (nI (sumN G n - sumN G (a + 1))) (nI (sumN (rD E np (E 8 0)) 30)) (nI a) μ := by
        unfold b_L_isSo_222
        rw [nI_s1]
        exact ih3
      unfold b_L_isSo_155
      simp only [tc2]
      rw [h.r22, g2]
      rcases (h.sc a haN).2.2.1 with e | e | e
      · rw [e, if_neg (by decide)]
        refine ⟨fun c => absurd rfl c, fun _ => ⟨fun c => absurd c (by decide), fun _ => ⟨fun c => absurd c (by decide), fun _ => ⟨fun _ => ⟨fun _ => ?_, fun c => absurd c (by decide)⟩, fun c => absurd c (by decide)⟩⟩⟩⟩
        obtain ⟨d, d1, d2, d3⟩ := hpl.2.2.2.2 a haN e
        have e4 := (hpl.2.2.2.1 d a d2 haN d3).2
        have hGa : G a = 1 := by rw [hG]; exact ind_1 e
        rw [e4]
        refine ⟨fun c => absurd c (nI_nlt d1 (by omega)), fun _ => ⟨fun _ => ?_, fun c => absurd (nI_le (a := d) (b := 29) (by omega) (by omega)) c⟩⟩
        rw [show (1 : Int32) = nI 1 from rfl, nI_sub (by omega), show sumN G n - sumN G a - 1 = sumN G n - sumN G (a + 1) by omega]
        exact fin
      · rw [e, if_neg (by decide)]
        refine ⟨fun _ => ⟨fun c => absurd c (by decide), fun _ => ⟨fun c => absurd c (by decide), fun _ => ⟨fun _ => ⟨fun c => absurd rfl c, fun _ => ?_⟩, fun c => absurd c (by decide)⟩⟩⟩, fun c => absurd c (by decide)⟩
        obtain ⟨d, d1, d2⟩ := hsh a haN e
        have hGa : G a = 0 := by rw [hG]; exact ind_0 (fun q => by rw [e] at q; exact absurd q (by decide))
        rw [d2]
        refine ⟨fun c => absurd c (pos (by omega)), fun _ => ⟨fun _ => ?_, fun c => absurd (nI_lt d1 (by omega)) c⟩⟩
        rw [show (0 : Int32) = nI 0 from rfl, nI_sub (by omega), show sumN G n - sumN G a - 0 = sumN G n - sumN G (a + 1) by omega]
        exact fin
      · rw [e, if_pos rfl]
        have hGa : G a = 0 := by rw [hG]; exact ind_0 (fun q => by rw [e] at q; exact absurd q (by decide))
        refine ⟨fun _ => ⟨fun c => absurd c (by decide), fun _ => ⟨fun c => absurd c (by decide), fun _ => ⟨fun c => absurd rfl c, fun _ => ⟨fun _ => ?_, fun c => absurd rfl c⟩⟩⟩⟩, fun c => absurd c (by decide)⟩
        rw [show (0 : Int32) = nI 0 from rfl, nI_sub (by omega), show sumN G n - sumN G a - 0 = sumN G n - sumN G (a + 1) by omega]
        exact fin
  have := loop n 0 (by omega)
  exact ⟨n + 1, by omega, this⟩
theorem L_isSo {n np t : Nat} {E μ : Mem} {post : Int32 → Mem → Prop} (h : Jv n np t E μ) (hl : LI n np t E) (hp : ∀ v, Jv n np t E v → post 1 v) : w_L_isSo n np post μ := by
  have hn := h.n10
  have hpl := h.pl
  have ht := h.t30
  obtain ⟨g0, g1, g2, g3, gu, gv, hf, hsh⟩ := id hl
  have loop : ∀ m d : Nat, d + m = 30 → l_L_isSo_8 n np post (m + 1) (nI (cnt (E 8 0) d)) (nI (sumN (rD E np (E 8 0)) d)) (nI d) μ := by
    intro m
    induction m with
    | zero =>
      intro d hd
      have e : d = 30 := by omega
      subst e
      show lb_L_isSo_8 n np post _ _ _ _ _
      unfold lb_L_isSo_8
      exact ⟨fun _ => L_isSo_sc h hl hp, fun c => absurd (by decide) c⟩
    | succ m ih =>
      intro d hd
      show lb_L_isSo_8 n np post (l_L_isSo_8 n np post (m + 1)) _ _ _ _
      unfold lb_L_isSo_8
      simp only [tc0, tc2]
      have hdN : d < 30 := by omega
      have ih3 := ih (d + 1) (by omega)
      have hRs : sumN (rD E np (E 8 0)) (d + 1) = sumN (rD E np (E 8 0)) d + rD E np (E 8 0) d := rfl
      refine ⟨fun c => absurd ((le30 (k := d) (by omega)).mp c) (by omega), fun _ => a_sceneOn h hdN rfl ?_⟩
      rw [h.r22, g0, h.r22, g2]
      rcases hpl.2.1 d hdN with e | ⟨a, ha, e⟩
      · rw [e]
        have hz : rD E np (E 8 0) d = 0 := ind_0 (fun q => q (Or.inl e))
        rw [hRs, hz, Nat.add_zero, cnt_0 e] at ih3
        refine ⟨fun c => absurd c (by decide), fun _ => ⟨fun c => absurd c ?_, fun _ => ⟨fun _ => ?_, fun c => absurd neg1 c⟩⟩⟩
        · intro q
          have q2 : nI n < 0 := Int32.lt_of_le_of_lt q neg1
          exact pos (by omega) q2
        · unfold b_L_isSo_72 b_L_isSo_83 b_L_isSo_107 b_L_isSo_108
          rw [nI_s1]
          refine ⟨fun _ => ⟨fun _ => ?_, fun c => absurd neg1 c⟩, fun c => absurd neg1 c⟩
          rw [Int32.add_zero, Int32.add_zero]
          exact ih3
      · rw [e]
        have htd : t ≤ d := by
          rcases Nat.lt_or_ge d t with w | w
          · rw [hpl.2.2.1 d w] at e
            exact absurd e.symm (nI_neg1 (by omega))
          · exact w
        obtain ⟨e3, e4⟩ := hpl.2.2.2.1 d a hdN ha e
        have hc1 : cnt (E 8 0) (d + 1) = cnt (E 8 0) d + 1 := cnt_1 (by rw [e]; exact nI_neg1 (by omega))
        have fin : b_L_isSo_72 n np post (l_L_isSo_8 n np post (m + 1)) (nI (cnt (E 8 0) d)) (nI (sumN (rD E np (E 8 0)) d)) (nI d) (nI a) μ := by
          unfold b_L_isSo_72 b_L_isSo_83 b_L_isSo_107 b_L_isSo_108
          rw [nI_s1, nI_s1, nI_s1, Int32.add_zero]
          refine ⟨fun c => absurd c (pos (by omega)), fun _ => ⟨fun c => absurd c (pos (by omega)), fun _ => a_isAllowed h ha hdN rfl rfl (fun q => ⟨fun _ => ?_, fun c => absurd c z10⟩) (fun q => ⟨fun c => absurd rfl c, fun _ => ?_⟩)⟩⟩
          · have hz : rD E np (E 8 0) d = 0 := by
              unfold rD
              rw [e]
              exact ind_0 (fun w => w ((fre_nI (by omega)).mpr q))
            rw [hRs, hz, hc1] at ih3
            simp only [Nat.add_zero] at ih3
            simp only [Int32.add_zero]
            exact ih3
          · have hz : rD E np (E 8 0) d = 1 := by
              unfold rD
              rw [e]
              exact ind_1 (fun w => q ((fre_nI (by omega)).mp w))
            rw [hRs, hz, hc1] at ih3
            exact ih3
        refine ⟨fun c => absurd c ?_, fun _ => ⟨fun c => absurd ((nI_leI (by omega) (by omega)).mp c) (by omega), fun _ => ⟨fun c => absurd c (pos (by omega)), fun _ => ⟨fun c => absurd c (nI_nlt htd (by omega)), fun _ => a_stateOf h ha rfl ⟨fun c => absurd e3 c, fun _ => a_dayOf h ha rfl ⟨fun _ => fin, fun c => absurd ?_ c⟩⟩⟩⟩⟩⟩
        · intro q
          have q2 : nI a < 0 := Int32.lt_trans q neg1
          exact pos (by omega) q2
        · rw [e3, if_neg (by decide), e4]
  exact ⟨31, by omega, loop 30 0 rfl⟩
