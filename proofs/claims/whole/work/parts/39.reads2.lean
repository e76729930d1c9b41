theorem X4_plannedDay {n np : Nat} {post : Int32 → Mem → Prop} {a : Nat} {μ : Mem} (hn : n ≤ 10) (ha : a < n) (hP : ∀ d, d < 30 → μ 32 0 d = -1 ∨ ∃ a, a < n ∧ μ 32 0 d = nI a) (h1 : ∀ d, d < 30 → μ 32 0 d = nI a → post (nI d) μ) (h0 : (∀ d, d < 30 → ¬ μ 32 0 d = nI a) → post (-1) μ) : w_X4_plannedDay n np post (nI a) μ := by
  have loop : ∀ m d : Nat, d + m = 30 → (∀ k, k < d → ¬ μ 32 0 k = nI a) → l_X4_plannedDay_2 n np post (nI a) (m + 1) (nI d) μ := by
    intro m
    induction m with
    | zero =>
      intro d hd hno
      have e : d = 30 := by omega
      subst e
      show lb_X4_plannedDay_2 n np post _ _ _ _
      unfold lb_X4_plannedDay_2
      exact ⟨fun _ => h0 hno, fun c => absurd (by decide) c⟩
    | succ m ih =>
      intro d hd hno
      show lb_X4_plannedDay_2 n np post (l_X4_plannedDay_2 n np post (nI a) (m + 1)) _ _ _
      unfold lb_X4_plannedDay_2
      rw [nI_s1, cl (by omega), cl (by omega)]
      refine ⟨fun c1 => absurd ((le30 (k := d) (by omega)).mp c1) (by omega), fun _ => ⟨vin (by omega) (by omega), fun c => ?_, fun _ => ha, fun c => ih (d + 1) (by omega) (fun k hk => ?_), fun c => ?_⟩⟩
      · rcases hP d (by omega) with e | ⟨a2, ha2, e⟩
        · exact absurd (by rw [e]; exact neg1) c
        · rw [e, cl (by omega)]; exact ha2
      · by_cases hkd : k = d
        · subst hkd
          exact fun e => c (Or.inl e)
        · exact hno k (by omega)
      · rcases c with e | ⟨-, e⟩
        · exact h1 d (by omega) e
        · exact absurd e (pos (by omega))
  exact ⟨31, loop 30 0 rfl (fun k hk => absurd hk (Nat.not_lt_zero k))⟩
theorem planI_cls {n t : Nat} {μ E : Mem} (h : planI n t μ E) : ∀ d, d < 30 → μ 32 0 d = -1 ∨ ∃ a, a < n ∧ μ 32 0 d = nI a := fun d hd => by
  rw [h.1 d hd]
  exact h.2.1 d hd
theorem o_dayOf : ob_dayOf Inv := by
  intro n np μ a1 hI
  obtain ⟨t, ⟨⟨hn, hnp, ht⟩, ⟨e0, e3, e12⟩, -, hal, hst, hg, hsk, hsc, htold, hz⟩, hp⟩ := id hI
  unfold w_L_dayOf w_X4_dayOf w_X5_dayOf
  refine X4_sceneNumbered hn htold (fun a ha e => ?_) (fun h => ⟨rfl, ?_⟩)
  · subst e
    obtain ⟨q1, q2, q3, q4, q5⟩ := hsc a ha
    have fin : ∀ r : Int32, (¬ μ 3 0 a = 2 → r = μ 4 0 a) → (μ 3 0 a = 2 → r = -1) → w_X5_isScene (fun (r2 : Int32) (μ1 : Mem) => (w_X5_goes (fun (r4 : Int32) (μ3 : Mem) => ((r4 = 0 → w_X5_thrown (oT Inv n np 0 0) μ3) ∧ (¬ r4 = 0 → (vp_in (nI a) 10 ∧ ((¬ (μ3 3 0 a) = 2 → w_X5_thrown (oT Inv n np 0 (μ3 4 0 a)) μ3) ∧ ((μ3 3 0 a) = 2 → w_X5_thrown (oT Inv n np 0 (-1)) μ3)))))) r2 (1 : Int32) (1 : Int32) μ1)) (nI a) (zst μ 21 0 0 r) := by
      intro r r1 r2
      refine X5_isScene hn (by rw [zst_o (by omega)]; exact e3) (fun k _ _ => X5_goes0 rfl rfl rfl ⟨fun q => absurd q z10, fun _ => ⟨vin (by omega) (by omega), ?_⟩⟩) (fun q => absurd ⟨a, ha, rfl⟩ q)
      rw [zst_o (by omega), zst_o (by omega), zst_o (f' := 4) (by omega), zst_o (f' := 4) (by omega)]
      refine ⟨fun c => oT_0 (Inv_21 hI _) ?_, fun c => oT_0 (Inv_21 hI _) ?_⟩
      · rw [at_21]; exact r1 c
      · rw [at_21]; exact r2 c
    rw [cl (by omega), q2]
    refine ⟨pos (by omega), ha, fun c => ?_, fun c => fin _ (fun _ => ?_) (fun c2 => ?_)⟩
    · refine X4_plannedDay hn ha (planI_cls hp) (fun d hd e => fin _ (fun _ => ?_) (fun c2 => ?_)) (fun hno => fin _ (fun c2 => ?_) (fun _ => rfl))
      · rw [hp.1 d hd] at e
        exact (hp.2.2.2.1 d a hd ha e).2.symm
      · rw [hp.1 d hd] at e
        have := (hp.2.2.2.1 d a hd ha e).1
        rw [this] at c2
        exact absurd c2 (by decide)
      · have h0 : μ 3 0 a = 0 := by
          rcases q3 with q | q | q
          · exact q
          · exact absurd q c
          · exact absurd q c2
        obtain ⟨d, -, hd, e⟩ := hp.2.2.2.2 a ha h0
        exact absurd ((hp.1 d hd).trans e) (hno d hd)
    · exact q4 c
    · rw [c] at c2
      exact absurd c2 (by decide)
  · exact X5_isScene hn e3 (fun k hk e => absurd ⟨k, hk, e⟩ h) (fun _ => X5_goes1 rfl ⟨fun _ => oT_k k1 hI, fun q => absurd rfl q⟩)
def ahd (E : Mem) (p : Nat) : Nat → Int32
  | 0 => 0
  | k + 1 => if E 3 0 k = 2 then ahd E p k else if E 6 0 (5 * k + p) = -1 then ahd E p k else E 7 0 (5 * k + p)
theorem X2_ages {n np : Nat} {post : Int32 → Mem → Prop} {a p : Nat} {μ E : Mem} (ha : a < n) (hp : p < 5) (h6 : μ 70 a 6 = E 3 0 a) (h72 : μ 72 a p = E 6 0 (5 * a + p)) (h1 : ¬ E 3 0 a = 2 → ¬ E 6 0 (5 * a + p) = -1 → post 1 μ) (h0 : (E 3 0 a = 2 ∨ E 6 0 (5 * a + p) = -1) → post 0 μ) : w_X2_ages n np post a (nI p) μ := by
  unfold w_X2_ages
  rw [h6, cl (by omega), h72]
  exact ⟨ha, fun c => h0 (Or.inl c), fun c => ⟨fun c2 => absurd c2 (pos (by omega)), fun _ => ⟨fun c3 => absurd ((le5 (k := p) (by omega)).mp c3) (by omega), fun _ => ⟨vin hp (by omega), fun c4 => h0 (Or.inr c4), fun c4 => h1 c c4⟩⟩⟩⟩
theorem X4_aheadLoop {n np a p : Nat} {μ : Mem} {post : Int32 → Mem → Prop} {xpost : String → Mem → Prop} (hn : n ≤ 10) (ha : a < n) (hp5 : p < 5) (hal : alRel n np μ μ) (hsc : scOK n μ μ) (htold : ∀ k, k < 10 → μ 31 0 k = if k < n then nI k else -1) (fin : ∀ r : Int32, r = ahd μ p a → post r μ) : ∃ f, l_X4_ahead_26 n np post xpost (nI a) (nI p) f 0 10 0 μ := by
  have loop : ∀ m j : Nat, j + m = 10 → ∀ v3 : Int32, v3 = ahd μ p (min j a) → l_X4_ahead_26 n np post xpost (nI a) (nI p) (m + 1) v3 10 (nI j) μ := by
    intro m
    induction m with
    | zero =>
      intro j hj v3 e3'
      have e : j = 10 := by omega
      subst e
      show lb_X4_ahead_26 n np _ _ _ _ _ _ _ _ _
      unfold lb_X4_ahead_26
      refine ⟨fun _ => fin v3 ?_, fun c => absurd (by decide) c⟩
      rw [e3']
      congr 1
      omega
    | succ m ih =>
      intro j hj v3 e3'
      show lb_X4_ahead_26 n np _ _ (l_X4_ahead_26 n np _ _ (nI a) (nI p) (m + 1)) _ _ _ _ _ _
      unfold lb_X4_ahead_26 b_X4_ahead_71
      rw [nI_s1, cl (by omega), htold j (by omega)]
      refine ⟨fun c1 => absurd ((le10 (k := j) (by omega)).mp c1) (by omega), fun _ => ⟨vin (by omega) (by omega), fun c => ih (j + 1) (by omega) v3 ?_, fun c => ?_⟩⟩
      · by_cases hjn : j < n
        · rw [if_pos hjn] at c
          exact absurd c (pos (by omega))
        · rw [e3']
          congr 1
          omega
      · by_cases hjn : j < n
        · rw [if_pos hjn, cl (by omega), (hsc j hjn).1]
          refine ⟨hjn, fun c2 => ih (j + 1) (by omega) v3 ?_, fun c2 => ?_⟩
          · have := (nI_leI (by omega) (by omega)).mp c2
            rw [e3']
            congr 1
            omega
          · have hja : j < a := by
              rcases Nat.lt_or_ge j a with q | q
              · exact q
              · exact absurd ((nI_leI (by omega) (by omega)).mpr q) c2
            have em : min j a = j := by omega
            have em1 : min (j + 1) a = j + 1 := by omega
            obtain ⟨q1, q2, q3, q4, q5⟩ := hsc j hjn
            obtain ⟨s1, s2, s3, s4, s5⟩ := hal.1 j hjn
            refine X2_ages (E := μ) hjn hp5 q2 (s4 p hp5) (fun c3 c4 => ⟨fun q => absurd q z10, fun _ => ⟨vin hp5 (by omega), fun v ev => ih (j + 1) (by omega) v ?_⟩⟩) (fun c3 => ⟨fun _ => ih (j + 1) (by omega) v3 ?_, fun q => absurd rfl q⟩)
            · rw [ev, cl (by omega), s5 p hp5 c4, em1]
              unfold ahd
              rw [if_neg c3, if_neg c4]
            · rw [e3', em, em1]
              conv => rhs; unfold ahd
              by_cases c5 : μ 3 0 j = 2
              · rw [if_pos c5]
              · rw [if_neg c5, if_pos (c3.resolve_left c5)]
        · rw [if_neg hjn] at c
          exact absurd neg1 c
  exact ⟨11, loop 10 0 rfl 0 (by rw [show min 0 a = 0 by omega]; rfl)⟩
theorem o_ahead : ob_ahead Inv := by
  intro n np μ a1 a2 hI
  obtain ⟨t, ⟨⟨hn, hnp, ht⟩, ⟨e0, e3, e12⟩, -, hal, hst, hg, hsk, hsc, htold, hz⟩, hpl⟩ := id hI
  unfold w_L_ahead w_X4_ahead w_X5_ahead b_X5_ahead_20 b_X5_ahead_21
  refine X4_sceneNumbered hn htold (fun a ha e => ?_) (fun h => ⟨rfl, ?_⟩)
  · subst e
    refine X4_requireProp (fun h => ?_) (fun h => ⟨rfl, ?_⟩)
    · obtain ⟨p, hp5, e⟩ := h
      subst e
      have fin : ∀ r : Int32, r = ahd μ p a → w_X5_ahead (fun (b : Int32) (u2 : Mem) => w_X5_thrown (oT Inv n np 0 b) u2) (nI a) (nI p) (zst μ 21 0 0 r) := by
        intro r er
        unfold w_X5_ahead b_X5_ahead_20 b_X5_ahead_21
        have hI1 := Inv_21 hI r
        generalize ew : zst μ 21 0 0 r = w at hI1
        have w0 : w 0 = μ 0 := by rw [← ew]; exact zst_o (by omega)
        have w3 : w 3 = μ 3 := by rw [← ew]; exact zst_o (by omega)
        have w6 : w 6 = μ 6 := by rw [← ew]; exact zst_o (by omega)
        have w7 : w 7 = μ 7 := by rw [← ew]; exact zst_o (by omega)
        have w21 : w 21 0 0 = r := by rw [← ew]; exact at_21
        refine X5_isScene hn (by rw [w0]; exact e3) (fun _ _ _ => ⟨fun q => absurd q z10, fun _ => X5_isProp (fun _ _ _ => ⟨fun q => absurd q z10, fun _ => X5_goes0 rfl rfl rfl ⟨fun _ => ⟨a + 1, ?_⟩, fun q => absurd q z10⟩⟩) (fun q => absurd ⟨p, hp5, rfl⟩ q)⟩) (fun q => absurd ⟨a, ha, rfl⟩ q)
        have loop : ∀ m j : Nat, j + m = a → l_X5_ahead_36 (fun (b : Int32) (u2 : Mem) => w_X5_thrown (oT Inv n np 0 b) u2) (nI a) (nI p) (m + 1) (ahd μ p j) (nI j) (zst w 0 0 25 0) := by
          intro m
          induction m with
          | zero =>
            intro j hj
            have e : j = a := by omega
            subst e
            show lb_X5_ahead_36 _ _ _ _ _ _ _
            unfold lb_X5_ahead_36
            exact ⟨fun _ => oT_0 hI1 (by rw [w21, er]), fun c => absurd (Int32.le_refl _) c⟩
          | succ m ih =>
            intro j hj
            show lb_X5_ahead_36 _ (l_X5_ahead_36 _ (nI a) (nI p) (m + 1)) _ _ _ _ _
            unfold lb_X5_ahead_36 w_X5_isUsed b_X5_ahead_67
            have ihj := ih (j + 1) (by omega)
            rw [nI_s1, ix5, cl (by omega), cl (by omega)]
            rw [zst_o (f' := 3) (by omega), zst_o (f' := 6) (by omega), w3, w6]
            refine ⟨fun c1 => absurd ((nI_leI (by omega) (by omega)).mp c1) (by omega), fun _ => ⟨vin (by omega) (by omega), fun c => ⟨fun _ => ?_, fun q => absurd rfl q⟩, fun c => ⟨vin (by omega) (by omega), fun c2 => ⟨fun _ => ?_, fun q => absurd rfl q⟩, fun c2 => ⟨fun q => absurd q z10, fun _ => ⟨vin (by omega) (by omega), ?_⟩⟩⟩⟩⟩
            · unfold ahd at ihj
              rw [if_pos c] at ihj
              exact ihj
            · unfold ahd at ihj
              rw [if_neg c, if_pos c2] at ihj
              exact ihj
            · unfold ahd at ihj
              rw [if_neg c, if_neg c2] at ihj
              show l_X5_ahead_36 _ (nI a) (nI p) (m + 1) (zst w 0 0 25 0 7 0 (5 * j + p)) (nI (j + 1)) (zst w 0 0 25 0)
              rw [zst_o (f' := 7) (by omega), w7]
              exact ihj
        exact loop a 0 (by omega)
      unfold w_X5_ahead b_X5_ahead_20 b_X5_ahead_21 at fin
      exact X4_aheadLoop hn ha hp5 hal hsc htold fin
    · exact X5_isScene hn e3 (fun _ _ _ => ⟨fun q => absurd q z10, fun _ => X5_isProp (fun k hk e => absurd ⟨k, hk, e⟩ h) (fun _ => ⟨fun _ => X5_goes1 rfl ⟨fun q => absurd rfl q, fun _ => oT_k k1 hI⟩, fun q => absurd rfl q⟩)⟩) (fun q => absurd ⟨a, ha, rfl⟩ q)
  · exact X5_isScene hn e3 (fun k hk e => absurd ⟨k, hk, e⟩ h) (fun _ => ⟨fun _ => X5_goes1 rfl ⟨fun q => absurd rfl q, fun _ => oT_k k1 hI⟩, fun q => absurd rfl q⟩)
