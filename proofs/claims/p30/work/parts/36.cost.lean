/-! WHAT A PLAN COSTS -/
theorem al_of {np a d : Nat} {μ u : Mem} (h : ∀ f, f = 1 ∨ f = 2 ∨ f = 5 ∨ f = 9 ∨ f = 10 ∨ f = 11 ∨ f = 12 ∨ f = 13 ∨ f = 14 → u f 0 = μ f 0) : al u np a d ↔ al μ np a d := by
  unfold al alP alC cov
  rw [h 1 (by simp), h 2 (by simp), h 5 (by simp), h 9 (by simp), h 10 (by simp), h 11 (by simp), h 12 (by simp), h 13 (by simp), h 14 (by simp)]
theorem al_wrk {np a d : Nat} {μ : Mem} {g h : Nat → Int32} : al (wrk μ g h) np a d ↔ al μ np a d := al_of (fun f hf => wrk_o μ g h 0 (by omega) (by omega))
noncomputable def alV (E : Mem) (np a d : Nat) : Int32 := @ite Int32 (al E np a d) (Classical.propDecidable _) 0 20
theorem alV_pos {E : Mem} {np a d : Nat} (h : al E np a d) : alV E np a d = 0 := by
  unfold alV
  exact if_pos h
theorem alV_neg {E : Mem} {np a d : Nat} (h : ¬ al E np a d) : alV E np a d = 20 := by
  unfold alV
  exact if_neg h
noncomputable def dC (E : Mem) (np : Nat) (P : Nat → Int32) : Nat → Nat → Int32 → Int32 → (Nat → Int32) → (Nat → Nat → Int32) → Int32
  | 0, _, s, _, _, _ => s
  | r + 1, d, s, b, g, c => if P d = -1 then dC E np P r (d + 1) s b (gw g) c
    else dC E np P r (d + 1) (s + (svS E (P d).toNatClampNeg b g c + alV E np (P d).toNatClampNeg d)) (E 1 0 (P d).toNatClampNeg) (gw (gAs (bds E (P d).toNatClampNeg) g 5)) (cP E (P d).toNatClampNeg 5 c)
noncomputable def costF (E : Mem) (np t : Nat) (P : Nat → Int32) : Int32 := dC E np P (30 - t) t 0 (E 0 0 2) (E 15 0) (fun p s => E 16 0 (4 * p + s))
def plOK (n : Nat) (P : Nat → Int32) : Prop := ∀ d, d < 30 → P d = -1 ∨ ∃ a, a < n ∧ P d = nI a
theorem eq5_gwj {g ga : Nat → Int32} (h : eq5 g ga) : eq5 (gwj g 5) (gw ga) := by
  intro k hk
  unfold gwj gw
  rw [if_pos hk, h k hk]
theorem tri_zc {μ : Mem} {g : Nat → Int32} {c : Nat → Nat → Int32} {x : Int32} {b j : Nat} (hj : j < 5) (r : Nat → Int32) : zcp (tri b μ g c x) 43 (5 * b + j) r = tri b μ g (upc c j r) x := by
  funext f i k
  unfold zcp tri upc
  by_cases h0 : f = 43 ∧ i = 5 * b + j
  · obtain ⟨rfl, rfl⟩ := h0
    have h3 : 5 * b + j - 5 * b = j := by omega
    have h4 : 5 * b ≤ 5 * b + j ∧ 5 * b + j < 5 * b + 5 := by omega
    simp [h3, h4, hj]
  · rw [if_neg h0]
    by_cases h1 : f = 42 ∧ i = b
    · rw [if_pos h1, if_pos h1]
    · rw [if_neg h1, if_neg h1]
      by_cases h2 : f = 43 ∧ 5 * b ≤ i ∧ i < 5 * b + 5
      · rw [if_pos h2, if_pos h2, if_neg (by omega)]
      · rw [if_neg h2, if_neg h2]
theorem tri_zg {μ : Mem} {g : Nat → Int32} {c : Nat → Nat → Int32} {x : Int32} {b : Nat} (r : Nat → Int32) : zcp (tri b μ g c x) 42 b r = tri b μ r c x := by
  funext f i k
  unfold zcp tri
  by_cases h0 : f = 42 ∧ i = b
  · simp [h0]
  · simp [h0]
/-- the trial's rows are not the studio's -/
theorem tri_st {μ : Mem} {g : Nat → Int32} {c : Nat → Nat → Int32} {x : Int32} : tri 1 μ g c x 42 0 = μ 42 0 ∧ (∀ j, j < 5 → tri 1 μ g c x 43 j = μ 43 j) ∧ tri 1 μ g c x 40 0 2 = μ 40 0 2 := by
  refine ⟨?_, fun j hj => ?_, ?_⟩
  · funext k; simp [tri]
  · funext k
    have : ¬ (5 ≤ j ∧ j < 10) := by omega
    simp [tri, this]
  · simp [tri]
theorem X3_copy {n np : Nat} {post : Mem → Prop} {μ : Mem} (hp : ∀ (g : Nat → Int32) (c : Nat → Nat → Int32), eq5 g (μ 42 0) → eq45 c (fun p => μ 43 p) → post (tri 1 μ g c (μ 40 0 2))) : w_X3_copy n np post 1 0 μ := by
  have loop : ∀ m j : Nat, j + m = 5 → ∀ (g : Nat → Int32) (c : Nat → Nat → Int32) (x : Int32), (∀ p, p < j → ∀ s, s < 4 → c p s = μ 43 p s) → l_X3_copy_2 n np post 1 0 (m + 1) (nI j) (tri 1 μ g c x) := by
    intro m
    induction m with
    | zero =>
      intro j hj g c x hc
      have e : j = 5 := by omega
      subst e
      show lb_X3_copy_2 n np post _ _ _ _ _
      unfold lb_X3_copy_2
      refine ⟨fun _ => ⟨by omega, by omega, by omega, fun u eu u2 eu2 => ?_⟩, fun c => absurd (by decide) c⟩
      subst eu
      rw [tri_zg] at eu2
      subst eu2
      rw [tri_sx, tri_st.2.2]
      refine hp _ _ (fun k hk => ?_) (fun p s hp1 hs => hc p hp1 s hs)
      unfold va_cpy
      rw [if_pos (by omega), tri_st.1]
      congr 1
      omega
    | succ m ih =>
      intro j hj g c x hc
      show lb_X3_copy_2 n np post (l_X3_copy_2 n np post 1 0 (m + 1)) _ _ _ _
      unfold lb_X3_copy_2
      have hj5 : j < 5 := by omega
      rw [nI_s1, cl (by omega)]
      refine ⟨fun c1 => absurd ((le5 (k := j) (by omega)).mp c1) (by omega), fun _ => ⟨by omega, vin hj5 (by omega), by omega, by omega, by omega, by omega, fun u eu => ?_⟩⟩
      rw [tri_zc hj5] at eu
      subst eu
      refine ih (j + 1) (by omega) _ _ _ (fun p hp1 s hs => ?_)
      unfold upc
      by_cases hpj : p = j
      · subst hpj
        rw [if_pos rfl]
        unfold va_cpy
        rw [if_pos (by omega), show 5 * 0 + p = p by omega, tri_st.2.1 p hj5]
        congr 1
        omega
      · rw [if_neg hpj]
        exact hc p (by omega) s hs
  have := loop 5 0 rfl (μ 42 1) (fun p => μ 43 (5 * 1 + p)) (μ 40 1 2) (fun p hp1 => absurd hp1 (Nat.not_lt_zero p))
  rw [tri_id] at this
  exact ⟨6, this⟩
/-- the class's studio (in μ) is the reference's (in E) -/
def stRel (μ E : Mem) : Prop := eq5 (μ 42 0) (E 15 0) ∧ eq45 (fun p => μ 43 p) (fun p s => E 16 0 (4 * p + s)) ∧ μ 40 0 2 = E 0 0 2
theorem sok_eq45 {c c' : Nat → Nat → Int32} {M : Nat} (h : eq45 c c') (hs : sok c' M) : sok c M := by
  intro p hp
  obtain ⟨X, h1, h2⟩ := hs p hp
  exact ⟨X, fun s hs => (h p s hp hs).trans (h1 s hs), h2⟩
theorem X4_planCost {post : Int32 → Mem → Prop} {n np t : Nat} {μ E : Mem} {P : Nat → Int32} (hn : n ≤ 10) (hnp : np ≤ 20) (ht : t ≤ 30) (h9 : μ 30 0 9 = nI t) (hr : alRel n np μ E) (hu : ∀ a, a < n → useOK E a) (hPm : ∀ d, d < 30 → μ 32 0 d = P d) (hP : plOK n P) (hst : stRel μ E) (hg : gOK (E 15 0)) (hs : sok (fun p s => E 16 0 (4 * p + s)) 50) (hp : ∀ g c x, post (costF E np t P) (tri 1 μ g c x)) : w_X4_planCost n np post μ := by
  have loop : ∀ m d : Nat, d + m = 30 → ∀ (rd : Nat) (s b : Int32) (ga : Nat → Int32) (ca : Nat → Nat → Int32) (g : Nat → Int32) (c : Nat → Nat → Int32), rd ≤ d → gDay (d - rd) g ga → eq45 c ca → sok ca (50 + d) → (∀ g c x, post (dC E np P m d s b ga ca) (tri 1 μ g c x)) → l_X4_planCost_23 n np post (m + 1) s (nI rd) (nI d) (tri 1 μ g c b) := by
    intro m
    induction m with
    | zero =>
      intro d hd rd s b ga ca g c hrd hgd hc hsk hpost
      have e : d = 30 := by omega
      subst e
      show lb_X4_planCost_23 n np post _ _ _ _ _
      unfold lb_X4_planCost_23
      exact ⟨fun _ => hpost g c b, fun c => absurd (by decide) c⟩
    | succ m ih =>
      intro d hd rd s b ga ca g c hrd hgd hc hsk hpost
      show lb_X4_planCost_23 n np post (l_X4_planCost_23 n np post (m + 1)) _ _ _ _
      unfold lb_X4_planCost_23 b_X4_planCost_82
      rw [nI_s1, cl (by omega), tri_o 0 (f := 32) (by decide) (by decide) (by decide), hPm d (by omega), nI_sub hrd]
      refine ⟨fun c1 => absurd ((le30 (k := d) (by omega)).mp c1) (by omega), fun _ => ⟨vin (by omega) (by omega), fun c2 => ?_, fun c2 => ?_⟩⟩
      · rcases hP d (by omega) with e | ⟨a, ha, e⟩
        · exact absurd (by rw [e]; exact neg1) c2
        · have e1 : ¬ P d = -1 := by rw [e]; exact nI_neg1 (by omega)
          rw [e, cl (by omega)]
          refine X3_growBeards (by omega) ?_
          have hgg := gDay_gmn hgd (by omega)
          refine X3_film (E := E) (by omega) ha (hr.1 a ha) (hu a ha) (fun p hp1 => sokr_nng (sok_eq45 hc hsk p hp1) (by omega)) ?_
          have hsv : svS E a b (gmn (d - rd) g 5) c = svS E a b ga ca := svS_congr (hu a ha) hgg hc
          rw [hsv]
          have key : ∀ w : Int32, w = alV E np a d → l_X4_planCost_23 n np post (m + 1) (s + (svS E a b ga ca + w)) (nI d) (nI (d + 1)) (tri 1 μ (gAs (bds E a) (gmn (d - rd) g 5) 5) (cP E a 5 c) (E 1 0 a)) := by
            intro w ew
            refine ih (d + 1) (by omega) d _ _ (gw (gAs (bds E a) ga 5)) (cP E a 5 ca) _ _ (by omega) ?_ (cP_congr (hu a ha) hc) ?_ (fun g c x => ?_)
            · rw [show d + 1 - d = 0 + 1 by omega]
              exact gDay_gw (gDay_0 (gOK_gAs (gDay_ok hgd)) (gAs_congr hgg))
            · have hM : 50 + d < 1000 := by omega
              exact sok_cP (M := 50 + d) (hu a ha) hsk hM
            · have := hpost g c x
              unfold dC at this
              rw [if_neg e1, e, cl (by omega), ← ew] at this
              exact this
          refine X4_allows (E := E) ha (by omega) hnp (alRel_tri hr) (fun e2 => ⟨fun _ => ?_, fun c => absurd c z10⟩) (fun e2 => ⟨fun c => absurd rfl c, fun _ => ?_⟩)
          · have := key 0 (alV_pos e2).symm
            rw [Int32.add_zero] at this
            exact this
          · have := key 20 (alV_neg e2).symm
            rw [← Int32.add_assoc] at this
            exact this
      · rcases hP d (by omega) with e | ⟨a, ha, e⟩
        · refine ih (d + 1) (by omega) rd s b (gw ga) ca g c (by omega) ?_ hc (fun p hp1 => sokr_mono (hsk p hp1) (by omega)) (fun g c x => ?_)
          · rw [show d + 1 - rd = (d - rd) + 1 by omega]
            exact gDay_gw hgd
          · have := hpost g c x
            unfold dC at this
            rw [if_pos e] at this
            exact this
        · rw [e] at c2
          exact absurd c2 (pos (by omega))
  unfold w_X4_planCost
  refine X3_copy (fun g c hg1 hc1 => ⟨30 - t + 1, ?_⟩)
  rw [tri_o 0 (f := 30) (by decide) (by decide) (by decide), h9]
  rw [hst.2.2]
  refine loop (30 - t) t (by omega) t 0 (E 0 0 2) (E 15 0) (fun p s => E 16 0 (4 * p + s)) g c (Nat.le_refl t) ?_ (fun p s hp1 hs1 => (hc1 p s hp1 hs1).trans (hst.2.1 p s hp1 hs1)) (fun p hp1 => sokr_mono (hs p hp1) (by omega)) (fun g c x => hp g c x)
  rw [Nat.sub_self]
  exact gDay_0 hg (fun k hk => (hg1 k hk).trans (hst.1 k hk))

