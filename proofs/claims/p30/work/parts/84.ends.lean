/-! ends -/
theorem dC_add {E : Mem} {np : Nat} {P : Nat → Int32} : ∀ (m d : Nat) (s b : Int32) (g : Nat → Int32) (c : Nat → Nat → Int32), dC E np P m d s b g c = s + dC E np P m d 0 b g c := by
  intro m
  induction m with
  | zero => intro d s b g c; exact (Int32.add_zero s).symm
  | succ m ih =>
    intro d s b g c
    unfold dC
    by_cases h : P d = -1
    · rw [if_pos h, if_pos h]
      exact ih (d + 1) s b (gw g) c
    · rw [if_neg h, if_neg h, ih (d + 1) (s + _), ih (d + 1) (0 + _), Int32.zero_add, Int32.add_assoc]
theorem dC_g {E : Mem} {n np : Nat} {P : Nat → Int32} (hP : plOK n P) (hn : n ≤ 10) (hu : ∀ a, a < n → useOK E a) : ∀ (m d : Nat), d + m ≤ 30 → ∀ (s b : Int32) (g g' : Nat → Int32) (c c' : Nat → Nat → Int32), eq5 g g' → eq45 c c' → dC E np P m d s b g c = dC E np P m d s b g' c' := by
  intro m
  induction m with
  | zero => intro d _ s b g g' c c' _ _; rfl
  | succ m ih =>
    intro d hd s b g g' c c' hg hc
    unfold dC
    rcases hP d (by omega) with e | ⟨a, ha, e⟩
    · rw [if_pos e, if_pos e]
      exact ih (d + 1) (by omega) s b _ _ c c' (gw_congr hg) hc
    · rw [if_neg (by rw [e]; exact nI_neg1 (by omega)), if_neg (by rw [e]; exact nI_neg1 (by omega)), e, cl (by omega), svS_congr (hu a ha) hg hc]
      exact ih (d + 1) (by omega) _ _ _ _ _ _ (gw_congr (gAs_congr hg)) (cP_congr (hu a ha) hc)
theorem dC_E {np : Nat} {P : Nat → Int32} {μ u : Mem} (h : ∀ f, 1 ≤ f → f ≤ 14 → f ≠ 8 → f ≠ 4 → f ≠ 3 → u f 0 = μ f 0) : ∀ r d s b g c, dC u np P r d s b g c = dC μ np P r d s b g c := by
  intro r
  induction r with
  | zero => intro d s b g c; rfl
  | succ r ih =>
    intro d s b g c
    unfold dC
    obtain ⟨q1, q2, q3⟩ := svS_of (h 1 (by omega) (by omega) (by omega) (by omega) (by omega)) (h 5 (by omega) (by omega) (by omega) (by omega) (by omega)) (h 6 (by omega) (by omega) (by omega) (by omega) (by omega)) (h 7 (by omega) (by omega) (by omega) (by omega) (by omega)) (P d).toNatClampNeg b g c
    rw [q1, q2, q3, ih, ih, h 1 (by omega) (by omega) (by omega) (by omega) (by omega), alV_of (al_of (μ := μ) (u := u) (fun f hf => h f (by omega) (by omega) (by omega) (by omega) (by omega)))]
section ENDS
variable {n np t : Nat} {E μ : Mem}
/-- the next day's plan, over the ghost that a day leaves -/
theorem cost_next (h : Jv n np t E μ) (ht : t < 30) {x1 x2 : Int32} {s3 d4 p8 G : Nat → Int32} {C : Nat → Nat → Int32} (h8 : ∀ d, t + 1 ≤ d → d < 30 → p8 d = E 8 0 d) : costF (dyF t E x1 x2 s3 d4 p8 G C) np (t + 1) p8 = dC E np (E 8 0) (29 - t) (t + 1) 0 x2 (gw G) C := by
  unfold costF
  rw [show 30 - (t + 1) = 29 - t by omega, dyF_02, dyF_15, dC_E (μ := E) (fun f h1 h2 q8 q4 q3 => by rw [dyF_o (by omega) q3 q4 q8 (by omega) (by omega)]), dC_congr (29 - t) (t + 1) (fun k h1 h2 => h8 k h1 (by omega))]
  exact dC_g h.pl.2.1 h.n10 h.use (29 - t) (t + 1) (by omega) _ _ _ _ _ _ (fun _ _ => rfl) (fun p s _ hs => dyF_16 p s hs)
theorem cost_A (h : Jv n np t E μ) (ht : t < 30) (e : E 8 0 t = -1) : costF E np t (E 8 0) = dC E np (E 8 0) (29 - t) (t + 1) 0 (E 0 0 2) (gw (E 15 0)) (stk E) := by
  unfold costF
  rw [show 30 - t = (29 - t) + 1 by omega]
  conv => lhs; unfold dC
  rw [if_pos e]
  rfl
theorem cost_B (h : Jv n np t E μ) (ht : t < 30) {a : Nat} (ha : a < n) (e : E 8 0 t = nI a) (hal : al E np a t) : costF E np t (E 8 0) = svS E a (E 0 0 2) (E 15 0) (stk E) + dC E np (E 8 0) (29 - t) (t + 1) 0 (E 1 0 a) (gw (gAs (bds E a) (E 15 0) 5)) (cP E a 5 (stk E)) := by
  have hn := h.n10
  unfold costF
  rw [show 30 - t = (29 - t) + 1 by omega]
  conv => lhs; unfold dC
  rw [if_neg (by rw [e]; exact nI_neg1 (by omega)), e, cl (by omega), alV_pos hal, dC_add, Int32.zero_add, Int32.add_zero]
  rfl
/-- the law's rows behind a day -/
theorem LI_day {F : Mem} (hl : LI n np t E) (h0 : F 22 0 0 = nI n) (h1 : F 22 0 1 = nI np) (h2 : F 22 0 2 = nI (t + 1)) (h3 : F 22 0 3 = F 0 0 1) (h23 : F 23 0 = E 23 0) (h24 : F 24 0 = E 24 0) (h13 : F 13 0 = E 13 0) (h6 : F 6 0 = E 6 0) (h7 : F 7 0 = E 7 0) (hs : ∀ k, k < n → ¬ F 3 0 k = 2 → ¬ E 3 0 k = 2) (hd : ∀ a, a < n → F 3 0 a = 1 → ∃ d, d < t + 1 ∧ F 4 0 a = nI d) : LI n np (t + 1) F := by
  obtain ⟨a0, a1, a2, a3, a4, a5, a6, a7⟩ := hl
  refine ⟨h0, h1, h2, h3, fun a p ha hp => ?_, fun k hk => by rw [h24, h13]; exact a5 k hk, ⟨fun a p ha hp q => ?_, fun a b p hab hb hp q1 q2 q3 q4 => ?_⟩, hd⟩
  · rw [h23]
    unfold uvl
    rw [h6, h7]
    exact a4 a p ha hp
  · rw [h6] at q ⊢
    rw [h7]
    exact a6.1 a p ha hp q
  · rw [h6] at q3 q4 ⊢
    rw [h7]
    exact a6.2 a b p hab hb hp (hs a (by omega) q1) (hs b hb q2) q3 q4
/-- the end of a day whose scene was not refused -/
theorem L_ends_173 {post : Int32 → Mem → Prop} {v2 v3 v5 v7 : Int32} (h : Jv n np t E μ) (ht0 : 0 < t) (hsum : E 0 0 1 + costF E np t (E 8 0) = E 22 0 3 + v2) (g2 : E 22 0 2 = nI t) (hl : LI n np t (zst E 22 0 3 (E 0 0 1))) (hv7 : v7 = -1 ∨ ∃ a, a < n ∧ v7 = nI a ∧ E 3 0 a = 1 ∧ E 4 0 a = nI (t - 1)) (hp : ∀ E' v, Jv n np t E' v → LI n np t E' → post 1 v) : b_L_ends_168 n np post v2 v3 0 v5 v7 μ := by
  unfold b_L_ends_168 b_L_ends_173
  simp only [tc2, tc3]
  have ht := h.t30
  refine ⟨fun _ => s_spent h (fun w ew => ⟨fun c => absurd c z10, fun _ => ?_⟩), fun c => absurd trivial c⟩
  have hw : Jv n np t (zst E 22 0 3 (E 0 0 1)) w := by rw [ew]; exact h.row ⟨by omega, by omega⟩ _
  have e8 : zst E 22 0 3 (E 0 0 1) 8 0 = E 8 0 := by rw [zst_o (by omega)]
  have e0 : zst E 22 0 3 (E 0 0 1) 0 0 1 = E 0 0 1 := by rw [zst_o (by omega)]
  refine s_cost hw (fun u hu => ?_)
  rw [e8, costF_of (μ := E) (by rw [zst_o (by omega)]) (fun f _ _ _ _ _ => by rw [zst_o (by omega)])]
  have w3 : w 22 0 3 = E 0 0 1 := by rw [hw.r22, zst_ap, if_pos ⟨rfl, rfl, rfl⟩]
  rw [w3, h.r22]
  refine ⟨fun c => absurd hsum c, fun _ => ⟨fun _ => hp _ u hu hl, fun c => ?_⟩⟩
  rcases hv7 with e | ⟨a, ha, e, e3, e4⟩
  · rw [e] at c
    exact absurd neg1 c
  · refine a_stateOf hu ha e ⟨fun c2 => absurd ?_ c2, fun _ => a_dayOf hu ha e ⟨fun c2 => absurd ?_ c2, fun _ => hp _ u hu hl⟩⟩
    · rw [zst_o (by omega)]; exact e3
    · rw [zst_o (by omega), zst_o (f' := 4) (by omega), e3, if_neg (by decide), e4, hu.r22, zst_ap, if_neg (by omega), g2]
      have := nI_pred (t - 1)
      rw [show t - 1 + 1 = t by omega] at this
      exact this.symm
/-- .. whose scene was refused -/
theorem L_ends_173r {post : Int32 → Mem → Prop} {v2 v3 v7 : Int32} {a F : Nat} (h : Jv n np t E μ) (g3 : E 22 0 3 = E 0 0 1) (hl : LI n np t E) (ha : a < n) (e3 : v3 = nI a) (hF : F ≤ 30) (h30 : F = 30 → E 3 0 a = 2) (hlt : F < 30 → E 3 0 a = 0 ∧ E 4 0 a = nI F ∧ E 8 0 F = nI a) (hp : ∀ E' v, Jv n np t E' v → LI n np t E' → post 1 v) : b_L_ends_168 n np post v2 v3 1 (nI F) v7 μ := by
  unfold b_L_ends_168 b_L_ends_173
  simp only [tc2, tc3]
  refine ⟨fun c => absurd c z10, fun _ => ⟨fun c => absurd c z10, fun _ => s_spent h ⟨fun c => absurd ?_ c, fun _ => ⟨fun c => ?_, fun c => ?_⟩⟩⟩⟩
  · rw [h.r22, g3]
  · have e : F = 30 := by
      have := (le30 (k := F) (by omega)).mp c
      omega
    exact a_stateOf h ha e3 ⟨fun c2 => absurd (h30 e) c2, fun _ => hp E μ h hl⟩
  · have hF30 : F < 30 := by
      rcases Nat.lt_or_ge F 30 with w | w
      · exact w
      · exact absurd ((le30 (by omega)).mpr w) c
    obtain ⟨q1, q2, q3⟩ := hlt hF30
    refine a_dayOf h ha e3 ⟨fun c2 => absurd ?_ c2, fun _ => a_sceneOn h hF30 rfl ⟨fun c2 => absurd ?_ c2, fun _ => hp E μ h hl⟩⟩
    · rw [q1, if_neg (by decide), q2]
    · rw [q3, e3]
theorem g1_eq (y : Nat) (hy : y ≤ 20) : (20 ≤ nI y → g1 (nI y) = 20) ∧ (¬ 20 ≤ nI y → g1 (nI y) = nI y + 1) := by
  constructor
  · intro c
    unfold g1
    rw [if_pos c, Int32.add_zero]
    have := (le20 (k := y) (by omega)).mp c
    rw [show y = 20 by omega]
    rfl
  · intro c
    unfold g1
    rw [if_neg c]
end ENDS
