/-! GROWTH, COPIES: up to what counts -/
def eq5 (g g' : Nat → Int32) : Prop := ∀ k, k < 5 → g k = g' k
def eq45 (c c' : Nat → Nat → Int32) : Prop := ∀ p s, p < 5 → s < 4 → c p s = c' p s
theorem sA_congr {B g g' : Nat → Int32} : ∀ j : Nat, (∀ k, k < j → g k = g' k) → ∀ s, sA B g j s = sA B g' j s := by
  intro j
  induction j with
  | zero => intro _ s; rfl
  | succ j ih =>
    intro h s
    show sA B g j s + _ = sA B g' j s + _
    rw [ih (fun k hk => h k (by omega)), h j (by omega)]
theorem gAs_congr {B g g' : Nat → Int32} (h : eq5 g g') : eq5 (gAs B g 5) (gAs B g' 5) := by
  intro k hk
  unfold gAs
  rw [if_pos hk, if_pos hk, h k hk]
theorem svV_congr {r r' : Nat → Int32} {q : Nat} (hq : q < 4) (h : ∀ s, s < 4 → r s = r' s) : svV r q = svV r' q := by
  unfold svV
  rw [fnd_congr (q + 1) (fun s hs => h s (by omega))]
theorem svR_congr {r r' : Nat → Int32} {q t : Nat} (hq : q < 4) (ht : t < 4) (h : ∀ s, s < 4 → r s = r' s) : ∀ s, s < 4 → svR r q t s = svR r' q t s := by
  have hD : ∀ s, s < 4 → svD r q s = svD r' q s := by
    intro s hs
    unfold svD
    rw [fnd_congr (r := r) (r' := r') (q + 1) (fun s hs => h s (by omega))]
    rcases fnd_or r' (q + 1) with e | ⟨j, hj, e, -⟩
    · rw [e, if_pos neg1, if_pos neg1, h s hs]
    · rw [e, if_neg (pos (by omega)), if_neg (pos (by omega)), cl (by omega)]
      unfold upd
      by_cases hsj : s = j
      · rw [if_pos hsj, if_pos hsj, h j (by omega)]
      · rw [if_neg hsj, if_neg hsj, h s hs]
  intro s hs
  unfold svR upd
  by_cases hst : s = t
  · rw [if_pos hst, if_pos hst, hD t ht]
  · rw [if_neg hst, if_neg hst, hD s hs]
theorem pV_congr {E : Mem} {a p : Nat} {r r' : Nat → Int32} (hu : useOK E a) (hp : p < 5) (h : ∀ s, s < 4 → r s = r' s) : pV E a p r = pV E a p r' := by
  unfold pV
  rcases hu p hp with e | ⟨q, t, hq, ht, e, -⟩
  · rw [if_pos e, if_pos e]
  · rw [e, if_neg (nI_neg1 (by omega)), if_neg (nI_neg1 (by omega)), cl (by omega)]
    exact svV_congr hq h
theorem pR_congr {E : Mem} {a p : Nat} {r r' : Nat → Int32} (hu : useOK E a) (hp : p < 5) (h : ∀ s, s < 4 → r s = r' s) : ∀ s, s < 4 → pR E a p r s = pR E a p r' s := by
  intro s hs
  unfold pR
  rcases hu p hp with e | ⟨q, t, hq, ht, e, e2⟩
  · rw [if_pos e, if_pos e, h s hs]
  · rw [e, e2, if_neg (nI_neg1 (by omega)), if_neg (nI_neg1 (by omega)), cl (by omega), cl (by omega)]
    exact svR_congr hq ht h s hs
theorem cP_congr {E : Mem} {a : Nat} {c c' : Nat → Nat → Int32} (hu : useOK E a) (h : eq45 c c') : eq45 (cP E a 5 c) (cP E a 5 c') := by
  intro p s hp hs
  unfold cP
  rw [if_pos hp, if_pos hp]
  exact pR_congr hu hp (fun s hs => h p s hp hs) s hs
theorem sP_congr {E : Mem} {a : Nat} {c c' : Nat → Nat → Int32} (hu : useOK E a) (h : eq45 c c') : ∀ j : Nat, j ≤ 5 → ∀ s, sP E a c j s = sP E a c' j s := by
  intro j
  induction j with
  | zero => intro _ s; rfl
  | succ j ih =>
    intro hj s
    show sP E a c j s + pV E a j (c j) = sP E a c' j s + pV E a j (c' j)
    rw [ih (by omega), pV_congr hu (by omega) (fun s hs => h j s (by omega) hs)]
theorem svS_congr {E : Mem} {a : Nat} {b : Int32} {g g' : Nat → Int32} {c c' : Nat → Nat → Int32} (hu : useOK E a) (hg : eq5 g g') (hc : eq45 c c') : svS E a b g c = svS E a b g' c' := by
  unfold svS
  rw [sP_congr hu hc 5 (by omega), sA_congr 5 hg]
theorem rel45_congr {h : Nat → Int32} {c c' : Nat → Nat → Int32} (hr : rel45 h c) (hc : eq45 c c') : rel45 h c' := fun p s hp hs => (hr p s hp hs).trans (hc p s hp hs)
/-! no copy is lost, and few are made -/
def sokr (r : Nat → Int32) (M : Nat) : Prop := ∃ X : Nat → Nat, (∀ s, s < 4 → r s = nI (X s)) ∧ X 0 + X 1 + X 2 + X 3 ≤ M
theorem X_le {X : Nat → Nat} {M : Nat} (h : X 0 + X 1 + X 2 + X 3 ≤ M) {s : Nat} (hs : s < 4) : X s ≤ M := by
  rcases (show s = 0 ∨ s = 1 ∨ s = 2 ∨ s = 3 by omega) with rfl | rfl | rfl | rfl <;> omega
theorem sokr_nng {r : Nat → Int32} {M : Nat} (h : sokr r M) (hM : M < 1000) : nng r := by
  obtain ⟨X, h1, h2⟩ := h
  intro s hs
  rw [h1 s hs]
  have := X_le h2 hs
  exact pos (by omega)
theorem sokr_mono {r : Nat → Int32} {M N : Nat} (h : sokr r M) (hN : M ≤ N) : sokr r N := by
  obtain ⟨X, h1, h2⟩ := h
  exact ⟨X, h1, by omega⟩
theorem sokr_svD {r : Nat → Int32} {M q : Nat} (h : sokr r M) (hM : M < 1000) (hq : q < 4) : sokr (svD r q) M := by
  obtain ⟨X, h1, h2⟩ := h
  unfold svD
  rcases fnd_or r (q + 1) with e | ⟨j, hj, e, e0⟩
  · rw [e, if_pos neg1]
    exact ⟨X, h1, h2⟩
  · rw [e, if_neg (pos (by omega)), cl (by omega)]
    have hX : X j ≠ 0 := fun hz => e0 (by rw [h1 j (by omega), hz]; rfl)
    refine ⟨fun s => if s = j then X j - 1 else X s, fun s hs => ?_, ?_⟩
    · show upd r j (r j - 1) s = nI (if s = j then X j - 1 else X s)
      unfold upd
      by_cases hsj : s = j
      · rw [if_pos hsj, if_pos hsj, h1 j (by omega)]
        have := nI_pred (X j - 1)
        rw [show X j - 1 + 1 = X j by omega] at this
        exact this
      · rw [if_neg hsj, if_neg hsj, h1 s hs]
    · rcases (show j = 0 ∨ j = 1 ∨ j = 2 ∨ j = 3 by omega) with rfl | rfl | rfl | rfl <;> simp <;> omega
theorem sokr_svR {r : Nat → Int32} {M q t : Nat} (h : sokr r M) (hM : M < 1000) (hq : q < 4) (ht : t < 4) : sokr (svR r q t) (M + 1) := by
  obtain ⟨X, h1, h2⟩ := sokr_svD h hM hq
  unfold svR
  refine ⟨fun s => if s = t then X t + 1 else X s, fun s hs => ?_, ?_⟩
  · show upd (svD r q) t (svD r q t + 1) s = nI (if s = t then X t + 1 else X s)
    unfold upd
    by_cases hst : s = t
    · rw [if_pos hst, if_pos hst, h1 t ht, nI_s1]
    · rw [if_neg hst, if_neg hst, h1 s hs]
  · rcases (show t = 0 ∨ t = 1 ∨ t = 2 ∨ t = 3 by omega) with rfl | rfl | rfl | rfl <;> simp <;> omega
def sok (c : Nat → Nat → Int32) (M : Nat) : Prop := ∀ p, p < 5 → sokr (c p) M
theorem sok_cP {E : Mem} {a M : Nat} {c : Nat → Nat → Int32} (hu : useOK E a) (h : sok c M) (hM : M < 1000) : sok (cP E a 5 c) (M + 1) := by
  intro p hp
  unfold cP
  rw [if_pos hp]
  unfold pR
  rcases hu p hp with e | ⟨q, t, hq, ht, e, e2⟩
  · rw [if_pos e]
    exact sokr_mono (h p hp) (by omega)
  · rw [e, e2, if_neg (nI_neg1 (by omega)), cl (by omega), cl (by omega)]
    exact sokr_svR (h p hp) hM hq ht
/-! growth -/
def g1 (x : Int32) : Int32 := if 20 ≤ x then x + 0 else x + 1
def gw (g : Nat → Int32) : Nat → Int32 := fun k => g1 (g k)
def gwj (g : Nat → Int32) (j : Nat) : Nat → Int32 := fun k => if k < j then g1 (g k) else g k
def gOK (g : Nat → Int32) : Prop := ∀ k, k < 5 → ∃ y, y ≤ 20 ∧ g k = nI y
theorem gOK_gAs {B g : Nat → Int32} (h : gOK g) : gOK (gAs B g 5) := by
  intro k hk
  unfold gAs gA
  rw [if_pos hk]
  by_cases hb : B k = 0
  · rw [if_pos hb]
    exact ⟨0, by omega, rfl⟩
  · rw [if_neg hb]
    exact h k hk
theorem g1_nI {y : Nat} (h : y ≤ 20) : g1 (nI y) = nI (min 20 (y + 1)) := by
  unfold g1
  by_cases hy : y = 20
  · subst hy
    rw [if_pos ((le20 (by omega)).mpr (by omega)), Int32.add_zero]
    rfl
  · rw [if_neg (fun c => by have := (le20 (k := y) (by omega)).mp c; omega), nI_s1]
    congr 1
    omega
theorem gOK_gw {g : Nat → Int32} (h : gOK g) : gOK (gw g) := by
  intro k hk
  obtain ⟨y, hy, e⟩ := h k hk
  refine ⟨min 20 (y + 1), by omega, ?_⟩
  unfold gw
  rw [e, g1_nI hy]
theorem gw_congr {g g' : Nat → Int32} (h : eq5 g g') : eq5 (gw g) (gw g') := by
  intro k hk
  unfold gw
  rw [h k hk]
theorem zmin20 {y m : Nat} (hy : y ≤ 20) (hm : m ≤ 100) : zmin 20 (nI y + nI m) = nI (min 20 (y + m)) := by
  rw [nI_add]
  unfold zmin
  by_cases h : y + m < 20
  · rw [if_pos (show nI (y + m) < 20 from nI_lt (b := 20) h (by omega))]
    congr 1
    omega
  · rw [if_neg (show ¬ nI (y + m) < 20 from nI_nlt (b := 20) (by omega) (by omega))]
    show nI 20 = _
    congr 1
    omega
def gmn (m : Nat) (g : Nat → Int32) (j : Nat) : Nat → Int32 := fun k => if k < j then zmin 20 (g k + nI m) else g k
/-- a growth that was grown m days at once, and one that was grown day by day -/
def gDay (m : Nat) (g ga : Nat → Int32) : Prop := ∀ k, k < 5 → ∃ y, y ≤ 20 ∧ g k = nI y ∧ ga k = nI (min 20 (y + m))
theorem gDay_0 {g ga : Nat → Int32} (h : gOK ga) (he : eq5 g ga) : gDay 0 g ga := by
  intro k hk
  obtain ⟨y, hy, e⟩ := h k hk
  exact ⟨y, hy, (he k hk).trans e, by rw [e]; congr 1; omega⟩
theorem gDay_gmn {m : Nat} {g ga : Nat → Int32} (h : gDay m g ga) (hm : m ≤ 100) : eq5 (gmn m g 5) ga := by
  intro k hk
  obtain ⟨y, hy, e1, e2⟩ := h k hk
  unfold gmn
  rw [if_pos hk, e1, e2, zmin20 hy hm]
theorem gDay_gw {m : Nat} {g ga : Nat → Int32} (h : gDay m g ga) : gDay (m + 1) g (gw ga) := by
  intro k hk
  obtain ⟨y, hy, e1, e2⟩ := h k hk
  refine ⟨y, hy, e1, ?_⟩
  unfold gw
  rw [e2, g1_nI (by omega)]
  congr 1
  omega
theorem gDay_ok {m : Nat} {g ga : Nat → Int32} (h : gDay m g ga) : gOK ga := by
  intro k hk
  obtain ⟨y, hy, e1, e2⟩ := h k hk
  exact ⟨_, by omega, e2⟩
theorem X3_growBeards {n np : Nat} {post : Mem → Prop} {b m : Nat} {μ : Mem} {g : Nat → Int32} {c : Nat → Nat → Int32} {x : Int32} (hb : b < 2) (hp : post (tri b μ (gmn m g 5) c x)) : w_X3_growBeards n np post b (nI m) (tri b μ g c x) := by
  have loop : ∀ f j : Nat, j + f = 5 → l_X3_growBeards_2 n np post b (nI m) (f + 1) (nI j) (tri b μ (gmn m g j) c x) := by
    intro f
    induction f with
    | zero =>
      intro j hj
      have e : j = 5 := by omega
      subst e
      show lb_X3_growBeards_2 n np post _ _ _ _ _
      unfold lb_X3_growBeards_2
      exact ⟨fun _ => hp, fun c => absurd (by decide) c⟩
    | succ f ih =>
      intro j hj
      show lb_X3_growBeards_2 n np post (l_X3_growBeards_2 n np post b (nI m) (f + 1)) _ _ _ _
      unfold lb_X3_growBeards_2
      rw [nI_s1, cl (by omega), tri_g]
      have e0 : gmn m g j j = g j := by simp [gmn]
      rw [e0]
      refine ⟨fun c1 => absurd ((le5 (k := j) (by omega)).mp c1) (by omega), fun _ => ⟨hb, vin (by omega) (by omega), fun v ev u e => ?_⟩⟩
      subst e
      rw [tri_sg]
      have es : upd (gmn m g j) j v = gmn m g (j + 1) := by
        funext k
        unfold upd gmn
        by_cases hk : k = j
        · subst hk
          rw [if_pos rfl, if_pos (by omega), ev]
        · rw [if_neg hk]
          by_cases h2 : k < j
          · rw [if_pos h2, if_pos (by omega)]
          · rw [if_neg h2, if_neg (by omega)]
      rw [es]
      exact ih (j + 1) (by omega)
  have := loop 5 0 rfl
  rw [show gmn m g 0 = g by funext k; simp [gmn]] at this
  exact ⟨6, this⟩

