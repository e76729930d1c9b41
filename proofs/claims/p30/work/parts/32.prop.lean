/-! PROPS -/
theorem fnd_congr {r r' : Nat → Int32} : ∀ q : Nat, (∀ s, s < q → r s = r' s) → fnd r q = fnd r' q := by
  intro q
  induction q with
  | zero => intro _; rfl
  | succ q ih =>
    intro h
    unfold fnd
    rw [h q (by omega), ih (fun s hs => h s (by omega))]
def rel45 (h : Nat → Int32) (c : Nat → Nat → Int32) : Prop := ∀ p s, p < 5 → s < 4 → h (4 * p + s) = c p s
def row (h : Nat → Int32) (p : Nat) : Nat → Int32 := fun s => h (4 * p + s)
def svHD (h : Nat → Int32) (p q : Nat) : Nat → Int32 := if fnd (row h p) (q + 1) < 0 then h else upd h (4 * p + (fnd (row h p) (q + 1)).toNatClampNeg) (h (4 * p + (fnd (row h p) (q + 1)).toNatClampNeg) - 1)
def svH (h : Nat → Int32) (p q t : Nat) : Nat → Int32 := upd (svHD h p q) (4 * p + t) (svHD h p q (4 * p + t) + 1)
theorem row_fnd {h : Nat → Int32} {c : Nat → Nat → Int32} (hr : rel45 h c) {p q : Nat} (hp : p < 5) (hq : q ≤ 4) : fnd (row h p) q = fnd (c p) q := fnd_congr q (fun s hs => hr p s hp (by omega))
theorem svH_rel {h : Nat → Int32} {c : Nat → Nat → Int32} (hr : rel45 h c) {p q t : Nat} (hp : p < 5) (hq : q < 4) (ht : t < 4) : rel45 (svH h p q t) (upc c p (svR (c p) q t)) := by
  have e1 := row_fnd hr hp (q := q + 1) (by omega)
  have hD : ∀ p' s, p' < 5 → s < 4 → svHD h p q (4 * p' + s) = upc c p (svD (c p) q) p' s := by
    intro p' s hp' hs
    unfold svHD svD upc
    rw [e1]
    rcases fnd_or (c p) (q + 1) with h1 | ⟨j, hj, h1, -⟩
    · rw [h1, if_pos neg1, if_pos neg1]
      by_cases hc : p' = p
      · rw [if_pos hc, hr p' s hp' hs, hc]
      · rw [if_neg hc, hr p' s hp' hs]
    · rw [h1, if_neg (pos (by omega)), if_neg (pos (by omega)), cl (by omega)]
      by_cases hc : p' = p
      · subst hc
        rw [if_pos rfl]
        unfold upd
        by_cases hs2 : s = j
        · subst hs2
          rw [if_pos rfl, if_pos rfl, hr p' s hp' hs]
        · rw [if_neg (by omega), if_neg hs2, hr p' s hp' hs]
      · rw [if_neg hc]
        unfold upd
        rw [if_neg (by omega), hr p' s hp' hs]
  intro p' s hp' hs
  unfold svH svR
  have h2 := hD p t hp ht
  have h3 : upc c p (svD (c p) q) p t = svD (c p) q t := by simp [upc]
  rw [h3] at h2
  rw [h2]
  by_cases hc : p' = p
  · subst hc
    by_cases hs2 : s = t
    · subst hs2
      simp [upd, upc]
    · have h4 := hD p' s hp' hs
      have h5 : ¬ 4 * p' + s = 4 * p' + t := by omega
      simp only [upd, upc, if_neg h5, if_neg hs2, if_true] at h4 ⊢
      exact h4
  · have h4 := hD p' s hp' hs
    have h5 : ¬ 4 * p' + s = 4 * p + t := by omega
    simp only [upd, upc, if_neg h5, if_neg hc] at h4 ⊢
    exact h4
def nng (r : Nat → Int32) : Prop := ∀ s, s < 4 → ¬ r s < 0
theorem X3_serve {n np : Nat} {post : Int32 → Mem → Prop} {b p q t : Nat} {μ : Mem} {g : Nat → Int32} {c : Nat → Nat → Int32} {x : Int32} (hb : b < 2) (hp : p < 5) (hq : q < 4) (ht : t < 4) (hn : nng (c p)) (hpost : post (svV (c p) q) (tri b μ g (upc c p (svR (c p) q t)) x)) : w_X3_serve n np post b (nI p) (nI q) (nI t) (tri b μ g c x) := by
  have fin : ∀ v5 : Int32, v5 = fnd (c p) (q + 1) → b_X3_serve_44 n np post b (nI p) (nI q) (nI t) v5 (tri b μ g c x) := by
    intro v5 e5
    unfold b_X3_serve_44
    have h4 : ¬ (4 : Int32) ≤ nI t := fun h => by
      have := (le4 (k := t) (by omega)).mp h
      omega
    refine ⟨fun h => absurd h (pos (by omega)), fun _ => ⟨fun h => absurd h h4, fun _ => ?_⟩⟩
    rw [cl (by omega), cl (by omega)]
    refine ⟨by omega, vin ht (by omega), fun u e => ?_⟩
    subst e
    rw [tri_sc hp, tri_c hp]
    unfold b_X3_serve_61
    rw [cl (by omega)]
    have e6 := svR_cls (c p) q t
    rw [← e5] at e6
    have e7 : svV (c p) q = if v5 < 0 then 5 + nI q else nI q - v5 := by
      unfold svV
      rw [← e5]
    refine ⟨fun c1 => ?_, fun c1 => ?_⟩
    · rcases fnd_or (c p) (q + 1) with g1 | ⟨j, hj, g1, -⟩
      · exact absurd (by rw [e5, g1]) c1
      · have hv : v5 = nI j := by rw [e5, g1]
        subst hv
        rw [cl (by omega)] at e6 ⊢
        rw [if_neg (pos (by omega))] at e6 e7
        refine ⟨by omega, vin (by omega) (by omega), fun u e => ?_⟩
        subst e
        rw [tri_sc hp, tri_c hp]
        rw [e6, e7] at hpost
        have e8 : upc c p (upd (c p) t (c p t + 1)) p = upd (c p) t (c p t + 1) := by simp [upc]
        have e9 : ∀ r r' : Nat → Int32, upc (upc c p r) p r' = upc c p r' := by
          intro r r'
          funext j
          unfold upc
          by_cases h : j = p <;> simp [h]
        rw [e8, e9]
        exact hpost
    · subst c1
      rw [if_pos neg1] at e6 e7
      rw [e6, e7] at hpost
      exact hpost
  have loop : ∀ m j : Nat, j + m = q + 1 → l_X3_serve_14 n np post b (nI p) (nI q) (nI t) (m + 1) (fnd (c p) j) (nI j) (tri b μ g c x) := by
    intro m
    induction m with
    | zero =>
      intro j hj
      show lb_X3_serve_14 n np post _ _ _ _ _ _ _ _
      unfold lb_X3_serve_14
      have e : j = q + 1 := by omega
      subst e
      refine ⟨fun _ => fin _ rfl, fun _ => ⟨fun _ => fin _ rfl, fun h => ?_⟩⟩
      exact absurd (nI_lt (a := q) (b := q + 1) (by omega) (by omega)) h
    | succ m ih =>
      intro j hj
      show lb_X3_serve_14 n np post (l_X3_serve_14 n np post b (nI p) (nI q) (nI t) (m + 1)) _ _ _ _ _ _ _
      unfold lb_X3_serve_14
      have h4 : ¬ (4 : Int32) ≤ nI j := fun h => by
        have := (le4 (k := j) (by omega)).mp h
        omega
      have h5 : ¬ nI q < nI j := nI_nlt (by omega) (by omega)
      refine ⟨fun h => absurd h h4, fun _ => ⟨fun h => absurd h h5, fun _ => ?_⟩⟩
      rw [cl (by omega), cl (by omega), tri_c hp]
      unfold b_X3_serve_38
      rw [nI_s1]
      have ihj := ih (j + 1) (by omega)
      refine ⟨by omega, vin (by omega) (by omega), fun c1 => ?_, fun c1 => ?_⟩
      · have e : c p j = 0 := Int32.le_antisymm c1 (Int32.not_lt.mp (hn j (by omega)))
        have e2 : fnd (c p) (j + 1) = fnd (c p) j := by
          conv => lhs; unfold fnd
          rw [if_pos e]
        rw [← e2]
        exact ihj
      · have e : ¬ c p j = 0 := fun h => c1 (by rw [h]; exact Int32.le_refl 0)
        have e2 : fnd (c p) (j + 1) = nI j := by
          conv => lhs; unfold fnd
          rw [if_neg e]
        rw [e2] at ihj
        exact ihj
  unfold w_X3_serve
  exact ⟨hb, vin hp (by omega), q + 2, loop (q + 1) 0 (by omega)⟩

