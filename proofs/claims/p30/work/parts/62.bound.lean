/-! WHAT A PLAN CAN COST AT MOST -/
def isN (x : Int32) (M : Nat) : Prop := ∃ k, k ≤ M ∧ x = nI k
theorem isN_add {x y : Int32} {M N : Nat} (h1 : isN x M) (h2 : isN y N) : isN (x + y) (M + N) := by
  obtain ⟨a, ha, e1⟩ := h1
  obtain ⟨b, hb, e2⟩ := h2
  exact ⟨a + b, by omega, by rw [e1, e2, nI_add]⟩
theorem isN_mono {x : Int32} {M N : Nat} (h : isN x M) (hN : M ≤ N) : isN x N := by
  obtain ⟨a, ha, e⟩ := h
  exact ⟨a, by omega, e⟩
theorem isN_0 (M : Nat) : isN 0 M := ⟨0, by omega, rfl⟩
theorem isN_sv0 (E : Mem) (a : Nat) (b : Int32) : isN (sv0 E a b) 2 := by
  unfold sv0
  by_cases h1 : b = -1
  · rw [if_pos h1]; exact isN_0 2
  · rw [if_neg h1]
    by_cases h2 : b = E 1 0 a
    · rw [if_pos h2]; exact isN_0 2
    · rw [if_neg h2]; exact ⟨2, by omega, rfl⟩
theorem isN_kA (x g : Int32) : isN (kA x g) 3 := by
  unfold kA
  by_cases h : x ≤ gA x g
  · rw [if_pos h]; exact isN_0 3
  · rw [if_neg h]; exact ⟨3, by omega, rfl⟩
theorem isN_sA {B g : Nat → Int32} {s : Int32} {M : Nat} (hs : isN s M) : ∀ j : Nat, isN (sA B g j s) (M + 3 * j) := by
  intro j
  induction j with
  | zero => exact hs
  | succ j ih => exact isN_mono (isN_add ih (isN_kA (B j) (g j))) (by omega)
theorem isN_svV {r : Nat → Int32} {q : Nat} (hq : q < 4) : isN (svV r q) 8 := by
  unfold svV
  rcases fnd_or r (q + 1) with e | ⟨j, hj, e, -⟩
  · rw [e, if_pos neg1]
    exact isN_mono (isN_add (⟨5, by omega, rfl⟩ : isN 5 5) (⟨q, Nat.le_refl q, rfl⟩ : isN (nI q) q)) (by omega)
  · rw [e, if_neg (pos (by omega)), nI_sub (by omega)]
    exact ⟨q - j, by omega, rfl⟩
theorem isN_pV {E : Mem} {a p : Nat} {r : Nat → Int32} (hu : useOK E a) (hp : p < 5) : isN (pV E a p r) 8 := by
  unfold pV
  rcases hu p hp with e | ⟨q, t, hq, ht, e, -⟩
  · rw [if_pos e]; exact isN_0 8
  · rw [e, if_neg (nI_neg1 (by omega)), cl (by omega)]
    exact isN_svV hq
theorem isN_sP {E : Mem} {a : Nat} {c : Nat → Nat → Int32} {s : Int32} {M : Nat} (hu : useOK E a) (hs : isN s M) : ∀ j : Nat, j ≤ 5 → isN (sP E a c j s) (M + 8 * j) := by
  intro j
  induction j with
  | zero => intro _; exact hs
  | succ j ih =>
    intro hj
    exact isN_mono (isN_add (ih (by omega)) (isN_pV hu (by omega))) (by omega)
theorem isN_svS {E : Mem} {a : Nat} {b : Int32} {g : Nat → Int32} {c : Nat → Nat → Int32} (hu : useOK E a) : isN (svS E a b g c) 57 := isN_mono (isN_sP hu (isN_sA (isN_sv0 E a b) 5) 5 (by omega)) (by omega)
theorem isN_alV (E : Mem) (np a d : Nat) : isN (alV E np a d) 20 := by
  by_cases h : al E np a d
  · rw [alV_pos h]; exact isN_0 20
  · rw [alV_neg h]; exact ⟨20, by omega, rfl⟩
theorem isN_cost {E : Mem} {n np t : Nat} {P : Nat → Int32} (hn : n ≤ 10) (hP : plOK n P) (hu : ∀ a, a < n → useOK E a) : isN (costF E np t P) 2400 := by
  have loop : ∀ m d : Nat, d + m ≤ 30 → ∀ (s b : Int32) (g : Nat → Int32) (c : Nat → Nat → Int32) (M : Nat), isN s M → isN (dC E np P m d s b g c) (M + 80 * m) := by
    intro m
    induction m with
    | zero => intro d _ s b g c M hs; exact hs
    | succ m ih =>
      intro d hd s b g c M hs
      unfold dC
      rcases hP d (by omega) with e | ⟨a, ha, e⟩
      · rw [if_pos e]
        exact isN_mono (ih (d + 1) (by omega) s b _ c M hs) (by omega)
      · rw [if_neg (by rw [e]; exact nI_neg1 (by omega)), e, cl (by omega)]
        exact isN_mono (ih (d + 1) (by omega) _ _ _ _ _ (isN_add hs (isN_add (isN_svS (hu a ha)) (isN_alV E np a d)))) (by omega)
  unfold costF
  rcases Nat.lt_or_ge 30 t with h | h
  · rw [show 30 - t = 0 by omega]
    exact isN_0 2400
  · exact isN_mono (loop (30 - t) t (by omega) 0 _ _ _ 0 (isN_0 0)) (by omega)
theorem nI_div30 {i j : Nat} (hi : i < 30) (hj : j < 30) : ((30 : Int32) * nI i + nI j) / 30 = nI i := by
  rw [ix30]
  have h1 : (nI (30 * i + j)).toInt = ((30 * i + j : Nat) : Int) := nI_toInt (by omega)
  have h2 : (nI i).toInt = (i : Int) := nI_toInt (by omega)
  have h3 : (30 : Int32).toInt = 30 := rfl
  apply Int32.toInt_inj.mp
  rw [Int32.toInt_div, h1, h2, h3]
  have e : ((30 * i + j : Nat) : Int).tdiv 30 = (i : Int) := by
    rw [Int.tdiv_eq_ediv_of_nonneg (by omega)]
    omega
  rw [e]
  exact Int.bmod_eq_of_le (by omega) (by omega)
theorem nI_rem30 {i j : Nat} (hi : i < 30) (hj : j < 30) : ((30 : Int32) * nI i + nI j) - nI i * 30 = nI j := by
  rw [ix30, show (30 : Int32) = nI 30 from rfl, nI_mul, nI_sub (by omega)]
  congr 1
  omega

