/-! THE PURE LAYER: numbers, memories -/
theorem zst_ap (μ : Mem) (f i k : Nat) (v : Int32) (f' i' k' : Nat) : zst μ f i k v f' i' k' = if f' = f ∧ i' = i ∧ k' = k then v else μ f' i' k' := by
  unfold zst zcp upd
  by_cases h : f' = f ∧ i' = i
  · obtain ⟨rfl, rfl⟩ := h
    by_cases hk : k' = k <;> simp [hk]
  · rw [if_neg h, if_neg (fun q => h ⟨q.1, q.2.1⟩)]
theorem zst_self (μ : Mem) (f i k : Nat) : zst μ f i k (μ f i k) = μ := by
  funext f' i' k'
  rw [zst_ap]
  by_cases h : f' = f ∧ i' = i ∧ k' = k
  · obtain ⟨rfl, rfl, rfl⟩ := h
    simp
  · rw [if_neg h]
theorem nI_mul (a b : Nat) : nI a * nI b = nI (a * b) := by
  unfold nI
  rw [Int32.ofNat_mul]
theorem ix5 (a k : Nat) : (5 : Int32) * nI a + nI k = nI (5 * a + k) := by
  rw [show (5 : Int32) = nI 5 from rfl, nI_mul, nI_add]
theorem ix4 (a k : Nat) : (4 : Int32) * nI a + nI k = nI (4 * a + k) := by
  rw [show (4 : Int32) = nI 4 from rfl, nI_mul, nI_add]
theorem ix30 (a k : Nat) : (30 : Int32) * nI a + nI k = nI (30 * a + k) := by
  rw [show (30 : Int32) = nI 30 from rfl, nI_mul, nI_add]
theorem nI_s1 (k : Nat) : nI k + 1 = nI (k + 1) := (nI_succ k).symm
theorem nI_sub {a b : Nat} (h : b ≤ a) : nI a - nI b = nI (a - b) := by
  have h1 : nI (a - b) + nI b = nI a := by rw [nI_add]; congr 1; omega
  rw [← h1, Int32.add_sub_cancel]
theorem le5 {k : Nat} (h : k < 1000) : ((5 : Int32) ≤ nI k) ↔ 5 ≤ k := nI_leI (a := 5) (by omega) (by omega)
theorem le4 {k : Nat} (h : k < 1000) : ((4 : Int32) ≤ nI k) ↔ 4 ≤ k := nI_leI (a := 4) (by omega) (by omega)
theorem le10 {k : Nat} (h : k < 1000) : ((10 : Int32) ≤ nI k) ↔ 10 ≤ k := nI_leI (a := 10) (by omega) (by omega)
theorem le20 {k : Nat} (h : k < 1000) : ((20 : Int32) ≤ nI k) ↔ 20 ≤ k := nI_leI (a := 20) (by omega) (by omega)
theorem le30 {k : Nat} (h : k < 1000) : ((30 : Int32) ≤ nI k) ↔ 30 ≤ k := nI_leI (a := 30) (by omega) (by omega)
theorem cl {k : Nat} (h : k < 1000) : (nI k).toNatClampNeg = k := nI_clamp (by omega)
theorem pos {k : Nat} (h : k < 1000) : ¬ nI k < 0 := nI_pos (by omega)
theorem vin {k N : Nat} (h : k < N) (hN : N < 1000) : vp_in (nI k) N := vp_in_nI h (by omega)
theorem neg1 : (-1 : Int32) < 0 := by decide
/-! one scene is served: actors -/
def gA (need g : Int32) : Int32 := if need = 0 then 0 else g
def kA (need g : Int32) : Int32 := if need ≤ gA need g then 0 else 3
def gAs (B g : Nat → Int32) (j : Nat) : Nat → Int32 := fun k => if k < j then gA (B k) (g k) else g k
def sA (B g : Nat → Int32) : Nat → Int32 → Int32
  | 0, s => s
  | k + 1, s => sA B g k s + kA (B k) (g k)
theorem gAs_s (B g : Nat → Int32) (j : Nat) : upd (gAs B g j) j (gA (B j) (g j)) = gAs B g (j + 1) := by
  funext k
  unfold upd gAs
  by_cases h : k = j
  · subst h
    simp
  · rw [if_neg h]
    by_cases h2 : k < j
    · rw [if_pos h2, if_pos (by omega)]
    · rw [if_neg h2, if_neg (by omega)]
theorem gAs_at (B g : Nat → Int32) (j : Nat) : gAs B g j j = g j := by simp [gAs]
theorem gAs_0 (B g : Nat → Int32) : gAs B g 0 = g := by funext k; simp [gAs]
/-! .. props: the newest state that is not worse -/
def fnd (r : Nat → Int32) : Nat → Int32
  | 0 => -1
  | q + 1 => if r q = 0 then fnd r q else nI q
def svV (r : Nat → Int32) (q : Nat) : Int32 := if fnd r (q + 1) < 0 then 5 + nI q else nI q - fnd r (q + 1)
def svD (r : Nat → Int32) (q : Nat) : Nat → Int32 := if fnd r (q + 1) < 0 then r else upd r (fnd r (q + 1)).toNatClampNeg (r (fnd r (q + 1)).toNatClampNeg - 1)
def svR (r : Nat → Int32) (q t : Nat) : Nat → Int32 := upd (svD r q) t (svD r q t + 1)
theorem fnd_or (r : Nat → Int32) : ∀ q : Nat, fnd r q = -1 ∨ ∃ j, j < q ∧ fnd r q = nI j ∧ r j ≠ 0 := by
  intro q
  induction q with
  | zero => exact Or.inl rfl
  | succ q ih =>
    unfold fnd
    by_cases h : r q = 0
    · rw [if_pos h]
      rcases ih with h1 | ⟨j, h1, h2, h3⟩
      · exact Or.inl h1
      · exact Or.inr ⟨j, by omega, h2, h3⟩
    · rw [if_neg h]
      exact Or.inr ⟨q, by omega, rfl, h⟩
/-- the class adds first, and takes then -/
theorem svR_cls (r : Nat → Int32) (q t : Nat) : svR r q t = if fnd r (q + 1) < 0 then upd r t (r t + 1) else upd (upd r t (r t + 1)) (fnd r (q + 1)).toNatClampNeg ((upd r t (r t + 1)) (fnd r (q + 1)).toNatClampNeg - 1) := by
  unfold svR svD
  by_cases h : fnd r (q + 1) < 0
  · simp [h]
  · simp only [h, if_false]
    generalize (fnd r (q + 1)).toNatClampNeg = w
    funext k
    unfold upd
    by_cases h1 : k = t
    · subst h1
      by_cases h2 : k = w
      · subst h2
        simp [Int32.sub_add_cancel, Int32.add_sub_cancel]
      · have h3 : ¬ w = k := fun e => h2 e.symm
        simp [h2, h3]
    · by_cases h2 : k = w
      · subst h2
        simp [h1]
      · simp [h1, h2]

