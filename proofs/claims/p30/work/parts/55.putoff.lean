/-! A SCENE IS PUT OFF -/
def ffd (P : Nat → Int32) : Nat → Nat → Nat
  | 0, d => d
  | m + 1, d => if P d = -1 then d else ffd P m (d + 1)
theorem ffd_ok (P : Nat → Int32) : ∀ m d : Nat, d ≤ ffd P m d ∧ ffd P m d ≤ d + m ∧ (ffd P m d < d + m → P (ffd P m d) = -1) := by
  intro m
  induction m with
  | zero => intro d; exact ⟨Nat.le_refl d, Nat.le_refl d, fun h => absurd h (Nat.lt_irrefl d)⟩
  | succ m ih =>
    intro d
    unfold ffd
    by_cases h : P d = -1
    · rw [if_pos h]
      exact ⟨Nat.le_refl d, by omega, fun _ => h⟩
    · rw [if_neg h]
      obtain ⟨a, b, c⟩ := ih (d + 1)
      exact ⟨by omega, by omega, fun q => c (by omega)⟩
theorem X4_putOff {n np t a : Nat} {post : Mem → Prop} {μ : Mem} (hn : n ≤ 10) (ha : a < n) (ht : t < 30) (m9 : μ 30 0 9 = nI t) (hP : ∀ d, d < 30 → μ 32 0 d = -1 ∨ ∃ a, a < n ∧ μ 32 0 d = nI a) (hc : ffd (μ 32 0) (29 - t) (t + 1) = 30 → ∀ u, u = zst μ 70 a 6 2 → post u) (hp : ∀ k, k = ffd (μ 32 0) (29 - t) (t + 1) → k < 30 → ∀ u, u = zst μ 32 0 k (nI a) → post u) : w_X4_putOff n np post (nI a) μ := by
  have loop : ∀ m d : Nat, d + m = 30 → ffd (μ 32 0) (29 - t) (t + 1) = ffd (μ 32 0) m d → l_X4_putOff_7 n np post (nI a) (m + 1) (nI d) μ := by
    intro m
    induction m with
    | zero =>
      intro d hd e
      have e2 : d = 30 := by omega
      subst e2
      show lb_X4_putOff_7 n np post _ _ _ _
      unfold lb_X4_putOff_7
      rw [cl (k := a) (by omega)]
      exact ⟨fun _ => ⟨pos (by omega), ha, fun u eu => hc e u eu⟩, fun c => absurd (by decide) c⟩
    | succ m ih =>
      intro d hd e
      show lb_X4_putOff_7 n np post (l_X4_putOff_7 n np post (nI a) (m + 1)) _ _ _
      unfold lb_X4_putOff_7
      rw [nI_s1, cl (k := d) (by omega), cl (k := a) (by omega)]
      have h30 : ¬ (30 : Int32) ≤ nI d := fun c => absurd ((le30 (k := d) (by omega)).mp c) (by omega)
      refine ⟨fun c => absurd c h30, fun _ => ⟨vin (by omega) (by omega), fun c => ih (d + 1) (by omega) (e.trans ?_), fun c => ⟨fun _ => ha, fun u eu => hp d ?_ (by omega) u eu⟩⟩⟩
      · conv => lhs; unfold ffd
        rw [if_neg (fun q => c (by rw [q]; exact neg1))]
      · rw [e]
        unfold ffd
        rcases hP d (by omega) with q | ⟨b, hb, q⟩
        · rw [if_pos q]
        · rw [q] at c
          exact absurd c (pos (by omega))
  unfold w_X4_putOff
  rw [m9, nI_s1]
  exact ⟨29 - t + 1, loop (29 - t) (t + 1) (by omega) rfl⟩

