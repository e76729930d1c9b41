/-! LEAST: the reference's way -/
/-- masks of five bits -/
def mskOK (M i : Nat) : Bool := (((nI M >>> (nI i &&& 31)) &&& 1) == nI (M / 2 ^ i % 2)) && (M / 2 ^ i % 2 == 0 || ((nI M &&& (((1 : Int32) <<< (nI i &&& 31)) ^^^ (-1))) == nI (M - 2 ^ i)))
set_option maxRecDepth 100000 in
theorem msk_all : ((List.range 32).all fun M => (List.range 5).all fun i => mskOK M i) = true := by decide +kernel
theorem msk_at {M i : Nat} (hM : M < 32) (hi : i < 5) : ((nI M >>> (nI i &&& 31)) &&& 1) = nI (M / 2 ^ i % 2) ∧ (¬ M / 2 ^ i % 2 = 0 → (nI M &&& (((1 : Int32) <<< (nI i &&& 31)) ^^^ (-1))) = nI (M - 2 ^ i)) := by
  have h := msk_all
  rw [List.all_eq_true] at h
  have h2 := h M (List.mem_range.mpr hM)
  rw [List.all_eq_true] at h2
  have h3 := h2 i (List.mem_range.mpr hi)
  unfold mskOK at h3
  rw [Bool.and_eq_true] at h3
  refine ⟨by simpa using h3.1, fun c => ?_⟩
  have h4 := h3.2
  rw [Bool.or_eq_true] at h4
  rcases h4 with q | q
  · exact absurd (by simpa using q) c
  · simpa using q
theorem msk_0 {c : Nat} (hc : c ≤ 5) : ((1 : Int32) <<< (nI c &&& 31)) - 1 = nI (2 ^ c - 1) := by
  rcases (show c = 0 ∨ c = 1 ∨ c = 2 ∨ c = 3 ∨ c = 4 ∨ c = 5 by omega) with rfl | rfl | rfl | rfl | rfl | rfl <;> decide +kernel
/-- the reference's memory while it tries orders: w is what stood when it began, R the plan's row now -/
def RO (P : Nat → Int32) (w u : Mem) (R : Nat → Int32) : Prop := (∀ f, f ≠ 8 → f ≠ 17 → f ≠ 18 → f ≠ 19 → f ≠ 20 → u f = w f) ∧ (∀ i, i < cnt P 30 → u 19 0 i = nI (dyA P 30 i)) ∧ (∀ i, i < cnt P 30 → u 20 0 i = P (dyA P 30 i)) ∧ ∀ d, d < 30 → u 8 0 d = R d
theorem RO.congr {P : Nat → Int32} {w u : Mem} {R Q : Nat → Int32} (h : RO P w u R) (e : ∀ d, d < 30 → R d = Q d) : RO P w u Q := ⟨h.1, h.2.1, h.2.2.1, fun d hd => (h.2.2.2 d hd).trans (e d hd)⟩
theorem pick_lt {M : Nat} : ∀ (f r j i : Nat), pick M f r j = some i → i < j + f := by
  intro f
  induction f with
  | zero => intro r j i h; unfold pick at h; cases h
  | succ f ih =>
    intro r j i h
    unfold pick at h
    by_cases cb : M / 2 ^ j % 2 = 0
    · rw [if_pos cb] at h
      have := ih r (j + 1) i h
      omega
    · rw [if_neg cb] at h
      by_cases hr : r = 0
      · rw [if_pos hr] at h
        cases h
        omega
      · rw [if_neg hr] at h
        have := ih (r - 1) (j + 1) i h
        omega
theorem planI_pt {n t : Nat} {μ E u F : Mem} (h : planI n t μ E) (h32 : ∀ d, d < 30 → u 32 0 d = E 8 0 d) (h8 : ∀ d, d < 30 → F 8 0 d = E 8 0 d) (ht : t ≤ 30) (h3 : F 3 0 = E 3 0) (h4 : F 4 0 = E 4 0) : planI n t u F := by
  obtain ⟨p1, p2, p3, p4, p5⟩ := h
  refine ⟨fun d hd => by rw [h32 d hd, h8 d hd], fun d hd => by rw [h8 d hd]; exact p2 d hd, fun d hd => by rw [h8 d (by omega)]; exact p3 d hd, fun d a hd ha e => ?_, fun a ha e => ?_⟩
  · rw [h8 d hd] at e
    rw [h3, h4]
    exact p4 d a hd ha e
  · rw [h3] at e
    obtain ⟨d, d1, d2, d3⟩ := p5 a ha e
    exact ⟨d, d1, d2, by rw [h8 d d2]; exact d3⟩
