/-! ORDERS, AS BOTH SIDES NUMBER THEM -/
def fct : Nat → Nat
  | 0 => 1
  | k + 1 => (k + 1) * fct k
/-- the r-th index that the mask still holds -/
def pick (M : Nat) : Nat → Nat → Nat → Option Nat
  | 0, _, _ => none
  | f + 1, r, j => if M / 2 ^ j % 2 = 0 then pick M f r (j + 1) else if r = 0 then some j else pick M f (r - 1) (j + 1)
def leh : Nat → Nat → Nat → List Nat
  | 0, _, _ => []
  | b + 1, o, M => match pick M 5 (o % (b + 1)) 0 with
    | none => []
    | some i => i :: leh b (o / (b + 1)) (M - 2 ^ i)
def fyq : Nat → Nat → (Nat → Nat) → Nat → Nat
  | 0, _, q => q
  | b + 1, o, q => if b = 0 then q else fyq b (o / (b + 1)) (fun i => q (sg b (o % (b + 1)) i))
def lehq (c o : Nat) : Nat → Nat := fun i => (leh c o (2 ^ c - 1)).getD i 0
def chkL (c : Nat) : Bool := (List.range (fct c)).all fun o => (leh c o (2 ^ c - 1)).length == c && (leh c o (2 ^ c - 1)).all fun x => decide (x < c)
def chkA (c : Nat) : Bool := (List.range (fct c)).all fun o => (List.range (fct c)).any fun o2 => (List.range c).all fun i => fyq c o (fun i => i) i == lehq c o2 i
def chkB (c : Nat) : Bool := (List.range (fct c)).all fun o2 => (List.range (fct c)).any fun o => (List.range c).all fun i => fyq c o (fun i => i) i == lehq c o2 i
set_option maxRecDepth 100000 in
theorem chk_all : (chkL 0 && chkL 1 && chkL 2 && chkL 3 && chkL 4 && chkL 5) = true := by decide +kernel
set_option maxRecDepth 100000 in
theorem chk_A : (chkA 0 && chkA 1 && chkA 2 && chkA 3 && chkA 4 && chkA 5) = true := by decide +kernel
set_option maxRecDepth 100000 in
theorem chk_B : (chkB 0 && chkB 1 && chkB 2 && chkB 3 && chkB 4 && chkB 5) = true := by decide +kernel
theorem to5 {p : Nat → Bool} (h : (p 0 && p 1 && p 2 && p 3 && p 4 && p 5) = true) {c : Nat} (hc : c ≤ 5) : p c = true := by
  simp only [Bool.and_eq_true] at h
  rcases (show c = 0 ∨ c = 1 ∨ c = 2 ∨ c = 3 ∨ c = 4 ∨ c = 5 by omega) with rfl | rfl | rfl | rfl | rfl | rfl
  · exact h.1.1.1.1.1
  · exact h.1.1.1.1.2
  · exact h.1.1.1.2
  · exact h.1.1.2
  · exact h.1.2
  · exact h.2
theorem leh_ok {c o : Nat} (hc : c ≤ 5) (ho : o < fct c) : (leh c o (2 ^ c - 1)).length = c ∧ ∀ x, x ∈ leh c o (2 ^ c - 1) → x < c := by
  have h : chkL c = true := to5 chk_all hc
  unfold chkL at h
  rw [List.all_eq_true] at h
  have h2 := h o (List.mem_range.mpr ho)
  rw [Bool.and_eq_true, List.all_eq_true] at h2
  exact ⟨by simpa using h2.1, fun x hx => by simpa using h2.2 x hx⟩
theorem fy_leh {c o : Nat} (hc : c ≤ 5) (ho : o < fct c) : ∃ o2, o2 < fct c ∧ ∀ i, i < c → fyq c o (fun i => i) i = lehq c o2 i := by
  have h : chkA c = true := to5 chk_A hc
  unfold chkA at h
  rw [List.all_eq_true] at h
  have h2 := h o (List.mem_range.mpr ho)
  rw [List.any_eq_true] at h2
  obtain ⟨o2, ho2, h3⟩ := h2
  rw [List.all_eq_true] at h3
  exact ⟨o2, List.mem_range.mp ho2, fun i hi => by simpa using h3 i (List.mem_range.mpr hi)⟩
theorem leh_fy {c o2 : Nat} (hc : c ≤ 5) (ho : o2 < fct c) : ∃ o, o < fct c ∧ ∀ i, i < c → fyq c o (fun i => i) i = lehq c o2 i := by
  have h : chkB c = true := to5 chk_B hc
  unfold chkB at h
  rw [List.all_eq_true] at h
  have h2 := h o2 (List.mem_range.mpr ho)
  rw [List.any_eq_true] at h2
  obtain ⟨o, ho2, h3⟩ := h2
  rw [List.all_eq_true] at h3
  exact ⟨o, List.mem_range.mp ho2, fun i hi => by simpa using h3 i (List.mem_range.mpr hi)⟩
/-! the least of many -/
def mnf (F : Nat → Int32) (i : Int32) : Nat → Int32
  | 0 => i
  | k + 1 => zmin (mnf F i k) (F k)
theorem zmin_le (x y : Int32) : zmin x y ≤ x ∧ zmin x y ≤ y := by
  unfold zmin
  by_cases h : y < x
  · rw [if_pos h]
    exact ⟨Int32.le_of_lt h, Int32.le_refl y⟩
  · rw [if_neg h]
    exact ⟨Int32.le_refl x, Int32.not_lt.mp h⟩
theorem zmin_or (x y : Int32) : zmin x y = x ∨ zmin x y = y := by
  unfold zmin
  by_cases h : y < x
  · rw [if_pos h]; exact Or.inr rfl
  · rw [if_neg h]; exact Or.inl rfl
theorem zmin_1 {x y : Int32} (h : x ≤ y) : zmin x y = x := by
  unfold zmin
  rw [if_neg (Int32.not_lt.mpr h)]
theorem zmin_2 {x y : Int32} (h : ¬ x ≤ y) : zmin x y = y := by
  unfold zmin
  rw [if_pos (Int32.not_le.mp h)]
theorem mnf_le (F : Nat → Int32) (i : Int32) : ∀ k : Nat, mnf F i k ≤ i ∧ ∀ a, a < k → mnf F i k ≤ F a := by
  intro k
  induction k with
  | zero => exact ⟨Int32.le_refl i, fun a ha => absurd ha (Nat.not_lt_zero a)⟩
  | succ k ih =>
    obtain ⟨h1, h2⟩ := zmin_le (mnf F i k) (F k)
    refine ⟨Int32.le_trans h1 ih.1, fun a ha => ?_⟩
    rcases Nat.lt_or_ge a k with q | q
    · exact Int32.le_trans h1 (ih.2 a q)
    · rw [show a = k by omega]
      exact h2
theorem mnf_or (F : Nat → Int32) (i : Int32) : ∀ k : Nat, mnf F i k = i ∨ ∃ a, a < k ∧ mnf F i k = F a := by
  intro k
  induction k with
  | zero => exact Or.inl rfl
  | succ k ih =>
    rcases zmin_or (mnf F i k) (F k) with e | e
    · rcases ih with e2 | ⟨a, ha, e2⟩
      · exact Or.inl (e.trans e2)
      · exact Or.inr ⟨a, by omega, e.trans e2⟩
    · exact Or.inr ⟨k, by omega, e⟩
theorem mnf_half {F G : Nat → Int32} {i : Int32} {N : Nat} (h : ∀ b, b < N → ∃ a, a < N ∧ F a = G b) : mnf F i N ≤ mnf G i N := by
  rcases mnf_or G i N with e | ⟨b, hb, e⟩
  · rw [e]; exact (mnf_le F i N).1
  · obtain ⟨a, ha, e2⟩ := h b hb
    rw [e, ← e2]
    exact (mnf_le F i N).2 a ha
theorem mnf_eq {F G : Nat → Int32} {i : Int32} {N : Nat} (h1 : ∀ b, b < N → ∃ a, a < N ∧ F a = G b) (h2 : ∀ a, a < N → ∃ b, b < N ∧ G b = F a) : mnf F i N = mnf G i N := by
  have a := mnf_half (i := i) h1
  have b := mnf_half (i := i) h2
  rw [Int32.le_iff_toInt_le] at a b
  exact Int32.toInt_inj.mp (by omega)
theorem least_eq {E : Mem} {np t : Nat} {P : Nat → Int32} {i : Int32} (hc : cnt P 30 ≤ 5) : mnf (fun o => costF E np t (planQ P (fyq (cnt P 30) o (fun i => i)))) i (fct (cnt P 30)) = mnf (fun o => costF E np t (planQ P (lehq (cnt P 30) o))) i (fct (cnt P 30)) := by
  refine mnf_eq (fun b hb => ?_) (fun a ha => ?_)
  · obtain ⟨o, ho, e⟩ := leh_fy hc hb
    exact ⟨o, ho, costF_congr (fun d hd => planQ_congr e hd)⟩
  · obtain ⟨o, ho, e⟩ := fy_leh hc ha
    exact ⟨o, ho, (costF_congr (fun d hd => planQ_congr e hd)).symm⟩
/-! small numbers divided -/
theorem nI_divg {a b : Nat} (ha : a < 2 ^ 30) (hb : b < 2 ^ 30) : nI a / nI b = nI (a / b) := by
  have h1 : (nI a).toInt = (a : Int) := nI_toInt (by omega)
  have h2 : (nI b).toInt = (b : Int) := nI_toInt (by omega)
  have h4 : a / b ≤ a := Nat.div_le_self a b
  have h3 : (nI (a / b)).toInt = ((a / b : Nat) : Int) := nI_toInt (by omega)
  apply Int32.toInt_inj.mp
  rw [Int32.toInt_div, h1, h2, h3, ← Int.ofNat_tdiv]
  generalize a / b = x at h4
  exact Int.bmod_eq_of_le (by omega) (by omega)
theorem nI_modg {a b : Nat} (ha : a < 2 ^ 30) (hb : b < 2 ^ 30) : nI a - nI a / nI b * nI b = nI (a % b) := by
  rw [nI_divg ha hb, nI_mul, nI_sub (Nat.div_mul_le_self a b)]
  congr 1
  have := Nat.div_add_mod a b
  rw [Nat.mul_comm] at this
  generalize a / b * b = x at this ⊢
  omega
theorem fct_pos (c : Nat) : 0 < fct c := by
  induction c with
  | zero => exact Nat.zero_lt_one
  | succ c ih =>
    show 0 < (c + 1) * fct c
    exact Nat.mul_pos (by omega) ih
theorem fct_le {c : Nat} (hc : c ≤ 5) : fct c ≤ 120 := by
  rcases (show c = 0 ∨ c = 1 ∨ c = 2 ∨ c = 3 ∨ c = 4 ∨ c = 5 by omega) with rfl | rfl | rfl | rfl | rfl | rfl <;> decide

