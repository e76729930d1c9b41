/-! THE PLANNED DAYS, IN THEIR ORDER -/
def cnt (P : Nat → Int32) : Nat → Nat
  | 0 => 0
  | d + 1 => if P d = -1 then cnt P d else cnt P d + 1
theorem cnt_0 {P : Nat → Int32} {d : Nat} (h : P d = -1) : cnt P (d + 1) = cnt P d := by
  conv => lhs; unfold cnt
  rw [if_pos h]
theorem cnt_1 {P : Nat → Int32} {d : Nat} (h : ¬ P d = -1) : cnt P (d + 1) = cnt P d + 1 := by
  conv => lhs; unfold cnt
  rw [if_neg h]
theorem cnt_mono (P : Nat → Int32) {a : Nat} : ∀ {b : Nat}, a ≤ b → cnt P a ≤ cnt P b := by
  intro b
  induction b with
  | zero => intro h; rw [show a = 0 by omega]; exact Nat.le_refl _
  | succ b ih =>
    intro h
    rcases Nat.lt_or_ge b a with q | q
    · rw [show a = b + 1 by omega]; exact Nat.le_refl _
    · have := ih q
      by_cases c : P b = -1
      · rw [cnt_0 c]; exact this
      · rw [cnt_1 c]; omega
theorem cnt_start {P : Nat → Int32} {t : Nat} (h : ∀ d, d < t → P d = -1) : cnt P t = 0 := by
  induction t with
  | zero => rfl
  | succ t ih =>
    rw [cnt_0 (h t (by omega))]
    exact ih (fun d hd => h d (by omega))
theorem cnt_inj {P : Nat → Int32} {x d : Nat} (hx : ¬ P x = -1) (hd : ¬ P d = -1) (h : cnt P x = cnt P d) : x = d := by
  rcases Nat.lt_or_ge x d with q | q
  · have := cnt_mono P (show x + 1 ≤ d by omega)
    rw [cnt_1 hx] at this
    omega
  · rcases Nat.lt_or_ge d x with q2 | q2
    · have := cnt_mono P (show d + 1 ≤ x by omega)
      rw [cnt_1 hd] at this
      omega
    · omega
/-- the i-th planned day among the first j -/
def dyA (P : Nat → Int32) : Nat → Nat → Nat
  | 0, _ => 0
  | d + 1, i => if ¬ P d = -1 ∧ cnt P d = i then d else dyA P d i
theorem dyA_lt (P : Nat → Int32) (i : Nat) : ∀ j : Nat, dyA P (j + 1) i < j + 1 := by
  intro j
  induction j with
  | zero =>
    unfold dyA
    by_cases c : ¬ P 0 = -1 ∧ cnt P 0 = i
    · rw [if_pos c]; exact Nat.zero_lt_one
    · rw [if_neg c]; exact Nat.zero_lt_one
  | succ j ih =>
    unfold dyA
    by_cases c : ¬ P (j + 1) = -1 ∧ cnt P (j + 1) = i
    · rw [if_pos c]; omega
    · rw [if_neg c]; omega
theorem dyA_ok {P : Nat → Int32} : ∀ {j i : Nat}, i < cnt P j → dyA P j i < j ∧ ¬ P (dyA P j i) = -1 ∧ cnt P (dyA P j i) = i := by
  intro j
  induction j with
  | zero => intro i h; exact absurd h (Nat.not_lt_zero i)
  | succ j ih =>
    intro i h
    unfold dyA
    by_cases c : ¬ P j = -1 ∧ cnt P j = i
    · rw [if_pos c]
      exact ⟨by omega, c.1, c.2⟩
    · rw [if_neg c]
      have h2 : i < cnt P j := by
        by_cases c1 : P j = -1
        · rw [cnt_0 c1] at h; exact h
        · rw [cnt_1 c1] at h
          rcases Nat.lt_or_ge i (cnt P j) with q | q
          · exact q
          · exact absurd ⟨c1, by omega⟩ c
      obtain ⟨a, b, d⟩ := ih h2
      exact ⟨by omega, b, d⟩
theorem cnt_lt {P : Nat → Int32} {d j : Nat} (hd : d < j) (h : ¬ P d = -1) : cnt P d < cnt P j := by
  have := cnt_mono P (show d + 1 ≤ j by omega)
  rw [cnt_1 h] at this
  omega
theorem dyA_of {P : Nat → Int32} {d j : Nat} (hd : d < j) (h : ¬ P d = -1) : dyA P j (cnt P d) = d := by
  obtain ⟨a, b, e⟩ := dyA_ok (cnt_lt hd h)
  exact cnt_inj b h e
theorem cnt_sum (P : Nat → Int32) : ∀ j : Nat, cnt P j = sumN (fun d => ind (¬ P d = -1)) j := by
  intro j
  induction j with
  | zero => rfl
  | succ j ih =>
    show cnt P (j + 1) = sumN (fun d => ind (¬ P d = -1)) j + ind (¬ P j = -1)
    by_cases c : P j = -1
    · rw [cnt_0 c, ind_0 (fun q => q c), ih]; omega
    · rw [cnt_1 c, ind_1 c, ih]
theorem cnt_le {n : Nat} {P : Nat → Int32} (hn : n ≤ 10) (h : plJ n P) : cnt P 30 ≤ n := by
  have e1 : sumN (fun d => ind (¬ P d = -1)) 30 = sumN (fun d => sumN (fun k => ind (P d = nI k)) n) 30 := by
    refine sumN_congr 30 (fun d hd => ?_)
    show ind (¬ P d = -1) = sumN (fun k => ind (P d = nI k)) n
    rcases h.1 d hd with e | ⟨a, ha, e⟩
    · rw [ind_0 (fun q => q e)]
      refine (sumN_zero n (fun k hk => ind_0 (fun q => ?_))).symm
      rw [e] at q
      exact nI_neg1 (by omega) q.symm
    · rw [sumN_one (i0 := a) n ha (fun k hk hne => ind_0 (fun q => hne ?_))]
      · rw [ind_1 (by rw [e]; exact nI_neg1 (by omega)), ind_1 e]
      · rw [e] at q
        exact ((nI_eq (by omega) (by omega)).mp q).symm
  rw [cnt_sum, e1, sumN_comm (fun d k => ind (P d = nI k)) n 30]
  refine sumN_le n (fun k hk => ?_)
  show sumN (fun d => ind (P d = nI k)) 30 ≤ 1
  by_cases c : ∃ d, d < 30 ∧ P d = nI k
  · obtain ⟨d, hd, e⟩ := c
    rw [sumN_one (i0 := d) 30 hd (fun x hx hne => ind_0 (fun q => ?_))]
    · exact ind_le _
    · rcases h.2 x d hx hd (q.trans e.symm) with w | w
      · exact hne w
      · rw [q] at w
        exact nI_neg1 (by omega) w
  · rw [sumN_zero 30 (fun d hd => ind_0 (fun q => c ⟨d, hd, q⟩))]
    omega
/-- the plan, its scenes in another order of the same days -/
def planQ (P : Nat → Int32) (q : Nat → Nat) : Nat → Int32 := fun d => if P d = -1 then -1 else P (dyA P 30 (q (cnt P d)))
theorem planQ_id {P : Nat → Int32} {d : Nat} (hd : d < 30) : planQ P (fun i => i) d = P d := by
  unfold planQ
  by_cases h : P d = -1
  · rw [if_pos h, h]
  · rw [if_neg h, dyA_of hd h]
theorem planQ_of {P : Nat → Int32} {q : Nat → Nat} {d : Nat} (h : ¬ P d = -1) : planQ P q d = P (dyA P 30 (q (cnt P d))) := by
  unfold planQ
  rw [if_neg h]
theorem planQ_no {P : Nat → Int32} {q : Nat → Nat} {d : Nat} (h : P d = -1) : planQ P q d = -1 := by
  unfold planQ
  rw [if_pos h]
theorem planQ_congr {P : Nat → Int32} {q q' : Nat → Nat} (h : ∀ i, i < cnt P 30 → q i = q' i) {d : Nat} (hd : d < 30) : planQ P q d = planQ P q' d := by
  by_cases c : P d = -1
  · rw [planQ_no c, planQ_no c]
  · rw [planQ_of c, planQ_of c, h _ (cnt_lt hd c)]
theorem planQ_swap {P : Nat → Int32} {q : Nat → Nat} {a b d : Nat} (ha : a < cnt P 30) (hb : b < cnt P 30) (hd : d < 30) : pswap (planQ P q) (dyA P 30 a) (dyA P 30 b) d = planQ P (fun i => q (sg a b i)) d := by
  obtain ⟨a1, a2, a3⟩ := dyA_ok ha
  obtain ⟨b1, b2, b3⟩ := dyA_ok hb
  unfold pswap
  by_cases c : P d = -1
  · rw [if_neg (fun w => b2 (by rw [← w]; exact c)), if_neg (fun w => a2 (by rw [← w]; exact c)), planQ_no c, planQ_no c]
  · have ed := dyA_of hd c
    rw [planQ_of (q := fun i => q (sg a b i)) c]
    show _ = P (dyA P 30 (q (sg a b (cnt P d))))
    unfold sg
    by_cases c1 : cnt P d = b
    · rw [if_pos (show d = dyA P 30 b by rw [← c1]; exact ed.symm), if_pos c1, planQ_of a2, a3]
    · rw [if_neg (fun w => c1 (by rw [w]; exact b3)), if_neg c1]
      by_cases c2 : cnt P d = a
      · rw [if_pos (show d = dyA P 30 a by rw [← c2]; exact ed.symm), if_pos c2, planQ_of b2, b3]
      · rw [if_neg (fun w => c2 (by rw [w]; exact a3)), if_neg c2, planQ_of c]
theorem planQ_ok {n : Nat} {P : Nat → Int32} {q : Nat → Nat} (h : plOK n P) : plOK n (planQ P q) := by
  intro d hd
  by_cases c : P d = -1
  · exact Or.inl (planQ_no c)
  · rw [planQ_of c]
    exact h _ (dyA_lt P _ 29)
theorem dC_congr {E : Mem} {np : Nat} {P Q : Nat → Int32} : ∀ (m d : Nat), (∀ k, d ≤ k → k < d + m → P k = Q k) → ∀ (s b : Int32) (g : Nat → Int32) (c : Nat → Nat → Int32), dC E np P m d s b g c = dC E np Q m d s b g c := by
  intro m
  induction m with
  | zero => intro d _ s b g c; rfl
  | succ m ih =>
    intro d h s b g c
    unfold dC
    rw [h d (Nat.le_refl d) (by omega)]
    have ih2 := ih (d + 1) (fun k a b => h k (by omega) (by omega))
    rw [ih2, ih2]
theorem costF_congr {E : Mem} {np t : Nat} {P Q : Nat → Int32} (h : ∀ d, d < 30 → P d = Q d) : costF E np t P = costF E np t Q := by
  unfold costF
  rcases Nat.lt_or_ge t 30 with q | q
  · exact dC_congr (30 - t) t (fun k _ b => h k (by omega)) _ _ _ _
  · rw [show 30 - t = 0 by omega]
    rfl

