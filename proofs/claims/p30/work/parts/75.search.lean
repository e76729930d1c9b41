/-! MEND, BETTER, LEAST: what their plans are -/
/-- a plan that swaps of days to come lead to -/
def rch (n t : Nat) (S P : Nat → Int32) : Prop := plJ n P ∧ (∀ d, d < t → P d = -1) ∧ (∀ d a, d < 30 → a < n → P d = nI a → S a = 0) ∧ ∀ a, a < n → S a = 0 → ∃ d, t ≤ d ∧ d < 30 ∧ P d = nI a
theorem rch_0 {n t : Nat} {μ E : Mem} (hn : n ≤ 10) (h : planI n t μ E) : rch n t (E 3 0) (E 8 0) := ⟨plJ_of hn h, h.2.2.1, fun d a hd ha e => (h.2.2.2.1 d a hd ha e).1, h.2.2.2.2⟩
theorem sg_ge {i j d t : Nat} (hi : t ≤ i) (hj : t ≤ j) (hd : t ≤ d) : t ≤ sg i j d := by
  unfold sg
  by_cases h1 : d = j
  · rw [if_pos h1]; exact hi
  · rw [if_neg h1]
    by_cases h2 : d = i
    · rw [if_pos h2]; exact hj
    · rw [if_neg h2]; exact hd
theorem rch_swap {n t i j : Nat} {S P : Nat → Int32} (h : rch n t S P) (hi : t ≤ i ∧ i < 30) (hj : t ≤ j ∧ j < 30) : rch n t S (pswap P i j) := by
  obtain ⟨h1, h2, h3, h4⟩ := h
  refine ⟨plJ_swap h1 hi.2 hj.2, fun d hd => ?_, fun d a hd ha e => ?_, fun a ha e => ?_⟩
  · unfold pswap
    rw [if_neg (by omega), if_neg (by omega)]
    exact h2 d hd
  · rw [pswap_sg] at e
    exact h3 _ a (sg_lt hi.2 hj.2 hd) ha e
  · obtain ⟨d, d1, d2, d3⟩ := h4 a ha e
    refine ⟨sg i j d, sg_ge hi.1 hj.1 d1, sg_lt hi.2 hj.2 d2, ?_⟩
    rw [pswap_sg]
    show P (sg i j (sg i j d)) = nI a
    rw [sg_sg]
    exact d3
/-- the day of scene a in a plan -/
def fdy (P : Nat → Int32) (a : Nat) : Nat → Nat
  | 0 => 0
  | d + 1 => if P d = nI a then d else fdy P a d
theorem fdy_ok {P : Nat → Int32} {a : Nat} : ∀ m d : Nat, d < m → P d = nI a → fdy P a m < m ∧ P (fdy P a m) = nI a := by
  intro m
  induction m with
  | zero => intro d hd; omega
  | succ m ih =>
    intro d hd e
    unfold fdy
    by_cases c : P m = nI a
    · rw [if_pos c]
      exact ⟨by omega, c⟩
    · rw [if_neg c]
      have hdm : d ≠ m := fun q => c (by rw [← q]; exact e)
      obtain ⟨q1, q2⟩ := ih d (by omega) e
      exact ⟨by omega, q2⟩
/-- the ghost with another plan -/
def plF (E : Mem) (P : Nat → Int32) : Mem := fun f i k => if f = 8 then P k else if f = 4 then (if E 3 0 k = 0 then nI (fdy P k 30) else E 4 i k) else E f i k
theorem plF_o {E : Mem} {P : Nat → Int32} {f : Nat} (h8 : f ≠ 8) (h4 : f ≠ 4) : plF E P f = E f := by
  funext i k
  unfold plF
  rw [if_neg h8, if_neg h4]
theorem plF_8 {E : Mem} {P : Nat → Int32} : plF E P 8 0 = P := rfl
theorem Jv_plan {n np t : Nat} {E μ u : Mem} {P : Nat → Int32} (h : Jv n np t E μ) (hu : CP n np t μ u P) (hr : rch n t (E 3 0) P) : Jv n np t (plF E P) (pu u (plF E P)) := by
  obtain ⟨c1, c2, c3, c4⟩ := hu
  have hn := h.n10
  have he : env n np t u E := env_mv c2 (csame.rf u) h.rs
  have hE : env n np t u (plF E P) := by
    refine env_plan he (fun _ _ => rfl) (fun k _ => by rw [plF_o (by omega) (by omega)]) (fun f _ _ q8 q4 => by rw [plF_o q8 q4]) (fun a ha q => ?_)
    show (if E 3 0 a = 0 then nI (fdy P a 30) else E 4 0 a) = E 4 0 a
    rw [if_neg (by rw [q]; decide)]
  have hP : planI n t u (plF E P) := by
    refine ⟨c3, c4.1, hr.2.1, fun d a hd ha e => ?_, fun a ha e => ?_⟩
    · have e' : P d = nI a := e
      have e3 := hr.2.2.1 d a hd ha e'
      rw [plF_o (by omega) (by omega)]
      refine ⟨e3, ?_⟩
      show (if E 3 0 a = 0 then nI (fdy P a 30) else E 4 0 a) = nI d
      rw [if_pos e3]
      obtain ⟨q1, q2⟩ := fdy_ok 30 d hd e'
      rcases c4.2 _ d q1 hd (q2.trans e'.symm) with w | w
      · rw [w]
      · rw [q2] at w
        exact absurd w (nI_neg1 (by omega))
    · rw [plF_o (by omega) (by omega)] at e
      exact hr.2.2.2 a ha e
  exact Jv_mk hE hP (fun f h1 h2 => by rw [c1 f h2, h.2.2 f h2, plF_o (by omega) (by omega)])
/-! sums with some places changed -/
theorem sumN_split {g : Nat → Nat} {d : Nat} : ∀ m : Nat, d < m → sumN g m = g d + sumN (fun k => if k = d then 0 else g k) m := by
  intro m
  induction m with
  | zero => intro h; omega
  | succ m ih =>
    intro h
    show sumN g m + g m = g d + (sumN (fun k => if k = d then 0 else g k) m + (if m = d then 0 else g m))
    by_cases c : m = d
    · subst c
      rw [if_pos rfl, sumN_congr (g := fun k => if k = m then 0 else g k) (h := g) m (fun i hi => if_neg (by omega))]
      omega
    · rw [if_neg c, ih (by omega)]
      omega
theorem sumN_two {f g : Nat → Nat} {a b m : Nat} (ha : a < m) (hb : b < m) (hab : a ≠ b) (ho : ∀ k, k < m → k ≠ a → k ≠ b → f k = g k) (h : f a + f b + 1 ≤ g a + g b) : sumN f m + 1 ≤ sumN g m := by
  rw [sumN_split (g := f) m ha, sumN_split (g := g) m ha, sumN_split (g := fun k => if k = a then 0 else f k) m hb, sumN_split (g := fun k => if k = a then 0 else g k) m hb]
  have e1 : (if b = a then 0 else f b) = f b := if_neg (fun q => hab q.symm)
  have e2 : (if b = a then 0 else g b) = g b := if_neg (fun q => hab q.symm)
  have e3 : sumN (fun k => if k = b then 0 else if k = a then 0 else f k) m = sumN (fun k => if k = b then 0 else if k = a then 0 else g k) m := by
    refine sumN_congr m (fun k hk => ?_)
    show (if k = b then 0 else if k = a then 0 else f k) = (if k = b then 0 else if k = a then 0 else g k)
    by_cases c : k = b
    · rw [if_pos c, if_pos c]
    · rw [if_neg c, if_neg c]
      by_cases c2 : k = a
      · rw [if_pos c2, if_pos c2]
      · rw [if_neg c2, if_neg c2]
        exact ho k hk c2 c
  show f a + ((if b = a then 0 else f b) + sumN (fun k => if k = b then 0 else if k = a then 0 else f k) m) + 1 ≤ g a + ((if b = a then 0 else g b) + sumN (fun k => if k = b then 0 else if k = a then 0 else g k) m)
  rw [e1, e2, e3]
  omega
/-! mend -/
theorem mdy_nd {E : Mem} {np t : Nat} {P : Nat → Int32} {d : Nat} : ∀ (m k : Nat) (b l : Int32), k + m = 30 → t ≤ k → (b = -1 ∨ ∃ i, (t ≤ i ∧ i < 30) ∧ i ≠ d ∧ mnds E np P d i ∧ b = nI i) → mdy E np t P d m k b l = -1 ∨ ∃ i, (t ≤ i ∧ i < 30) ∧ i ≠ d ∧ mnds E np P d i ∧ mdy E np t P d m k b l = nI i := by
  intro m
  induction m with
  | zero => intro k b l _ _ h; exact h
  | succ m ih =>
    intro k b l hk htk h
    unfold mdy
    by_cases c : k = d ∨ ¬ mnds E np P d k
    · rw [pit_pos c]
      exact ih (k + 1) b l (by omega) (by omega) h
    · rw [pit_neg c]
      by_cases c2 : b = -1 ∨ ¬ l ≤ costF E np t (pswap P d k)
      · rw [pit_pos c2]
        exact ih (k + 1) _ _ (by omega) (by omega) (Or.inr ⟨k, ⟨htk, by omega⟩, fun q => c (Or.inl q), Classical.byContradiction (fun q => c (Or.inr q)), rfl⟩)
      · rw [pit_neg c2]
        exact ih (k + 1) b l (by omega) (by omega) h
theorem mdv_nd {E : Mem} {np t : Nat} {P : Nat → Int32} {d : Nat} (ht : t ≤ 30) : mdv E np t P d = -1 ∨ ∃ i, (t ≤ i ∧ i < 30) ∧ i ≠ d ∧ mnds E np P d i ∧ mdv E np t P d = nI i := mdy_nd (30 - t) t (-1) 0 (by omega) (Nat.le_refl t) (Or.inl rfl)
noncomputable def sR (E : Mem) (np : Nat) (P : Nat → Int32) : Nat := sumN (rD E np P) 30
theorem sR_mend {E : Mem} {np : Nat} {P : Nat → Int32} {d i : Nat} (hd : d < 30) (hi : i < 30) (hid : i ≠ d) (hm : mnds E np P d i) (hr : ¬ fre E np (P d) d) : sR E np (pswap P d i) + 1 ≤ sR E np P := by
  have e1 : pswap P d i d = P i := by
    unfold pswap
    rw [if_neg (fun q => hid q.symm), if_pos rfl]
  have e2 : pswap P d i i = P d := by
    unfold pswap
    rw [if_pos rfl]
  refine sumN_two hd hi (fun q => hid q.symm) (fun k _ h1 h2 => ?_) ?_
  · unfold rD
    have e3 : pswap P d i k = P k := by
      unfold pswap
      rw [if_neg h2, if_neg h1]
    rw [e3]
  · have z1 : rD E np (pswap P d i) d = 0 := by
      unfold rD
      rw [e1]
      exact ind_0 (fun q => q hm.2)
    have z2 : rD E np (pswap P d i) i = 0 := by
      unfold rD
      rw [e2]
      exact ind_0 (fun q => q hm.1)
    have z3 : rD E np P d = 1 := ind_1 hr
    omega
theorem mnd_ok {E : Mem} {n np t : Nat} {S : Nat → Int32} (ht : t ≤ 30) : ∀ (m d v : Nat) (P : Nat → Int32), d + m = 30 → t ≤ d → rch n t S P → rch n t S (mnd E np t m d v P).2 ∧ sR E np (mnd E np t m d v P).2 + (mnd E np t m d v P).1 ≤ sR E np P + v ∧ v ≤ (mnd E np t m d v P).1 ∧ ((mnd E np t m d v P).1 = v → (mnd E np t m d v P).2 = P) := by
  intro m
  induction m with
  | zero => intro d v P _ _ h; exact ⟨h, Nat.le_refl _, Nat.le_refl _, fun _ => rfl⟩
  | succ m ih =>
    intro d v P hd htd h
    unfold mnd
    by_cases c : fre E np (P d) d
    · rw [pit_pos c]
      exact ih (d + 1) v P (by omega) (by omega) h
    · rw [pit_neg c]
      rcases mdv_nd (E := E) (np := np) (P := P) (d := d) ht with e | ⟨i, i1, i2, i3, e⟩
      · rw [pit_pos e]
        exact ih (d + 1) v P (by omega) (by omega) h
      · rw [pit_neg (by rw [e]; exact nI_neg1 (by omega)), e, cl (by omega)]
        obtain ⟨q1, q2, q3, q4⟩ := ih (d + 1) (v + 1) (pswap P d i) (by omega) (by omega) (rch_swap h ⟨htd, by omega⟩ i1)
        have := sR_mend (E := E) (np := np) (P := P) (by omega : d < 30) i1.2 i2 i3 c
        exact ⟨q1, by omega, by omega, fun q => by omega⟩
/-! better -/
theorem pswap_eq {P : Nat → Int32} {i j : Nat} (h : P i = P j) : pswap P i j = P := by
  funext d
  unfold pswap
  by_cases h1 : d = j
  · rw [if_pos h1, h1, h]
  · rw [if_neg h1]
    by_cases h2 : d = i
    · rw [if_pos h2, h2, h]
    · rw [if_neg h2]
theorem pswap_sym (P : Nat → Int32) (i j : Nat) : pswap P i j = pswap P j i := by
  funext d
  unfold pswap
  by_cases h1 : d = j
  · by_cases h2 : d = i
    · rw [if_pos h1, if_pos h2, ← h1, ← h2]
    · rw [if_pos h1, if_neg h2, if_pos h1]
  · by_cases h2 : d = i
    · rw [if_neg h1, if_pos h2, if_pos h2]
    · rw [if_neg h1, if_neg h2, if_neg h2, if_neg h1]
theorem bs2_none {E : Mem} {np t : Nat} {P : Nat → Int32} {i : Nat} : ∀ (m k : Nat) (a : Int32 × Option (Nat × Nat)), (bs2 E np t P i m k a).2 = none → bs2 E np t P i m k a = a ∧ ∀ x, k ≤ x → x < k + m → P i = P x ∨ a.1 ≤ costF E np t (pswap P i x) := by
  intro m
  induction m with
  | zero => intro k a _; exact ⟨rfl, fun x h1 h2 => by omega⟩
  | succ m ih =>
    intro k a h
    unfold bs2 at h ⊢
    by_cases c : P i = P k ∨ a.1 ≤ costF E np t (pswap P i k)
    · rw [pit_pos c] at h ⊢
      obtain ⟨q1, q2⟩ := ih (k + 1) a h
      refine ⟨q1, fun x h1 h2 => ?_⟩
      by_cases hx : x = k
      · rw [hx]; exact c
      · exact q2 x (by omega) (by omega)
    · rw [pit_neg c] at h
      obtain ⟨q1, -⟩ := ih (k + 1) _ h
      rw [q1] at h
      exact absurd h (by simp)
theorem bs2_keep {E : Mem} {np t : Nat} {P : Nat → Int32} {i : Nat} (m k : Nat) (a : Int32 × Option (Nat × Nat)) (h : (bs2 E np t P i m k a).2 = none) : a.2 = none := by
  obtain ⟨q, -⟩ := bs2_none m k a h
  rw [q] at h
  exact h
theorem bs1_keep {E : Mem} {np t : Nat} {P : Nat → Int32} : ∀ (m i : Nat) (a : Int32 × Option (Nat × Nat)), (bs1 E np t P m i a).2 = none → a.2 = none := by
  intro m
  induction m with
  | zero => intro i a h; exact h
  | succ m ih =>
    intro i a h
    unfold bs1 at h
    exact bs2_keep m (i + 1) a (ih (i + 1) _ h)
theorem bs1_none {E : Mem} {np t : Nat} {P : Nat → Int32} : ∀ (m i : Nat) (a : Int32 × Option (Nat × Nat)), i + m = 30 → (bs1 E np t P m i a).2 = none → ∀ x y, i ≤ x → x < y → y < 30 → P x = P y ∨ a.1 ≤ costF E np t (pswap P x y) := by
  intro m
  induction m with
  | zero => intro i a hi _ x y h1 h2 h3; omega
  | succ m ih =>
    intro i a hi h x y h1 h2 h3
    unfold bs1 at h
    have q0 : (bs2 E np t P i m (i + 1) a).2 = none := by
      generalize hb : bs2 E np t P i m (i + 1) a = b at h
      exact bs1_keep m (i + 1) b h
    obtain ⟨q1, q2⟩ := bs2_none m (i + 1) a q0
    rw [q1] at h
    by_cases hx : x = i
    · rw [hx]
      exact q2 y (by omega) (by omega)
    · exact ih (i + 1) a (by omega) h x y (by omega) h2 h3
/-- no swap of two days to come makes the plan cost less -/
def mnl (E : Mem) (np t : Nat) (P : Nat → Int32) : Prop := ∀ i j, (t ≤ i ∧ i < 30) → (t ≤ j ∧ j < 30) → costF E np t P ≤ costF E np t (pswap P i j)
theorem bsr_mnl {E : Mem} {np t : Nat} {P : Nat → Int32} (ht : t ≤ 30) (h : (bsr E np t P).2 = none) : mnl E np t P := by
  have key : ∀ x y, t ≤ x → x < y → y < 30 → costF E np t P ≤ costF E np t (pswap P x y) := by
    intro x y h1 h2 h3
    rcases bs1_none (30 - t) t (costF E np t P, none) (by omega) h x y h1 h2 h3 with e | e
    · rw [pswap_eq e]
      exact Int32.le_refl _
    · exact e
  intro i j hi hj
  rcases Nat.lt_trichotomy i j with c | c | c
  · exact key i j hi.1 c hj.2
  · rw [c, pswap_eq rfl]
    exact Int32.le_refl _
  · rw [pswap_sym]
    exact key j i hj.1 c hi.2
theorem mnl_bsr {E : Mem} {np t : Nat} {P : Nat → Int32} (ht : t ≤ 30) (h : mnl E np t P) : (bsr E np t P).2 = none := by
  rcases bsr_ok (E := E) (np := np) (P := P) ht with ⟨e, -⟩ | ⟨i, j, -, hi, hj, e1, e2⟩
  · exact e
  · rw [e1] at e2
    exact absurd (h i j hi hj) e2
theorem bet_ok {E : Mem} {n np t : Nat} {S : Nat → Int32} (hn : n ≤ 10) (ht : t ≤ 30) (hu : ∀ a, a < n → useOK E a) : ∀ (N v : Nat) (P : Nat → Int32), (∃ c, c ≤ N ∧ costF E np t P = nI c) → rch n t S P → rch n t S (bet E np t N v P).2 ∧ (bsr E np t (bet E np t N v P).2).2 = none ∧ (((bet E np t N v P).1 = v ∧ (bet E np t N v P).2 = P) ∨ (v < (bet E np t N v P).1 ∧ (bet E np t N v P).1 ≤ v + N ∧ costF E np t (bet E np t N v P).2 < costF E np t P)) := by
  intro N
  induction N with
  | zero =>
    intro v P hc h
    cases hb : (bsr E np t P).2 with
    | none => exact ⟨h, hb, Or.inl ⟨rfl, rfl⟩⟩
    | some q =>
      obtain ⟨i, j⟩ := q
      obtain ⟨M, e, -⟩ := bsr_less hn ht h.1 hu hc hb
      omega
  | succ N ih =>
    intro v P hc h
    cases hb : (bsr E np t P).2 with
    | none =>
      rw [bet_none _ _ hb]
      exact ⟨h, hb, Or.inl ⟨rfl, rfl⟩⟩
    | some q =>
      obtain ⟨i, j⟩ := q
      obtain ⟨M, e, hc2, hi, hj⟩ := bsr_less hn ht h.1 hu hc hb
      have eM : M = N := by omega
      subst eM
      rw [bet_some _ _ hb]
      obtain ⟨q1, q2, q3⟩ := ih (v + 1) (pswap P i j) hc2 (rch_swap h hi hj)
      have hless : costF E np t (pswap P i j) < costF E np t P := by
        rcases bsr_ok (E := E) (np := np) (P := P) ht with ⟨e0, -⟩ | ⟨i2, j2, e0, -, -, e1, e2⟩
        · rw [hb] at e0
          exact absurd e0 (by simp)
        · rw [hb] at e0
          cases e0
          rw [e1] at e2
          exact Int32.not_le.mp e2
      refine ⟨q1, q2, Or.inr ?_⟩
      rcases q3 with ⟨w1, w2⟩ | ⟨w1, w2, w3⟩
      · rw [w1, w2]
        exact ⟨by omega, by omega, hless⟩
      · exact ⟨by omega, by omega, Int32.lt_trans w3 hless⟩
section SRCH
variable {n np t : Nat} {E μ : Mem} {P : Int32 → Mem → Prop}
theorem Jv_sR (h : Jv n np t E μ) (Q : Nat → Int32) : sR μ np Q = sR E np Q := by
  refine sumN_congr 30 (fun d _ => ?_)
  unfold rD
  have : fre μ np (Q d) d ↔ fre E np (Q d) d := by
    unfold fre
    rw [Jv_al h]
  by_cases c : fre E np (Q d) d
  · rw [ind_0 (fun q => q (this.mpr c)), ind_0 (fun q => q c)]
  · rw [ind_1 (fun q => c (this.mp q)), ind_1 c]
theorem Jv_mnl (h : Jv n np t E μ) (Q : Nat → Int32) : mnl μ np t Q ↔ mnl E np t Q := by
  unfold mnl
  constructor
  · intro w i j hi hj
    rw [← Jv_cost h, ← Jv_cost h]
    exact w i j hi hj
  · intro w i j hi hj
    rw [Jv_cost h, Jv_cost h]
    exact w i j hi hj
theorem s_mend (h : Jv n np t E μ) (hp : ∀ (Q : Nat → Int32) (m : Nat) (v : Mem), rch n t (E 3 0) Q → sR E np Q + m ≤ sR E np (E 8 0) → (m = 0 → Q = E 8 0) → Jv n np t (plF E Q) v → P (nI m) v) : w_X4_mend n np (fun r u => ∃ v, gs u v ∧ P r v) μ := by
  have e8 : μ 8 0 = E 8 0 := by rw [h.2.2 8 (by omega)]
  have e3 : μ 3 0 = E 3 0 := by rw [h.2.2 3 (by omega)]
  refine X4_mend (CP_0 h.1 h.2.1) (fun u hu => ?_)
  obtain ⟨q1, q2, q3, q4⟩ := mnd_ok (E := μ) (np := np) h.t30 (30 - t) t 0 (μ 8 0) (by have := h.t30; omega) (Nat.le_refl t) (rch_0 h.n10 h.2.1)
  rw [Jv_sR h, Jv_sR h, e8, Nat.add_zero] at q2
  rw [e8] at q4 hu q1 ⊢
  rw [e3] at q1
  exact ⟨_, pu_gs u _, hp _ _ _ q1 q2 q4 (Jv_plan h hu q1)⟩
theorem s_better (h : Jv n np t E μ) (hp : ∀ (Q : Nat → Int32) (m : Nat) (v : Mem), m ≤ 2400 → rch n t (E 3 0) Q → mnl E np t Q → ((m = 0 ∧ Q = E 8 0) ∨ (0 < m ∧ costF E np t Q < costF E np t (E 8 0))) → (mnl E np t (E 8 0) → m = 0) → Jv n np t (plF E Q) v → P (nI m) v) : w_X4_better n np (fun r u => ∃ v, gs u v ∧ P r v) μ := by
  have e8 : μ 8 0 = E 8 0 := by rw [h.2.2 8 (by omega)]
  have e3 : μ 3 0 = E 3 0 := by rw [h.2.2 3 (by omega)]
  have hu : ∀ a, a < n → useOK μ a := fun a ha => ((h.1.2.2.2.2.2.2.2.1 a ha).2.2.2.2)
  have hc := isN_cost (E := μ) (np := np) (t := t) h.n10 h.2.1.2.1 hu
  unfold w_X4_better
  refine ⟨2401, X4_better hu 2400 0 (μ 8 0) μ (by omega) hc (CP_0 h.1 h.2.1) (fun u hu1 => ?_)⟩
  obtain ⟨q1, q2, q3⟩ := bet_ok (S := μ 3 0) (np := np) h.n10 h.t30 hu 2400 0 (μ 8 0) hc (rch_0 h.n10 h.2.1)
  have q4 := bsr_mnl h.t30 q2
  have q5 : mnl μ np t (μ 8 0) → (bet μ np t 2400 0 (μ 8 0)).1 = 0 := fun w => by rw [bet_none _ _ (mnl_bsr h.t30 w)]
  have q6 : (bet μ np t 2400 0 (μ 8 0)).1 ≤ 2400 := by
    rcases q3 with ⟨w, -⟩ | ⟨-, w, -⟩ <;> omega
  rw [Jv_mnl h] at q4 q5
  rw [Jv_cost h, Jv_cost h] at q3
  rw [e3] at q1
  rw [e8] at q1 q3 q4 q5 q6 hu1 ⊢
  exact ⟨_, pu_gs u _, hp _ _ _ q6 q1 q4 (q3.imp (fun w => w) (fun w => ⟨w.1, w.2.2⟩)) q5 (Jv_plan h hu1 q1)⟩
theorem isN_le {x : Int32} {M : Nat} (h : isN x M) (hM : M < 100000) : ¬ x < 0 := by
  obtain ⟨k, hk, e⟩ := h
  rw [e]
  exact nI_pos (by omega)
theorem s_least (h : Jv n np t E μ) (hp : cnt (E 8 0) 30 ≤ 5 → ∀ (L : Int32) (v : Mem), L ≤ costF E np t (E 8 0) → ¬ L < 0 → Jv n np t E v → P L v) (hx : 5 < cnt (E 8 0) 30 → ∀ v, Jv n np t E v → P (-1000003) v) : w_L_least n np P μ := by
  have e8 : μ 8 0 = E 8 0 := by rw [h.2.2 8 (by omega)]
  have hu : ∀ a, a < n → useOK μ a := fun a ha => ((h.1.2.2.2.2.2.2.2.1 a ha).2.2.2.2)
  unfold w_L_least
  refine X4_least h.1 h.2.1 (fun c u hu1 => ⟨u, gs.rf u, ?_⟩) (fun c u hu1 => ⟨rfl, ?_⟩)
  · rw [e8] at c
    refine hp c _ u ?_ ?_ (Jv_CP h hu1)
    · have := (mnf_le (fun o => costF μ np t (planQ (μ 8 0) (fyq (cnt (μ 8 0) 30) o (fun i => i)))) (costF μ np t (μ 8 0)) (fct (cnt (μ 8 0) 30))).1
      rw [← Jv_cost h, ← e8]
      exact this
    · rcases mnf_or (fun o => costF μ np t (planQ (μ 8 0) (fyq (cnt (μ 8 0) 30) o (fun i => i)))) (costF μ np t (μ 8 0)) (fct (cnt (μ 8 0) 30)) with e | ⟨a, -, e⟩
      · rw [e]
        exact isN_le (isN_cost h.n10 h.2.1.2.1 hu) (by omega)
      · rw [e]
        exact isN_le (isN_cost h.n10 (planQ_ok h.2.1.2.1) hu) (by omega)
  · rw [e8] at c
    exact hx c u (Jv_CP h hu1)
end SRCH
