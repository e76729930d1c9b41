/-! MOVES: what the class's side and the reference's side read -/
def rsame (E F : Mem) : Prop := (∀ k, k ≠ 25 → F 0 0 k = E 0 0 k) ∧ ∀ f, 1 ≤ f → f ≤ 16 → F f 0 = E f 0
def csame (μ u : Mem) : Prop := (∀ f, (f = 30 ∨ f = 31 ∨ f = 32 ∨ f = 33 ∨ f = 34 ∨ f = 62 ∨ f = 70 ∨ f = 71 ∨ f = 72 ∨ f = 73 ∨ f = 80) → u f = μ f) ∧ u 42 0 = μ 42 0 ∧ (∀ j, j < 5 → u 43 j = μ 43 j) ∧ u 40 0 2 = μ 40 0 2
theorem same.r {μ u : Mem} (h : same μ u) : rsame μ u := ⟨h.1, h.2.1⟩
theorem same.c {μ u : Mem} (h : same μ u) : csame μ u := h.2.2
theorem rsame.rf (μ : Mem) : rsame μ μ := (same.rf μ).r
theorem csame.rf (μ : Mem) : csame μ μ := (same.rf μ).c
theorem rsame.trans {μ u w : Mem} (h1 : rsame μ u) (h2 : rsame u w) : rsame μ w := ⟨fun k hk => (h2.1 k hk).trans (h1.1 k hk), fun f a b => (h2.2 f a b).trans (h1.2 f a b)⟩
theorem csame.trans {μ u w : Mem} (h1 : csame μ u) (h2 : csame u w) : csame μ w := ⟨fun f hf => (h2.1 f hf).trans (h1.1 f hf), h2.2.1.trans h1.2.1, fun j hj => (h2.2.2.1 j hj).trans (h1.2.2.1 j hj), h2.2.2.2.trans h1.2.2.2⟩
/-- a cell of the reference is none of the class's -/
theorem csame_st (μ : Mem) {f : Nat} (hf : f ≤ 29) (i k : Nat) (v : Int32) : csame μ (zst μ f i k v) := by
  refine ⟨fun f' hf' => zst_o (by omega), ?_, fun j hj => ?_, ?_⟩
  · rw [zst_o (by omega)]
  · rw [zst_o (by omega)]
  · rw [zst_o (by omega)]
/-- .. and the other way round -/
theorem rsame_st (μ : Mem) {f : Nat} (hf : 17 ≤ f) (i k : Nat) (v : Int32) : rsame μ (zst μ f i k v) := by
  refine ⟨fun k' hk => ?_, fun f' a b => ?_⟩
  · rw [zst_o (by omega)]
  · rw [zst_o (by omega)]
theorem env_mv {n np t : Nat} {μ u E F : Mem} (h : env n np t μ E) (hc : csame μ u) (hr : rsame E F) : env n np t u F := by
  obtain ⟨s0, sf⟩ := hr
  obtain ⟨sg, s42, s43, s40⟩ := hc
  obtain ⟨b, ⟨e0, e3, e12⟩, ⟨m7, m8, m9, m10⟩, hal, ⟨st1, st2, st3⟩, hg, hsk, hsc, htold, hz⟩ := h
  refine ⟨b, ⟨by rw [s0 0 (by omega)]; exact e0, by rw [s0 3 (by omega)]; exact e3, by rw [s0 12 (by omega)]; exact e12⟩, ?_, ?_, ⟨?_, ?_, ?_⟩, ?_, ?_, ?_, ?_, ?_⟩
  · rw [sg 30 (by omega), s0 1 (by omega)]
    exact ⟨m7, m8, m9, m10⟩
  · obtain ⟨h1, h2, h3, h4⟩ := hal
    refine ⟨fun a ha => ?_, fun k hk => ?_, fun k hk => ?_, fun k d hk hd => ?_⟩
    · unfold scRel
      rw [sg 70 (by omega), sg 71 (by omega), sg 72 (by omega), sg 73 (by omega), sf 1 (by omega) (by omega), sf 2 (by omega) (by omega), sf 5 (by omega) (by omega), sf 6 (by omega) (by omega), sf 7 (by omega) (by omega)]
      exact h1 a ha
    · rw [sg 33 (by omega)]; exact h2 k hk
    · unfold pmRel
      rw [sg 80 (by omega), sf 9 (by omega) (by omega), sf 10 (by omega) (by omega), sf 11 (by omega) (by omega), sf 12 (by omega) (by omega), sf 13 (by omega) (by omega)]
      exact h3 k hk
    · rw [sg 34 (by omega), sf 14 (by omega) (by omega)]; exact h4 k d hk hd
  · rw [s42, sf 15 (by omega) (by omega)]; exact st1
  · intro p s hp hs
    show u 43 p s = F 16 0 (4 * p + s)
    rw [s43 p hp, sf 16 (by omega) (by omega)]
    exact st2 p s hp hs
  · rw [s40, s0 2 (by omega)]; exact st3
  · rw [sf 15 (by omega) (by omega)]; exact hg
  · rw [sf 16 (by omega) (by omega)]; exact hsk
  · intro a ha
    obtain ⟨q1, q2, q3, q4, q5⟩ := hsc a ha
    rw [sg 70 (by omega), sf 3 (by omega) (by omega), sf 4 (by omega) (by omega)]
    exact ⟨q1, q2, q3, q4, useOK_of (sf 6 (by omega) (by omega)) (sf 7 (by omega) (by omega)) q5⟩
  · rw [sg 31 (by omega)]; exact htold
  · rw [sg 62 (by omega)]
    refine ⟨hz.1, ?_⟩
    unfold revOK
    rw [sf 13 (by omega) (by omega)]
    exact hz.2
theorem planI_mv {n t : Nat} {μ u E F : Mem} (h : planI n t μ E) (hc : csame μ u) (hr : rsame E F) : planI n t u F := by
  obtain ⟨s0, sf⟩ := hr
  obtain ⟨sg, -⟩ := hc
  unfold planI
  rw [sg 32 (by omega), sf 8 (by omega) (by omega), sf 3 (by omega) (by omega), sf 4 (by omega) (by omega)]
  exact h
/-! SUMS -/
def sumN (g : Nat → Nat) : Nat → Nat
  | 0 => 0
  | k + 1 => sumN g k + g k
theorem sumN_congr {g h : Nat → Nat} : ∀ m : Nat, (∀ i, i < m → g i = h i) → sumN g m = sumN h m := by
  intro m
  induction m with
  | zero => intro _; rfl
  | succ m ih =>
    intro hh
    show sumN g m + g m = sumN h m + h m
    rw [ih (fun i hi => hh i (by omega)), hh m (by omega)]
theorem sumN_zero {g : Nat → Nat} : ∀ m : Nat, (∀ i, i < m → g i = 0) → sumN g m = 0 := by
  intro m
  induction m with
  | zero => intro _; rfl
  | succ m ih =>
    intro hh
    show sumN g m + g m = 0
    rw [ih (fun i hi => hh i (by omega)), hh m (by omega)]
theorem sumN_one {g : Nat → Nat} {i0 : Nat} : ∀ m : Nat, i0 < m → (∀ i, i < m → i ≠ i0 → g i = 0) → sumN g m = g i0 := by
  intro m
  induction m with
  | zero => intro h; omega
  | succ m ih =>
    intro h hh
    show sumN g m + g m = g i0
    by_cases c : m = i0
    · subst c
      rw [sumN_zero m (fun i hi => hh i (by omega) (by omega))]
      omega
    · rw [ih (by omega) (fun i hi hne => hh i (by omega) hne), hh m (by omega) c]
      omega
theorem sumN_add (g h : Nat → Nat) : ∀ m : Nat, sumN (fun i => g i + h i) m = sumN g m + sumN h m := by
  intro m
  induction m with
  | zero => rfl
  | succ m ih =>
    show sumN (fun i => g i + h i) m + (g m + h m) = (sumN g m + g m) + (sumN h m + h m)
    rw [ih]
    omega
theorem sumN_comm (f : Nat → Nat → Nat) (b : Nat) : ∀ a : Nat, sumN (fun i => sumN (f i) b) a = sumN (fun j => sumN (fun i => f i j) a) b := by
  intro a
  induction a with
  | zero => exact (sumN_zero b (fun _ _ => rfl)).symm
  | succ a ih =>
    show sumN (fun i => sumN (f i) b) a + sumN (f a) b = sumN (fun j => sumN (fun i => f i j) a + f a j) b
    rw [sumN_add, ih]
theorem sumN_le {g : Nat → Nat} : ∀ m : Nat, (∀ i, i < m → g i ≤ 1) → sumN g m ≤ m := by
  intro m
  induction m with
  | zero => intro _; exact Nat.le_refl 0
  | succ m ih =>
    intro h
    have h1 := ih (fun i hi => h i (by omega))
    have h2 := h m (by omega)
    show sumN g m + g m ≤ m + 1
    omega
/-! REFUSED SCENES, by days and by scenes -/
def fre (E : Mem) (np : Nat) (x : Int32) (d : Nat) : Prop := x = -1 ∨ al E np x.toNatClampNeg d
noncomputable def ind (p : Prop) : Nat := @ite Nat p (Classical.propDecidable p) 1 0
theorem ind_1 {p : Prop} (h : p) : ind p = 1 := if_pos h
theorem ind_0 {p : Prop} (h : ¬ p) : ind p = 0 := if_neg h
theorem ind_le (p : Prop) : ind p ≤ 1 := by
  by_cases h : p
  · rw [ind_1 h]; omega
  · rw [ind_0 h]; omega
noncomputable def rD (E : Mem) (np : Nat) (P : Nat → Int32) (d : Nat) : Nat := ind (¬ fre E np (P d) d)
noncomputable def rS (E : Mem) (np : Nat) (k : Nat) : Nat := ind (E 3 0 k = 0 ∧ ¬ al E np k (E 4 0 k).toNatClampNeg)
theorem fre_nI {E : Mem} {np a d : Nat} (ha : a < 1000) : fre E np (nI a) d ↔ al E np a d := by
  unfold fre
  rw [cl ha]
  exact ⟨fun h => h.resolve_left (nI_neg1 ha), Or.inr⟩
theorem cnt_eq {n np t : Nat} {μ E : Mem} (hn : n ≤ 10) (h : planI n t μ E) : sumN (rD E np (E 8 0)) 30 = sumN (rS E np) n := by
  obtain ⟨h1, h2, h3, h4, h5⟩ := h
  have e1 : sumN (rD E np (E 8 0)) 30 = sumN (fun d => sumN (fun k => ind (E 8 0 d = nI k ∧ ¬ al E np k d)) n) 30 := by
    refine sumN_congr 30 (fun d hd => ?_)
    rcases h2 d hd with e | ⟨a, ha, e⟩
    · unfold rD
      rw [ind_0 (fun q => q (Or.inl e))]
      refine (sumN_zero n (fun k hk => ind_0 (fun q => ?_))).symm
      rw [e] at q
      exact nI_neg1 (by omega) q.1.symm
    · rw [sumN_one (i0 := a) n ha (fun k hk hne => ind_0 (fun q => hne ?_))]
      · unfold rD
        rw [e]
        by_cases c : al E np a d
        · rw [ind_0 (fun q => q ((fre_nI (by omega)).mpr c)), ind_0 (fun q => q.2 c)]
        · rw [ind_1 (fun q => c ((fre_nI (by omega)).mp q)), ind_1 ⟨rfl, c⟩]
      · rw [e] at q
        exact ((nI_eq (by omega) (by omega)).mp q.1).symm
  have e2 : sumN (rS E np) n = sumN (fun k => sumN (fun d => ind (E 8 0 d = nI k ∧ ¬ al E np k d)) 30) n := by
    refine sumN_congr n (fun k hk => ?_)
    by_cases c : E 3 0 k = 0
    · obtain ⟨d, -, hd, e⟩ := h5 k hk c
      have e4 := (h4 d k hd hk e).2
      rw [sumN_one (i0 := d) 30 hd (fun d2 hd2 hne => ind_0 (fun q => hne ?_))]
      · unfold rS
        rw [e4, cl (by omega)]
        by_cases c2 : al E np k d
        · rw [ind_0 (fun q => q.2 c2), ind_0 (fun q => q.2 c2)]
        · rw [ind_1 ⟨c, c2⟩, ind_1 ⟨e, c2⟩]
      · have e5 := (h4 d2 k hd2 hk q.1).2
        rw [e4] at e5
        exact ((nI_eq (by omega) (by omega)).mp e5).symm
    · unfold rS
      rw [ind_0 (fun q => c q.1)]
      exact (sumN_zero 30 (fun d hd => ind_0 (fun q => c (h4 d k hd hk q.1).1))).symm
  rw [e1, e2]
  exact sumN_comm (fun d k => ind (E 8 0 d = nI k ∧ ¬ al E np k d)) n 30
theorem X4_isFree {n np : Nat} {post : Int32 → Mem → Prop} {x : Int32} {d : Nat} {μ E : Mem} (hx : x = -1 ∨ ∃ a, a < n ∧ x = nI a) (hn : n ≤ 10) (hd : d < 30) (hnp : np ≤ 20) (hr : alRel n np μ E) (h1 : fre E np x d → post 1 μ) (h0 : ¬ fre E np x d → post 0 μ) : w_X4_isFree n np post x (nI d) μ := by
  unfold w_X4_isFree
  rcases hx with e | ⟨a, ha, e⟩
  · subst e
    exact ⟨fun _ => h1 (Or.inl rfl), fun c => absurd neg1 c⟩
  · subst e
    rw [fre_nI (by omega)] at h1 h0
    rw [cl (by omega)]
    exact ⟨fun c => absurd c (pos (by omega)), fun _ => X4_allows ha hd hnp hr (fun q => ⟨fun c => absurd c z10, fun _ => h1 q⟩) (fun q => ⟨fun _ => h0 q, fun c => absurd rfl c⟩)⟩
theorem X4_isRefusedOn {n np : Nat} {post : Int32 → Mem → Prop} {d : Nat} {μ E : Mem} {P : Nat → Int32} (hPm : ∀ d, d < 30 → μ 32 0 d = P d) (hP : plOK n P) (hn : n ≤ 10) (hd : d < 30) (hnp : np ≤ 20) (hr : alRel n np μ E) (h0 : fre E np (P d) d → post 0 μ) (h1 : ¬ fre E np (P d) d → post 1 μ) : w_X4_isRefusedOn n np post (nI d) μ := by
  unfold w_X4_isRefusedOn
  rw [cl (by omega), hPm d hd]
  exact ⟨vin hd (by omega), X4_isFree (hP d hd) hn hd hnp hr (fun q => ⟨fun _ => h0 q, fun c => absurd c z10⟩) (fun q => ⟨fun c => absurd rfl c, fun _ => h1 q⟩)⟩
theorem X4_countRefused {n np t : Nat} {post : Int32 → Mem → Prop} {μ E : Mem} (he : env n np t μ E) (hp : planI n t μ E) (h : post (nI (sumN (rS E np) n)) μ) : w_X4_countRefused n np post μ := by
  obtain ⟨⟨hn, hnp, ht⟩, -, ⟨-, -, m9, -⟩, hal, -⟩ := he
  have loop : ∀ m d : Nat, d + m = 30 → l_X4_countRefused_7 n np post (m + 1) (nI (sumN (rD E np (E 8 0)) d)) (nI d) μ := by
    intro m
    induction m with
    | zero =>
      intro d hd
      have e : d = 30 := by omega
      subst e
      show lb_X4_countRefused_7 n np post _ _ _ _
      unfold lb_X4_countRefused_7
      rw [cnt_eq hn hp]
      exact ⟨fun _ => h, fun c => absurd (by decide) c⟩
    | succ m ih =>
      intro d hd
      show lb_X4_countRefused_7 n np post (l_X4_countRefused_7 n np post (m + 1)) _ _ _
      unfold lb_X4_countRefused_7 b_X4_countRefused_24
      rw [nI_s1, nI_s1]
      have ihd := ih (d + 1) (by omega)
      refine ⟨fun c1 => absurd ((le30 (k := d) (by omega)).mp c1) (by omega), fun _ => X4_isRefusedOn (E := E) hp.1 hp.2.1 hn (by omega) hnp hal (fun q => ⟨fun _ => ?_, fun c => absurd rfl c⟩) (fun q => ⟨fun c => absurd c z10, fun _ => ?_⟩)⟩
      · have e : sumN (rD E np (E 8 0)) (d + 1) = sumN (rD E np (E 8 0)) d := by
          have e1 : rD E np (E 8 0) d = 0 := ind_0 (fun w => w q)
          show sumN (rD E np (E 8 0)) d + rD E np (E 8 0) d = _
          rw [e1, Nat.add_zero]
        rw [e] at ihd
        exact ihd
      · have e : sumN (rD E np (E 8 0)) (d + 1) = sumN (rD E np (E 8 0)) d + 1 := by
          have e1 : rD E np (E 8 0) d = 1 := ind_1 q
          show sumN (rD E np (E 8 0)) d + rD E np (E 8 0) d = _
          rw [e1]
        rw [e] at ihd
        exact ihd
  have h0 : sumN (rD E np (E 8 0)) t = 0 := sumN_zero t (fun d hd => ind_0 (fun q => q (Or.inl (hp.2.2.1 d hd))))
  unfold w_X4_countRefused
  rw [m9]
  have := loop (30 - t) t (by omega)
  rw [h0] at this
  exact ⟨_, this⟩
