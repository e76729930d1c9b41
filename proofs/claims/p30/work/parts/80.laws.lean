/-! WHAT THE LAW KEEPS -/
def uvl (E : Mem) (j : Nat) : Int32 := if E 6 0 j = -1 then 0 else (1 + E 6 0 j) + 8 * E 7 0 j
/-- props age forwards -/
def fwd (n : Nat) (E : Mem) : Prop := (∀ a p, a < n → p < 5 → ¬ E 6 0 (5 * a + p) = -1 → usVal (E 6 0 (5 * a + p)) (E 7 0 (5 * a + p))) ∧ ∀ a b p, a < b → b < n → p < 5 → ¬ E 3 0 a = 2 → ¬ E 3 0 b = 2 → ¬ E 6 0 (5 * a + p) = -1 → ¬ E 6 0 (5 * b + p) = -1 → ¬ E 6 0 (5 * b + p) < E 7 0 (5 * a + p)
def LI (n np t : Nat) (E : Mem) : Prop := E 22 0 0 = nI n ∧ E 22 0 1 = nI np ∧ E 22 0 2 = nI t ∧ E 22 0 3 = E 0 0 1 ∧ (∀ a p, a < 10 → p < 5 → E 23 0 (5 * a + p) = if a < n then uvl E (5 * a + p) else 0) ∧ (∀ k, k < 20 → (E 24 0 k = 0 ↔ E 13 0 k = 0)) ∧ fwd n E ∧ ∀ a, a < n → E 3 0 a = 1 → ∃ d, d < t ∧ E 4 0 a = nI d
theorem tc0 : (0 : Int32).toNatClampNeg = 0 := rfl
theorem tc1 : (1 : Int32).toNatClampNeg = 1 := rfl
theorem tc2 : (2 : Int32).toNatClampNeg = 2 := rfl
theorem tc3 : (3 : Int32).toNatClampNeg = 3 := rfl
theorem tc4 : (4 : Int32).toNatClampNeg = 4 := rfl
theorem Jv.r22 {n np t : Nat} {E μ : Mem} (h : Jv n np t E μ) (k : Nat) : μ 22 0 k = E 22 0 k := by rw [h.2.2 22 (by omega)]
theorem Jv.r23 {n np t : Nat} {E μ : Mem} (h : Jv n np t E μ) (k : Nat) : μ 23 0 k = E 23 0 k := by rw [h.2.2 23 (by omega)]
theorem Jv.r24 {n np t : Nat} {E μ : Mem} (h : Jv n np t E μ) (k : Nat) : μ 24 0 k = E 24 0 k := by rw [h.2.2 24 (by omega)]
/-- what LI speaks of -/
theorem LI_mv {n np t : Nat} {E F : Mem} (h : LI n np t E) (h0 : F 0 0 1 = E 0 0 1) (h3 : F 3 0 = E 3 0) (h4 : ∀ a, a < n → E 3 0 a = 1 → F 4 0 a = E 4 0 a) (h6 : F 6 0 = E 6 0) (h7 : F 7 0 = E 7 0) (h13 : F 13 0 = E 13 0) (h22 : ∀ k, k < 4 → F 22 0 k = E 22 0 k) (h23 : F 23 0 = E 23 0) (h24 : F 24 0 = E 24 0) : LI n np t F := by
  obtain ⟨a0, a1, a2, a3, a4, a5, a6, a7⟩ := h
  refine ⟨by rw [h22 0 (by omega)]; exact a0, by rw [h22 1 (by omega)]; exact a1, by rw [h22 2 (by omega)]; exact a2, by rw [h22 3 (by omega), h0]; exact a3, fun a p ha hp => ?_, fun k hk => by rw [h24, h13]; exact a5 k hk, ?_, fun a ha e => ?_⟩
  · rw [h23]
    unfold uvl
    rw [h6, h7]
    exact a4 a p ha hp
  · unfold fwd
    rw [h3, h6, h7]
    exact a6
  · rw [h3] at e
    rw [h4 a ha e]
    exact a7 a ha e
theorem no_lit {x : Int32} {N K : Nat} (hx : x = nI K) (hK : N ≤ K) (h : K < 1000) : ¬ ∃ d, d < N ∧ x = nI d := by
  rintro ⟨d, hd, e⟩
  rw [hx] at e
  have := (nI_eq (by omega) (by omega)).mp e
  omega
theorem no_neg {x : Int32} {N : Nat} (hx : x < 0) (h : N ≤ 1000) : ¬ ∃ d, d < N ∧ x = nI d := by
  rintro ⟨d, hd, e⟩
  rw [e] at hx
  exact pos (by omega) hx
theorem mask_pos (x : Int32) : ¬ (x &&& 2147483647) < 0 := by
  intro h
  rw [Int32.lt_iff_toInt_lt] at h
  have e : (x &&& 2147483647).toInt = (x &&& 2147483647).toBitVec.toInt := rfl
  rw [e, Int32.toBitVec_and] at h
  have hm : (x.toBitVec &&& (2147483647 : Int32).toBitVec).msb = false := by
    rw [BitVec.msb_and]
    have : (2147483647 : Int32).toBitVec.msb = false := by decide
    rw [this, Bool.and_false]
  have := BitVec.toInt_nonneg_of_msb_false hm
  have z : (0 : Int32).toInt = 0 := rfl
  omega
theorem nI_divh {a b : Nat} (ha : a < 2 ^ 31) (hb : b < 2 ^ 31) : nI a / nI b = nI (a / b) := by
  have h1 : (nI a).toInt = (a : Int) := nI_toInt ha
  have h2 : (nI b).toInt = (b : Int) := nI_toInt hb
  have h4 : a / b ≤ a := Nat.div_le_self a b
  have h3 : (nI (a / b)).toInt = ((a / b : Nat) : Int) := nI_toInt (by omega)
  apply Int32.toInt_inj.mp
  rw [Int32.toInt_div, h1, h2, h3, ← Int.ofNat_tdiv]
  generalize a / b = x at h4
  exact Int.bmod_eq_of_le (by omega) (by omega)
theorem nI_modh {a b : Nat} (ha : a < 2 ^ 31) (hb : b < 2 ^ 31) : nI a - nI a / nI b * nI b = nI (a % b) := by
  rw [nI_divh ha hb, nI_mul, nI_sub (Nat.div_mul_le_self a b)]
  congr 1
  have := Nat.div_add_mod a b
  rw [Nat.mul_comm] at this
  generalize a / b * b = x at this ⊢
  omega
theorem s_low {n np : Nat} {P : Int32 → Mem → Prop} {a1 a2 : Int32} {μ : Mem} {m : Nat} (e : a2 = nI m) (hm : 0 < m) (h : m < 1000) (hp : ∀ k, k < m → P (nI k) μ) : w_L_low n np P a1 a2 μ := by
  subst e
  obtain ⟨x, hx, ex⟩ := nI_of (mask_pos a1)
  unfold w_L_low
  rw [ex, nI_modh hx (by omega)]
  refine ⟨fun q => ?_, hp _ (Nat.mod_lt _ hm)⟩
  have := (nI_eq (a := m) (b := 0) (by omega) (by omega)).mp q
  omega
section ATS
variable {n np t : Nat} {E μ : Mem} {P : Int32 → Mem → Prop}
theorem a_sceneOn (h : Jv n np t E μ) {d : Nat} (hd : d < 30) {a1 : Int32} (e : a1 = nI d) (hp : P (E 8 0 d) μ) : w_L_sceneOn n np P a1 μ := by
  subst e
  exact s_sceneOn h (fun d2 hd2 e => by rw [← (nI_eq (by omega) (by omega)).mp e]; exact hp) (fun q => absurd ⟨d, hd, rfl⟩ q)
theorem x_sceneOn (h : Jv n np t E μ) {a1 : Int32} (q : ¬ ∃ d, d < 30 ∧ a1 = nI d) (hp : P (-1000002) μ) : w_L_sceneOn n np P a1 μ := s_sceneOn h (fun d hd e => absurd ⟨d, hd, e⟩ q) (fun _ => hp)
theorem a_stateOf (h : Jv n np t E μ) {a : Nat} (ha : a < n) {a1 : Int32} (e : a1 = nI a) (hp : P (E 3 0 a) μ) : w_L_stateOf n np P a1 μ := by
  subst e
  have hn := h.n10
  exact s_stateOf h (fun d2 hd2 e => by rw [← (nI_eq (by omega) (by omega)).mp e]; exact hp) (fun q => absurd ⟨a, ha, rfl⟩ q)
theorem x_stateOf (h : Jv n np t E μ) {a1 : Int32} (q : ¬ ∃ d, d < n ∧ a1 = nI d) (hp : P (-1000001) μ) : w_L_stateOf n np P a1 μ := s_stateOf h (fun d hd e => absurd ⟨d, hd, e⟩ q) (fun _ => hp)
theorem a_dayOf (h : Jv n np t E μ) {a : Nat} (ha : a < n) {a1 : Int32} (e : a1 = nI a) (hp : P (if E 3 0 a = 2 then -1 else E 4 0 a) μ) : w_L_dayOf n np P a1 μ := by
  subst e
  have hn := h.n10
  exact s_dayOf h (fun d2 hd2 e => by rw [← (nI_eq (by omega) (by omega)).mp e]; exact hp) (fun q => absurd ⟨a, ha, rfl⟩ q)
theorem x_dayOf (h : Jv n np t E μ) {a1 : Int32} (q : ¬ ∃ d, d < n ∧ a1 = nI d) (hp : P (-1000001) μ) : w_L_dayOf n np P a1 μ := s_dayOf h (fun d hd e => absurd ⟨d, hd, e⟩ q) (fun _ => hp)
theorem a_isAllowed (h : Jv n np t E μ) {a d : Nat} (ha : a < n) (hd : d < 30) {a1 a2 : Int32} (e1 : a1 = nI a) (e2 : a2 = nI d) (h1 : al E np a d → P 1 μ) (h0 : ¬ al E np a d → P 0 μ) : w_L_isAllowed n np P a1 a2 μ := by
  subst e1
  subst e2
  have hn := h.n10
  refine s_isAllowed h (fun a2 d2 ha2 hd2 e1 e2 q => ?_) (fun a2 d2 ha2 hd2 e1 e2 q => ?_) (fun q => absurd ⟨a, ha, rfl⟩ q) (fun _ q => absurd ⟨d, hd, rfl⟩ q)
  · rw [← (nI_eq (by omega) (by omega)).mp e1, ← (nI_eq (by omega) (by omega)).mp e2] at q
    exact h1 q
  · rw [← (nI_eq (by omega) (by omega)).mp e1, ← (nI_eq (by omega) (by omega)).mp e2] at q
    exact h0 q
theorem x_isAllowed (h : Jv n np t E μ) {a1 a2 : Int32} (q : ¬ ∃ d, d < n ∧ a1 = nI d) (hp : P (-1000001) μ) : w_L_isAllowed n np P a1 a2 μ := s_isAllowed h (fun a _ ha _ e _ _ => absurd ⟨a, ha, e⟩ q) (fun a _ ha _ e _ _ => absurd ⟨a, ha, e⟩ q) (fun _ => hp) (fun w _ => absurd w q)
theorem a_ahead (h : Jv n np t E μ) {a p : Nat} (ha : a < n) (hp5 : p < 5) {a1 a2 : Int32} (e1 : a1 = nI a) (e2 : a2 = nI p) (hp : P (ahd E p a) μ) : w_L_ahead n np P a1 a2 μ := by
  subst e1
  subst e2
  have hn := h.n10
  exact s_ahead h (fun d2 p2 hd2 hp2 e1 e2 => by rw [← (nI_eq (by omega) (by omega)).mp e1, ← (nI_eq (by omega) (by omega)).mp e2]; exact hp) (fun q => absurd ⟨a, ha, rfl⟩ q) (fun _ q => absurd ⟨p, hp5, rfl⟩ q)
theorem x_ahead (h : Jv n np t E μ) {a1 a2 : Int32} (q : ¬ ∃ d, d < n ∧ a1 = nI d) (hp : P (-1000001) μ) : w_L_ahead n np P a1 a2 μ := s_ahead h (fun a _ ha _ e _ => absurd ⟨a, ha, e⟩ q) (fun _ => hp) (fun w _ => absurd w q)
theorem a_growth (h : Jv n np t E μ) {k : Nat} (hk : k < 5) {a1 : Int32} (e : a1 = nI k) (hp : P (E 15 0 k) μ) : w_L_growth n np P a1 μ := by
  subst e
  exact s_growth h (fun d2 hd2 e => by rw [← (nI_eq (by omega) (by omega)).mp e]; exact hp) (fun q => absurd ⟨k, hk, rfl⟩ q)
theorem x_growth (h : Jv n np t E μ) {a1 : Int32} (q : ¬ ∃ d, d < 5 ∧ a1 = nI d) (hp : P (-1000001) μ) : w_L_growth n np P a1 μ := s_growth h (fun d hd e => absurd ⟨d, hd, e⟩ q) (fun _ => hp)
theorem a_copies (h : Jv n np t E μ) {p s : Nat} (hp5 : p < 5) (hs : s < 4) {a1 a2 : Int32} (e1 : a1 = nI p) (e2 : a2 = nI s) (hp : P (E 16 0 (4 * p + s)) μ) : w_L_copies n np P a1 a2 μ := by
  subst e1
  subst e2
  exact s_copies h (fun d2 p2 hd2 hp2 e1 e2 => by rw [← (nI_eq (by omega) (by omega)).mp e1, ← (nI_eq (by omega) (by omega)).mp e2]; exact hp) (fun q => absurd ⟨p, hp5, rfl⟩ q) (fun _ q => absurd ⟨s, hs, rfl⟩ q)
theorem x_copies (h : Jv n np t E μ) {a1 a2 : Int32} (q : ¬ ∃ d, d < 5 ∧ a1 = nI d) (hp : P (-1000001) μ) : w_L_copies n np P a1 a2 μ := s_copies h (fun a _ ha _ e _ => absurd ⟨a, ha, e⟩ q) (fun _ => hp) (fun w _ => absurd w q)
theorem y_copies (h : Jv n np t E μ) {a1 a2 : Int32} (q : ∃ d, d < 5 ∧ a1 = nI d) (q2 : ¬ ∃ d, d < 4 ∧ a2 = nI d) (hp : P (-1000002) μ) : w_L_copies n np P a1 a2 μ := s_copies h (fun _ s _ hs _ e => absurd ⟨s, hs, e⟩ q2) (fun w => absurd q w) (fun _ _ => hp)
end ATS
/-! the planned scenes, by days and by scenes -/
theorem pln_eq {n t : Nat} {μ E : Mem} (hn : n ≤ 10) (h : planI n t μ E) : cnt (E 8 0) 30 = sumN (fun k => ind (E 3 0 k = 0)) n := by
  obtain ⟨h1, h2, h3, h4, h5⟩ := h
  have e1 : cnt (E 8 0) 30 = sumN (fun d => sumN (fun k => ind (E 8 0 d = nI k)) n) 30 := by
    rw [cnt_sum]
    refine sumN_congr 30 (fun d hd => ?_)
    rcases h2 d hd with e | ⟨a, ha, e⟩
    · rw [ind_0 (fun q => q e)]
      refine (sumN_zero n (fun k hk => ind_0 (fun q => ?_))).symm
      rw [e] at q
      exact nI_neg1 (by omega) q.symm
    · rw [sumN_one (i0 := a) n ha (fun k hk hne => ind_0 (fun q => hne ?_)), ind_1 e, ind_1 (by rw [e]; exact nI_neg1 (by omega))]
      rw [e] at q
      exact ((nI_eq (by omega) (by omega)).mp q).symm
  have e2 : sumN (fun k => ind (E 3 0 k = 0)) n = sumN (fun k => sumN (fun d => ind (E 8 0 d = nI k)) 30) n := by
    refine sumN_congr n (fun k hk => ?_)
    by_cases c : E 3 0 k = 0
    · obtain ⟨d, -, hd, e⟩ := h5 k hk c
      have e4 := (h4 d k hd hk e).2
      rw [sumN_one (i0 := d) 30 hd (fun d2 hd2 hne => ind_0 (fun q => hne ?_)), ind_1 c, ind_1 e]
      have e5 := (h4 d2 k hd2 hk q).2
      rw [e4] at e5
      exact ((nI_eq (by omega) (by omega)).mp e5).symm
    · rw [ind_0 c]
      exact (sumN_zero 30 (fun d hd => ind_0 (fun q => c (h4 d k hd hk q).1))).symm
  rw [e1, e2]
  exact sumN_comm (fun d k => ind (E 8 0 d = nI k)) n 30
theorem sumN_mono {g : Nat → Nat} {a : Nat} : ∀ {b : Nat}, a ≤ b → sumN g a ≤ sumN g b := by
  intro b
  induction b with
  | zero => intro h; rw [show a = 0 by omega]; exact Nat.le_refl _
  | succ b ih =>
    intro h
    show sumN g a ≤ sumN g b + g b
    by_cases c : a = b + 1
    · rw [c]; exact Nat.le_refl _
    · have := ih (by omega)
      omega
/-! a plan costs 20 at least for each scene refused -/
def isG (x : Int32) (L M : Nat) : Prop := ∃ k, L ≤ k ∧ k ≤ M ∧ x = nI k
theorem dC_low {E : Mem} {n np : Nat} {P : Nat → Int32} (hn : n ≤ 10) (hP : plOK n P) (hu : ∀ a, a < n → useOK E a) : ∀ m d : Nat, d + m ≤ 30 → ∀ (s b : Int32) (g : Nat → Int32) (c : Nat → Nat → Int32) (L M : Nat), isG s L M → isG (dC E np P m d s b g c) (L + 20 * (sumN (rD E np P) (d + m) - sumN (rD E np P) d)) (M + 80 * m) := by
  intro m
  induction m with
  | zero =>
    intro d _ s b g c L M hs
    rw [Nat.add_zero, Nat.sub_self]
    exact hs
  | succ m ih =>
    intro d hd s b g c L M hs
    have hm1 : sumN (rD E np P) d ≤ sumN (rD E np P) (d + 1) := sumN_mono (by omega)
    have hm2 : sumN (rD E np P) (d + 1) ≤ sumN (rD E np P) (d + 1 + m) := sumN_mono (by omega)
    have es : sumN (rD E np P) (d + 1) = sumN (rD E np P) d + rD E np P d := rfl
    rw [show d + (m + 1) = d + 1 + m by omega]
    unfold dC
    rcases hP d (by omega) with e | ⟨a, ha, e⟩
    · rw [if_pos e]
      have hz : rD E np P d = 0 := ind_0 (fun q => q (Or.inl e))
      obtain ⟨k, k1, k2, k3⟩ := ih (d + 1) (by omega) s b (gw g) c L M hs
      exact ⟨k, by omega, by omega, k3⟩
    · rw [if_neg (by rw [e]; exact nI_neg1 (by omega)), e, cl (by omega)]
      obtain ⟨s0, hs1, hs2, hs3⟩ := hs
      obtain ⟨x, hx, ex⟩ := isN_svS (E := E) (a := a) (b := b) (g := g) (c := c) (hu a ha)
      have hal : ∃ y, y ≤ 20 ∧ 20 * rD E np P d ≤ y ∧ alV E np a d = nI y := by
        by_cases q : al E np a d
        · refine ⟨0, by omega, ?_, alV_pos q⟩
          have hz : rD E np P d = 0 := by
            unfold rD
            rw [e]
            exact ind_0 (fun w => w ((fre_nI (by omega)).mpr q))
          omega
        · refine ⟨20, by omega, ?_, alV_neg q⟩
          have := ind_le (¬ fre E np (P d) d)
          have hz : rD E np P d ≤ 1 := this
          omega
      obtain ⟨y, hy1, hy2, ey⟩ := hal
      obtain ⟨k, k1, k2, k3⟩ := ih (d + 1) (by omega) (s + (svS E a b g c + alV E np a d)) (E 1 0 a) (gw (gAs (bds E a) g 5)) (cP E a 5 c) (s0 + (x + y)) (s0 + (x + y)) ⟨s0 + (x + y), Nat.le_refl _, Nat.le_refl _, by rw [hs3, ex, ey, nI_add, nI_add]⟩
      exact ⟨k, by omega, by omega, k3⟩
theorem cost_low {E μ : Mem} {n np t : Nat} (h : Jv n np t E μ) : ¬ costF E np t (E 8 0) < 20 * nI (sumN (rD E np (E 8 0)) 30) := by
  have ht := h.t30
  have h0 : sumN (rD E np (E 8 0)) t = 0 := sumN_zero t (fun d hd => ind_0 (fun q => q (Or.inl (h.pl.2.2.1 d hd))))
  obtain ⟨k, k1, k2, k3⟩ := dC_low (E := E) (np := np) h.n10 h.pl.2.1 h.use (30 - t) t (by omega) 0 (E 0 0 2) (E 15 0) (fun p s => E 16 0 (4 * p + s)) 0 0 ⟨0, Nat.le_refl _, Nat.le_refl _, rfl⟩
  rw [show t + (30 - t) = 30 by omega, h0] at k1
  have hle : sumN (rD E np (E 8 0)) 30 ≤ 30 := sumN_le 30 (fun i _ => ind_le _)
  unfold costF
  rw [k3, show (20 : Int32) = nI 20 from rfl, nI_mul]
  exact nI_nlt (by omega) (by omega)
/-- what is told ahead of a scene is behind no later use -/
theorem ahd_or (E : Mem) (p : Nat) : ∀ k : Nat, ahd E p k = 0 ∨ ∃ b, b < k ∧ ¬ E 3 0 b = 2 ∧ ¬ E 6 0 (5 * b + p) = -1 ∧ ahd E p k = E 7 0 (5 * b + p) := by
  intro k
  induction k with
  | zero => exact Or.inl rfl
  | succ k ih =>
    unfold ahd
    have ih' : ahd E p k = 0 ∨ ∃ b, b < k + 1 ∧ ¬ E 3 0 b = 2 ∧ ¬ E 6 0 (5 * b + p) = -1 ∧ ahd E p k = E 7 0 (5 * b + p) := ih.imp id (fun ⟨b, h1, h2⟩ => ⟨b, by omega, h2⟩)
    by_cases c1 : E 3 0 k = 2
    · rw [if_pos c1]; exact ih'
    · rw [if_neg c1]
      by_cases c2 : E 6 0 (5 * k + p) = -1
      · rw [if_pos c2]; exact ih'
      · rw [if_neg c2]
        exact Or.inr ⟨k, by omega, c1, c2, rfl⟩
theorem ahd_fwd {n : Nat} {E : Mem} (h : fwd n E) {a p : Nat} (ha : a < n) (hp : p < 5) (h3 : ¬ E 3 0 a = 2) (h6 : ¬ E 6 0 (5 * a + p) = -1) : ¬ E 6 0 (5 * a + p) < ahd E p a := by
  rcases ahd_or E p a with e | ⟨b, h1, h2, h4, e⟩
  · rw [e]
    obtain ⟨q, s, q1, q2, e1, e2⟩ := h.1 a p ha hp h6
    rw [e1]
    exact pos (by omega)
  · rw [e]
    exact h.2 b a p h1 ha hp h2 h3 h4 h6
theorem uvl_val {n : Nat} {E : Mem} (h : fwd n E) {a p : Nat} (ha : a < n) (hp : p < 5) (h6 : ¬ E 6 0 (5 * a + p) = -1) : ∃ q s, q ≤ s ∧ s < 4 ∧ E 6 0 (5 * a + p) = nI q ∧ E 7 0 (5 * a + p) = nI s ∧ uvl E (5 * a + p) = nI (1 + q + 8 * s) ∧ uvl E (5 * a + p) / 8 = nI s ∧ (uvl E (5 * a + p) - uvl E (5 * a + p) / 8 * 8) - 1 = nI q ∧ ¬ uvl E (5 * a + p) ≤ 0 := by
  obtain ⟨q, s, q1, q2, e1, e2⟩ := h.1 a p ha hp h6
  have e3 : uvl E (5 * a + p) = nI (1 + q + 8 * s) := by
    unfold uvl
    rw [if_neg h6, e1, e2, show (1 : Int32) = nI 1 from rfl, show (8 : Int32) = nI 8 from rfl, nI_add, nI_mul, nI_add]
  refine ⟨q, s, q1, q2, e1, e2, e3, ?_, ?_, ?_⟩
  · rw [e3, show (8 : Int32) = nI 8 from rfl, nI_divh (by omega) (by omega)]
    congr 1
    omega
  · rw [e3, show (8 : Int32) = nI 8 from rfl, nI_modh (by omega) (by omega), show (1 + q + 8 * s) % 8 = q + 1 by omega]
    exact nI_pred q
  · rw [e3]
    intro w
    have := (nI_leI (a := 1 + q + 8 * s) (b := 0) (by omega) (by omega)).mp w
    omega
