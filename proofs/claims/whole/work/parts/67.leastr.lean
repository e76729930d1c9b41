/-! LEAST: the reference's way -/
/-- masks of five bits -/
def mskOK (M i : Nat) : Bool := (((nI M >>> (nI i &&& 31)) &&& 1) == nI (M / 2 ^ i % 2)) && (M / 2 ^ i % 2 == 0 || ((nI M &&& (((1 : Int32) <<< (nI i &&& 31)) ^^^ (-1))) == nI (M - 2 ^ i)))
set_option maxRecDepth 100000 in
theorem msk_all : ((List.range 32).all fun M => (List.range 5).all fun i => mskOK M i) = true := by decide +kernel
theorem msk_at {M i : Nat} (hM : M < 32) (hi : i < 5) : ((nI M >>> (nI i &&& 31)) &&& 1) = nI (M / 2 ^ i % 2) ∧ (¬ M / 2 ^ i % 2 = 0 → (nI M &&& (((1 : Int32) <<< (nI i &&& 31)) ^^^ (-1))) = nI (M - 2 ^ i)) := by
  have h := msk_all
  rw [List.all_eq_true] at h
  have h2 := h M (List.mem_range.mpr hM)
  rw [List.all_eq_true] at h2
  have h3 := h2 i (List.mem_range.mpr hi)
  unfold mskOK at h3
  rw [Bool.and_eq_true] at h3
  refine ⟨by simpa using h3.1, fun c => ?_⟩
  have h4 := h3.2
  rw [Bool.or_eq_true] at h4
  rcases h4 with q | q
  · exact absurd (by simpa using q) c
  · simpa using q
theorem msk_0 {c : Nat} (hc : c ≤ 5) : ((1 : Int32) <<< (nI c &&& 31)) - 1 = nI (2 ^ c - 1) := by
  rcases (show c = 0 ∨ c = 1 ∨ c = 2 ∨ c = 3 ∨ c = 4 ∨ c = 5 by omega) with rfl | rfl | rfl | rfl | rfl | rfl <;> decide +kernel
/-- the reference's memory while it tries orders: w is what stood when it began, R the plan's row now -/
def RO (P : Nat → Int32) (w u : Mem) (R : Nat → Int32) : Prop := (∀ f, f ≠ 8 → f ≠ 17 → f ≠ 18 → f ≠ 19 → f ≠ 20 → u f = w f) ∧ (∀ i, i < cnt P 30 → u 19 0 i = nI (dyA P 30 i)) ∧ (∀ i, i < cnt P 30 → u 20 0 i = P (dyA P 30 i)) ∧ ∀ d, d < 30 → u 8 0 d = R d
theorem RO.congr {P : Nat → Int32} {w u : Mem} {R Q : Nat → Int32} (h : RO P w u R) (e : ∀ d, d < 30 → R d = Q d) : RO P w u Q := ⟨h.1, h.2.1, h.2.2.1, fun d hd => (h.2.2.2 d hd).trans (e d hd)⟩
theorem X5_planned {t : Nat} {post : Int32 → Mem → Prop} {μ : Mem} {P : Nat → Int32} (ht : t ≤ 30) (e0 : μ 0 0 0 = nI t) (hPm : ∀ d, d < 30 → μ 8 0 d = P d) (hPt : ∀ d, d < t → P d = -1) (hc : cnt P 30 ≤ 10) (hp : ∀ u, (∀ f, f ≠ 19 → f ≠ 20 → u f = μ f) → RO P μ u P → post (nI (cnt P 30)) u) : w_X5_planned post μ := by
  have loop : ∀ m d : Nat, d + m = 30 → ∀ u : Mem, (∀ f, f ≠ 19 → f ≠ 20 → u f = μ f) → (∀ i, i < cnt P d → u 19 0 i = nI (dyA P d i) ∧ u 20 0 i = P (dyA P d i)) → l_X5_planned_7 post (m + 1) (nI (cnt P d)) (nI d) u := by
    intro m
    induction m with
    | zero =>
      intro d hd u uo ul
      have e : d = 30 := by omega
      subst e
      show lb_X5_planned_7 post _ _ _ _
      unfold lb_X5_planned_7
      exact ⟨fun _ => hp u uo ⟨fun f _ _ _ a b => uo f a b, fun i hi => (ul i hi).1, fun i hi => (ul i hi).2, fun d hd => by rw [uo 8 (by omega) (by omega)]; exact hPm d hd⟩, fun c => absurd (by decide) c⟩
    | succ m ih =>
      intro d hd u uo ul
      show lb_X5_planned_7 post (l_X5_planned_7 post (m + 1)) _ _ _
      unfold lb_X5_planned_7 b_X5_planned_45
      have hcd : cnt P d ≤ cnt P 30 := cnt_mono P (by omega)
      rw [nI_s1, nI_s1, cl (k := d) (by omega), uo 8 (by omega) (by omega), hPm d (by omega), cl (by omega)]
      refine ⟨fun c => absurd ((le30 (k := d) (by omega)).mp c) (by omega), fun _ => ⟨vin (by omega) (by omega), fun hm => ?_, fun hm => ?_⟩⟩
      · have := ih (d + 1) (by omega) u uo (fun i hi => by
          rw [cnt_0 hm] at hi
          have : dyA P (d + 1) i = dyA P d i := by
            conv => lhs; unfold dyA
            rw [if_neg (fun q => q.1 hm)]
          rw [this]
          exact ul i hi)
        rw [cnt_0 hm] at this
        exact this
      · have hlt := cnt_lt (j := 30) (show d < 30 by omega) hm
        refine ⟨vin (by omega) (by omega), fun u1 e1 u2 e2 => ?_⟩
        have e8 : u1 8 0 d = P d := by rw [e1, zst_o (by omega), uo 8 (by omega) (by omega)]; exact hPm d (by omega)
        rw [e8] at e2
        have := ih (d + 1) (by omega) u2 (fun f a b => by rw [e2, zst_o b, e1, zst_o a]; exact uo f a b) (fun i hi => by
          rw [cnt_1 hm] at hi
          by_cases ci : i = cnt P d
          · have : dyA P (d + 1) i = d := by
              conv => lhs; unfold dyA
              rw [if_pos ⟨hm, ci.symm⟩]
            rw [this]
            refine ⟨?_, ?_⟩
            · rw [e2, zst_o (by omega), e1, zst_ap, if_pos ⟨rfl, rfl, ci⟩]
            · rw [e2, zst_ap, if_pos ⟨rfl, rfl, ci⟩]
          · have : dyA P (d + 1) i = dyA P d i := by
              conv => lhs; unfold dyA
              rw [if_neg (fun q => ci q.2.symm)]
            rw [this]
            obtain ⟨a, b⟩ := ul i (by omega)
            refine ⟨?_, ?_⟩
            · rw [e2, zst_o (by omega), e1, zst_ap, if_neg (fun q => ci q.2.2)]
              exact a
            · rw [e2, zst_ap, if_neg (fun q => ci q.2.2), e1, zst_o (by omega)]
              exact b)
        rw [cnt_1 hm] at this
        exact this
  unfold w_X5_planned
  rw [e0]
  have := loop (30 - t) t (by omega) μ (fun _ _ _ => rfl) (fun i hi => by rw [cnt_start hPt] at hi; exact absurd hi (Nat.not_lt_zero i))
  rw [cnt_start hPt] at this
  exact ⟨_, this⟩
/-- the pick of one place -/
theorem X5_pick {post : Mem → Prop} {k12 : Int32 → Int32 → Int32 → Mem → Prop} {c o rest M p i : Nat} {u : Mem} {P : Nat → Int32} (hM : M < 32) (hp : p < cnt P 30) (hc5 : cnt P 30 ≤ 5) (h19 : u 19 0 p = nI (dyA P 30 p)) (h20 : u 20 0 i = P (dyA P 30 i)) (hi5 : i < 5) (hk : ∀ u', u' = zst u 8 0 (dyA P 30 p) (P (dyA P 30 i)) → k12 (nI rest) (nI (M - 2 ^ i)) (nI (p + 1)) u') : ∀ (f r j : Nat), f + j = 5 → r < 1000 → pick M f r j = some i → l_X5_orders_36 post k12 (nI c) (nI o) (f + 1) (nI rest) (nI M) (nI p) (nI r) (nI j) u := by
  have hd := (dyA_ok hp).1
  intro f
  induction f with
  | zero =>
    intro r j _ _ h
    unfold pick at h
    cases h
  | succ f ih =>
    intro r j hj hr h
    have hj5 : j < 5 := by omega
    obtain ⟨m1, m2⟩ := msk_at hM hj5
    show lb_X5_orders_36 post k12 (l_X5_orders_36 post k12 (nI c) (nI o) (f + 1)) _ _ _ _ _ _ _ _
    unfold lb_X5_orders_36 b_X5_orders_51
    unfold pick at h
    rw [m1, nI_s1, nI_s1]
    by_cases cb : M / 2 ^ j % 2 = 0
    · rw [if_pos cb] at h
      rw [cb]
      refine ⟨fun _ => ?_, fun q => absurd rfl q⟩
      rw [show nI r - nI 0 = nI r from nI_sub (Nat.zero_le r)]
      exact ih r (j + 1) (by omega) hr h
    · rw [if_neg cb] at h
      have c1 : M / 2 ^ j % 2 = 1 := by omega
      rw [m2 cb, c1]
      refine ⟨fun q => absurd q z10, fun _ => ⟨fun q => ?_, fun q => ?_⟩⟩
      · have hr0 : r = 0 := by
          have := (nI_leI (a := r) (b := 0) (by omega) (by omega)).mp q
          omega
        rw [if_pos hr0] at h
        cases h
        rw [cl (by omega), cl (by omega), h19, h20, cl (by omega)]
        exact ⟨vin (by omega) (by omega), vin (by omega) (by omega), vin hd (by omega), fun u' e => hk u' e⟩
      · have hr0 : ¬ r = 0 := fun w => q ((nI_leI (a := r) (b := 0) (by omega) (by omega)).mpr (by omega))
        rw [if_neg hr0] at h
        rw [show nI r - nI 1 = nI (r - 1) from nI_sub (by omega)]
        exact ih (r - 1) (j + 1) (by omega) (by omega) h
theorem pick_lt {M : Nat} : ∀ (f r j i : Nat), pick M f r j = some i → i < j + f := by
  intro f
  induction f with
  | zero => intro r j i h; unfold pick at h; cases h
  | succ f ih =>
    intro r j i h
    unfold pick at h
    by_cases cb : M / 2 ^ j % 2 = 0
    · rw [if_pos cb] at h
      have := ih r (j + 1) i h
      omega
    · rw [if_neg cb] at h
      by_cases hr : r = 0
      · rw [if_pos hr] at h
        cases h
        omega
      · rw [if_neg hr] at h
        have := ih (r - 1) (j + 1) i h
        omega
theorem X5_orders {o : Nat} {post : Mem → Prop} {w u0 : Mem} {P R : Nat → Int32} (h0 : RO P w u0 R) (hR : ∀ d, d < 30 → P d = -1 → R d = -1) (hc : cnt P 30 ≤ 5) (ho : o < fct (cnt P 30)) (hp : ∀ u, RO P w u (planQ P (lehq (cnt P 30) o)) → post u) : w_X5_orders post (nI (cnt P 30)) (nI o) u0 := by
  have hok := leh_ok hc ho
  have hf := fct_le hc
  have loop : ∀ b p : Nat, p + b = cnt P 30 → ∀ (code M : Nat) (q : Nat → Nat) (u : Mem), code < 1000 → M < 32 → (leh b code M).length = b → (∀ x, x ∈ leh b code M → x < cnt P 30) → (∀ k, k < b → q (p + k) = (leh b code M).getD k 0) → (∀ f, f ≠ 8 → f ≠ 17 → f ≠ 18 → f ≠ 19 → f ≠ 20 → u f = w f) → (∀ i, i < cnt P 30 → u 19 0 i = nI (dyA P 30 i)) → (∀ i, i < cnt P 30 → u 20 0 i = P (dyA P 30 i)) → (∀ d, d < 30 → P d = -1 → u 8 0 d = -1) → (∀ d, d < 30 → ¬ P d = -1 → cnt P d < p → u 8 0 d = P (dyA P 30 (q (cnt P d)))) → (∀ u, RO P w u (planQ P q) → post u) → l_X5_orders_12 post (nI (cnt P 30)) (nI o) (b + 1) (nI code) (nI M) (nI p) u := by
    intro b
    induction b with
    | zero =>
      intro p hp code M q u _ _ _ _ _ uo u19 u20 ue up hpost
      have e : p = cnt P 30 := by omega
      subst e
      show lb_X5_orders_12 post _ _ _ _ _ _ _
      unfold lb_X5_orders_12
      refine ⟨fun _ => hpost u ⟨uo, u19, u20, fun d hd => ?_⟩, fun c => absurd (Int32.le_refl _) c⟩
      by_cases c : P d = -1
      · rw [ue d hd c, planQ_no c]
      · rw [planQ_of c]
        exact up d hd c (cnt_lt hd c)
    | succ b ih =>
      intro p hp code M q u hcode hM hlen hall hq uo u19 u20 ue up hpost
      show lb_X5_orders_12 post (l_X5_orders_12 post (nI (cnt P 30)) (nI o) (b + 1)) _ _ _ _ _ _
      unfold lb_X5_orders_12
      have eb : nI (cnt P 30) - nI p = nI (b + 1) := by
        rw [nI_sub (by omega)]
        congr 1
        omega
      have hdv : code / (b + 1) ≤ code := Nat.div_le_self code (b + 1)
      have hmd : code % (b + 1) ≤ code := Nat.mod_le code (b + 1)
      rw [eb, nI_modg (by omega) (by omega), nI_divg (by omega) (by omega)]
      unfold leh at hlen hall hq
      cases hpk : pick M 5 (code % (b + 1)) 0 with
      | none =>
        rw [hpk] at hlen
        exact absurd hlen (by simp)
      | some i =>
        rw [hpk] at hlen hall hq
        have hlen2 : (leh b (code / (b + 1)) (M - 2 ^ i)).length = b := by simpa using hlen
        have hi : i < cnt P 30 := hall i (by simp)
        have hall2 : ∀ x, x ∈ leh b (code / (b + 1)) (M - 2 ^ i) → x < cnt P 30 := fun x hx => hall x (by simp [hx])
        have hpc : p < cnt P 30 := by omega
        have hqp : q p = i := by
          have := hq 0 (by omega)
          simpa using this
        refine ⟨fun c => absurd ((nI_leI (by omega) (by omega)).mp c) (by omega), fun _ => ⟨fun c => ?_, 5 + 1, X5_pick (P := P) hM hpc hc (u19 p hpc) (u20 i hi) (by omega) (fun u' e => ?_) 5 (code % (b + 1)) 0 rfl (by omega) hpk⟩⟩
        · have := (nI_eq (a := b + 1) (b := 0) (by omega) (by omega)).mp c
          omega
        · obtain ⟨d1, d2, d3⟩ := dyA_ok hpc
          refine ih (p + 1) (by omega) (code / (b + 1)) (M - 2 ^ i) q u' (by omega) (Nat.lt_of_le_of_lt (Nat.sub_le M (2 ^ i)) hM) hlen2 hall2 (fun k hk => ?_) (fun f a1 a2 a3 a4 a5 => by rw [e, zst_o a1]; exact uo f a1 a2 a3 a4 a5) (fun k hk => by rw [e, zst_o (by omega)]; exact u19 k hk) (fun k hk => by rw [e, zst_o (by omega)]; exact u20 k hk) (fun d hd c => ?_) (fun d hd c hlt => ?_) hpost
          · have := hq (k + 1) (by omega)
            rw [show p + (k + 1) = p + 1 + k by omega] at this
            rw [this]
            simp
          · rw [e, zst_ap, if_neg (fun w => d2 (by rw [← w.2.2]; exact c))]
            exact ue d hd c
          · rw [e, zst_ap]
            by_cases h : d = dyA P 30 p
            · rw [if_pos ⟨rfl, rfl, h⟩, h, d3, hqp]
            · rw [if_neg (fun w => h w.2.2)]
              refine up d hd c ?_
              rcases Nat.lt_or_ge (cnt P d) p with y | y
              · exact y
              · refine absurd ?_ h
                rw [show p = cnt P d by omega]
                exact (dyA_of hd c).symm
  obtain ⟨r1, r2, r3, r4⟩ := h0
  unfold w_X5_orders
  rw [msk_0 hc]
  have hM : 2 ^ cnt P 30 - 1 < 32 := by
    generalize cnt P 30 = c at hc
    rcases (show c = 0 ∨ c = 1 ∨ c = 2 ∨ c = 3 ∨ c = 4 ∨ c = 5 by omega) with rfl | rfl | rfl | rfl | rfl | rfl <;> decide
  refine ⟨cnt P 30 + 1, loop (cnt P 30) 0 (by omega) o (2 ^ cnt P 30 - 1) (lehq (cnt P 30) o) u0 (by omega) hM hok.1 hok.2 (fun k hk => ?_) r1 r2 r3 (fun d hd c => by rw [r4 d hd]; exact hR d hd c) (fun d hd c q => absurd q (Nat.not_lt_zero _)) hp⟩
  rw [Nat.zero_add]
  rfl
theorem RO.costs {n np t : Nat} {C w u : Mem} {P R : Nat → Int32} {post : Int32 → Mem → Prop} (h : RO P w u R) (he : env n np t C w) (hR : plOK n R) (hp : ∀ u', RO P w u' R → post (costF w np t R) u') : w_X5_costs post u := by
  obtain ⟨⟨hn, hnp, ht⟩, ⟨e0, -, e12⟩, -, -, -, -, -, hsc, -, -⟩ := id he
  obtain ⟨r1, r2, r3, r4⟩ := id h
  have uw : ∀ f, f ≤ 16 → f ≠ 8 → u f = w f := fun f a b => r1 f b (by omega) (by omega) (by omega) (by omega)
  refine X5_costs hn hnp ht (by rw [uw 0 (by omega) (by omega)]; exact e0) (by rw [uw 0 (by omega) (by omega)]; exact e12) (fun d hd => by rw [r4 d hd]; exact hR d hd) (fun a ha => useOK_of (by rw [uw 6 (by omega) (by omega)]) (by rw [uw 7 (by omega) (by omega)]) (hsc a ha).2.2.2.2) (fun g hh => ?_)
  have e : costF u np t (u 8 0) = costF w np t R := by
    rw [costF_congr r4]
    exact costF_of (by rw [uw 0 (by omega) (by omega)]) (fun f _ b q8 _ _ => by rw [uw f b q8])
  rw [e]
  refine hp _ ⟨fun f a1 a2 a3 a4 a5 => ?_, fun i hi => ?_, fun i hi => ?_, fun d hd => ?_⟩
  · rw [← r1 f a1 a2 a3 a4 a5]
    funext i
    exact wrk_o u g hh i a2 a3
  · rw [wrk_o u g hh 0 (by omega) (by omega)]; exact r2 i hi
  · rw [wrk_o u g hh 0 (by omega) (by omega)]; exact r3 i hi
  · rw [wrk_o u g hh 0 (by omega) (by omega)]; exact r4 d hd
theorem X5_leastGo {n np t : Nat} {C w u0 : Mem} {P : Nat → Int32} {post : Int32 → Mem → Prop} (h0 : RO P w u0 P) (he : env n np t C w) (hP : plOK n P) (hc : cnt P 30 ≤ 5) (hp : ∀ u, RO P w u P → post (mnf (fun o => costF w np t (planQ P (lehq (cnt P 30) o))) (costF w np t P) (fct (cnt P 30))) u) : ∃ fuel : Nat, l_X5_least_30 post fuel (nI (cnt P 30)) (1 : Int32) (2 : Int32) u0 := by
  have hf := fct_le hc
  generalize hF : (fun o => costF w np t (planQ P (lehq (cnt P 30) o))) = F at hp
  generalize hi0 : costF w np t P = i0 at hp
  -- the plan is put back
  have rest : ∀ (v : Int32), (∀ u, RO P w u P → post v u) → ∀ R u, (∀ d, d < 30 → P d = -1 → R d = -1) → RO P w u R → ∃ fuel : Nat, l_X5_least_94 post fuel (nI (cnt P 30)) v (0 : Int32) u := by
    intro v hpost R u hR h
    have loop : ∀ m i : Nat, i + m = cnt P 30 → ∀ u : Mem, (∀ f, f ≠ 8 → f ≠ 17 → f ≠ 18 → f ≠ 19 → f ≠ 20 → u f = w f) → (∀ i, i < cnt P 30 → u 19 0 i = nI (dyA P 30 i)) → (∀ i, i < cnt P 30 → u 20 0 i = P (dyA P 30 i)) → (∀ d, d < 30 → P d = -1 → u 8 0 d = -1) → (∀ d, d < 30 → ¬ P d = -1 → cnt P d < i → u 8 0 d = P d) → l_X5_least_94 post (m + 1) (nI (cnt P 30)) v (nI i) u := by
      intro m
      induction m with
      | zero =>
        intro i hi u uo u19 u20 ue up
        have e : i = cnt P 30 := by omega
        subst e
        show lb_X5_least_94 post _ _ _ _ _
        unfold lb_X5_least_94
        refine ⟨fun _ => hpost u ⟨uo, u19, u20, fun d hd => ?_⟩, fun c => absurd (Int32.le_refl _) c⟩
        by_cases c : P d = -1
        · rw [ue d hd c, c]
        · exact up d hd c (cnt_lt hd c)
      | succ m ih =>
        intro i hi u uo u19 u20 ue up
        show lb_X5_least_94 post (l_X5_least_94 post (m + 1)) _ _ _ _
        unfold lb_X5_least_94
        have hi2 : i < cnt P 30 := by omega
        obtain ⟨d1, d2, d3⟩ := dyA_ok hi2
        rw [nI_s1, cl (by omega), u19 i hi2, u20 i hi2, cl (by omega)]
        refine ⟨fun q => absurd ((nI_leI (by omega) (by omega)).mp q) (by omega), fun _ => ⟨vin (by omega) (by omega), vin d1 (by omega), fun u1 e1 => ih (i + 1) (by omega) u1 (fun f a1 a2 a3 a4 a5 => by rw [e1, zst_o a1]; exact uo f a1 a2 a3 a4 a5) (fun k hk => by rw [e1, zst_o (by omega)]; exact u19 k hk) (fun k hk => by rw [e1, zst_o (by omega)]; exact u20 k hk) (fun d hd c => ?_) (fun d hd c ci => ?_)⟩⟩
        · rw [e1, zst_ap, if_neg (fun q => d2 (by rw [← q.2.2]; exact c))]
          exact ue d hd c
        · rw [e1, zst_ap]
          by_cases h : d = dyA P 30 i
          · rw [if_pos ⟨rfl, rfl, h⟩, h]
          · rw [if_neg (fun q => h q.2.2)]
            refine up d hd c ?_
            rcases Nat.lt_or_ge (cnt P d) i with q | q
            · exact q
            · refine absurd ?_ h
              rw [show i = cnt P d by omega]
              exact (dyA_of hd c).symm
    exact ⟨cnt P 30 + 1, loop (cnt P 30) 0 (by omega) u h.1 h.2.1 h.2.2.1 (fun d hd c => by rw [h.2.2.2 d hd]; exact hR d hd c) (fun d hd c q => absurd q (Nat.not_lt_zero _))⟩
  -- all orders
  have all : ∀ m o : Nat, o + m = fct (cnt P 30) → ∀ R u, (∀ d, d < 30 → P d = -1 → R d = -1) → RO P w u R → l_X5_least_53 post (m + 1) (nI (cnt P 30)) (nI (fct (cnt P 30))) (mnf F i0 o) (nI o) u := by
    intro m
    induction m with
    | zero =>
      intro o ho R u hR h
      have e : o = fct (cnt P 30) := by omega
      subst e
      show lb_X5_least_53 post _ _ _ _ _ _
      unfold lb_X5_least_53
      exact ⟨fun _ => rest _ hp R u hR h, fun q => absurd (Int32.le_refl _) q⟩
    | succ m ih =>
      intro o ho R u hR h
      show lb_X5_least_53 post (l_X5_least_53 post (m + 1)) _ _ _ _ _
      unfold lb_X5_least_53 b_X5_least_84
      rw [nI_s1]
      refine ⟨fun q => absurd ((nI_leI (by omega) (by omega)).mp q) (by omega), fun _ => X5_orders h hR hc (by omega) (fun u1 h1 => h1.costs he (planQ_ok hP) (fun u2 h2 => ?_))⟩
      have key : ∀ x, x = zmin (mnf F i0 o) (costF w np t (planQ P (lehq (cnt P 30) o))) → l_X5_least_53 post (m + 1) (nI (cnt P 30)) (nI (fct (cnt P 30))) x (nI (o + 1)) u2 := by
        intro x ex
        have e : x = mnf F i0 (o + 1) := by
          rw [ex, ← hF]
          rfl
        rw [e]
        exact ih (o + 1) (by omega) _ u2 (fun d _ c => planQ_no c) h2
      exact ⟨fun c => key _ (zmin_1 c).symm, fun c => key _ (zmin_2 c).symm⟩
  -- how many there are
  have cntl : ∀ m k : Nat, 1 ≤ k → k + m = cnt P 30 → l_X5_least_30 post (m + 1) (nI (cnt P 30)) (nI (fct k)) (nI (k + 1)) u0 := by
    intro m
    induction m with
    | zero =>
      intro k hk e
      have e2 : k = cnt P 30 := by omega
      show lb_X5_least_30 post _ _ _ _ _
      unfold lb_X5_least_30
      refine ⟨fun _ => h0.costs he hP (fun u h => ⟨fct (cnt P 30) + 1, ?_⟩), fun q => absurd (nI_lt (by omega) (by omega)) q⟩
      rw [e2, hi0]
      exact all (fct (cnt P 30)) 0 (by omega) P u (fun _ _ c => c) h
    | succ m ih =>
      intro k hk e
      show lb_X5_least_30 post (l_X5_least_30 post (m + 1)) _ _ _ _
      unfold lb_X5_least_30
      rw [nI_mul, nI_s1]
      refine ⟨fun q => absurd ((nI_ltI (by omega) (by omega)).mp q) (by omega), fun _ => ?_⟩
      have := ih (k + 1) (by omega) (by omega)
      rw [show fct (k + 1) = fct k * (k + 1) from Nat.mul_comm (k + 1) (fct k)] at this
      exact this
  rcases Nat.eq_zero_or_pos (cnt P 30) with e | e
  · refine ⟨1, ?_⟩
    show lb_X5_least_30 post _ _ _ _ _
    unfold lb_X5_least_30
    refine ⟨fun _ => h0.costs he hP (fun u h => ⟨fct (cnt P 30) + 1, ?_⟩), fun q => absurd ?_ q⟩
    · have := all (fct (cnt P 30)) 0 (by omega) P u (fun _ _ c => c) h
      rw [hi0]
      rw [show nI (fct (cnt P 30)) = 1 by rw [e]; rfl] at this
      exact this
    · rw [e]; decide
  · exact ⟨cnt P 30 - 1 + 1, cntl (cnt P 30 - 1) 1 (by omega) (by omega)⟩
theorem planI_pt {n t : Nat} {μ E u F : Mem} (h : planI n t μ E) (h32 : ∀ d, d < 30 → u 32 0 d = E 8 0 d) (h8 : ∀ d, d < 30 → F 8 0 d = E 8 0 d) (ht : t ≤ 30) (h3 : F 3 0 = E 3 0) (h4 : F 4 0 = E 4 0) : planI n t u F := by
  obtain ⟨p1, p2, p3, p4, p5⟩ := h
  refine ⟨fun d hd => by rw [h32 d hd, h8 d hd], fun d hd => by rw [h8 d hd]; exact p2 d hd, fun d hd => by rw [h8 d (by omega)]; exact p3 d hd, fun d a hd ha e => ?_, fun a ha e => ?_⟩
  · rw [h8 d hd] at e
    rw [h3, h4]
    exact p4 d a hd ha e
  · rw [h3] at e
    obtain ⟨d, d1, d2, d3⟩ := p5 a ha e
    exact ⟨d, d1, d2, by rw [h8 d d2]; exact d3⟩
theorem o_least : ob_least Inv := by
  intro n np μ hI
  obtain ⟨t, he, hpl⟩ := id hI
  obtain ⟨⟨hn, hnp, ht⟩, ⟨e0, e3, e12⟩, -⟩ := id he
  have hJ := plJ_of hn hpl
  have hc10 := cnt_le hn hJ
  have hPm : ∀ w, rsame μ w → ∀ d, d < 30 → w 8 0 d = μ 8 0 d := fun w r d _ => by rw [r.2 8 (by omega) (by omega)]
  unfold w_L_least
  refine X4_least he hpl (fun hc u hu => ?_) (fun hc u hu => ⟨rfl, ?_⟩)
  · generalize hv : mnf (fun o => costF μ np t (planQ (μ 8 0) (fyq (cnt (μ 8 0) 30) o (fun i => i)))) (costF μ np t (μ 8 0)) (fct (cnt (μ 8 0) 30)) = val
    show w_X5_least (fun (b : Int32) (u2 : Mem) => w_X5_thrown (oT Inv n np 0 b) u2) (zst u 21 0 0 val)
    generalize hw : zst u 21 0 0 val = w
    have r1 : rsame μ w := by rw [← hw]; exact rsame.trans hu.rs (same_21 _ 0 _).r
    have c1 : csame u w := by rw [← hw]; exact csame_st u (by omega) 0 0 _
    unfold w_X5_least b_X5_least_16
    refine X5_planned (P := μ 8 0) ht ((r1.1 0 (by omega)).trans e0) (hPm w r1) hpl.2.2.1 (by omega) (fun u1 uo1 h1 => ⟨fun c => absurd ((nI_ltI (a := 5) (by omega) (by omega)).mp c) (by omega), fun _ => X5_goes0 rfl rfl rfl ⟨fun _ => ?_, fun c => absurd c z10⟩⟩)
    -- from here on the reference's world is w1
    obtain ⟨w1, ew1⟩ : ∃ z, z = zst w 0 0 25 0 := ⟨_, rfl⟩
    have rw1 : rsame μ w1 := by rw [ew1]; exact rsame.trans r1 (same_25 w 0).r
    have cw1 : csame u w1 := by rw [ew1]; exact csame.trans c1 (same_25 w 0).c
    have he1 : env n np t u w1 := env_mv hu.2.1 (csame.rf u) rw1
    have h2 : RO (μ 8 0) w1 (zst u1 0 0 25 0) (μ 8 0) := by
      refine ⟨fun f a1 a2 a3 a4 a5 => ?_, fun i hi => by rw [zst_o (by omega)]; exact h1.2.1 i hi, fun i hi => by rw [zst_o (by omega)]; exact h1.2.2.1 i hi, fun d hd => by rw [zst_o (by omega)]; exact h1.2.2.2 d hd⟩
      rw [ew1]
      by_cases hf0 : f = 0
      · subst hf0
        funext i k
        rw [zst_ap, zst_ap, uo1 0 (by omega) (by omega)]
      · rw [zst_o hf0, zst_o hf0]
        exact h1.1 f a1 a2 a3 a4 a5
    refine X5_leastGo h2 he1 hJ.1 hc (fun v hvv => ?_)
    have ecost : ∀ Q, costF w1 np t Q = costF μ np t Q := fun Q => costF_of (rw1.1 2 (by omega)) (fun f a b _ _ _ => rw1.2 f a b)
    have ev : mnf (fun o => costF w1 np t (planQ (μ 8 0) (lehq (cnt (μ 8 0) 30) o))) (costF w1 np t (μ 8 0)) (fct (cnt (μ 8 0) 30)) = val := by
      rw [← hv, least_eq hc, ecost]
      congr 1
      funext o
      exact ecost _
    rw [ev]
    obtain ⟨v1, v2, v3, v4⟩ := hvv
    have vf : ∀ f, f ≠ 0 → 1 ≤ f → f ≤ 16 → f ≠ 8 → v f 0 = μ f 0 := fun f _ a b c => by rw [v1 f c (by omega) (by omega) (by omega) (by omega)]; exact rw1.2 f a b
    have v0 : ∀ k, k ≠ 25 → v 0 0 k = μ 0 0 k := fun k hk => by rw [v1 0 (by omega) (by omega) (by omega) (by omega) (by omega)]; exact rw1.1 k hk
    have cv : csame u v := by
      have q : ∀ f, 30 ≤ f → v f = w1 f := fun f hf => v1 f (by omega) (by omega) (by omega) (by omega) (by omega)
      refine csame.trans cw1 ⟨fun f hf => q f (by omega), by rw [q 42 (by omega)], fun j _ => by rw [q 43 (by omega)], by rw [q 40 (by omega)]⟩
    have hE : env n np t v v := env_mv (env_plan hu.2.1 (fun _ _ => rfl) v0 (fun f a b c _ => vf f (by omega) a b c) (fun a _ _ => by rw [vf 4 (by omega) (by omega) (by omega) (by omega)])) cv (rsame.rf v)
    have hP : planI n t v v := planI_mv (planI_pt (u := u) (F := v) hpl hu.2.2.1 v4 ht (vf 3 (by omega) (by omega) (by omega) (by omega)) (vf 4 (by omega) (by omega) (by omega) (by omega))) cv (rsame.rf v)
    refine ⟨?_, fun _ => ?_, t, hE, hP⟩
    · rw [v1 0 (by omega) (by omega) (by omega) (by omega) (by omega), ew1, at_25]
    · rw [v1 21 (by omega) (by omega) (by omega) (by omega) (by omega), ew1, zst_o (by omega), ← hw, at_21]
  · show w_X5_least (fun (b : Int32) (u2 : Mem) => w_X5_thrown (oT Inv n np 1 b) u2) u
    have hIu : Inv n np u := ⟨t, env_mv hu.2.1 (csame.rf u) hu.rs, planI_mv (planI_pt (u := u) (F := μ) hpl hu.2.2.1 (fun _ _ => rfl) ht rfl rfl) (csame.rf u) hu.rs⟩
    unfold w_X5_least b_X5_least_16
    refine X5_planned (P := μ 8 0) ht ((hu.rs.1 0 (by omega)).trans e0) (hPm u hu.rs) hpl.2.2.1 (by omega) (fun u1 uo1 _ => ⟨fun _ => X5_goes1 rfl ⟨fun c => absurd rfl c, fun _ => oT_k k1 (Inv_same hIu ⟨fun k _ => by rw [uo1 0 (by omega) (by omega)], fun f _ b => by rw [uo1 f (by omega) (by omega)], fun f hf => uo1 f (by omega) (by omega), by rw [uo1 42 (by omega) (by omega)], fun j _ => by rw [uo1 43 (by omega) (by omega)], by rw [uo1 40 (by omega) (by omega)]⟩)⟩, fun c => absurd ((nI_ltI (a := 5) (by omega) (by omega)).mpr hc) c⟩)
