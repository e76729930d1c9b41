/-! LEAST: the class's way -/
theorem env_62 {n np t : Nat} {μ E u : Mem} (h : env n np t μ E) (hu : ∀ f, f ≠ 60 → f ≠ 61 → f ≠ 62 → u f = μ f) (hz : zval n 10 (u 62 0)) : env n np t u E := by
  obtain ⟨b, es, ms, hal, hst, hg, hsk, hsc, htold, -, hrev⟩ := h
  have hu' : ∀ f, (f = 30 ∨ f = 31 ∨ f = 33 ∨ f = 34 ∨ f = 40 ∨ f = 42 ∨ f = 43 ∨ f = 70 ∨ f = 71 ∨ f = 72 ∨ f = 73 ∨ f = 80) → u f = μ f := fun f hf => hu f (by omega) (by omega) (by omega)
  refine ⟨b, es, by rw [hu' 30 (by omega)]; exact ms, alRel_of (fun f hf => hu' f (by omega)) hal, stRel_mv hst (by rw [hu' 42 (by omega)]) (fun p _ => by rw [hu' 43 (by omega)]) (by rw [hu' 40 (by omega)]) ⟨rfl, rfl, rfl⟩, hg, hsk, scOK_mv hsc (hu' 70 (by omega)) (fun _ _ => rfl), by rw [hu' 31 (by omega)]; exact htold, hz, hrev⟩
theorem CP.congr {n np t : Nat} {E u : Mem} {P Q : Nat → Int32} (h : CP n np t E u P) (e : ∀ d, d < 30 → P d = Q d) : CP n np t E u Q := by
  obtain ⟨h1, h2, h3, h4, h5⟩ := h
  refine ⟨h1, h2, fun d hd => (h3 d hd).trans (e d hd), fun d hd => ?_, fun i j hi hj q => ?_⟩
  · rw [← e d hd]; exact h4 d hd
  · rw [← e i hi, ← e j hj] at q
    rw [← e i hi]
    exact h5 i j hi hj q
/-- what the class noted of the plan -/
def OF (u : Mem) (P : Nat → Int32) : Prop := u 60 0 2 = nI (cnt P 30) ∧ (∀ i, i < cnt P 30 → u 61 0 i = nI (dyA P 30 i)) ∧ ∀ i, i < cnt P 30 → u 62 0 i = P (dyA P 30 i)
theorem OF.mv {u w : Mem} {P : Nat → Int32} (h : OF u P) (h0 : w 60 = u 60) (h1 : w 61 = u 61) (h2 : w 62 = u 62) : OF w P := by
  unfold OF
  rw [h0, h1, h2]
  exact h
theorem le5' {k : Nat} (h : k < 1000) : nI k ≤ (5 : Int32) ↔ k ≤ 5 := nI_leI (b := 5) (by omega) (by omega)
theorem X0_note {n np : Nat} {post : Mem → Prop} {μ : Mem} {P : Nat → Int32} (hn : n ≤ 10) (hP : plJ n P) (hPm : ∀ d, d < 30 → μ 32 0 d = P d) (hz : zval n 10 (μ 62 0)) (hp : ∀ u : Mem, (∀ f, f ≠ 60 → f ≠ 61 → f ≠ 62 → u f = μ f) → u 60 0 2 = nI (cnt P 30) → (cnt P 30 ≤ 5 → OF u P) → zval n 10 (u 62 0) → post u) : w_X0_note n np post μ := by
  have hc := cnt_le hn hP
  have val : ∀ d, d < 30 → ¬ P d < 0 → (P d).toNatClampNeg < n := by
    intro d hd c
    rcases hP.1 d hd with e | ⟨a, ha, e⟩
    · exact absurd (by rw [e]; exact neg1) c
    · rw [e, cl (by omega)]; exact ha
  have loop : ∀ m d : Nat, d + m = 30 → ∀ u : Mem, (∀ f, f ≠ 60 → f ≠ 61 → f ≠ 62 → u f = μ f) → u 60 0 2 = nI (cnt P d) → (∀ i, i < cnt P d → u 61 0 i = nI (dyA P d i) ∧ u 62 0 i = P (dyA P d i)) → zval n 10 (u 62 0) → l_X0_note_7 n np post (m + 1) (nI d) u := by
    intro m
    induction m with
    | zero =>
      intro d hd u uo u60 ul uz
      have e : d = 30 := by omega
      subst e
      show lb_X0_note_7 n np post _ _ _
      unfold lb_X0_note_7
      exact ⟨fun _ => hp u uo u60 (fun _ => ⟨u60, fun i hi => (ul i hi).1, fun i hi => (ul i hi).2⟩) uz, fun c => absurd (by decide) c⟩
    | succ m ih =>
      intro d hd u uo u60 ul uz
      have hcd : cnt P d ≤ cnt P 30 := cnt_mono P (by omega)
      show lb_X0_note_7 n np post (l_X0_note_7 n np post (m + 1)) _ _
      unfold lb_X0_note_7 b_X0_note_60
      rw [nI_s1, cl (k := d) (by omega), u60, uo 32 (by omega) (by omega) (by omega), hPm d (by omega), cl (by omega)]
      refine ⟨fun c => absurd ((le30 (k := d) (by omega)).mp c) (by omega), fun _ => ⟨fun c => ?_, fun c10 => ⟨vin (by omega) (by omega), fun c => ?_, fun c => ?_⟩⟩⟩
      · have h10 : 10 ≤ cnt P d := (le10 (by omega)).mp c
        exact hp u uo (by rw [u60]; congr 1; omega) (fun q => by omega) uz
      · have hm : P d = -1 := by
          rcases hP.1 d (by omega) with e | ⟨b, hb, e⟩
          · exact e
          · rw [e] at c
            exact absurd c (pos (by omega))
        refine ih (d + 1) (by omega) u uo (by rw [cnt_0 hm]; exact u60) (fun i hi => ?_) uz
        rw [cnt_0 hm] at hi
        have : dyA P (d + 1) i = dyA P d i := by
          conv => lhs; unfold dyA
          rw [if_neg (fun q => q.1 hm)]
        rw [this]
        exact ul i hi
      · have hm : ¬ P d = -1 := fun q => c (by rw [q]; exact neg1)
        have h10 : cnt P d < 10 := by
          rcases Nat.lt_or_ge (cnt P d) 10 with q | q
          · exact q
          · exact absurd ((le10 (by omega)).mpr q) c10
        refine ⟨vin h10 (by omega), fun u1 e1 => ?_⟩
        have e60 : u1 60 0 2 = nI (cnt P d) := by rw [e1, zst_o (by omega)]; exact u60
        have e32 : u1 32 0 d = P d := by rw [e1, zst_o (by omega), uo 32 (by omega) (by omega) (by omega)]; exact hPm d (by omega)
        rw [e60, e32, cl (by omega)]
        refine ⟨vin h10 (by omega), fun q => val d (by omega) q, fun u2 e2 u3 e3 => ?_⟩
        have e60b : u2 60 0 2 = nI (cnt P d) := by rw [e2, zst_o (by omega)]; exact e60
        rw [e60b, nI_s1] at e3
        refine ih (d + 1) (by omega) u3 (fun f q1 q2 q3 => ?_) ?_ (fun i hi => ?_) (fun k hk => ?_)
        · rw [e3, zst_o q1, e2, zst_o q3, e1, zst_o q2]
          exact uo f q1 q2 q3
        · rw [e3, zst_ap, if_pos ⟨rfl, rfl, rfl⟩, cnt_1 hm]
        · rw [cnt_1 hm] at hi
          by_cases ci : i = cnt P d
          · have : dyA P (d + 1) i = d := by
              conv => lhs; unfold dyA
              rw [if_pos ⟨hm, ci.symm⟩]
            rw [this]
            refine ⟨?_, ?_⟩
            · rw [e3, zst_o (by omega), e2, zst_o (by omega), e1, zst_ap, if_pos ⟨rfl, rfl, ci⟩]
            · rw [e3, zst_o (by omega), e2, zst_ap, if_pos ⟨rfl, rfl, ci⟩]
          · have : dyA P (d + 1) i = dyA P d i := by
              conv => lhs; unfold dyA
              rw [if_neg (fun q => ci q.2.symm)]
            rw [this]
            obtain ⟨a, b⟩ := ul i (by omega)
            refine ⟨?_, ?_⟩
            · rw [e3, zst_o (by omega), e2, zst_o (by omega), e1, zst_ap, if_neg (fun q => ci q.2.2)]
              exact a
            · rw [e3, zst_o (by omega), e2, zst_ap, if_neg (fun q => ci q.2.2), e1, zst_o (by omega)]
              exact b
        · have e62 : u3 62 0 k = if k = cnt P d then P d else u 62 0 k := by
            rw [e3, zst_o (by omega), e2, zst_ap, e1, zst_o (f' := 62) (by omega)]
            by_cases h : k = cnt P d <;> simp [h]
          rw [e62]
          by_cases h : k = cnt P d
          · rw [if_pos h]; exact val d (by omega)
          · rw [if_neg h]; exact uz k hk
  unfold w_X0_note
  intro u1 e1
  refine ⟨31, loop 30 0 rfl u1 (fun f a _ _ => by rw [e1, zst_o a]) ?_ (fun i hi => absurd hi (Nat.not_lt_zero i)) ?_⟩
  · rw [e1, zst_ap, if_pos ⟨rfl, rfl, rfl⟩]
    rfl
  · rw [e1, zst_o (by omega)]
    exact hz
theorem X0_countOrders {n np c : Nat} {post : Int32 → Mem → Prop} {u : Mem} (hc : c ≤ 5) (h60 : u 60 0 2 = nI c) (hp : post (nI (fct c)) u) : w_X0_countOrders n np post u := by
  have loop : ∀ m k : Nat, 1 ≤ k → k + m = c → l_X0_countOrders_4 n np post (m + 1) (nI (fct k)) (nI (k + 1)) u := by
    intro m
    induction m with
    | zero =>
      intro k hk e
      have e2 : k = c := by omega
      subst e2
      show lb_X0_countOrders_4 n np post _ _ _ _
      unfold lb_X0_countOrders_4
      rw [h60]
      exact ⟨fun _ => hp, fun q => absurd (nI_lt (by omega) (by omega)) q⟩
    | succ m ih =>
      intro k hk e
      show lb_X0_countOrders_4 n np post (l_X0_countOrders_4 n np post (m + 1)) _ _ _
      unfold lb_X0_countOrders_4
      rw [h60, nI_mul, nI_s1]
      refine ⟨fun q => absurd ((nI_ltI (by omega) (by omega)).mp q) (by omega), fun _ => ⟨fun q => absurd ((nI_ltI (a := 10) (by omega) (by omega)).mp q) (by omega), fun _ => ?_⟩⟩
      have := ih (k + 1) (by omega) (by omega)
      rw [show fct (k + 1) = fct k * (k + 1) from Nat.mul_comm (k + 1) (fct k)] at this
      exact this
  unfold w_X0_countOrders
  rcases Nat.eq_zero_or_pos c with e | e
  · refine ⟨1, ?_⟩
    show lb_X0_countOrders_4 n np post _ _ _ _
    unfold lb_X0_countOrders_4
    rw [h60, e]
    rw [e] at hp
    exact ⟨fun _ => hp, fun q => absurd (by decide) q⟩
  · exact ⟨c - 1 + 1, loop (c - 1) 1 (by omega) (by omega)⟩
theorem X0_restore {n np t : Nat} {post : Mem → Prop} {E u0 : Mem} {P R : Nat → Int32} (h0 : CP n np t E u0 R) (hP : plJ n P) (hO : OF u0 P) (hR : ∀ d, d < 30 → P d = -1 → R d = -1) (hp : ∀ u, CP n np t E u P → (∀ f, f ≠ 32 → u f = u0 f) → post u) : w_X0_restore n np post u0 := by
  have hc := cnt_le h0.2.1.1.1 hP
  have hn := h0.2.1.1.1
  obtain ⟨o60, o61, o62⟩ := hO
  have loop : ∀ m i : Nat, i + m = cnt P 30 → ∀ u : Mem, (∀ f, f ≠ 32 → u f = u0 f) → (∀ d, d < 30 → P d = -1 → u 32 0 d = -1) → (∀ d, d < 30 → ¬ P d = -1 → cnt P d < i → u 32 0 d = P d) → l_X0_restore_2 n np post (m + 1) (nI i) u := by
    intro m
    induction m with
    | zero =>
      intro i hi u uo ue up
      show lb_X0_restore_2 n np post _ _ _
      unfold lb_X0_restore_2
      rw [uo 60 (by omega), o60]
      refine ⟨fun _ => hp u ⟨fun f hf => by rw [uo f (by omega)]; exact h0.1 f hf, env_plan h0.2.1 uo (fun _ _ => rfl) (fun _ _ _ _ _ => rfl) (fun _ _ _ => rfl), fun d hd => ?_, hP⟩ uo, fun q => absurd ((nI_leI (by omega) (by omega)).mpr (by omega)) q⟩
      by_cases c : P d = -1
      · rw [ue d hd c, c]
      · have := cnt_lt hd c
        exact up d hd c (by omega)
    | succ m ih =>
      intro i hi u uo ue up
      show lb_X0_restore_2 n np post (l_X0_restore_2 n np post (m + 1)) _ _
      unfold lb_X0_restore_2 w_X4_put
      have hi2 : i < cnt P 30 := by omega
      obtain ⟨d1, d2, d3⟩ := dyA_ok hi2
      rw [uo 60 (by omega), o60, nI_s1, cl (by omega), uo 61 (by omega), uo 62 (by omega), o61 i hi2, o62 i hi2, cl (k := dyA P 30 i) (by omega)]
      refine ⟨fun q => absurd ((nI_leI (by omega) (by omega)).mp q) (by omega), fun _ => ⟨fun q => absurd ((le10 (by omega)).mp q) (by omega), fun _ => ⟨vin (by omega) (by omega), fun q => absurd q (pos (by omega)), fun _ => ⟨fun q => absurd ((le30 (by omega)).mp q) (by omega), fun _ => ⟨vin d1 (by omega), fun q => ?_, fun u1 e1 => ?_⟩⟩⟩⟩⟩
      · rcases hP.1 _ d1 with e | ⟨a, ha, e⟩
        · exact absurd e d2
        · rw [e, cl (by omega)]; exact ha
      · refine ih (i + 1) (by omega) u1 (fun f hf => by rw [e1, zst_o hf]; exact uo f hf) (fun d hd c => ?_) (fun d hd c ci => ?_)
        · rw [e1, zst_ap, if_neg (fun q => d2 (by rw [← q.2.2]; exact c))]
          exact ue d hd c
        · rw [e1, zst_ap]
          by_cases h : d = dyA P 30 i
          · rw [if_pos ⟨rfl, rfl, h⟩, h]
          · rw [if_neg (fun q => h q.2.2)]
            refine up d hd c ?_
            rcases Nat.lt_or_ge (cnt P d) i with q | q
            · exact q
            · refine absurd ?_ h
              rw [show i = cnt P d by omega]
              exact (dyA_of hd c).symm
  unfold w_X0_restore
  refine ⟨cnt P 30 + 1, loop (cnt P 30) 0 (by omega) u0 (fun _ _ => rfl) (fun d hd c => ?_) (fun d hd c q => absurd q (Nat.not_lt_zero _))⟩
  rw [h0.2.2.1 d hd]
  exact hR d hd c
theorem X0_lay {n np t o : Nat} {post : Mem → Prop} {E u0 : Mem} {P R : Nat → Int32} (h0 : CP n np t E u0 R) (hP : plJ n P) (hO : OF u0 P) (hR : ∀ d, d < 30 → P d = -1 → R d = -1) (ho : o < 1000) (hp : ∀ u, CP n np t E u (planQ P (fyq (cnt P 30) o (fun i => i))) → (∀ f, f ≠ 32 → u f = u0 f) → post u) : w_X0_lay n np post (nI o) u0 := by
  have hn := h0.2.1.1.1
  have hc := cnt_le hn hP
  have loop : ∀ b : Nat, b ≤ cnt P 30 → ∀ (r : Nat) (q : Nat → Nat) (u : Mem), r < 1000 → CP n np t E u (planQ P q) → (∀ f, f ≠ 32 → u f = u0 f) → (∀ u, CP n np t E u (planQ P (fyq b r q)) → (∀ f, f ≠ 32 → u f = u0 f) → post u) → l_X0_lay_18 n np post (nI o) (b + 1) (nI r) (nI b) u := by
    intro b
    induction b with
    | zero =>
      intro _ r q u hr h uo hpost
      show lb_X0_lay_18 n np post _ _ _ _ _
      unfold lb_X0_lay_18
      exact ⟨fun _ => hpost u h uo, fun c => absurd (by decide) c⟩
    | succ b ih =>
      intro hb r q u hr h uo hpost
      show lb_X0_lay_18 n np post (l_X0_lay_18 n np post (nI o) (b + 1)) _ _ _ _
      unfold lb_X0_lay_18
      have e1 : nI (b + 1) - 1 = nI b := nI_pred b
      have e2 : nI (b + 1) + (-1) = nI b := by rw [← e1, Int32.sub_eq_add_neg]
      have hm : r % (b + 1) < b + 1 := Nat.mod_lt r (by omega)
      have hdv : r / (b + 1) ≤ r := Nat.div_le_self r (b + 1)
      rw [e1, e2, nI_modg (by omega) (by omega), nI_divg (by omega) (by omega), cl (by omega), cl (by omega), uo 61 (by omega), hO.2.1 b (by omega), hO.2.1 (r % (b + 1)) (by omega)]
      unfold fyq at hpost
      refine ⟨fun c => ?_, fun c => ?_⟩
      · have hb0 : b = 0 := by
          have := (nI_leI (a := b + 1) (b := 1) (by omega) (by omega)).mp c
          omega
        rw [if_pos hb0] at hpost
        exact hpost u h uo
      · have hb0 : ¬ b = 0 := fun q => c ((nI_leI (a := b + 1) (b := 1) (by omega) (by omega)).mpr (by omega))
        rw [if_neg hb0] at hpost
        refine ⟨vin (by omega) (by omega), fun q => ?_, vin (by omega) (by omega), ?_⟩
        · have := (nI_eq (a := b + 1) (b := 0) (by omega) (by omega)).mp q
          omega
        · have x1 := (dyA_ok (P := P) (j := 30) (i := b) (by omega)).1
          have x2 := (dyA_ok (P := P) (j := 30) (i := r % (b + 1)) (by omega)).1
          have key : w_X4_swapDays n np (fun (μ8 : Mem) => l_X0_lay_18 n np post (nI o) (b + 1) (nI (r / (b + 1))) (nI b) μ8) (nI (dyA P 30 b)) (nI (dyA P 30 (r % (b + 1)))) u := h.swaps x1 x2 (fun u1 h1 uo1 => ih (by omega) (r / (b + 1)) (fun i => q (sg b (r % (b + 1)) i)) u1 (by omega) (h1.congr (fun d hd => planQ_swap (by omega) (by omega) hd)) (fun f hf => (uo1 f hf).trans (uo f hf)) hpost)
          exact key
  unfold w_X0_lay
  refine X0_restore h0 hP hO hR (fun u1 h1 uo1 x ex => ?_)
  have e60 : u1 60 0 2 = nI (cnt P 30) := by rw [uo1 60 (by omega)]; exact hO.1
  have ex2 : x = nI (cnt P 30) := by
    rw [ex, e60, zmin_1]
    exact (nI_leI (a := cnt P 30) (b := 10) (by omega) (by omega)).mpr (by omega)
  rw [ex2]
  exact ⟨cnt P 30 + 1, loop (cnt P 30) (Nat.le_refl _) o (fun i => i) u1 ho (h1.congr (fun d hd => (planQ_id hd).symm)) uo1 hp⟩
theorem X4_least {n np t : Nat} {post : Int32 → Mem → Prop} {xpost : String → Mem → Prop} {μ : Mem} (he : env n np t μ μ) (hpl : planI n t μ μ) (hT : cnt (μ 8 0) 30 ≤ 5 → ∀ u, CP n np t μ u (μ 8 0) → post (mnf (fun o => costF μ np t (planQ (μ 8 0) (fyq (cnt (μ 8 0) 30) o (fun i => i)))) (costF μ np t (μ 8 0)) (fct (cnt (μ 8 0) 30))) u) (hX : 5 < cnt (μ 8 0) 30 → ∀ u, CP n np t μ u (μ 8 0) → xpost "java/lang/IllegalStateException" u) : w_X4_least n np post xpost μ := by
  have hn := he.1.1
  have hJ := plJ_of hn hpl
  have hz : zval n 10 (μ 62 0) := he.2.2.2.2.2.2.2.2.2.1
  generalize hPe : μ 8 0 = P at hT hX hJ
  have hPm : ∀ d, d < 30 → μ 32 0 d = P d := fun d hd => by rw [hpl.1 d hd, hPe]
  have hc := cnt_le hn hJ
  generalize hF : (fun o => costF μ np t (planQ P (fyq (cnt P 30) o (fun i => i)))) = F at hT
  generalize hi0 : costF μ np t P = i0 at hT
  unfold w_X4_least
  refine X0_note hn hJ hPm hz (fun u uo u60 uO uz => ?_)
  have hCP : CP n np t μ u P := ⟨fun f hf => uo f (by omega) (by omega) (by omega), env_62 he uo uz, fun d hd => by rw [uo 32 (by omega) (by omega) (by omega)]; exact hPm d hd, hJ⟩
  rw [u60]
  refine ⟨fun c => ?_, fun c => hX ?_ u hCP⟩
  · have hc5 : cnt P 30 ≤ 5 := (le5' (by omega)).mp c
    have hO := uO hc5
    have loop : ∀ m o : Nat, o + m = fct (cnt P 30) → ∀ (R : Nat → Int32) (u : Mem), (∀ d, d < 30 → P d = -1 → R d = -1) → CP n np t μ u R → OF u P → l_X4_least_47 n np post xpost (m + 1) (mnf F i0 o) (nI (fct (cnt P 30))) (nI o) u := by
      have hf := fct_le hc5
      intro m
      induction m with
      | zero =>
        intro o ho R u hR h hO
        have e : o = fct (cnt P 30) := by omega
        subst e
        show lb_X4_least_47 n np post xpost _ _ _ _ _
        unfold lb_X4_least_47
        exact ⟨fun _ => X0_restore h hJ hO hR (fun u' h' _ => hT hc5 u' h'), fun q => absurd (Int32.le_refl _) q⟩
      | succ m ih =>
        intro o ho R u hR h hO
        show lb_X4_least_47 n np post xpost (l_X4_least_47 n np post xpost (m + 1)) _ _ _ _
        unfold lb_X4_least_47
        rw [nI_s1]
        refine ⟨fun q => absurd ((nI_leI (by omega) (by omega)).mp q) (by omega), fun _ => X0_lay h hJ hO hR (by omega) (fun u1 h1 uo1 => h1.costs (fun u2 h2 uo2 x ex => ?_))⟩
        have e : x = mnf F i0 (o + 1) := by
          rw [ex, ← hF]
          rfl
        rw [e]
        refine ih (o + 1) (by omega) _ u2 (fun d _ c => planQ_no c) h2 (hO.mv ?_ ?_ ?_)
        · rw [uo2 60 (by omega) (by omega) (by omega), uo1 60 (by omega)]
        · rw [uo2 61 (by omega) (by omega) (by omega), uo1 61 (by omega)]
        · rw [uo2 62 (by omega) (by omega) (by omega), uo1 62 (by omega)]
    refine hCP.costs (fun u1 h1 uo1 => ?_)
    have hO1 : OF u1 P := hO.mv (uo1 60 (by omega) (by omega) (by omega)) (uo1 61 (by omega) (by omega) (by omega)) (uo1 62 (by omega) (by omega) (by omega))
    refine X0_countOrders hc5 hO1.1 ⟨fct (cnt P 30) + 1, ?_⟩
    rw [hi0]
    exact loop (fct (cnt P 30)) 0 (by omega) P u1 (fun _ _ c => c) h1 hO1
  · rcases Nat.lt_or_ge 5 (cnt P 30) with q | q
    · exact q
    · exact absurd ((le5' (by omega)).mpr q) c

