/-! a new permit in our world -/
def zadP (np q : Nat) (ad : Nat → Nat → Nat) : Nat → Nat → Nat := fun f i => if f = 80 ∧ i = np then q else ad f i
def zaddP (np : Nat) (a1 a2 a3 a4 : Int32) (μ : Mem) : Mem := zcp μ 80 np (fun k => if k = 0 then a1 else if k = 1 then a2 else if k = 2 then a3 else if k = 3 then a4 else 0)
theorem zr_P {ad : Nat → Nat → Nat} {np q : Nat} {v : Int32} (h : ¬ v < 0 → v.toNatClampNeg < np) : zr (zadP np q ad) 80 v = zr ad 80 v := by
  unfold zr zadP
  by_cases h0 : v < 0
  · simp [h0]
  · have := h h0
    have h1 : ¬ v.toNatClampNeg = np := by omega
    simp [h0, h1]
theorem zF_P {ad : Nat → Nat → Nat} {ca : Nat → ClassId} {n np q f i : Nat} {r : Nat → Int32} (hx : ¬ (f = 80 ∧ i = np)) (hv : f = 33 → i = 0 → zval np 20 r) : zsame (zF (zadP np q ad) ca n (np + 1) f i r) (zF ad ca n np f i r) := by
  by_cases c33 : f = 33
  · subst c33
    by_cases hi : i = 0
    · subst hi
      exact zsame_q (fun k hk => zr_P (hv rfl rfl k hk))
    · have h1 : ∀ (a : Nat → Nat → Nat) (n' : Nat), zF a ca n n' 33 i r = none := fun a n' => if_neg hi
      rw [h1, h1]
      exact zsame.rf _
  have key : zF (zadP np q ad) ca n (np + 1) f i r = zF ad ca n np f i r := by
    have hin : f = 80 → (i < np + 1 ↔ i < np) := fun h => by
      have : i ≠ np := fun e => hx ⟨h, e⟩
      omega
    unfold zF
    by_cases c0 : f = 0
    · subst c0; simp [zadP]
    by_cases c20 : f ≤ 20
    · simp [c0, c20]
    by_cases c80 : f = 80
    · subst c80; simp [hin rfl]
    by_cases c70 : f = 70
    · subst c70; simp [zadP]
    by_cases c30 : f = 30
    · subst c30; simp [zadP]
    by_cases c31 : f = 31
    · subst c31; simp [zadP, zr]
    by_cases c32 : f = 32
    · subst c32; simp [zadP, zr]
    by_cases c62 : f = 62
    · subst c62; simp [zadP, zr]
    by_cases c40 : f = 40
    · subst c40; simp [zadP]
    by_cases c41 : f = 41
    · subst c41; simp [zadP]
    by_cases c60 : f = 60
    · subst c60; simp [zadP]
    simp [c0, c20, c30, c31, c32, c33, c40, c41, c60, c62, c70, c80]
  rw [key]
  exact zsame.rf _
theorem ZS.addP {D : va_G} {ca : Nat → ClassId} {base : Nat} {ad : Nat → Nat → Nat} {n np : Nat} {μ : Mem} {s : State} {H : Heap} {locs : List Loc} {q sz : Nat} {a1 a2 a3 a4 : Int32} (hZ : ZS D ca base ad n np μ s H locs) (hP : va_P D vwCl (VX1 ca a1 a2 a3 a4 q) H) (hold : ∀ (f i : Nat) (e : va_E), zF ad ca n np f i (μ f i) = some e → ad f i < sz ∧ ad f i ≠ q) (hbq : base ≤ q)
    (hv1 : zval np 20 (μ 33 0)) : ZS D ca base (zadP np q ad) n (np + 1) (zaddP np a1 a2 a3 a4 μ) s H locs := by
  refine ⟨hZ.1, hZ.2.1, ?_⟩
  have hw := hZ.2.2
  have hμ : ∀ f i, ¬ (f = 80 ∧ i = np) → zaddP np a1 a2 a3 a4 μ f i = μ f i := fun f i h => zcp_ne h
  have hadO : ∀ f i, ¬ (f = 80 ∧ i = np) → zadP np q ad f i = ad f i := fun f i h => if_neg h
  have hO : ∀ (f i : Nat) (e' : va_E), ¬ (f = 80 ∧ i = np) → zF (zadP np q ad) ca n (np + 1) f i (zaddP np a1 a2 a3 a4 μ f i) = some e' → ∃ e, zF ad ca n np f i (μ f i) = some e ∧ va_at D vwCl (ad f i, e') H := by
    intro f i e' hx hz
    rw [hμ f i hx] at hz
    rcases zF_P (ad := ad) (ca := ca) (n := n) (q := q) (r := μ f i) hx (fun e e2 => by subst e; subst e2; exact hv1) with ⟨h1, -⟩ | ⟨e1, e2, h1, h2, h3⟩
    · rw [h1] at hz; cases hz
    · rw [h1] at hz
      cases hz
      exact ⟨e2, h2, h3 _ _ _ (hw.1 f i e2 h2)⟩
  have hN : zadP np q ad 80 np = q ∧ zF (zadP np q ad) ca n (np + 1) 80 np (zaddP np a1 a2 a3 a4 μ 80 np) = some (.inr (1, [.int a1, .int a2, .int a3, .int a4, .int 0])) := by
    refine ⟨by simp [zadP], ?_⟩
    rw [zF_80 (Nat.lt_succ_self np)]
    simp [zaddP, zcp]
  refine ⟨fun f i e he => ?_, fun f i f' i' e e' he he' hq => ?_, fun f i e he => ?_⟩
  · by_cases hx : f = 80 ∧ i = np
    · obtain ⟨rfl, rfl⟩ := hx
      rw [hN.2] at he
      cases he
      rw [hN.1]
      exact hP 0 _ rfl
    · obtain ⟨e2, -, h3⟩ := hO f i e hx he
      rw [hadO f i hx]
      exact h3
  · by_cases hx : f = 80 ∧ i = np
    · by_cases hx' : f' = 80 ∧ i' = np
      · exact ⟨hx.1.trans hx'.1.symm, hx.2.trans hx'.2.symm⟩
      · obtain ⟨rfl, rfl⟩ := hx
        obtain ⟨e2, h2, -⟩ := hO f' i' e' hx' he'
        rw [hN.1, hadO f' i' hx'] at hq
        exact absurd hq.symm (hold f' i' e2 h2).2
    · obtain ⟨e2, h2, -⟩ := hO f i e hx he
      by_cases hx' : f' = 80 ∧ i' = np
      · obtain ⟨rfl, rfl⟩ := hx'
        rw [hN.1, hadO f i hx] at hq
        exact absurd hq (hold f i e2 h2).2
      · obtain ⟨e3, h3, -⟩ := hO f' i' e' hx' he'
        rw [hadO f i hx, hadO f' i' hx'] at hq
        exact hw.2.1 f i f' i' e2 e3 h2 h3 hq
  · by_cases hx : f = 80 ∧ i = np
    · obtain ⟨rfl, rfl⟩ := hx
      rw [hN.1]
      exact hbq
    · obtain ⟨e2, h2, -⟩ := hO f i e hx he
      rw [hadO f i hx]
      exact hw.2.2 f i e2 h2
/-! what scene and permit answer: the world may have one cell more, at places of its own; the others lie where they lay -/
def zagr (ad ad2 : Nat → Nat → Nat) : Prop := ∀ f i, f < 70 → ad2 f i = ad f i
def ZQN (D : va_G) (ca : Nat → ClassId) (base : Nat) (ad : Nat → Nat → Nat) (post : Int32 → Nat → Nat → Mem → Prop) : Array Value → State → Outcome → State → Prop := fun _ st o t =>
  (∃ (r : Int32) (n2 np2 : Nat) (ad2 : Nat → Nat → Nat) (u : Mem), o = .returned (some (.int r)) ∧ post r n2 np2 u ∧ zagr ad ad2 ∧ Wd D ca base ad2 n2 np2 u t.heap) ∧ va_F (zB base) st t
def ZNMet (l : Launch) (y : MethodName) (cc : ByteArray) (ml : Nat) (ret : Option FieldType) (rm : Room) (mc ms : Nat) (D : va_G) (ca : Nat → ClassId) (base : Nat) (ad : Nat → Nat → Nat) (n np : Nat) (av : List Value) (μ : Mem) (post : Int32 → Nat → Nat → Mem → Prop) (xp : String → Mem → Prop) : Prop :=
  vx_Met l y [Cond.code y cc ml ret] rm (va_Pc av (ZU D ca base ad n np μ)) (ZQN D ca base ad post) (ZX D ca base ad n np xp) mc ms (zB base)
theorem z_nret {p : Program} {l : Launch} {e : Env} {R : Room} {s : State} {m : MethodId} {args : Array Value} {below : List Frame} {meth : Method} {c : Code} {H : Heap} {locs : List Loc} {cells slots : Nat} {cc : ByteArray} {pc : Nat} {ls : Array Slot} {own : String} {nL mc ms : Nat} {D : va_G} {ca : Nat → ClassId} {base : Nat} {ad ad2 : Nat → Nat → Nat} {n np : Nat} {μ : Mem} (hC : ZC p m meth c s own cc nL) (hr : meth.sig.returnType = some .int) (hZ : ZS D ca base ad2 n np μ s H locs) (hag : zagr ad ad2) {P : Int32 → Nat → Nat → Mem → Prop} {v : Int32} (hp : P v n np μ) (hdg : decode cc pc = .ok (.ireturn, 1)) (h1 : cells ≤ mc) (h2 : slots ≤ ms) : W p l e R s m args below meth c H locs cells slots (MQ below (ZQN D ca base ad P) args s mc ms (zB base)) (F0 m pc ls [.int v]) := by
  have hlk := hC.2.2.2.2
  exact W.widen h1 h2 (W.iret hC.1 hC.2.1 hr (fun t ht hW => by subst ht; exact ⟨⟨v, n, np, ad2, μ, rfl, hp, hag, hZ.2.2⟩, hZ.2.1.F rfl⟩) hZ.2.1.2.2 hdg)
theorem zr_nI {ad : Nat → Nat → Nat} {g n : Nat} (h : n < 2 ^ 31) : va_rf (zr ad g (nI n)) = .ref (ad g n) := by
  rw [zr_pos (nI_pos h), nI_clamp h]
  rfl
theorem zagr_S {n q q1 q2 q3 : Nat} {ad : Nat → Nat → Nat} : zagr ad (zadS n q q1 q2 q3 ad) := by
  intro f i h
  unfold zadS
  rw [if_neg (by omega), if_neg (by omega), if_neg (by omega), if_neg (by omega)]
theorem zagr_P {np q : Nat} {ad : Nat → Nat → Nat} : zagr ad (zadP np q ad) := by
  intro f i h
  unfold zadP
  rw [if_neg (by omega)]
