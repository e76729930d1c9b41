/-! NEW OBJECTS IN OUR WORLD: a scene, a permit -/
theorem ZS.KU {D : va_G} {ca : Nat → ClassId} {base : Nat} {ad : Nat → Nat → Nat} {n np : Nat} {μ : Mem} {s : State} {H : Heap} {locs : List Loc} (hZ : ZS D ca base ad n np μ s H locs) : KU D ca s :=
  ⟨hZ.1.1, hZ.1.2.1, hZ.1.2.2.2.2.2.2.2.1, hZ.1.2.2.2.2.2.2.2.2.1, hZ.1.2.2.2.2.2.2.2.2.2⟩
section ZALLOC
variable {p : Program} {l : Launch} {e : Env} {R : Room} {s : State} {m : MethodId} {args : Array Value} {below : List Frame} {meth : Method} {c : Code} {H : Heap} {locs : List Loc} {cells slots : Nat} {Q : State → Prop}
variable {cc : ByteArray} {pc : Nat} {ls : Array Slot} {rest st0 : List Value} {own : String} {nL : Nat}
variable {D : va_G} {ca : Nat → ClassId} {base : Nat} {ad : Nat → Nat → Nat} {n np : Nat} {μ : Mem}
theorem z_newO (hC : ZC p m meth c s own cc nL) (hZ : ZS D ca base ad n np μ s H locs) {C : String} {T : u_T} {N ci index : Nat} (hin : ∀ w ∈ u_ws C T N, w ∈ lw_tbl) (ty : Nat → FieldType) (hty : ∀ k, k < N → parseFieldDescriptor (T k).2.2.1 = some (ty k)) (hlink : Cond.classLink own index C ∈ lw_tbl) (hinst : Cond.instantiable C N ∈ lw_tbl) (hini : Cond.initialized C ∈ lw_tbl) (hcl : vwCl[ci]? = some (C, T, N)) {fs : List Value} (hfs : ∀ j, j < N → defaultValue (ty j) = vp_V fs j) (hc : cells + 1 ≤ R.cells) (hs : slots + N ≤ R.slots) (hdg : decode cc pc = .ok (.new index, 3))
    (kk : ∀ (q : Nat) (H1 : Heap), ZS D ca base ad n np μ s H1 locs → va_at D vwCl (q, .inr (ci, fs)) H1 → (∀ (f i : Nat) (e : va_E), zF ad ca n np f i (μ f i) = some e → ad f i ≠ q) → base ≤ q → W p l e R s m args below meth c H1 locs (cells + 1) (slots + N) Q (F0 m (pc + 3) ls (.ref q :: rest))) : W p l e R s m args below meth c H locs cells slots Q (F0 m pc ls rest) := by
  have hW := hZ.1.2.1
  have hK := hZ.1.1
  have hKn := hK.1 ci _ hcl
  refine W.newcK hC.1 hC.2.1 hC.2.2.2.1 (hW.use args hlink rfl) (hW.use args hinst rfl) (hW.use args hini rfl) rfl hdg hc hs hKn.2.1 rfl fun H1 kC hkC e1 z1 o1 => ?_
  refine kk H.size H1 ⟨hZ.1, ⟨Nat.le_trans hZ.2.1.1 (by omega), fun x h1 h2 => (o1 x (Nat.lt_of_lt_of_le h1 hZ.2.1.1)).trans (hZ.2.1.2.1 x h1 h2), hZ.2.1.2.2⟩, hZ.2.2.kept o1⟩ ⟨_, hcl, (u_born ty (hW.lay args hin) (fun _ h => h) hKn hkC e1 hty).to hfs⟩ (fun f i e he => Nat.ne_of_lt (hZ.2.2.1 f i e he).lt) (Nat.le_trans hZ.1.2.2.1 hZ.2.1.1)
/-- a constructor is called on an object that isn't yet in our world -/
theorem z_init {y : MethodName} {bytes : ByteArray} {maxL index na mc ms b : Nat} {rm : Room} {As : List Value} {e0 : va_E} {PH : Heap → Prop} (hC : ZC p m meth c s own cc nL) (hZ : ZS D ca base ad n np μ s H locs) (hat : va_at D vwCl (b, e0) H) (hne : ∀ (f i : Nat) (e : va_E), zF ad ca n np f i (μ f i) = some e → ad f i ≠ b) (hbb : base ≤ b)
    (hM : KMet l y bytes maxL rm mc ms D ca b H.size e0 (.ref b :: As) PH) (hlink : Cond.methodLink own index y ∈ lw_tbl) (hcode : Cond.code y bytes maxL none ∈ lw_tbl) (hin : Cond.instanceMethod y ∈ lw_tbl) (hini : Cond.initialized y.cls ∈ lw_tbl) (hy : y.name = "<init>") (hy2 : y.cls ≠ "java/lang/invoke/MethodHandle" ∧ y.cls ≠ "java/lang/invoke/VarHandle") (hl : (parseMethodDescriptor y.desc).map (fun d => d.parameters.length) = some na) (hn : As.length = na) (hrm : rm.cells = mc ∧ rm.slots = ms) (hR : rm.frames + 1 ≤ R.frames ∧ 8 + (maxL + 11) + rm.locals ≤ R.locals) (hsize : ls.size = nL) (hst : st0 = As.reverse ++ .ref b :: rest) (hrest : (rest.map fun v => v.category).sum ≤ 8) (hdg : decode cc pc = .ok (.invokespecial index, 3)) (hf : cells + mc ≤ R.cells ∧ slots + ms ≤ R.slots)
    (kk : ∀ (H1 : Heap) (locs1 : List Loc), PH H1 → ZS D ca base ad n np μ s H1 locs1 → (∀ (f i : Nat) (e : va_E), zF ad ca n np f i (μ f i) = some e → ad f i < H.size ∧ ad f i ≠ b) → base ≤ H.size → W p l e R s m args below meth c H1 locs1 (cells + mc) (slots + ms) Q (F0 m (pc + 3) ls rest)) : W p l e R s m args below meth c H locs cells slots Q (F0 m pc ls st0) := by
  have hP : va_P D vwCl [(b, e0)] H := va_P1 hat
  have hD : va_D (zB base) [(b, e0)] := k_D1 hbb
  have hA : ∀ q, s.heap.size ≤ q → zB base q := fun q h => Nat.le_trans hZ.1.2.2.1 h
  refine k_callI (A := zB base) (H0 := s.heap) hC hZ.KU hP hD hZ.2.1 hA (q0 := 0) rfl hM hlink hcode hin hini hy hy2 hl hn hrm hR hsize hst hrest hdg hf (fun H1 locs1 hPH hz hk hS => ?_)
  have hold : ∀ (f i : Nat) (e : va_E), zF ad ca n np f i (μ f i) = some e → ad f i < H.size ∧ ad f i ≠ b := fun f i e he => ⟨(hZ.2.2.1 f i e he).lt, hne f i e he⟩
  exact kk H1 locs1 hPH ⟨hZ.1, hS, ⟨fun f i e he => va_at.kept (hZ.2.2.1 f i e he) (hk _ (hold f i e he).1 (hold f i e he).2), hZ.2.2.2⟩⟩ hold (Nat.le_trans hZ.1.2.2.1 hZ.2.1.1)
end ZALLOC
/-- places of an array of references name nothing beyond the first N -/
def zval (N K : Nat) (r : Nat → Int32) : Prop := ∀ k, k < K → ¬ r k < 0 → (r k).toNatClampNeg < N
def zadS (n q q1 q2 q3 : Nat) (ad : Nat → Nat → Nat) : Nat → Nat → Nat := fun f i => if f = 70 ∧ i = n then q else if f = 71 ∧ i = n then q1 else if f = 72 ∧ i = n then q2 else if f = 73 ∧ i = n then q3 else ad f i
def zaddS (n : Nat) (a1 a2 a3 : Int32) (μ : Mem) : Mem := zcp (zcp (zcp (zcp μ 70 n (fun k => if k = 0 then a1 else if k = 1 then a2 else if k = 2 then a3 else if k = 7 then -1 else 0)) 71 n (zfill 5 (-2) (fun _ => 0))) 72 n (zfill 5 (-1) (fun _ => 0))) 73 n (zfill 5 (-1) (fun _ => 0))
theorem zcell_q (cA : ClassId) (N : Nat) (f g : Nat → Option Nat) (h : ∀ k, k < N → f k = g k) : vp_cell cA (N, .inr (.inr (.inr (.inr f)))) = vp_cell cA (N, .inr (.inr (.inr (.inr g)))) := by
  rw [vp_cell_q, vp_cell_q]
  unfold arrV
  congr 2
  funext j
  show va_rf (f j.val) = va_rf (g j.val)
  rw [h j.val j.isLt]
/-- two entries that say the same of a cell -/
def zsame (x y : Option va_E) : Prop := (x = none ∧ y = none) ∨ ∃ e1 e2, x = some e1 ∧ y = some e2 ∧ ∀ (D : va_G) (a : Nat) (H : Heap), va_at D vwCl (a, e2) H → va_at D vwCl (a, e1) H
theorem zsame.rf (x : Option va_E) : zsame x x := by
  cases x with
  | none => exact Or.inl ⟨rfl, rfl⟩
  | some e => exact Or.inr ⟨e, e, rfl, rfl, fun _ _ _ h => h⟩
theorem zsame_q {ca : Nat → ClassId} {t N : Nat} {f g : Nat → Option Nat} (h : ∀ k, k < N → f k = g k) : zsame (some (.inl (ca t, N, .inr (.inr (.inr (.inr f)))))) (some (.inl (ca t, N, .inr (.inr (.inr (.inr g)))))) :=
  Or.inr ⟨_, _, rfl, rfl, fun D a H hh => by
    show H[a]? = some (vp_cell _ _)
    rw [zcell_q _ _ _ _ h]
    exact hh⟩
theorem zr_S {ad : Nat → Nat → Nat} {n q q1 q2 q3 : Nat} {v : Int32} (h : ¬ v < 0 → v.toNatClampNeg < n) : zr (zadS n q q1 q2 q3 ad) 70 v = zr ad 70 v := by
  unfold zr zadS
  by_cases h0 : v < 0
  · simp [h0]
  · have := h h0
    have h1 : ¬ v.toNatClampNeg = n := by omega
    simp [h0, h1]
theorem zF_S {ad : Nat → Nat → Nat} {ca : Nat → ClassId} {n np q q1 q2 q3 f i : Nat} {r : Nat → Int32} (hx : ¬ (70 ≤ f ∧ f ≤ 73 ∧ i = n)) (hv : f = 31 → i = 0 → zval n 10 r) (hv2 : f = 32 → i = 0 → zval n 30 r) (hv3 : f = 62 → i = 0 → zval n 10 r) : zsame (zF (zadS n q q1 q2 q3 ad) ca (n + 1) np f i r) (zF ad ca n np f i r) := by
  by_cases c31 : f = 31
  · subst c31
    by_cases hi : i = 0
    · subst hi
      exact zsame_q (fun k hk => zr_S (hv rfl rfl k hk))
    · have h1 : ∀ (a : Nat → Nat → Nat) (n' : Nat), zF a ca n' np 31 i r = none := fun a n' => if_neg hi
      rw [h1, h1]
      exact zsame.rf _
  by_cases c32 : f = 32
  · subst c32
    by_cases hi : i = 0
    · subst hi
      exact zsame_q (fun k hk => zr_S (hv2 rfl rfl k hk))
    · have h1 : ∀ (a : Nat → Nat → Nat) (n' : Nat), zF a ca n' np 32 i r = none := fun a n' => if_neg hi
      rw [h1, h1]
      exact zsame.rf _
  by_cases c62 : f = 62
  · subst c62
    by_cases hi : i = 0
    · subst hi
      exact zsame_q (fun k hk => zr_S (hv3 rfl rfl k hk))
    · have h1 : ∀ (a : Nat → Nat → Nat) (n' : Nat), zF a ca n' np 62 i r = none := fun a n' => if_neg hi
      rw [h1, h1]
      exact zsame.rf _
  have key : zF (zadS n q q1 q2 q3 ad) ca (n + 1) np f i r = zF ad ca n np f i r := by
    have hin : (70 ≤ f ∧ f ≤ 73) → (i < n + 1 ↔ i < n) := fun h => by
      have : i ≠ n := fun e => hx ⟨h.1, h.2, e⟩
      omega
    have hni : (70 ≤ f ∧ f ≤ 73) → ¬ i = n := fun h e => hx ⟨h.1, h.2, e⟩
    unfold zF
    by_cases c0 : f = 0
    · subst c0; simp [zadS]
    by_cases c20 : f ≤ 20
    · simp [c0, c20]
    by_cases c70 : f = 70
    · subst c70; simp [zadS, hin (by decide), hni (by decide)]
    by_cases c71 : f = 71
    · subst c71; simp [zadS, hin (by decide)]
    by_cases c72 : f = 72
    · subst c72; simp [zadS, hin (by decide)]
    by_cases c73 : f = 73
    · subst c73; simp [zadS, hin (by decide)]
    by_cases c30 : f = 30
    · subst c30; simp [zadS]
    by_cases c33 : f = 33
    · subst c33; simp [zadS, zr]
    by_cases c40 : f = 40
    · subst c40; simp [zadS]
    by_cases c41 : f = 41
    · subst c41; simp [zadS]
    by_cases c60 : f = 60
    · subst c60; simp [zadS]
    simp [c0, c20, c30, c31, c32, c33, c40, c41, c60, c62, c70, c71, c72, c73]
  rw [key]
  exact zsame.rf _
theorem ZS.addS {D : va_G} {ca : Nat → ClassId} {base : Nat} {ad : Nat → Nat → Nat} {n np : Nat} {μ : Mem} {s : State} {H : Heap} {locs : List Loc} {q q1 q2 q3 sz : Nat} {a1 a2 a3 : Int32} (hZ : ZS D ca base ad n np μ s H locs) (hP : va_P D vwCl (VX2 ca a1 a2 a3 q q1 q2 q3) H) (hD : va_D (fun z => z = q ∨ sz ≤ z) (VX2 ca a1 a2 a3 q q1 q2 q3)) (hold : ∀ (f i : Nat) (e : va_E), zF ad ca n np f i (μ f i) = some e → ad f i < sz ∧ ad f i ≠ q) (hbq : base ≤ q) (hbs : base ≤ sz)
    (hv1 : zval n 10 (μ 31 0)) (hv2 : zval n 30 (μ 32 0)) (hv3 : zval n 10 (μ 62 0)) : ZS D ca base (zadS n q q1 q2 q3 ad) (n + 1) np (zaddS n a1 a2 a3 μ) s H locs := by
  refine ⟨hZ.1, hZ.2.1, ?_⟩
  have hw := hZ.2.2
  -- the new addresses
  have hge : ∀ (k : Nat) (z : Nat × va_E), (VX2 ca a1 a2 a3 q q1 q2 q3)[k + 1]? = some z → sz ≤ z.1 ∧ z.1 ≠ q := by
    intro k z hz
    have hne : z.1 ≠ q := fun e => by
      have := hD.1 (k + 1) 0 z _ hz rfl e
      omega
    exact ⟨(hD.2 (k + 1) z hz).elim (fun e => absurd e hne) id, hne⟩
  have g1 := hge 0 _ rfl
  have g2 := hge 1 _ rfl
  have g3 := hge 2 _ rfl
  have d12 : q1 ≠ q2 := fun e => by have := hD.1 1 2 _ _ rfl rfl e; omega
  have d13 : q1 ≠ q3 := fun e => by have := hD.1 1 3 _ _ rfl rfl e; omega
  have d23 : q2 ≠ q3 := fun e => by have := hD.1 2 3 _ _ rfl rfl e; omega
  -- old cells
  have hμ : ∀ f i, ¬ (70 ≤ f ∧ f ≤ 73 ∧ i = n) → zaddS n a1 a2 a3 μ f i = μ f i := by
    intro f i h
    unfold zaddS
    rw [zcp_ne (by omega), zcp_ne (by omega), zcp_ne (by omega), zcp_ne (by omega)]
  have hadO : ∀ f i, ¬ (70 ≤ f ∧ f ≤ 73 ∧ i = n) → zadS n q q1 q2 q3 ad f i = ad f i := by
    intro f i h
    unfold zadS
    rw [if_neg (by omega), if_neg (by omega), if_neg (by omega), if_neg (by omega)]
  have hO : ∀ (f i : Nat) (e' : va_E), ¬ (70 ≤ f ∧ f ≤ 73 ∧ i = n) → zF (zadS n q q1 q2 q3 ad) ca (n + 1) np f i (zaddS n a1 a2 a3 μ f i) = some e' → ∃ e, zF ad ca n np f i (μ f i) = some e ∧ va_at D vwCl (ad f i, e') H := by
    intro f i e' hx hz
    rw [hμ f i hx] at hz
    rcases zF_S (ad := ad) (ca := ca) (np := np) (q := q) (q1 := q1) (q2 := q2) (q3 := q3) (r := μ f i) hx (fun e e2 => by subst e; subst e2; exact hv1) (fun e e2 => by subst e; subst e2; exact hv2) (fun e e2 => by subst e; subst e2; exact hv3) with ⟨h1, -⟩ | ⟨e1, e2, h1, h2, h3⟩
    · rw [h1] at hz; cases hz
    · rw [h1] at hz
      cases hz
      exact ⟨e2, h2, h3 _ _ _ (hw.1 f i e2 h2)⟩
  -- new cells
  have hN : ∀ (f i : Nat), (70 ≤ f ∧ f ≤ 73 ∧ i = n) → ∃ (k : Nat) (z : Nat × va_E), k = f - 70 ∧ (VX2 ca a1 a2 a3 q q1 q2 q3)[k]? = some z ∧ zadS n q q1 q2 q3 ad f i = z.1 ∧ zF (zadS n q q1 q2 q3 ad) ca (n + 1) np f i (zaddS n a1 a2 a3 μ f i) = some z.2 := by
    rintro f i ⟨h1, h2, rfl⟩
    have hf : f = 70 ∨ f = 71 ∨ f = 72 ∨ f = 73 := by omega
    rcases hf with rfl | rfl | rfl | rfl
    · refine ⟨0, _, rfl, rfl, by simp [zadS], ?_⟩
      rw [zF_70 (Nat.lt_succ_self i)]
      simp [zaddS, zcp, zadS]
    · refine ⟨1, _, rfl, rfl, by simp [zadS], ?_⟩
      rw [zF_71 (Nat.lt_succ_self i)]
      simp [zaddS, zcp]
    · refine ⟨2, _, rfl, rfl, by simp [zadS], ?_⟩
      rw [zF_72 (Nat.lt_succ_self i)]
      simp [zaddS, zcp]
    · refine ⟨3, _, rfl, rfl, by simp [zadS], ?_⟩
      rw [zF_73 (Nat.lt_succ_self i)]
      simp [zaddS, zcp]
  have hnb : ∀ (k : Nat) (z : Nat × va_E), (VX2 ca a1 a2 a3 q q1 q2 q3)[k]? = some z → (z.1 = q ∨ sz ≤ z.1) := fun k z hz => hD.2 k z hz
  refine ⟨fun f i e he => ?_, fun f i f' i' e e' he he' hq => ?_, fun f i e he => ?_⟩
  · by_cases hx : 70 ≤ f ∧ f ≤ 73 ∧ i = n
    · obtain ⟨k, z, -, hk, ha, hz⟩ := hN f i hx
      rw [hz] at he
      cases he
      rw [ha]
      exact hP k z hk
    · obtain ⟨e2, -, h3⟩ := hO f i e hx he
      rw [hadO f i hx]
      exact h3
  · by_cases hx : 70 ≤ f ∧ f ≤ 73 ∧ i = n
    · obtain ⟨k, z, ek, hk, ha, -⟩ := hN f i hx
      by_cases hx' : 70 ≤ f' ∧ f' ≤ 73 ∧ i' = n
      · obtain ⟨k', z', ek', hk', ha', -⟩ := hN f' i' hx'
        rw [ha, ha'] at hq
        have := hD.1 k k' z z' hk hk' hq
        omega
      · obtain ⟨e2, h2, -⟩ := hO f' i' e' hx' he'
        rw [ha, hadO f' i' hx'] at hq
        have h3 := hold f' i' e2 h2
        rcases hnb k z hk with h4 | h4
        · exact absurd (hq.symm.trans h4) h3.2
        · omega
    · obtain ⟨e2, h2, -⟩ := hO f i e hx he
      by_cases hx' : 70 ≤ f' ∧ f' ≤ 73 ∧ i' = n
      · obtain ⟨k', z', ek', hk', ha', -⟩ := hN f' i' hx'
        rw [ha', hadO f i hx] at hq
        have h3 := hold f i e2 h2
        rcases hnb k' z' hk' with h4 | h4
        · exact absurd (hq.trans h4) h3.2
        · omega
      · obtain ⟨e3, h3, -⟩ := hO f' i' e' hx' he'
        rw [hadO f i hx, hadO f' i' hx'] at hq
        exact hw.2.1 f i f' i' e2 e3 h2 h3 hq
  · by_cases hx : 70 ≤ f ∧ f ≤ 73 ∧ i = n
    · obtain ⟨k, z, -, hk, ha, -⟩ := hN f i hx
      rw [ha]
      rcases hnb k z hk with h4 | h4
      · rw [h4]; exact hbq
      · exact Nat.le_trans hbs h4
    · obtain ⟨e2, h2, -⟩ := hO f i e hx he
      rw [hadO f i hx]
      exact hw.2.2 f i e2 h2
