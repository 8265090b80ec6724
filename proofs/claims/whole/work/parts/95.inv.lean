/-! what holds between two calls -/
section INV
/-- the class: what any state has -/
def XB (s : Mem) (tp pc : List Int) (rf : Nat → Int) (fa fb z : Int) : Prop := XTp s tp ∧ XPi s pc ∧ (∀ k, k < 6 → rI s 83 k = rf k) ∧ (rI s 0 13 = fa ∧ rI s 0 14 = fb) ∧ rI s 0 15 = z ∧ (rQ s 0 2 = 6 ∧ rQ s 0 3 = 17 ∨ rQ s 0 2 = 17 ∧ rQ s 0 3 = 6)
def MB (s : Mem) (tp pc : List Int) (rf : Nat → Int) (fa fb z : Int) : Prop := MTp s tp ∧ MPi s pc ∧ (∀ k, k < 6 → rI s 86 k = rf k) ∧ (rI s 84 7 = fa ∧ rI s 84 8 = fb) ∧ rI s 84 72 = z ∧ MWs s
def MQk (s : Mem) : Prop := bsO s ∧ rI s 84 53 = -1 ∧ rI s 84 57 = 0
/-- without a table -/
def XZ (s : Mem) (nx : Nat) : Prop := (rI s (rQ s 0 2) 1 = 0 ∧ rI s (rQ s 0 2) 2 = 0) ∧ (rI s 28 1 = 0 ∧ rI s 28 2 = 0) ∧ rI s 42 1 = 0 ∧ rI s 66 2 = 0 ∧ (rI s 44 1 = (nx : Int) ∧ nx < 20 ∧ rI s 44 2 = 0)
def MZ (s : Mem) (nx : Nat) : Prop := (rI s 84 49 = 0 ∧ rI s 114 3 = 0 ∧ rI s 114 4 = 0) ∧ (∀ i, i < 25 → rI s 122 i = 0) ∧ rI s 84 66 = 0 ∧ rI s 84 71 = (nx : Int) ∧ rI s 84 70 = 0
/-- with a table -/
def XV (s : Mem) (T : Tab) (w : Nat → Int) (K : List Int) (hc : Nat) (hf : Nat → Int) (nx : Nat) (U : UL) (nm : Nat → List Int) (to : Int) : Prop := XM s T w ∧ KX s K ∧ XHs s hc hf ∧ XU s T nx U ∧ (ChC s T w ∧ SeC s T w) ∧ (∀ g, g < tG T → XNm s (rQ s 0 2) g (nm g)) ∧ rI s (rQ s 0 2) 5 = to
def MVr (s : Mem) (T : Tab) (K : List Int) (hc : Nat) (hf : Nat → Int) (nx : Nat) (U : UL) (nm : Nat → List Int) (to : Int) : Prop := MK s K ∧ MHu s hc hf ∧ MU s nx U ∧ (∀ g, g < tG T → rI s 115 (7 + g) = nmB (nm g)) ∧ rI s 114 5 = to
def PV (T : Tab) (w : Nat → Int) (hc : Nat) (hf : Nat → Int) (U : UL) (nm : Nat → List Int) : Prop := (Tf T ∧ Wf T w ∧ Wh T w ∧ w 0 ≤ 999) ∧ Hf T hc hf ∧ UOk T U ∧ ∀ g, g < tG T → 1 ≤ (nm g).length ∧ (nm g).length ≤ 6 ∧ ∀ x ∈ nm g, 1 ≤ x ∧ x ≤ 26
/-- the table's half -/
def TZ (s : Mem) : Prop := ∃ nx, XZ s nx ∧ MZ s nx
def TV (s : Mem) : Prop := ∃ T w K hc hf nx U nm to, PV T w hc hf U nm ∧ XV s T w K hc hf nx U nm to ∧ MM s T w ∧ MVr s T K hc hf nx U nm to
def Bas (s : Mem) : Prop := ∃ tp pc rf fa fb z, Bys tp ∧ (0 ≤ z ∧ z < 2147483648) ∧ XB s tp pc rf fa fb z ∧ MB s tp pc rf fa fb z ∧ MQk s
def Inv (s : Mem) : Prop := Bas s ∧ (TZ s ∨ TV s)
def Op (F G : Mem → Rs) : Prop := ∀ s, Inv s → ∃ v s1 s2, F s = some (v, s1) ∧ G s1 = some (v, s2) ∧ Inv s2
/-! frames -/
section FR
variable {s s' : Mem} {P : Nat → Nat → Prop} {tp pc : List Int} {rf : Nat → Int} {fa fb z : Int} {nx : Nat} {T : Tab} {w : Nat → Int} {K : List Int} {hc : Nat} {hf : Nat → Int} {U : UL} {nm : Nat → List Int} {to : Int}
abbrev cXB (a k : Nat) : Prop := (a ≠ 1 ∨ k ≠ 1) ∧ a ≠ 2 ∧ (a ≠ 0 ∨ k ≠ 2 ∧ k ≠ 3 ∧ k ≠ 11 ∧ k ≠ 13 ∧ k ≠ 14 ∧ k ≠ 15) ∧ a ≠ 82 ∧ a ≠ 83
theorem XTp.fr3 (h : XTp s tp) (hf : Fr P s s') (h1 : ¬ P 1 1) (h2 : ∀ k, ¬ P 2 k) : XTp s' tp := ⟨(hf.i h1).trans h.1, h.2.1, h.2.2.fr hf (fun i _ => h2 i)⟩
theorem Ag.fr3 {p : Nat} {ls : List Int} (h : Ag s p ls) (hf : Fr P s s') (hp : ∀ k, ¬ P p k) : Ag s' p ls := fun i hi => (hf.i (hp i)).trans (h i hi)
theorem XB.fr (h : XB s tp pc rf fa fb z) (hf : Fr P s s') (hp : ∀ a k, P a k → cXB a k) : XB s' tp pc rf fa fb z := by
  obtain ⟨h1, ⟨h2, h3, h4⟩, h5, ⟨h6, h7⟩, h8, h9⟩ := h
  have g0 : ∀ k, k = 2 ∨ k = 3 ∨ k = 11 ∨ k = 13 ∨ k = 14 ∨ k = 15 → ¬ P 0 k := fun k hk q => by have := hp _ _ q; unfold cXB at this; omega
  have g1 : ¬ P 1 1 := fun q => by have := hp _ _ q; unfold cXB at this; omega
  have g2 : ∀ a k, a = 2 ∨ a = 82 ∨ a = 83 → ¬ P a k := fun a k ha q => by have := hp _ _ q; unfold cXB at this; omega
  refine ⟨h1.fr3 hf g1 (fun k => g2 _ _ (by omega)), ⟨(hf.i (g0 _ (by omega))).trans h2, h3, h4.fr3 hf (fun k => g2 _ _ (by omega))⟩, fun k hk => (hf.i (g2 _ _ (by omega))).trans (h5 k hk), ⟨(hf.i (g0 _ (by omega))).trans h6, (hf.i (g0 _ (by omega))).trans h7⟩, (hf.i (g0 _ (by omega))).trans h8, ?_⟩
  rw [hf.q (g0 2 (by omega)), hf.q (g0 3 (by omega))]
  exact h9
abbrev cMB (a k : Nat) : Prop := (a ≠ 84 ∨ k ≠ 1 ∧ k ≠ 7 ∧ k ≠ 8 ∧ k ≠ 72 ∧ k ≠ 109) ∧ a ≠ 85 ∧ a ≠ 86 ∧ a ≠ 158 ∧ (a < 87 ∨ 114 ≤ a ∧ a < 130 ∨ 155 ≤ a)
theorem MB.fr (h : MB s tp pc rf fa fb z) (hf : Fr P s s') (hp : ∀ a k, P a k → cMB a k) : MB s' tp pc rf fa fb z := by
  obtain ⟨⟨h1, h1b, h1c⟩, ⟨h2, h3, h4⟩, h5, ⟨h6, h7⟩, h8, h9⟩ := h
  have g0 : ∀ k, k = 1 ∨ k = 7 ∨ k = 8 ∨ k = 72 ∨ k = 109 → ¬ P 84 k := fun k hk q => by have := hp _ _ q; unfold cMB at this; omega
  have g2 : ∀ a k, a = 85 ∨ a = 86 ∨ a = 158 → ¬ P a k := fun a k ha q => by have := hp _ _ q; unfold cMB at this; omega
  exact ⟨⟨(hf.i (g0 _ (by omega))).trans h1, h1b, h1c.fr3 hf (fun k => g2 _ _ (by omega))⟩, ⟨(hf.i (g0 _ (by omega))).trans h2, h3, h4.fr3 hf (fun k => g2 _ _ (by omega))⟩, fun k hk => (hf.i (g2 _ _ (by omega))).trans (h5 k hk), ⟨(hf.i (g0 _ (by omega))).trans h6, (hf.i (g0 _ (by omega))).trans h7⟩, (hf.i (g0 _ (by omega))).trans h8, h9.fr2 hf (fun a k q => (hp a k q).2.2.2.2)⟩
theorem MQk.fr (h : MQk s) (hf : Fr P s s') (h1 : ¬ P 84 59) (h2 : ¬ P 84 53) (h3 : ¬ P 84 57) : MQk s' := by
  obtain ⟨⟨bs, b1, b2⟩, q1, q2⟩ := h
  exact ⟨⟨bs, (hf.i h1).trans b1, b2⟩, (hf.i h2).trans q1, (hf.i h3).trans q2⟩
abbrev cXZ (r a k : Nat) : Prop := (a < r ∨ r + 10 < a) ∧ (a ≠ 28 ∨ k ≠ 1 ∧ k ≠ 2) ∧ (a ≠ 42 ∨ k ≠ 1) ∧ (a ≠ 66 ∨ k ≠ 2) ∧ (a ≠ 44 ∨ k ≠ 1 ∧ k ≠ 2) ∧ (a ≠ 0 ∨ k ≠ 2)
theorem XZ.fr (h : XZ s nx) (hf : Fr P s s') (hp : ∀ a k, P a k → cXZ (rQ s 0 2) a k) : XZ s' nx := by
  obtain ⟨⟨h1, h2⟩, ⟨h3, h4⟩, h5, h6, h7, h8, h9⟩ := h
  have e : rQ s' 0 2 = rQ s 0 2 := hf.q (fun q => by have := (hp _ _ q).2.2.2.2.2; omega)
  have g : ∀ k, ¬ P (rQ s 0 2) k := fun k q => by have := (hp _ _ q).1; omega
  refine ⟨?_, ⟨(hf.i (fun q => by have := (hp _ _ q).2.1; omega)).trans h3, (hf.i (fun q => by have := (hp _ _ q).2.1; omega)).trans h4⟩, (hf.i (fun q => by have := (hp _ _ q).2.2.1; omega)).trans h5, (hf.i (fun q => by have := (hp _ _ q).2.2.2.1; omega)).trans h6, (hf.i (fun q => by have := (hp _ _ q).2.2.2.2.1; omega)).trans h7, h8, (hf.i (fun q => by have := (hp _ _ q).2.2.2.2.1; omega)).trans h9⟩
  rw [e, hf.i (g 1), hf.i (g 2)]
  exact ⟨h1, h2⟩
abbrev cMZ (a k : Nat) : Prop := (a ≠ 84 ∨ k ≠ 49 ∧ k ≠ 66 ∧ k ≠ 70 ∧ k ≠ 71) ∧ (a ≠ 114 ∨ k < 3) ∧ a ≠ 122
theorem MZ.fr (h : MZ s nx) (hf : Fr P s s') (hp : ∀ a k, P a k → cMZ a k) : MZ s' nx := by
  obtain ⟨⟨h1, h2, h3⟩, h4, h5, h6, h7⟩ := h
  have g : ∀ k, k = 49 ∨ k = 66 ∨ k = 70 ∨ k = 71 → ¬ P 84 k := fun k hk q => by have := (hp _ _ q).1; omega
  have g1 : ∀ k, 3 ≤ k → ¬ P 114 k := fun k hk q => by have := (hp _ _ q).2.1; omega
  exact ⟨⟨(hf.i (g _ (by omega))).trans h1, (hf.i (g1 _ (by omega))).trans h2, (hf.i (g1 _ (by omega))).trans h3⟩, fun i hi => (hf.i (fun q => (hp _ _ q).2.2 rfl)).trans (h4 i hi), (hf.i (g _ (by omega))).trans h5, (hf.i (g _ (by omega))).trans h6, (hf.i (g _ (by omega))).trans h7⟩
theorem ChC.fr {P : Nat → Nat → Prop} (h : ChC s T w) (hf : Fr P s s') (hp : ∀ k, k = 1 ∨ k = 3 ∨ k = 4 ∨ k = 5 → ¬ P 79 k) : ChC s' T w := by
  rcases h with h | ⟨n, h1, h2, h3, h4, h5⟩
  · exact Or.inl ((hf.i (hp _ (by omega))).trans h)
  · exact Or.inr ⟨n, (hf.i (hp _ (by omega))).trans h1, h2, (hf.i (hp _ (by omega))).trans h3, (hf.i (hp _ (by omega))).trans h4, (hf.i (hp _ (by omega))).trans h5⟩
theorem SeC.fr {P : Nat → Nat → Prop} (h : SeC s T w) (hf : Fr P s s') (hp : ∀ k, k = 2 ∨ k = 6 → ¬ P 79 k) (h81 : ∀ k, ¬ P 81 k) : SeC s' T w := by
  rcases h with h | ⟨n, h1, h2, h3, h4⟩
  · exact Or.inl ((hf.i (hp _ (by omega))).trans h)
  · exact Or.inr ⟨n, (hf.i (hp _ (by omega))).trans h1, h2, (hf.i (hp _ (by omega))).trans h3, fun k hk => (hf.i (h81 k)).trans (h4 k hk)⟩
/-- names and toast of the class -/
theorem XNm.fr3 {r : Nat} (hr : rQ s 0 2 = r) (h : ∀ g, g < tG T → XNm s (rQ s 0 2) g (nm g)) (h5 : rI s (rQ s 0 2) 5 = to) (hf : Fr P s s') (hp : ∀ a k, P a k → (a < r ∨ r + 10 < a) ∧ (a ≠ 0 ∨ k ≠ 2)) : (∀ g, g < tG T → XNm s' (rQ s' 0 2) g (nm g)) ∧ rI s' (rQ s' 0 2) 5 = to := by
  have e : rQ s' 0 2 = rQ s 0 2 := hf.q (fun q => by have := (hp _ _ q).2; omega)
  rw [e, hr]
  rw [hr] at h h5
  exact ⟨fun g hg k hk => (hf.i (fun q => by have := (hp _ _ q).1; omega)).trans (h g hg k hk), (hf.i (fun q => by have := (hp _ _ q).1; omega)).trans h5⟩
abbrev cXV (r a k : Nat) : Prop := ((a < r ∨ r + 10 < a) ∧ (a < 28 ∨ 33 ≤ a ∨ a = 28 ∧ k = 3) ∧ (a ≠ 0 ∨ k ≠ 2)) ∧ ((a ≠ 42 ∨ k ≠ 1) ∧ a ≠ 43) ∧ ((a ≠ 66 ∨ k ≠ 2) ∧ a ≠ 67) ∧ ((a ≠ 44 ∨ k = 0 ∨ 2 < k) ∧ (a < 46 ∨ 65 < a)) ∧ a ≠ 79 ∧ a ≠ 81
theorem XV.fr (h : XV s T w K hc hf nx U nm to) (hfr : Fr P s s') (hp : ∀ a k, P a k → cXV (rQ s 0 2) a k) : XV s' T w K hc hf nx U nm to := by
  obtain ⟨h1, h2, h3, h4, ⟨h5, h6⟩, h7, h8⟩ := h
  obtain ⟨g7, g8⟩ := XNm.fr3 rfl h7 h8 hfr (fun a k q => ⟨(hp a k q).1.1, (hp a k q).1.2.2⟩)
  exact ⟨h1.fr2 hfr (fun a k q => (hp a k q).1), h2.fr hfr (fun a k q => (hp a k q).2.1), h3.fr hfr (fun a k q => (hp a k q).2.2.1), h4.fr hfr (fun a k q => (hp a k q).2.2.2.1), ⟨h5.fr hfr (fun k _ q => (hp _ _ q).2.2.2.2.1 rfl), h6.fr hfr (fun k _ q => (hp _ _ q).2.2.2.2.1 rfl) (fun k q => (hp _ _ q).2.2.2.2.2 rfl)⟩, g7, g8⟩
abbrev cMV (a k : Nat) : Prop := (a ≠ 115 ∨ k < 7) ∧ (a ≠ 114 ∨ k ≠ 5) ∧ (a ≠ 122 ∨ k < 24) ∧ a ≠ 127 ∧ a ≠ 129 ∧ (a ≠ 84 ∨ k ≠ 66 ∧ k ≠ 70 ∧ k ≠ 71)
theorem MVr.fr (h : MVr s T K hc hf nx U nm to) (hfr : Fr P s s') (hp : ∀ a k, P a k → cMV a k) : MVr s' T K hc hf nx U nm to := by
  obtain ⟨h1, h2, h3, h4, h5⟩ := h
  exact ⟨h1.fr hfr (fun a k q => by have := (hp a k q).2.2.1; omega), h2.fr hfr (fun a k q => ⟨by have := (hp a k q).2.2.2.2.2; omega, (hp a k q).2.2.2.1⟩), h3.fr hfr (fun a k q => ⟨by have := (hp a k q).2.2.2.2.2; omega, (hp a k q).2.2.2.2.1⟩), fun g hg => (hfr.i (fun q => by have := (hp _ _ q).1; omega)).trans (h4 g hg), (hfr.i (fun q => by have := (hp _ _ q).2.1; omega)).trans h5⟩
end FR
abbrev LX : Nat → Nat → Prop := fun a _ => a < 84
abbrev LM : Nat → Nat → Prop := fun a _ => 84 ≤ a
theorem lx_mb {a k : Nat} (h : a < 84) : cMB a k := by unfold cMB; omega
theorem lx_mz {a k : Nat} (h : a < 84) : cMZ a k := by unfold cMZ; omega
theorem lx_mv {a k : Nat} (h : a < 84) : cMV a k := by unfold cMV; omega
theorem lm_xb {a k : Nat} (h : 84 ≤ a) : cXB a k := by unfold cXB; omega
theorem lm_xz {r a k : Nat} (hr : r ≤ 17) (h : 84 ≤ a) : cXZ r a k := by unfold cXZ; omega
theorem lm_xv {r a k : Nat} (hr : r ≤ 17) (h : 84 ≤ a) : cXV r a k := by unfold cXV; omega
theorem MQk.lx {s s' : Mem} {P : Nat → Nat → Prop} (h : MQk s) (hf : Fr P s s') (hp : ∀ a k, P a k → a < 84) : MQk s' := h.fr hf (fun q => by have := hp _ _ q; omega) (fun q => by have := hp _ _ q; omega) (fun q => by have := hp _ _ q; omega)
theorem MM.lx {s s' : Mem} {T : Tab} {w : Nat → Int} {P : Nat → Nat → Prop} (h : MM s T w) (hf : Fr P s s') (hp : ∀ a k, P a k → a < 84) : MM s' T w := h.fr hf (fun a i q => by have := hp a i q; omega) (fun a i q => by have := hp a i q; omega)
theorem MU.nx {s : Mem} {nx : Nat} {U : UL} (h : MU s nx U) : nx < 20 := h.2.1
end INV
