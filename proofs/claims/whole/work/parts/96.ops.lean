/-! calls: what changes no table -/
section OPS
theorem MC.fr4 {s s' : Mem} {k : Nat} {cs : List Int} {P : Nat → Nat → Prop} (h : MC s k cs) (hf : Fr P s s') (hp : ∀ a i, P a i → (a ≠ 119 ∨ i < 3) ∧ (a ≠ 120 ∨ i < 3) ∧ (a ≠ 121 ∨ i < 1600)) : MC s' k cs := by
  have g9 : ¬ P 119 (3 + k) := fun q => by have := (hp _ _ q).1; omega
  rcases h with ⟨a, h1, h2, h3, h4⟩ | ⟨h1, h2⟩
  · exact Or.inl ⟨a, (hf.i g9).trans h1, (hf.i (fun q => by have := (hp _ _ q).2.1; omega)).trans h2, h3, fun i hi => (hf.i (fun q => by have := (hp _ _ q).2.2; omega)).trans (h4 i hi)⟩
  · exact Or.inr ⟨(hf.i g9).trans h1, h2⟩
abbrev cMM (a i : Nat) : Prop := ((a ≠ 114 ∨ i < 3) ∧ (a ≠ 116 ∨ i < 14) ∧ (a ≠ 119 ∨ i < 3) ∧ (a ≠ 120 ∨ i < 3) ∧ (a ≠ 121 ∨ i < 1600)) ∧ (a ≠ 122 ∨ 24 ≤ i) ∧ (a ≠ 84 ∨ i ≠ 49 ∧ i ≠ 53 ∧ i ≠ 54 ∧ i ≠ 57)
theorem MM.fr4 {s s' : Mem} {T : Tab} {w : Nat → Int} {P : Nat → Nat → Prop} (h : MM s T w) (hf : Fr P s s') (hp : ∀ a i, P a i → cMM a i) : MM s' T w := by
  obtain ⟨⟨h1, h2, h3, h4, h5, h6, h7⟩, k2, k3, k4, k5⟩ := h
  have g84 : ∀ i, i = 49 ∨ i = 53 ∨ i = 54 ∨ i = 57 → ¬ P 84 i := fun i hi q => by have := (hp _ _ q).2.2; omega
  have g114 : ∀ i, 3 ≤ i → ¬ P 114 i := fun i hi q => by have := (hp _ _ q).1.1; omega
  have g116 : ∀ i, 14 ≤ i → ¬ P 116 i := fun i hi q => by have := (hp _ _ q).1.2.1; omega
  have gC : ∀ a i, P a i → (a ≠ 119 ∨ i < 3) ∧ (a ≠ 120 ∨ i < 3) ∧ (a ≠ 121 ∨ i < 1600) := fun a i q => (hp a i q).1.2.2
  refine ⟨⟨(hf.i (g114 _ (by omega))).trans h1, (hf.i (g114 _ (by omega))).trans h2, fun k hk => ?_, fun k hk => (hf.i (g116 _ (by omega))).trans (h4 k hk), h5.fr4 hf gC, h6.fr4 hf gC, h7.fr4 hf gC⟩, fun i hi => (hf.i (fun q => by have := (hp _ _ q).2.1; omega)).trans (k2 i hi), (hf.i (g84 _ (by omega))).trans k3, (hf.i (g84 _ (by omega))).trans k4, (hf.i (g84 _ (by omega))).trans k5⟩
  rw [hf.i (g84 53 (by omega)), hf.i (g84 54 (by omega)), hf.i (g116 _ (by omega))]
  exact h3 k hk
/-- what no table's half is touched by: the class, the reference -/
abbrev cHX (r a k : Nat) : Prop := a < 84 ∧ (a < r ∨ r + 10 < a) ∧ (a ≠ 0 ∨ k ≠ 2) ∧ (a < 28 ∨ 34 ≤ a) ∧ (a < 42 ∨ 66 ≤ a) ∧ (a ≠ 66 ∨ 4 ≤ k) ∧ a ≠ 67 ∧ (a < 79 ∨ 82 ≤ a)
abbrev cHM (a k : Nat) : Prop := 84 ≤ a ∧ (a ≠ 84 ∨ k ≠ 49 ∧ k ≠ 53 ∧ k ≠ 54 ∧ k ≠ 57 ∧ k ≠ 66 ∧ k ≠ 70 ∧ k ≠ 71) ∧ (a ≠ 114 ∨ k < 3) ∧ (a ≠ 115 ∨ k < 7) ∧ (a ≠ 116 ∨ k < 14) ∧ (a ≠ 119 ∨ k < 3) ∧ (a ≠ 120 ∨ k < 3) ∧ (a ≠ 121 ∨ k < 1600) ∧ a ≠ 122 ∧ a ≠ 127 ∧ a ≠ 129
theorem cHX_z {r a k : Nat} (h : cHX r a k) : cXZ r a k := by
  obtain ⟨h1, h2, h3, h4, h5, h6, h7, h8⟩ := h
  exact ⟨h2, by omega, by omega, by omega, by omega, h3⟩
theorem cHX_v {r a k : Nat} (h : cHX r a k) : cXV r a k := by
  obtain ⟨h1, h2, h3, h4, h5, h6, h7, h8⟩ := h
  exact ⟨⟨h2, by omega, h3⟩, ⟨by omega, by omega⟩, ⟨by omega, h7⟩, ⟨by omega, by omega⟩, by omega, by omega⟩
theorem cHM_z {a k : Nat} (h : cHM a k) : cMZ a k := by
  obtain ⟨h1, h2, h3, -, -, -, -, -, h9, -, -⟩ := h
  exact ⟨by omega, h3, h9⟩
theorem cHM_v {a k : Nat} (h : cHM a k) : cMV a k := by
  obtain ⟨h1, h2, h3, h4, -, -, -, -, h9, h10, h11⟩ := h
  exact ⟨h4, by omega, Or.inl h9, h10, h11, by omega⟩
theorem cHM_m {a k : Nat} (h : cHM a k) : cMM a k := by
  obtain ⟨h1, h2, h3, h4, h5, h6, h7, h8, h9, h10, h11⟩ := h
  exact ⟨⟨h3, h5, h6, h7, h8⟩, Or.inl h9, by omega⟩
theorem hlfX {s s2 : Mem} {P : Nat → Nat → Prop} (h : TZ s ∨ TV s) (hr : 6 ≤ rQ s 0 2 ∧ rQ s 0 2 ≤ 17) (hf : Fr P s s2) (hp : ∀ a k, P a k → cHX (rQ s 0 2) a k) : TZ s2 ∨ TV s2 := by
  have hl : ∀ a k, P a k → a < 84 := fun a k q => (hp a k q).1
  rcases h with ⟨nx, h1, h2⟩ | ⟨T, w, K, hc, hf2, nx, U, nm, to, h1, h2, h3, h4⟩
  · exact Or.inl ⟨nx, h1.fr hf (fun a k q => cHX_z (hp a k q)), h2.fr hf (fun a k q => lx_mz (hl a k q))⟩
  · exact Or.inr ⟨T, w, K, hc, hf2, nx, U, nm, to, h1, h2.fr hf (fun a k q => cHX_v (hp a k q)), h3.lx hf hl, h4.fr hf (fun a k q => lx_mv (hl a k q))⟩
theorem hlfM {s s2 : Mem} {P : Nat → Nat → Prop} (h : TZ s ∨ TV s) (hr : 6 ≤ rQ s 0 2 ∧ rQ s 0 2 ≤ 17) (hf : Fr P s s2) (hp : ∀ a k, P a k → cHM a k) : TZ s2 ∨ TV s2 := by
  have hl : ∀ a k, P a k → 84 ≤ a := fun a k q => (hp a k q).1
  rcases h with ⟨nx, h1, h2⟩ | ⟨T, w, K, hc, hf2, nx, U, nm, to, h1, h2, h3, h4⟩
  · exact Or.inl ⟨nx, h1.fr hf (fun a k q => lm_xz hr.2 (hl a k q)), h2.fr hf (fun a k q => cHM_z (hp a k q))⟩
  · exact Or.inr ⟨T, w, K, hc, hf2, nx, U, nm, to, h1, h2.fr hf (fun a k q => lm_xv hr.2 (hl a k q)), h3.fr4 hf (fun a k q => cHM_m (hp a k q)), h4.fr hf (fun a k q => cHM_v (hp a k q))⟩
section BAS
variable {s s2 : Mem} {P : Nat → Nat → Prop} {tp tp' pc : List Int} {rf rf' : Nat → Int} {fa fa' fb fb' z z' : Int}
theorem XB.r (h : XB s tp pc rf fa fb z) : 6 ≤ rQ s 0 2 ∧ rQ s 0 2 ≤ 17 := by
  have := h.2.2.2.2.2
  omega
theorem XB.lm (h : XB s tp pc rf fa fb z) (hf : Fr P s s2) (hp : ∀ a k, P a k → 84 ≤ a) : XB s2 tp pc rf fa fb z := h.fr hf (fun a k q => lm_xb (hp a k q))
theorem MB.lx (h : MB s tp pc rf fa fb z) (hf : Fr P s s2) (hp : ∀ a k, P a k → a < 84) : MB s2 tp pc rf fa fb z := h.fr hf (fun a k q => lx_mb (hp a k q))
abbrev cUX (a k : Nat) : Prop := (a ≠ 0 ∨ k ≠ 2 ∧ k ≠ 3 ∧ k ≠ 11) ∧ a ≠ 82
abbrev cUM (a k : Nat) : Prop := (a ≠ 84 ∨ k ≠ 109) ∧ a ≠ 158 ∧ (a < 87 ∨ 114 ≤ a ∧ a < 130 ∨ 155 ≤ a)
theorem XB.up (hX : XB s tp pc rf fa fb z) (hf : Fr P s s2) (hp : ∀ a k, P a k → cUX a k) (xt : XTp s2 tp') (xr : ∀ k, k < 6 → rI s2 83 k = rf' k) (xf : rI s2 0 13 = fa' ∧ rI s2 0 14 = fb') (xz : rI s2 0 15 = z') : XB s2 tp' pc rf' fa' fb' z' := by
  have g0 : ∀ k, k = 2 ∨ k = 3 ∨ k = 11 → ¬ P 0 k := fun k hk q => by have := (hp _ _ q).1; omega
  obtain ⟨-, ⟨p1, p2, p3⟩, -, -, -, p4⟩ := hX
  refine ⟨xt, ⟨(hf.i (g0 _ (by omega))).trans p1, p2, p3.fr3 hf (fun k q => (hp _ _ q).2 rfl)⟩, xr, xf, xz, ?_⟩
  rw [hf.q (g0 2 (by omega)), hf.q (g0 3 (by omega))]
  exact p4
theorem MB.up (hM : MB s tp pc rf fa fb z) (hf : Fr P s s2) (hp : ∀ a k, P a k → cUM a k) (mt : MTp s2 tp') (mr : ∀ k, k < 6 → rI s2 86 k = rf' k) (mf : rI s2 84 7 = fa' ∧ rI s2 84 8 = fb') (mz : rI s2 84 72 = z') : MB s2 tp' pc rf' fa' fb' z' := by
  obtain ⟨-, ⟨q1, q2, q3⟩, -, -, -, q4⟩ := hM
  exact ⟨mt, ⟨(hf.i (fun q => by have := (hp _ _ q).1; omega)).trans q1, q2, q3.fr3 hf (fun k q => (hp _ _ q).2.1 rfl)⟩, mr, mf, mz, q4.fr2 hf (fun a k q => (hp a k q).2.2)⟩
theorem kp {p : Nat} (h : ∀ k, k < 6 → rI s p k = rf k) (hf : Fr P s s2) (hp : ∀ k, ¬ P p k) : ∀ k, k < 6 → rI s2 p k = rf k := fun k hk => (hf.i (hp k)).trans (h k hk)
theorem kr {p k : Nat} (hk : k < 6) (h : ∀ k, k < 6 → rI s p k = rf k) (h1 : rI s2 p k = w32 (rI s p k + 1)) (h2 : ∀ j, j ≠ k → rI s2 p j = rI s p j) : ∀ j, j < 6 → rI s2 p j = (if j = k then w32 (rf k + 1) else rf j) := fun j hj => by
  by_cases e : j = k
  · rw [if_pos e, e, h1, h k hk]
  · rw [if_neg e, h2 j e, h j hj]
theorem MTp.lx (h : MTp s tp) (hf : Fr P s s2) (hp : ∀ a k, P a k → a < 84) : MTp s2 tp := ⟨(hf.i (fun q => by have := hp _ _ q; omega)).trans h.1, h.2.1, h.2.2.fr3 hf (fun k q => by have := hp _ _ q; omega)⟩
theorem XTp.lm (h : XTp s tp) (hf : Fr P s s2) (hp : ∀ a k, P a k → 84 ≤ a) : XTp s2 tp := h.fr3 hf (fun q => by have := hp _ _ q; omega) (fun k q => by have := hp _ _ q; omega)
end BAS
/-- queries that change nothing -/
theorem op_same {F G : Mem → Rs} {s : Mem} (h : Inv s) {v : Int} (hF : F s = some (v, s)) (hG : G s = some (v, s)) : ∃ v s1 s2, F s = some (v, s1) ∧ G s1 = some (v, s2) ∧ Inv s2 := ⟨v, s, s, hF, hG, h⟩
/-- refused -/
abbrev R83 (k : Nat) : Nat → Nat → Prop := fun a i => a = 83 ∧ i = k
abbrev R86 (k : Nat) : Nat → Nat → Prop := fun a i => a = 86 ∧ i = k
theorem R83_l {k : Nat} : ∀ a i, R83 k a i → a < 84 := fun a i q => by rw [q.1]; decide
theorem R86_l {k : Nat} : ∀ a i, R86 k a i → 84 ≤ a := fun a i q => by rw [q.1]; decide
theorem R83_u {k : Nat} : ∀ a i, R83 k a i → cUX a i := fun a i q => by rw [q.1]; exact ⟨Or.inl (by decide), by decide⟩
theorem R86_u {k : Nat} : ∀ a i, R86 k a i → cUM a i := fun a i q => by rw [q.1]; exact ⟨Or.inl (by decide), by decide, Or.inl (by decide)⟩
theorem R83_h {r k : Nat} (hr : 6 ≤ r ∧ r ≤ 17) : ∀ a i, R83 k a i → cHX r a i := fun a i q => by
  rw [q.1]
  exact ⟨by decide, Or.inr (by omega), Or.inl (by decide), Or.inr (by decide), Or.inr (by decide), Or.inl (by decide), by decide, Or.inr (by decide)⟩
theorem R86_h {k : Nat} : ∀ a i, R86 k a i → cHM a i := fun a i q => by
  rw [q.1]
  exact ⟨by decide, Or.inl (by decide), Or.inl (by decide), Or.inl (by decide), Or.inl (by decide), Or.inl (by decide), Or.inl (by decide), Or.inl (by decide), by decide, by decide, by decide⟩
theorem nR83 {k a i : Nat} (h : a ≠ 83) : ¬ R83 k a i := fun q => h q.1
theorem nR86 {k a i : Nat} (h : a ≠ 86) : ¬ R86 k a i := fun q => h q.1
theorem ref_w {s : Mem} (p k : Nat) : Fr (fun a i => a = p ∧ i = k) s (wI s p k (w32 (rI s p k + 1))) ∧ rI (wI s p k (w32 (rI s p k + 1))) p k = w32 (rI s p k + 1) ∧ ∀ j, j ≠ k → rI (wI s p k (w32 (rI s p k + 1))) p j = rI s p j := ⟨Fr.rf.w ⟨rfl, rfl⟩, rI_same _ _ _ _, fun j hj => rI_other _ _ _ _ (fun q => hj q.2)⟩
theorem op_ref {F G : Mem → Rs} {s : Mem} (h : Inv s) {v : Int} {k : Nat} (hk : k < 6) (hF : F s = some (v, wI s 83 k (w32 (rI s 83 k + 1)))) (hG : ∀ s1, Fr (R83 k) s s1 → G s1 = some (v, wI s1 86 k (w32 (rI s1 86 k + 1)))) : ∃ v s1 s2, F s = some (v, s1) ∧ G s1 = some (v, s2) ∧ Inv s2 := by
  obtain ⟨⟨tp, pc, rf, fa, fb, z, hb, hz, hX, hM, hq⟩, hT⟩ := h
  obtain ⟨f1, u1, u2⟩ := ref_w (s := s) 83 k
  refine ⟨v, _, _, hF, hG _ f1, ?_⟩
  generalize wI s 83 k (w32 (rI s 83 k + 1)) = s1 at f1 u1 u2 ⊢
  have hr := hX.r
  have X1 : XB s1 tp pc (fun j => if j = k then w32 (rf k + 1) else rf j) fa fb z := hX.up f1 R83_u (hX.1.fr3 f1 (nR83 (by decide)) (fun i => nR83 (by decide))) (kr hk hX.2.2.1 u1 u2) ⟨(f1.i (nR83 (by decide))).trans hX.2.2.2.1.1, (f1.i (nR83 (by decide))).trans hX.2.2.2.1.2⟩ ((f1.i (nR83 (by decide))).trans hX.2.2.2.2.1)
  have M1 := hM.lx f1 R83_l
  have T1 := hlfX hT hr f1 (R83_h hr)
  have q1 := hq.lx f1 R83_l
  obtain ⟨f2, v1, v2⟩ := ref_w (s := s1) 86 k
  generalize wI s1 86 k (w32 (rI s1 86 k + 1)) = s2 at f2 v1 v2 ⊢
  have M2 : MB s2 tp pc (fun j => if j = k then w32 (rf k + 1) else rf j) fa fb z := M1.up f2 R86_u ⟨(f2.i (nR86 (by decide))).trans M1.1.1, M1.1.2.1, M1.1.2.2.fr3 f2 (fun i => nR86 (by decide))⟩ (kr hk M1.2.2.1 v1 v2) ⟨(f2.i (nR86 (by decide))).trans M1.2.2.2.1.1, (f2.i (nR86 (by decide))).trans M1.2.2.2.1.2⟩ ((f2.i (nR86 (by decide))).trans M1.2.2.2.2.1)
  exact ⟨⟨tp, pc, _, fa, fb, z, hb, hz, X1.lm f2 R86_l, M2, q1.fr f2 (nR86 (by decide)) (nR86 (by decide)) (nR86 (by decide))⟩, hlfM T1 X1.r f2 R86_h⟩
/-- the tape alone changes -/
theorem PTp_l : ∀ a k, PTp a k → a < 84 := fun a k q => by unfold PTp at q; omega
theorem PTq_l : ∀ a k, PTq a k → 84 ≤ a := fun a k q => by unfold PTq at q; omega
theorem PTp_u : ∀ a k, PTp a k → cUX a k := fun a k q => by
  rcases q with ⟨rfl, rfl⟩ | rfl
  · exact ⟨Or.inl (by decide), by decide⟩
  · exact ⟨Or.inl (by decide), by decide⟩
theorem PTq_u : ∀ a k, PTq a k → cUM a k := fun a k q => by
  rcases q with ⟨rfl, rfl⟩ | rfl
  · exact ⟨Or.inr (by decide), by decide, Or.inl (by decide)⟩
  · exact ⟨Or.inl (by decide), by decide, Or.inl (by decide)⟩
theorem PTp_h {r : Nat} (hr : 6 ≤ r ∧ r ≤ 17) : ∀ a i, PTp a i → cHX r a i := fun a i q => by
  rcases q with ⟨rfl, rfl⟩ | rfl
  · exact ⟨by decide, Or.inl (by omega), Or.inl (by decide), Or.inl (by decide), Or.inl (by decide), Or.inl (by decide), by decide, Or.inl (by decide)⟩
  · exact ⟨by decide, Or.inl (by omega), Or.inl (by decide), Or.inl (by decide), Or.inl (by decide), Or.inl (by decide), by decide, Or.inl (by decide)⟩
theorem PTq_h : ∀ a i, PTq a i → cHM a i := fun a i q => by
  rcases q with ⟨rfl, rfl⟩ | rfl
  · exact ⟨by decide, Or.inr (by decide), Or.inl (by decide), Or.inl (by decide), Or.inl (by decide), Or.inl (by decide), Or.inl (by decide), Or.inl (by decide), by decide, by decide, by decide⟩
  · exact ⟨by decide, Or.inl (by decide), Or.inl (by decide), Or.inl (by decide), Or.inl (by decide), Or.inl (by decide), Or.inl (by decide), Or.inl (by decide), by decide, by decide, by decide⟩
theorem nPTp {a k : Nat} (h : a ≠ 1 ∧ a ≠ 2) : ¬ PTp a k := fun q => by unfold PTp at q; omega
theorem nPTq {a k : Nat} (h : a ≠ 84 ∧ a ≠ 85 ∨ a = 84 ∧ k ≠ 1) : ¬ PTq a k := fun q => by unfold PTq at q; omega
theorem op_tape {F G : Mem → Rs} {s s1 s2 : Mem} {tp' : List Int} {v : Int} (h : Inv s) (hF : F s = some (v, s1)) (f1 : Fr PTp s s1) (hG : G s1 = some (v, s2)) (f2 : Fr PTq s1 s2) (hb : Bys tp') (xt : XTp s1 tp') (mt : MTp s2 tp') : ∃ v s1 s2, F s = some (v, s1) ∧ G s1 = some (v, s2) ∧ Inv s2 := by
  obtain ⟨⟨tp, pc, rf, fa, fb, z, -, hz, hX, hM, hq⟩, hT⟩ := h
  have hr := hX.r
  have X1 : XB s1 tp' pc rf fa fb z := hX.up f1 PTp_u xt (kp hX.2.2.1 f1 (fun k => nPTp (by decide))) ⟨(f1.i (nPTp (by decide))).trans hX.2.2.2.1.1, (f1.i (nPTp (by decide))).trans hX.2.2.2.1.2⟩ ((f1.i (nPTp (by decide))).trans hX.2.2.2.2.1)
  have M1 := hM.lx f1 PTp_l
  have M2 : MB s2 tp' pc rf fa fb z := M1.up f2 PTq_u mt (kp M1.2.2.1 f2 (fun k => nPTq (Or.inl (by decide)))) ⟨(f2.i (nPTq (Or.inr (by decide)))).trans M1.2.2.2.1.1, (f2.i (nPTq (Or.inr (by decide)))).trans M1.2.2.2.1.2⟩ ((f2.i (nPTq (Or.inr (by decide)))).trans M1.2.2.2.2.1)
  have q2 := (hq.lx f1 PTp_l).fr f2 (nPTq (Or.inr (by decide))) (nPTq (Or.inr (by decide))) (nPTq (Or.inr (by decide)))
  exact ⟨v, s1, s2, hF, hG, ⟨tp', pc, rf, fa, fb, z, hb, hz, X1.lm f2 PTq_l, M2, q2⟩, hlfM (hlfX hT hr f1 (PTp_h hr)) X1.r f2 PTq_h⟩
theorem o_feed (D : Nat) (a b c d e : Int) : Op (f_X_feed (D + 2) a b c d e) (f_M_feed (D + 2) a b c d e) := fun s h => by
  obtain ⟨⟨tp, pc, rf, fa, fb, z, hb, hz, hX, hM, hq⟩, hT⟩ := id h
  have x := x_feed D hX.1 a b c d e
  by_cases c20 : tp.length + 20 ≤ 1600
  · obtain ⟨s1, e1, f1, t1⟩ := x.1 c20
    obtain ⟨s2, e2, f2, t2⟩ := (m_feed (D + 1) (hM.1.lx f1 PTp_l) a b c d e).1 c20
    exact op_tape h e1 f1 e2 f2 (hb.app (Bys_fds a b c d e)) t1 t2
  · exact op_ref h (k := 0) (by decide) (x.2 c20) (fun s1 f1 => (m_feed (D + 1) (hM.1.lx f1 R83_l) a b c d e).2 c20)
theorem o_end (D : Nat) (a : Int) : Op (f_X_end (D + 2) a) (f_M_end (D + 2) a) := fun s h => by
  obtain ⟨⟨tp, pc, rf, fa, fb, z, hb, hz, hX, hM, hq⟩, hT⟩ := id h
  have x := x_end D hX.1 a
  by_cases c20 : cEnd tp a
  · obtain ⟨s1, e1, f1, t1⟩ := x.1 c20
    obtain ⟨s2, e2, f2, t2⟩ := (m_end (D + 1) (hM.1.lx f1 PTp_l) a).1 c20
    exact op_tape h e1 f1 e2 f2 hb.take t1 t2
  · exact op_ref h (k := 0) (by decide) (x.2 c20) (fun s1 f1 => (m_end (D + 1) (hM.1.lx f1 R83_l) a).2 c20)
theorem o_fault (D : Nat) (a : Int) : Op (f_X_fault (D + 1) a) (f_M_fault (D + 1) a) := fun s h => by
  obtain ⟨⟨tp, pc, rf, fa, fb, z, hb, hz, hX, hM, hq⟩, hT⟩ := id h
  refine op_same h (x_fault D s a) ?_
  rw [m_fault D s a, hX.2.2.2.1.1, hX.2.2.2.1.2, hM.2.2.2.1.1, hM.2.2.2.1.2]
theorem o_status (D : Nat) (a : Int) : Op (f_X_status (D + 2) a) (f_M_status (D + 2) a) := fun s h => by
  obtain ⟨⟨tp, pc, rf, fa, fb, z, hb, hz, hX, hM, hq⟩, hT⟩ := id h
  refine op_same h (x_status (D + 1) s a) ?_
  rw [m_status D s a]
  by_cases c : 0 ≤ a ∧ a ≤ 5
  · rw [if_pos c, if_pos c, hX.2.2.1 a.toNat (by omega), hM.2.2.1 a.toNat (by omega)]
  · rw [if_neg c, if_neg c]
theorem o_octet (D : Nat) (a : Int) : Op (f_X_octet (D + 1) a) (f_M_octet (D + 1) a) := fun s h => by
  obtain ⟨⟨tp, pc, rf, fa, fb, z, hb, hz, hX, hM, hq⟩, hT⟩ := id h
  exact op_same h (x_octet D hX.2.1 a) (m_octet D hM.2.1 a)
abbrev S15 : Nat → Nat → Prop := fun a i => a = 0 ∧ i = 15
abbrev S72 : Nat → Nat → Prop := fun a i => a = 84 ∧ i = 72
theorem S15_l : ∀ a i, S15 a i → a < 84 := fun a i q => by rw [q.1]; decide
theorem S72_l : ∀ a i, S72 a i → 84 ≤ a := fun a i q => by rw [q.1]; decide
theorem S15_h {r : Nat} (hr : 6 ≤ r ∧ r ≤ 17) : ∀ a i, S15 a i → cHX r a i := fun a i q => by
  rw [q.1, q.2]
  exact ⟨by decide, Or.inl (by omega), Or.inr (by decide), Or.inl (by decide), Or.inl (by decide), Or.inl (by decide), by decide, Or.inl (by decide)⟩
theorem S72_h : ∀ a i, S72 a i → cHM a i := fun a i q => by
  rw [q.1, q.2]
  exact ⟨by decide, Or.inr (by decide), Or.inl (by decide), Or.inl (by decide), Or.inl (by decide), Or.inl (by decide), Or.inl (by decide), Or.inl (by decide), by decide, by decide, by decide⟩
theorem nS15 {a k : Nat} (h : a ≠ 0 ∨ k ≠ 15) : ¬ S15 a k := fun q => by unfold S15 at q; omega
theorem nS72 {a k : Nat} (h : a ≠ 84 ∨ k ≠ 72) : ¬ S72 a k := fun q => by unfold S72 at q; omega
theorem o_seed (D : Nat) (a : Int) (ha : rng32 a) : Op (f_X_seed (D + 2) a) (f_M_seed (D + 2) a) := fun s h => by
  obtain ⟨⟨tp, pc, rf, fa, fb, z, hb, hz, hX, hM, hq⟩, hT⟩ := id h
  have x := x_seed D s a
  by_cases c : 0 ≤ a
  · rw [if_pos c] at x
    have m := m_seed (D + 1) (wI s 0 15 a) a
    rw [if_pos c] at m
    refine ⟨_, _, _, x, m, ?_⟩
    have f1 : Fr S15 s (wI s 0 15 a) := Fr.rf.w ⟨rfl, rfl⟩
    have u1 : rI (wI s 0 15 a) 0 15 = a := rI_same _ _ _ _
    generalize wI s 0 15 a = s1 at f1 u1 ⊢
    have f2 : Fr S72 s1 (wI s1 84 72 a) := Fr.rf.w ⟨rfl, rfl⟩
    have u2 : rI (wI s1 84 72 a) 84 72 = a := rI_same _ _ _ _
    generalize wI s1 84 72 a = s2 at f2 u2 ⊢
    have hr := hX.r
    have ha2 : a < 2147483648 := ha.2
    have X1 : XB s1 tp pc rf fa fb a := hX.up f1 (fun p i q => by rw [q.1, q.2]; exact ⟨Or.inr (by decide), by decide⟩) (hX.1.fr3 f1 (nS15 (by decide)) (fun k => nS15 (Or.inl (by decide)))) (kp hX.2.2.1 f1 (fun k => nS15 (Or.inl (by decide)))) ⟨(f1.i (nS15 (by decide))).trans hX.2.2.2.1.1, (f1.i (nS15 (by decide))).trans hX.2.2.2.1.2⟩ u1
    have M1 := hM.lx f1 S15_l
    have M2 : MB s2 tp pc rf fa fb a := M1.up f2 (fun p i q => by rw [q.1, q.2]; exact ⟨Or.inr (by decide), by decide, Or.inl (by decide)⟩) ⟨(f2.i (nS72 (by decide))).trans M1.1.1, M1.1.2.1, M1.1.2.2.fr3 f2 (fun i => nS72 (Or.inl (by decide)))⟩ (kp M1.2.2.1 f2 (fun k => nS72 (Or.inl (by decide)))) ⟨(f2.i (nS72 (by decide))).trans M1.2.2.2.1.1, (f2.i (nS72 (by decide))).trans M1.2.2.2.1.2⟩ u2
    have q2 := (hq.lx f1 S15_l).fr f2 (nS72 (by decide)) (nS72 (by decide)) (nS72 (by decide))
    exact ⟨⟨tp, pc, rf, fa, fb, a, hb, ⟨c, ha2⟩, X1.lm f2 S72_l, M2, q2⟩, hlfM (hlfX hT hr f1 (S15_h hr)) X1.r f2 S72_h⟩
  · rw [if_neg c] at x
    exact op_ref h (k := 5) (by decide) x (fun s1 f1 => by rw [m_seed (D + 1) s1 a, if_neg c])
end OPS
