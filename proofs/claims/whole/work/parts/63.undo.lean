/-! what was, to be undone; on both sides -/
abbrev UL : Type := List ((Nat → Int) × List Int)
def ug (U : UL) (i : Nat) : (Nat → Int) × List Int := U.getD i (fun _ => 0, [])
def kl (K : List Int) (c : Nat) : Prop := c ≤ 40 ∧ K.length = 4 * c
def XRow (s : Mem) (p : Nat) (T : Tab) (u : (Nat → Int) × List Int) : Prop := rI s p 0 = u.1 0 ∧ HB (rI s p 1) u.1 ∧ (∀ k, k < tG T → rI s p (3 + k) = u.1 (10 + 2 * k)) ∧ (∀ k, k < tG T → rI s p (10 + k) = u.1 (11 + 2 * k)) ∧ ∃ c, kl u.2 c ∧ rI s p 2 = (c : Int) ∧ ∀ i, i < 4 * c → rI s p (17 + i) = u.2.getD i 0
def MRow (s : Mem) (r : Nat) (u : (Nat → Int) × List Int) : Prop := (∀ i, i < 24 → rI s 129 (185 * r + i) = u.1 i) ∧ ∃ c, kl u.2 c ∧ rI s 129 (185 * r + 24) = (c : Int) ∧ ∀ i, i < 4 * c → rI s 129 (185 * r + (25 + i)) = u.2.getD i 0
def XU (s : Mem) (T : Tab) (nx : Nat) (U : UL) : Prop := rI s 44 1 = (nx : Int) ∧ nx < 20 ∧ rI s 44 2 = (U.length : Int) ∧ U.length ≤ 20 ∧ ∀ i, i < U.length → XRow s (46 + (nx + 19 - i) % 20) T (ug U i)
def MU (s : Mem) (nx : Nat) (U : UL) : Prop := rI s 84 71 = (nx : Int) ∧ nx < 20 ∧ rI s 84 70 = (U.length : Int) ∧ U.length ≤ 20 ∧ ∀ i, i < U.length → MRow s ((nx + 20 - i) % 20) (ug U i)
/-- what may be undone may be -/
def UOk (T : Tab) (U : UL) : Prop := ∀ i, i < U.length → Wf T (ug U i).1 ∧ (ug U i).1 0 ≤ 999 ∧ Wh T (ug U i).1
theorem XRow.fr {s s' : Mem} {p : Nat} {T : Tab} {u : (Nat → Int) × List Int} {P : Nat → Nat → Prop} (h : XRow s p T u) (hf : Fr P s s') (hp : ∀ k, ¬ P p k) : XRow s' p T u := by
  obtain ⟨h1, h2, h3, h4, c, h5, h6, h7⟩ := h
  exact ⟨(hf.i (hp _)).trans h1, by rw [hf.i (hp _)]; exact h2, fun k hk => (hf.i (hp _)).trans (h3 k hk), fun k hk => (hf.i (hp _)).trans (h4 k hk), c, h5, (hf.i (hp _)).trans h6, fun i hi => (hf.i (hp _)).trans (h7 i hi)⟩
theorem MRow.fr {s s' : Mem} {r : Nat} {u : (Nat → Int) × List Int} {P : Nat → Nat → Prop} (h : MRow s r u) (hf : Fr P s s') (hp : ∀ i, i < 185 → ¬ P 129 (185 * r + i)) : MRow s' r u := by
  obtain ⟨h1, c, h2, h3, h4⟩ := h
  have := h2.1
  exact ⟨fun i hi => (hf.i (hp i (by omega))).trans (h1 i hi), c, h2, (hf.i (hp 24 (by omega))).trans h3, fun i hi => (hf.i (hp (25 + i) (by omega))).trans (h4 i hi)⟩
theorem XU.fr {s s' : Mem} {T : Tab} {nx : Nat} {U : UL} {P : Nat → Nat → Prop} (h : XU s T nx U) (hf : Fr P s s') (hp : ∀ a k, P a k → (a ≠ 44 ∨ k = 0 ∨ 2 < k) ∧ (a < 46 ∨ 65 < a)) : XU s' T nx U := by
  obtain ⟨h1, h2, h3, h4, h5⟩ := h
  refine ⟨(hf.i (fun q => by have := hp _ _ q; omega)).trans h1, h2, (hf.i (fun q => by have := hp _ _ q; omega)).trans h3, h4, fun i hi => (h5 i hi).fr hf (fun k q => by have := (hp _ _ q).2; omega)⟩
theorem MU.fr {s s' : Mem} {nx : Nat} {U : UL} {P : Nat → Nat → Prop} (h : MU s nx U) (hf : Fr P s s') (hp : ∀ a i, P a i → (a ≠ 84 ∨ i < 70 ∨ 71 < i) ∧ a ≠ 129) : MU s' nx U := by
  obtain ⟨h1, h2, h3, h4, h5⟩ := h
  exact ⟨(hf.i (fun q => by have := hp _ _ q; omega)).trans h1, h2, (hf.i (fun q => by have := hp _ _ q; omega)).trans h3, h4, fun i hi => (h5 i hi).fr hf (fun k _ q => (hp _ _ q).2 rfl)⟩
theorem ug_t (u : (Nat → Int) × List Int) (U : UL) (i : Nat) (hi : i < 20) : ug ((u :: U).take 20) i = if i = 0 then u else ug U (i - 1) := by
  unfold ug
  rw [List.getD_eq_getElem?_getD, List.getElem?_take_of_lt hi]
  cases i with
  | zero => rfl
  | succ i => rw [if_neg (by omega), List.getElem?_cons_succ, List.getD_eq_getElem?_getD, Nat.add_sub_cancel]
theorem len_t (u : (Nat → Int) × List Int) (U : UL) : ((u :: U).take 20).length = if U.length < 20 then U.length + 1 else 20 := by
  rw [List.length_take, List.length_cons]
  split <;> omega
theorem UOk.push {T : Tab} {U : UL} (h : UOk T U) {w : Nat → Int} {K : List Int} (hw : Wf T w) (h9 : w 0 ≤ 999) (hh : Wh T w) : UOk T (((w, K) :: U).take 20) := fun i hi => by
  rw [len_t] at hi
  rw [ug_t _ _ _ (by split at hi <;> omega)]
  by_cases e : i = 0
  · rw [if_pos e]; exact ⟨hw, h9, hh⟩
  · rw [if_neg e]; exact h (i - 1) (by split at hi <;> omega)
theorem rI_cpo (s : Mem) (p sp d dp n : Nat) {a b : Nat} (h : a ≠ d) : rI (cpI s p sp d dp n) a b = rI s a b := by rw [rI_cpI, if_neg (fun q => h q.1)]
abbrev PRm : Nat → Nat → Prop := fun a k => a = 44 ∧ (k = 1 ∨ k = 2) ∨ 46 ≤ a ∧ a ≤ 65
section UNDO
variable {T : Tab} {w : Nat → Int} {K : List Int}
theorem x_remember (D : Nat) {s : Mem} {nx : Nat} {U : UL} (hx : XM s T w) (ht : Tf T) (hK : KX s K) (hU : XU s T nx U) : ∃ s1, f_Ac_remember (D + 2) 28 s = some (0, s1) ∧ Fr PRm s s1 ∧ XU s1 T ((nx + 1) % 20) (((w, K) :: U).take 20) := by
  have hg := ht.2.2.1
  obtain ⟨u1, u2, u3, u4, u5⟩ := hU
  obtain ⟨c, k1, k2, k3, k4⟩ := hK
  obtain ⟨-, -, g3, g4, g5, g6, -, -⟩ := hx.1
  rw [e_Ac_remember, u1, inB_n u2, Int.toNat_natCast]
  simp (disch := omega) only [rI_other, rI_cpo, u1]
  rw [g3, k3]
  have f0 : Fr PRm s (cpI (cpI (cpI (wI (wI (wI s (46 + nx) 0 (w 0)) (46 + nx) 1 (rI s 28 2)) (46 + nx) 2 (c : Int)) (28 + 1) 0 (46 + nx) 3 7) (28 + 2) 0 (46 + nx) 10 7) 43 0 (46 + nx) 17 160) := (((((Fr.rf.w (by unfold PRm; omega)).w (by unfold PRm; omega)).w (by unfold PRm; omega)).cp (fun k => by unfold PRm; omega)).cp (fun k => by unfold PRm; omega)).cp (fun k => by unfold PRm; omega)
  have hrow : XRow (cpI (cpI (cpI (wI (wI (wI s (46 + nx) 0 (w 0)) (46 + nx) 1 (rI s 28 2)) (46 + nx) 2 (c : Int)) (28 + 1) 0 (46 + nx) 3 7) (28 + 2) 0 (46 + nx) 10 7) 43 0 (46 + nx) 17 160) (46 + nx) T (w, K) := by
    refine ⟨?_, ?_, fun k hk => ?_, fun k hk => ?_, c, ⟨k1, k2⟩, ?_, fun i hi => ?_⟩
    · rw [rI_cpI, if_neg (by omega), rI_cpI, if_neg (by omega), rI_cpI, if_neg (by omega), rI_other _ _ _ _ (by omega), rI_other _ _ _ _ (by omega), rI_same]
    · rw [rI_cpI, if_neg (by omega), rI_cpI, if_neg (by omega), rI_cpI, if_neg (by omega), rI_other _ _ _ _ (by omega), rI_same]
      exact g4
    · rw [rI_cpI, if_neg (by omega), rI_cpI, if_neg (by omega), rI_cpI, if_pos ⟨rfl, by omega, by omega⟩, show 0 + (3 + k - 3) = k by omega, rI_other _ _ _ _ (by omega), rI_other _ _ _ _ (by omega), rI_other _ _ _ _ (by omega)]
      exact g5 k hk
    · rw [rI_cpI, if_neg (by omega), rI_cpI, if_pos ⟨rfl, by omega, by omega⟩, show 0 + (10 + k - 10) = k by omega, rI_cpo _ _ _ _ _ _ (by omega), rI_other _ _ _ _ (by omega), rI_other _ _ _ _ (by omega), rI_other _ _ _ _ (by omega)]
      exact g6 k hk
    · rw [rI_cpI, if_neg (by omega), rI_cpI, if_neg (by omega), rI_cpI, if_neg (by omega), rI_same]
    · rw [rI_cpI, if_pos ⟨rfl, by omega, by omega⟩, show 0 + (17 + i - 17) = i by omega, rI_cpo _ _ _ _ _ _ (by omega), rI_cpo _ _ _ _ _ _ (by omega), rI_other _ _ _ _ (by omega), rI_other _ _ _ _ (by omega), rI_other _ _ _ _ (by omega)]
      exact k4 i hi
  have hold : Fr (fun a _ => a = 46 + nx) s (cpI (cpI (cpI (wI (wI (wI s (46 + nx) 0 (w 0)) (46 + nx) 1 (rI s 28 2)) (46 + nx) 2 (c : Int)) (28 + 1) 0 (46 + nx) 3 7) (28 + 2) 0 (46 + nx) 10 7) 43 0 (46 + nx) 17 160) := (((((Fr.rf.w (P := fun a _ => a = 46 + nx) rfl).w rfl).w rfl).cp (fun k => rfl)).cp (fun k => rfl)).cp (fun k => rfl)
  generalize cpI (cpI (cpI (wI (wI (wI s (46 + nx) 0 (w 0)) (46 + nx) 1 (rI s 28 2)) (46 + nx) 2 (c : Int)) (28 + 1) 0 (46 + nx) 3 7) (28 + 2) 0 (46 + nx) 10 7) 43 0 (46 + nx) 17 160 = s0 at f0 hrow hold ⊢
  have h44 : rI s0 44 2 = (U.length : Int) := (hold.i (by omega)).trans u3
  have l92 : ∀ v : Int, v = (((nx + 1) % 20 : Nat) : Int) → ∃ s1, L_Ac_remember_92 (D + 1) v s0 = some (0, s1) ∧ Fr PRm s s1 ∧ XU s1 T ((nx + 1) % 20) (((w, K) :: U).take 20) := fun v hv => by
    have e2 : (if (20 : Int) < w32 ((U.length : Int) + 1) then (20 : Int) else w32 ((U.length : Int) + 1)) = ((((w, K) :: U).take 20).length : Int) := by
      rw [len_t, w32_i (by omega) (by omega)]
      split <;> split <;> omega
    have f1 : Fr (fun a k => a = 44 ∧ (k = 1 ∨ k = 2)) s0 (wI (wI s0 44 1 v) 44 2 ((((w, K) :: U).take 20).length : Int)) := (Fr.rf.w (by omega)).w (by omega)
    rw [e_Ac_remember_92, x_min, Option.bind_some]
    simp only []
    rw [h44, e2]
    refine ⟨_, rfl, f0.tr (f1.mo (fun a k q => by unfold PRm; omega)), ?_, Nat.mod_lt _ (by omega), rI_same _ _ _ _, ?_, fun i hi => ?_⟩
    · rw [rI_other _ _ _ _ (by omega), rI_same, hv]
    · rw [len_t]; split <;> omega
    · rw [len_t] at hi
      rw [ug_t _ _ _ (by split at hi <;> omega)]
      by_cases e : i = 0
      · rw [if_pos e, show ((nx + 1) % 20 + 19 - i) % 20 = nx by omega]
        exact hrow.fr f1 (fun k q => by omega)
      · have hi2 : i < 20 := by split at hi <;> omega
        rw [if_neg e, show ((nx + 1) % 20 + 19 - i) % 20 = (nx + 19 - (i - 1)) % 20 by omega]
        exact ((u5 (i - 1) (by split at hi <;> omega)).fr hold (fun k q => by omega)).fr f1 (fun k q => by omega)
  rw [w32_s (by omega)]
  by_cases h : nx + 1 < 20
  · rw [if_pos (by omega)]
    exact l92 _ (by rw [Nat.mod_eq_of_lt h])
  · rw [if_neg (by omega)]
    exact l92 0 (by rw [show nx + 1 = 20 by omega]; rfl)
abbrev PTb : Nat → Nat → Prop := fun a k => a = 44 ∧ (k = 1 ∨ k = 2) ∨ a = 28 ∧ (k = 1 ∨ k = 2) ∨ a = 29 ∨ a = 30 ∨ a = 32 ∨ a = 42 ∧ k = 1 ∨ a = 43
theorem x_takeBack (D : Nat) {s : Mem} {nx : Nat} {u : (Nat → Int) × List Int} {U : UL} (hx : XM s T w) (ht : Tf T) (hu : Wf T u.1) (hU : XU s T nx (u :: U)) : ∃ s1, f_Ac_takeBack (D + 2) 28 s = some (0, s1) ∧ Fr PTb s s1 ∧ XM s1 T u.1 ∧ KX s1 u.2 ∧ XU s1 T ((nx + 19) % 20) U := by
  have hg := ht.2.2.1
  obtain ⟨u1, u2, u3, u4, u5⟩ := hU
  simp only [List.length_cons] at u3 u4 u5
  have hr0 : XRow s (46 + (nx + 19) % 20) T u := by
    have := u5 0 (by omega)
    exact this
  have l37 : ∀ p : Nat, p = (nx + 19) % 20 → ∃ s1, L_Ac_takeBack_37 (D + 1) 28 (p : Int) (wI s 44 2 (U.length : Int)) = some (0, s1) ∧ Fr PTb s s1 ∧ XM s1 T u.1 ∧ KX s1 u.2 ∧ XU s1 T ((nx + 19) % 20) U := fun p hp => by
    rw [← hp] at hr0
    obtain ⟨r1, r2, r3, r4, c, ⟨k1, k2⟩, r5, r6⟩ := hr0
    have hp20 : p < 20 := by omega
    rw [e_Ac_takeBack_37, inB_n hp20, Int.toNat_natCast]
    simp (disch := omega) only [rI_other, rI_cpo]
    rw [r1, r5]
    have f0 : Fr PTb s (cpI (cpI (cpI (wI (wI (wI (wI (wI s 44 2 (U.length : Int)) 44 1 (p : Int)) 28 1 (u.1 0)) 28 2 (rI s (46 + p) 1)) 42 1 (c : Int)) (46 + p) 3 (28 + 1) 0 7) (46 + p) 10 (28 + 2) 0 7) (46 + p) 17 43 0 160) := (((((((Fr.rf.w (by unfold PTb; omega)).w (by unfold PTb; omega)).w (by unfold PTb; omega)).w (by unfold PTb; omega)).w (by unfold PTb; omega)).cp (fun k => by unfold PTb; omega)).cp (fun k => by unfold PTb; omega)).cp (fun k => by unfold PTb; omega)
    have q29 : ∀ k, k < tG T → rI (cpI (cpI (cpI (wI (wI (wI (wI (wI s 44 2 (U.length : Int)) 44 1 (p : Int)) 28 1 (u.1 0)) 28 2 (rI s (46 + p) 1)) 42 1 (c : Int)) (46 + p) 3 (28 + 1) 0 7) (46 + p) 10 (28 + 2) 0 7) (46 + p) 17 43 0 160) 29 k = u.1 (10 + 2 * k) := fun k hk => by
      rw [rI_cpo _ _ _ _ _ _ (by omega), rI_cpo _ _ _ _ _ _ (by omega), rI_cpI, if_pos ⟨rfl, by omega, by omega⟩, Nat.sub_zero]
      simp (disch := omega) only [rI_other]
      exact r3 k hk
    have q30 : ∀ k, k < tG T → rI (cpI (cpI (cpI (wI (wI (wI (wI (wI s 44 2 (U.length : Int)) 44 1 (p : Int)) 28 1 (u.1 0)) 28 2 (rI s (46 + p) 1)) 42 1 (c : Int)) (46 + p) 3 (28 + 1) 0 7) (46 + p) 10 (28 + 2) 0 7) (46 + p) 17 43 0 160) 30 k = u.1 (11 + 2 * k) := fun k hk => by
      rw [rI_cpo _ _ _ _ _ _ (by omega), rI_cpI, if_pos ⟨rfl, by omega, by omega⟩, Nat.sub_zero]
      simp (disch := omega) only [rI_other, rI_cpo]
      exact r4 k hk
    have q43 : ∀ i, i < 4 * c → rI (cpI (cpI (cpI (wI (wI (wI (wI (wI s 44 2 (U.length : Int)) 44 1 (p : Int)) 28 1 (u.1 0)) 28 2 (rI s (46 + p) 1)) 42 1 (c : Int)) (46 + p) 3 (28 + 1) 0 7) (46 + p) 10 (28 + 2) 0 7) (46 + p) 17 43 0 160) 43 i = u.2.getD i 0 := fun i hi => by
      rw [rI_cpI, if_pos ⟨rfl, by omega, by omega⟩, Nat.sub_zero]
      simp (disch := omega) only [rI_other, rI_cpo]
      exact r6 i hi
    have q281 : rI (cpI (cpI (cpI (wI (wI (wI (wI (wI s 44 2 (U.length : Int)) 44 1 (p : Int)) 28 1 (u.1 0)) 28 2 (rI s (46 + p) 1)) 42 1 (c : Int)) (46 + p) 3 (28 + 1) 0 7) (46 + p) 10 (28 + 2) 0 7) (46 + p) 17 43 0 160) 28 1 = u.1 0 := by
      simp (disch := omega) only [rI_cpo, rI_other, rI_same]
    have q282 : rI (cpI (cpI (cpI (wI (wI (wI (wI (wI s 44 2 (U.length : Int)) 44 1 (p : Int)) 28 1 (u.1 0)) 28 2 (rI s (46 + p) 1)) 42 1 (c : Int)) (46 + p) 3 (28 + 1) 0 7) (46 + p) 10 (28 + 2) 0 7) (46 + p) 17 43 0 160) 28 2 = rI s (46 + p) 1 := by
      simp (disch := omega) only [rI_cpo, rI_other, rI_same]
    have q421 : rI (cpI (cpI (cpI (wI (wI (wI (wI (wI s 44 2 (U.length : Int)) 44 1 (p : Int)) 28 1 (u.1 0)) 28 2 (rI s (46 + p) 1)) 42 1 (c : Int)) (46 + p) 3 (28 + 1) 0 7) (46 + p) 10 (28 + 2) 0 7) (46 + p) 17 43 0 160) 42 1 = (c : Int) := by
      simp (disch := omega) only [rI_cpo, rI_other, rI_same]
    have q441 : rI (cpI (cpI (cpI (wI (wI (wI (wI (wI s 44 2 (U.length : Int)) 44 1 (p : Int)) 28 1 (u.1 0)) 28 2 (rI s (46 + p) 1)) 42 1 (c : Int)) (46 + p) 3 (28 + 1) 0 7) (46 + p) 10 (28 + 2) 0 7) (46 + p) 17 43 0 160) 44 1 = (p : Int) := by
      simp (disch := omega) only [rI_cpo, rI_other, rI_same]
    have q442 : rI (cpI (cpI (cpI (wI (wI (wI (wI (wI s 44 2 (U.length : Int)) 44 1 (p : Int)) 28 1 (u.1 0)) 28 2 (rI s (46 + p) 1)) 42 1 (c : Int)) (46 + p) 3 (28 + 1) 0 7) (46 + p) 10 (28 + 2) 0 7) (46 + p) 17 43 0 160) 44 2 = (U.length : Int) := by
      simp (disch := omega) only [rI_cpo, rI_other, rI_same]
    generalize cpI (cpI (cpI (wI (wI (wI (wI (wI s 44 2 (U.length : Int)) 44 1 (p : Int)) 28 1 (u.1 0)) 28 2 (rI s (46 + p) 1)) 42 1 (c : Int)) (46 + p) 3 (28 + 1) 0 7) (46 + p) 10 (28 + 2) 0 7) (46 + p) 17 43 0 160 = s0 at f0 q29 q30 q43 q281 q282 q421 q441 q442 ⊢
    obtain ⟨⟨x1, x2, x3, x4, x5, x6, x7, x8⟩, hq⟩ := hx
    have h280 : rQ s0 28 0 = rQ s 28 0 := f0.q (by unfold PTb; omega)
    obtain ⟨s1, e1, f1, w1⟩ := x_find D (o := 28) (s := s0) (w := u.1) ht hu (Or.inl rfl) (by rw [h280]; exact x2.1) (by rw [h280, f0.i (by have := x2.1; unfold PTb; omega)]; exact x2.2.2.1) q29
    have ff : Fr PTb s s1 := f0.tr (f1.mo (fun a k q => by unfold PTb; omega))
    have hT6 := x2.1
    rw [e1, Option.bind_some]
    refine ⟨s1, rfl, ff, ⟨⟨Or.inl rfl, ?_, (f1.i (by omega)).trans q281, ?_, fun k hk => (f1.i (by omega)).trans (q29 k hk), fun k hk => (f1.i (by omega)).trans (q30 k hk), fun k hk => (ff.i (by unfold PTb; omega)).trans (x7 k hk), w1⟩, ?_⟩, ⟨c, k1, k2, (f1.i (by omega)).trans q421, fun i hi => (f1.i (by omega)).trans (q43 i hi)⟩, ?_⟩
    · rw [ff.q (by unfold PTb; omega)]
      exact x2.fr ff (fun a k q => by unfold PTb at q; omega)
    · rw [f1.i (by omega), q282]; exact r2
    · rw [ff.q (by unfold PTb; omega), ff.q (by unfold PTb; omega)]; exact hq
    · rw [← hp]
      refine ⟨(f1.i (by omega)).trans q441, hp20, (f1.i (by omega)).trans q442, by omega, fun i hi => ?_⟩
      have := u5 (i + 1) (by omega)
      rw [show (nx + 19 - (i + 1)) % 20 = (p + 19 - i) % 20 by omega] at this
      exact this.fr ff (fun k q => by unfold PTb at q; omega)
  rw [e_Ac_takeBack, u3, u1, if_pos (by omega), show w32 (((U.length + 1 : Nat) : Int) - 1) = (U.length : Int) by rw [w32_i (by omega) (by omega)]; omega]
  by_cases h : 0 < nx
  · rw [if_pos (by omega), show w32 ((nx : Int) - 1) = ((nx - 1 : Nat) : Int) by rw [w32_i (by omega) (by omega)]; omega]
    exact l37 (nx - 1) (by omega)
  · rw [if_neg (by omega)]
    exact l37 19 (by omega)
theorem m_keeps15 (D : Nat) {r : Nat} (hr : r < 20) {s0 : Mem} : ∀ (j b : Nat) (s : Mem), b + j = 185 → rI s 84 71 = (r : Int) → Fr (fun a i => a = 129 ∧ 185 * r ≤ i ∧ i < 185 * r + 185) s0 s → (∀ i, i < b → rI s 129 (185 * r + i) = rI s0 122 i) → ∃ s1, L_M_keeps_15 D (b : Int) s = (if rI s 84 70 < 20 then (some (0, wI s1 84 70 (w32 ((rI s 84 70) + 1)))) else some (0, s1)) ∧ Fr (fun a i => a = 129 ∧ 185 * r ≤ i ∧ i < 185 * r + 185) s0 s1 ∧ ∀ i, i < 185 → rI s1 129 (185 * r + i) = rI s0 122 i
  | 0, b, s, hj, h71, hf, hi => by
    rw [e_M_keeps_15, if_neg (by omega)]
    exact ⟨s, rfl, hf, fun i h => hi i (by omega)⟩
  | j + 1, b, s, hj, h71, hf, hi => by
    have e1 : w32 ((w32 (185 * (r : Int))) + (b : Int)) = ((185 * r + b : Nat) : Int) := by
      rw [w32_i (z := 185 * (r : Int)) (by omega) (by omega), w32_i (by omega) (by omega)]
      omega
    have f1 : Fr (fun a i => a = 129 ∧ 185 * r ≤ i ∧ i < 185 * r + 185) s0 (wI s 129 (185 * r + b) (rI s 122 b)) := hf.w (by omega)
    obtain ⟨s1, e2, f2, g2⟩ := m_keeps15 D hr j (b + 1) (wI s 129 (185 * r + b) (rI s 122 b)) (by omega) ((rI_other _ _ _ _ (by omega)).trans h71) f1 (fun i h => by
      by_cases e : i = b
      · rw [e, rI_same]
        exact hf.i (by omega)
      · rw [rI_other _ _ _ _ (by omega)]; exact hi i (by omega))
    rw [e_M_keeps_15, if_pos (by omega), inB_n (by omega), h71, e1, inB_n (by omega), w32_s (by omega), Int.toNat_natCast, Int.toNat_natCast]
    rw [rI_other _ _ _ _ (by omega)] at e2
    exact ⟨s1, e2, f2, g2⟩
abbrev PKe : Nat → Nat → Prop := fun a i => a = 129 ∨ a = 84 ∧ (i = 70 ∨ i = 71)
theorem m_keeps (D : Nat) {s : Mem} {nx : Nat} {U : UL} (hw : MW s w) (hK : MK s K) (hU : MU s nx U) : ∃ s1, f_M_keeps (D + 1) s = some (0, s1) ∧ Fr PKe s s1 ∧ MU s1 ((nx + 1) % 20) (((w, K) :: U).take 20) := by
  obtain ⟨u1, u2, u3, u4, u5⟩ := hU
  obtain ⟨c, k1, k2, k3, k4⟩ := hK
  have e1 : iRem (w32 ((nx : Int) + 1)) 20 = (((nx + 1) % 20 : Nat) : Int) := by
    rw [w32_i (by omega) (by omega), iRem_n ⟨by omega, by omega⟩ ⟨by omega, by omega⟩, Int.tmod_eq_emod_of_nonneg (by omega)]
    omega
  have f0 : Fr (fun a i => a = 84 ∧ i = 71) s (wI s 84 71 (((nx + 1) % 20 : Nat) : Int)) := Fr.rf.w ⟨rfl, rfl⟩
  have hr : (nx + 1) % 20 < 20 := Nat.mod_lt _ (by omega)
  obtain ⟨s1, e2, f2, g2⟩ := m_keeps15 D (r := (nx + 1) % 20) hr 185 0 (wI s 84 71 (((nx + 1) % 20 : Nat) : Int)) rfl (rI_same _ _ _ _) Fr.rf (fun i h => by omega)
  have h70 : rI (wI s 84 71 (((nx + 1) % 20 : Nat) : Int)) 84 70 = (U.length : Int) := (f0.i (by omega)).trans u3
  have f12 : Fr PKe s s1 := (f0.mo (fun a i q => by unfold PKe; omega)).tr (f2.mo (fun a i q => by unfold PKe; omega))
  have h71 : rI s1 84 71 = (((nx + 1) % 20 : Nat) : Int) := (f2.i (by omega)).trans (rI_same _ _ _ _)
  rw [e_M_keeps, u1, e1, show L_M_keeps_15 D 0 (wI s 84 71 (((nx + 1) % 20 : Nat) : Int)) = _ from e2, h70]
  have fin : ∃ s2, (if (U.length : Int) < 20 then (some ((0 : Int), wI s1 84 70 (w32 ((U.length : Int) + 1)))) else some (0, s1)) = some (0, s2) ∧ Fr (fun a i => a = 84 ∧ i = 70) s1 s2 ∧ rI s2 84 70 = ((((w, K) :: U).take 20).length : Int) := by
    rw [len_t]
    by_cases h : U.length < 20
    · rw [if_pos (by omega), if_pos h]
      exact ⟨_, rfl, Fr.rf.w ⟨rfl, rfl⟩, by rw [rI_same, w32_s (by omega)]⟩
    · rw [if_neg (by omega), if_neg h]
      refine ⟨s1, rfl, Fr.rf, ?_⟩
      rw [f2.i (by omega), h70]
      omega
  obtain ⟨s2, e3, f3, g3⟩ := fin
  refine ⟨s2, e3, f12.tr (f3.mo (fun a i q => by unfold PKe; omega)), (f3.i (by omega)).trans h71, hr, g3, ?_, fun i hi => ?_⟩
  · rw [len_t]; split <;> omega
  · rw [len_t] at hi
    have hi2 : i < 20 := by split at hi <;> omega
    rw [ug_t _ _ _ hi2]
    by_cases e : i = 0
    · rw [if_pos e, show ((nx + 1) % 20 + 20 - i) % 20 = (nx + 1) % 20 by omega]
      have old : ∀ i, rI (wI s 84 71 (((nx + 1) % 20 : Nat) : Int)) 122 i = rI s 122 i := fun i => f0.i (by omega)
      refine ⟨fun i hi => ?_, c, ⟨k1, k2⟩, ?_, fun i hi => ?_⟩
      · rw [f3.i (by omega), g2 i (by omega), old]; exact hw i hi
      · rw [f3.i (by omega), g2 24 (by omega), old]; exact k3
      · rw [f3.i (by omega), g2 (25 + i) (by omega), old]; exact k4 i hi
    · rw [if_neg e, show ((nx + 1) % 20 + 20 - i) % 20 = (nx + 20 - (i - 1)) % 20 by omega]
      exact (((u5 (i - 1) (by split at hi <;> omega)).fr f0 (fun k _ q => by omega)).fr f2 (fun k hk q => by omega)).fr f3 (fun k _ q => by omega)
theorem m_undo21 (D : Nat) {r : Nat} (hr : r < 20) {s0 : Mem} : ∀ (j b : Nat) (s : Mem), b + j = 185 → rI s 84 71 = (r : Int) → Fr (fun a i => a = 122 ∧ i < 185) s0 s → (∀ i, i < b → rI s 122 i = rI s0 129 (185 * r + i)) → ∃ s1, L_M_undo_21 D (b : Int) s = some (1, wI (wI s1 84 71 (iRem (w32 ((w32 ((r : Int) + 20)) - 1)) 20)) 84 70 (w32 ((rI s1 84 70) - 1))) ∧ Fr (fun a i => a = 122 ∧ i < 185) s0 s1 ∧ ∀ i, i < 185 → rI s1 122 i = rI s0 129 (185 * r + i)
  | 0, b, s, hj, h71, hf, hi => by
    rw [e_M_undo_21, if_neg (by omega), h71]
    exact ⟨s, rfl, hf, fun i h => hi i (by omega)⟩
  | j + 1, b, s, hj, h71, hf, hi => by
    have e1 : w32 ((w32 (185 * (r : Int))) + (b : Int)) = ((185 * r + b : Nat) : Int) := by
      rw [w32_i (z := 185 * (r : Int)) (by omega) (by omega), w32_i (by omega) (by omega)]
      omega
    have f1 : Fr (fun a i => a = 122 ∧ i < 185) s0 (wI s 122 b (rI s 129 (185 * r + b))) := hf.w (by omega)
    obtain ⟨s1, e2, f2, g2⟩ := m_undo21 D hr j (b + 1) (wI s 122 b (rI s 129 (185 * r + b))) (by omega) ((rI_other _ _ _ _ (by omega)).trans h71) f1 (fun i h => by
      by_cases e : i = b
      · rw [e, rI_same]
        exact hf.i (by omega)
      · rw [rI_other _ _ _ _ (by omega)]; exact hi i (by omega))
    rw [e_M_undo_21, if_pos (by omega), h71, e1, inB_n (by omega), inB_n (by omega), w32_s (by omega), Int.toNat_natCast, Int.toNat_natCast]
    exact ⟨s1, e2, f2, g2⟩
abbrev PUn : Nat → Nat → Prop := fun a i => a = 122 ∨ a = 84 ∧ (i = 70 ∨ i = 71)
theorem m_undoU (D : Nat) {s : Mem} {nx : Nat} {u : (Nat → Int) × List Int} {U : UL} (hU : MU s nx (u :: U)) : ∃ s1, f_M_undo (D + 1) s = some (1, s1) ∧ Fr PUn s s1 ∧ MW s1 u.1 ∧ MK s1 u.2 ∧ MU s1 ((nx + 19) % 20) U := by
  obtain ⟨u1, u2, u3, u4, u5⟩ := hU
  simp only [List.length_cons] at u3 u4 u5
  have hr0 : MRow s nx u := by
    have := u5 0 (by omega)
    rw [show (nx + 20 - 0) % 20 = nx by omega] at this
    exact this
  obtain ⟨r1, c, ⟨k1, k2⟩, r2, r3⟩ := hr0
  obtain ⟨s1, e1, f1, g1⟩ := m_undo21 D u2 185 0 s rfl u1 Fr.rf (fun i h => by omega)
  have e2 : iRem (w32 ((w32 ((nx : Int) + 20)) - 1)) 20 = (((nx + 19) % 20 : Nat) : Int) := by
    rw [w32_i (z := (nx : Int) + 20) (by omega) (by omega), w32_i (by omega) (by omega), iRem_n ⟨by omega, by omega⟩ ⟨by omega, by omega⟩, Int.tmod_eq_emod_of_nonneg (by omega)]
    omega
  have h70 : rI s1 84 70 = ((U.length + 1 : Nat) : Int) := (f1.i (by omega)).trans u3
  rw [e2, h70, show w32 (((U.length + 1 : Nat) : Int) - 1) = (U.length : Int) by rw [w32_i (by omega) (by omega)]; omega] at e1
  have f2 : Fr (fun a i => a = 84 ∧ (i = 70 ∨ i = 71)) s1 (wI (wI s1 84 71 (((nx + 19) % 20 : Nat) : Int)) 84 70 (U.length : Int)) := (Fr.rf.w (by omega)).w (by omega)
  have ff : Fr PUn s (wI (wI s1 84 71 (((nx + 19) % 20 : Nat) : Int)) 84 70 (U.length : Int)) := (f1.mo (fun a i q => Or.inl q.1)).tr (f2.mo (fun a i q => Or.inr q))
  rw [e_M_undo, u3, if_neg (by omega)]
  refine ⟨_, e1, ff, fun i hi => ?_, ⟨c, k1, k2, ?_, fun i hi => ?_⟩, ?_, Nat.mod_lt _ (by omega), rI_same _ _ _ _, by omega, fun i hi => ?_⟩
  · rw [f2.i (by omega), g1 i (by omega)]; exact r1 i hi
  · rw [f2.i (by omega), g1 24 (by omega)]; exact r2
  · rw [f2.i (by omega), g1 (25 + i) (by omega)]; exact r3 i hi
  · rw [rI_other _ _ _ _ (by omega), rI_same]
  · have := u5 (i + 1) (by omega)
    rw [show (nx + 20 - (i + 1)) % 20 = ((nx + 19) % 20 + 20 - i) % 20 by omega] at this
    exact this.fr ff (fun k _ q => by unfold PUn at q; omega)
end UNDO
