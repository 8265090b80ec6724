/-! the class's pile -/
def Pil (s : Mem) (o : Nat) (st : List Int) : Prop := ∀ j, j < st.length → rI s o j = st.getD (st.length - 1 - j) 0
theorem Pil.push {s : Mem} {o : Nat} {st : List Int} (h : Pil s o st) (v : Int) : Pil (wI s o st.length v) o (v :: st) := fun j hj => by
  rw [List.length_cons] at hj ⊢
  by_cases e : j = st.length
  · subst e
    rw [rI_same, show st.length + 1 - 1 - st.length = 0 by omega]
    rfl
  · rw [rI_other _ _ _ _ (by omega), h j (by omega), show st.length + 1 - 1 - j = (st.length - 1 - j) + 1 by omega]
    rfl
theorem Pil.pop {s : Mem} {o : Nat} {v : Int} {st : List Int} (h : Pil s o (v :: st)) : Pil s o st := fun j hj => by
  have := h j (by rw [List.length_cons]; omega)
  rw [this, List.length_cons, show st.length + 1 - 1 - j = (st.length - 1 - j) + 1 by omega]
  rfl
theorem Pil.top {s : Mem} {o : Nat} {v : Int} {st : List Int} (h : Pil s o (v :: st)) : rI s o st.length = v := by
  rw [h st.length (by rw [List.length_cons]; omega), List.length_cons, show st.length + 1 - 1 - st.length = 0 by omega]
  rfl
theorem Pil.set {s : Mem} {o : Nat} {v : Int} {st : List Int} (h : Pil s o (v :: st)) (u : Int) : Pil (wI s o st.length u) o (u :: st) := h.pop.push u
theorem Pil.fr {s s' : Mem} {o : Nat} {st : List Int} {P : Nat → Nat → Prop} (h : Pil s o st) (hf : Fr P s s') (hp : ∀ k, ¬ P o k) : Pil s' o st := fun j hj => (hf.i (hp j)).trans (h j hj)
theorem ty1_len {k : Nat} {c : Int} {ts ts' : List Bool} (h : ty1 k c ts = some ts') (hl : ts.length ≤ 60) : ts'.length ≤ 60 := by
  unfold ty1 at h
  repeat' split at h
  all_goals first
    | (cases h; done)
    | (cases h; simp only [List.length_cons] at *; omega)
abbrev PX (o : Nat) : Nat → Nat → Prop := fun a _ => a = o + 6
section XRUN
variable {o : Nat} {T : Tab} {w : Nat → Int}
theorem kno_r (ht : Tf T) (hw : Wf T w) {k : Nat} (hk : k < tG T) {size : Int} (hs : -1000000 ≤ size ∧ size ≤ 1000000) {p : Int} (h0 : 0 ≤ p) (h1 : p < 11) : -1000000 ≤ kno T w k size p ∧ kno T w k size p ≤ 1000000 := by
  have hg := ht.2.2.1
  have hn := ht.2.1
  have sw : ∀ q, 0 ≤ swA T w q ∧ swA T w q ≤ 99 := fun q => by
    unfold swA
    rcases who_or w (tG T) (trn (tN T) q) with ⟨a1, _⟩ | ⟨i, a2, a3, _⟩
    · rw [if_pos a1]; omega
    · rw [a3, if_neg (by omega), Int.toNat_natCast]
      exact (hw.2.2.1 i a2).2
  have a1 := ht.2.2.2.1 k hk
  have a2 := hw.2.2.1 k hk
  have a3 := hw.2.1 (w (10 + 2 * k)).toNat (by omega)
  have a4 := hw.1
  have a5 := sw (w (10 + 2 * k) - 1)
  have a6 := sw (w (10 + 2 * k) + 1)
  have a7 := sw (w (10 + 2 * k))
  unfold kno lod
  repeat' split
  all_goals omega
theorem unk_r (ht : Tf T) (hw : Wf T w) {k : Nat} (hk : k < tG T) (p v : Int) : -1000000 ≤ unk T w k p v ∧ unk T w k p v ≤ 1000000 := by
  have hg := ht.2.2.1
  have hn := ht.2.1
  unfold unk
  split
  · unfold swA
    rcases who_or w (tG T) (trn (tN T) ((w (10 + 2 * k) + v) % (tN T : Int))) with ⟨a1, _⟩ | ⟨i, a2, a3, _⟩
    · rw [if_pos a1]; omega
    · rw [a3, if_neg (by omega), Int.toNat_natCast]
      have := (hw.2.2.1 i a2).2
      omega
  · split
    · have a2 := hw.2.2.1 k hk
      have a3 := hw.2.2.1 v.toNat (by omega)
      unfold fart
      repeat' split
      all_goals omega
    · omega
theorem enX_num {c : Int} (h : 1000 ≤ c) : enX c = c - 1000 := if_pos h
theorem enX_of {c : Int} (h1 : ¬ 1000 ≤ c) (h2 : 60 ≤ c) : enX c = c + 9959 := by unfold enX; rw [if_neg h1, if_pos h2]
theorem enX_part {c : Int} (h1 : ¬ 1000 ≤ c) (h2 : ¬ 60 ≤ c) (h3 : 40 ≤ c) : enX c = 10000 + xpt (c - 40) := by unfold enX; rw [if_neg h1, if_neg h2, if_pos h3]
theorem enX_bin {c : Int} (h : 1 ≤ c ∧ c ≤ 11) : 10021 ≤ enX c ∧ enX c ≤ 10062 ∧ enX c ≠ 10023 := by
  have hcc : c = 1 ∨ c = 2 ∨ c = 3 ∨ c = 4 ∨ c = 5 ∨ c = 6 ∨ c = 7 ∨ c = 8 ∨ c = 9 ∨ c = 10 ∨ c = 11 := by omega
  rcases hcc with rfl | rfl | rfl | rfl | rfl | rfl | rfl | rfl | rfl | rfl | rfl <;> decide
theorem xpt_r {p : Int} (h0 : 0 ≤ p) (h1 : p < 11) : 3 ≤ xpt p ∧ xpt p ≤ 18 := by
  unfold xpt
  split
  · omega
  · split <;> omega
theorem x6_lit (D : Nat) {s : Mem} {oc k i f : Nat} {size z : Int} (hl : (i : Int) < rI s oc 1) (hi : i < 1600) (hc : rI s (oc + 1) i = z) (hz : 0 ≤ z ∧ z < 10000) (hf : f < 64) : L_Rg_value_6 D o oc (k : Int) size (f : Int) (i : Int) s = L_Rg_value_6 D o oc (k : Int) size ((f + 1 : Nat) : Int) ((i + 1 : Nat) : Int) (wI s (o + 6) f z) := by
  rw [e_Rg_value_6, if_pos hl, if_pos (by omega), inB_n hi]
  simp only [Int.toNat_natCast, hc]
  rw [w32_i (z := z - 10000) (by omega) (by omega), if_neg (by omega), if_pos (by omega), if_pos (by omega), inB_n hi, inB_n hf, w32_s (by omega), w32_s (by omega)]
theorem x6_kn (D : Nat) {s : Mem} {oc k i f : Nat} {size g v : Int} (hl : (i : Int) < rI s oc 1) (hi : i < 1600) (hc : rI s (oc + 1) i = 10000 + g) (hg : 0 ≤ g ∧ g ≤ 18) (hf : f < 64) (hk : f_Rg_known D o g (k : Int) size s = some (v, s)) : L_Rg_value_6 D o oc (k : Int) size (f : Int) (i : Int) s = L_Rg_value_6 D o oc (k : Int) size ((f + 1 : Nat) : Int) ((i + 1 : Nat) : Int) (wI s (o + 6) f v) := by
  rw [e_Rg_value_6, if_pos hl, if_pos (by omega), inB_n hi]
  simp only [Int.toNat_natCast, hc]
  rw [show w32 (10000 + g - 10000) = g by rw [w32_i (by omega) (by omega)]; omega, if_neg (by omega), if_pos (by omega), if_neg (by omega), hk]
  show inB _ _ _ = _
  rw [inB_n hf, w32_s (by omega), w32_s (by omega)]
theorem x6_un (D : Nat) {s : Mem} {oc k i f : Nat} {size g v : Int} (hl : (i : Int) < rI s oc 1) (hi : i < 1600) (hc : rI s (oc + 1) i = 10000 + g) (hg : g = 23 ∨ g = 19 ∨ g = 20) (hf : f < 64) (hk : f_Rg_turned D o g (rI s (o + 6) f) (k : Int) s = some (v, s)) : L_Rg_value_6 D o oc (k : Int) size ((f + 1 : Nat) : Int) (i : Int) s = L_Rg_value_6 D o oc (k : Int) size ((f + 1 : Nat) : Int) ((i + 1 : Nat) : Int) (wI s (o + 6) f v) := by
  have l114 : L_Rg_value_114 D o oc (k : Int) size ((f + 1 : Nat) : Int) (i : Int) g s = L_Rg_value_6 D o oc (k : Int) size ((f + 1 : Nat) : Int) ((i + 1 : Nat) : Int) (wI s (o + 6) f v) := by
    rw [e_Rg_value_114, if_neg (by omega), show w32 (((f + 1 : Nat) : Int) - 1) = (f : Int) by rw [w32_i (by omega) (by omega)]; omega, inB_n hf]
    simp only [Int.toNat_natCast, hk]
    show inB _ _ _ = _
    rw [inB_n hf, w32_s (by omega)]
  rw [← l114, e_Rg_value_6, if_pos hl, if_pos (by omega), inB_n hi]
  simp only [Int.toNat_natCast, hc]
  rw [show w32 (10000 + g - 10000) = g by rw [w32_i (by omega) (by omega)]; omega, if_pos (by omega)]
  rcases hg with rfl | rfl | rfl <;> rfl
theorem x6_bin (D : Nat) {s : Mem} {oc k i f : Nat} {size g v : Int} (hl : (i : Int) < rI s oc 1) (hi : i < 1600) (hc : rI s (oc + 1) i = 10000 + g) (hg : 18 < g ∧ g < 100 ∧ g ≠ 23 ∧ g ≠ 19 ∧ g ≠ 20) (hf : f < 60) (hk : f_Rg_joined D g (rI s (o + 6) f) (rI s (o + 6) (f + 1)) s = some (v, s)) : L_Rg_value_6 D o oc (k : Int) size ((f + 2 : Nat) : Int) (i : Int) s = L_Rg_value_6 D o oc (k : Int) size ((f + 1 : Nat) : Int) ((i + 1 : Nat) : Int) (wI s (o + 6) f v) := by
  have e1 : w32 (((f + 2 : Nat) : Int) + (-1)) = ((f + 1 : Nat) : Int) := by rw [w32_i (by omega) (by omega)]; omega
  have e2 : w32 (((f + 1 : Nat) : Int) - 1) = (f : Int) := by rw [w32_i (by omega) (by omega)]; omega
  rw [e_Rg_value_6, if_pos hl, if_pos (by omega), inB_n hi]
  simp only [Int.toNat_natCast, hc]
  rw [show w32 (10000 + g - 10000) = g by rw [w32_i (by omega) (by omega)]; omega, if_pos (by omega), if_neg (by omega), if_neg (by omega), if_neg (by omega), if_neg (by omega), e1, e2, inB_n (by omega), inB_n (by omega)]
  simp only [Int.toNat_natCast, hk]
  show inB _ _ _ = _
  rw [inB_n (by omega), w32_s (by omega)]
/-- one cell -/
theorem x_step (D : Nat) {s : Mem} {oc k i kk : Nat} {size c : Int} {st : List Int} {ts ts' : List Bool} (hx : XR s o T w) (ht : Tf T) (hw : Wf T w) (hk : k < tG T) (hl : (i : Int) < rI s oc 1) (hi : i < 1600) (hc : rI s (oc + 1) i = enX c) (hty : ty1 kk c ts = some ts') (hts : ts.length ≤ 60) (hst : tyv ts st) (hp : Pil s (o + 6) st) : ∃ s1, L_Rg_value_6 (D + 2) o oc (k : Int) size (st.length : Int) (i : Int) s = L_Rg_value_6 (D + 2) o oc (k : Int) size ((ev1 (kno T w k size) (unk T w k) c st).length : Int) ((i + 1 : Nat) : Int) s1 ∧ Fr (PX o) s s1 ∧ Pil s1 (o + 6) (ev1 (kno T w k size) (unk T w k) c st) := by
  have hlen := tyv_len hst
  have push : ∀ (f : Nat) (v : Int), Fr (PX o) s (wI s (o + 6) f v) := fun f v => Fr.rf.w rfl
  unfold ty1 at hty
  unfold ev1
  split at hty
  · next h1 =>
    rw [if_pos h1]
    rw [enX_num h1] at hc
    split at hty
    · next h2 => exact ⟨_, x6_lit (D + 2) hl hi hc (by omega) (by omega), push _ _, hp.push _⟩
    · cases hty
  next h1 =>
  rw [if_neg h1]
  split at hty
  · next h2 =>
    rw [if_pos h2]
    rw [enX_of h1 h2] at hc
    split at hty
    · split at hty
      · next h3 =>
        match st, hst, hlen, hp with
        | v :: r, hst, hlen, hp =>
          simp only [List.length_cons] at hts hlen
          have hv := hst.2.1
          refine ⟨_, x6_un (D + 2) (g := c - 60 + 19) hl hi (by rw [hc]; omega) (by omega) (by omega) (v := unk T w k (c - 60) v) ?_, push _ _, hp.set _⟩
          rw [hp.top]
          exact x_turned D hx ht hw hk (by omega) hv
      · cases hty
    · cases hty
  next h2 =>
  rw [if_neg h2]
  split at hty
  · next h3 =>
    rw [if_pos h3]
    rw [enX_part h1 h2 h3] at hc
    split at hty
    · next h4 =>
      have hr := xpt_r (p := c - 40) (by omega) (by omega)
      exact ⟨_, x6_kn (D + 2) hl hi hc (by omega) (by omega) (x_known D hx ht hw hk size (by omega) (by omega)), push _ _, hp.push _⟩
    · cases hty
  next h3 =>
  rw [if_neg h3]
  split at hty
  · next h4 =>
    rw [if_pos h4]
    split at hty
    · next h5 =>
      rw [h4, show enX 13 = 1 from rfl] at hc
      exact ⟨_, x6_lit (D + 2) hl hi hc (by omega) (by omega), push _ _, hp.push _⟩
    · cases hty
  next h4 =>
  rw [if_neg h4]
  split at hty
  · next h5 =>
    rw [if_pos h5]
    rw [h5, show enX 12 = 10000 + 23 from rfl] at hc
    split at hty
    · match st, hst, hlen, hp with
      | v :: r, hst, hlen, hp =>
        simp only [List.length_cons] at hts hlen
        have hv := hst.1 rfl
        refine ⟨_, x6_un (D + 2) (g := 23) hl hi hc (Or.inl rfl) (by omega) (v := 1 - v) ?_, push _ _, hp.set _⟩
        rw [hp.top, e_Rg_turned, if_pos rfl]
        rcases hv with rfl | rfl <;> rfl
    · cases hty
  next h5 =>
  rw [if_neg h5]
  have bin : ∀ (a b : Int) (r : List Int), st = b :: a :: r → st.length ≤ 60 → 1 ≤ c ∧ c ≤ 11 → (-1000000 ≤ a ∧ a ≤ 1000000) → (-1000000 ≤ b ∧ b ≤ 1000000) → (10 ≤ c → (a = 0 ∨ a = 1) ∧ (b = 0 ∨ b = 1)) → ∃ s1, L_Rg_value_6 (D + 2) o oc (k : Int) size (st.length : Int) (i : Int) s = L_Rg_value_6 (D + 2) o oc (k : Int) size ((jn c a b :: r).length : Int) ((i + 1 : Nat) : Int) s1 ∧ Fr (PX o) s s1 ∧ Pil s1 (o + 6) (jn c a b :: r) := by
    intro a b r hstr hle hcr ha hb hab
    subst hstr
    have he := enX_bin hcr
    simp only [List.length_cons] at hle
    refine ⟨_, x6_bin (D + 2) (g := enX c - 10000) hl hi (by rw [hc]; omega) (by omega) (by omega) (v := jn c a b) ?_, push _ _, hp.pop.set _⟩
    rw [hp.pop.top, show r.length + 1 = (a :: r).length from rfl, hp.top]
    exact x_joined D s hcr ha hb hab
  split at hty
  · match st, hst, hlen, bin with
    | b :: a :: r, hst, hlen, bin =>
      simp only [List.length_cons] at hts hlen
      refine bin a b r rfl (by simp only [List.length_cons]; omega) ?_ hst.2.2.2.1 hst.2.1 ?_
      · split at hty
        · omega
        · split at hty
          · omega
          · cases hty
      · intro h10
        split at hty
        · omega
        · split at hty
          · omega
          · cases hty
  · match st, hst, hlen, bin with
    | b :: a :: r, hst, hlen, bin =>
      simp only [List.length_cons] at hts hlen
      split at hty
      · next h6 => exact bin a b r rfl (by simp only [List.length_cons]; omega) (by omega) hst.2.2.2.1 hst.2.1 (fun _ => ⟨hst.2.2.1 rfl, hst.1 rfl⟩)
      · cases hty
  · cases hty
theorem x_steps (D : Nat) {oc k kk : Nat} {size : Int} (ht : Tf T) (hw : Wf T w) (hk : k < tG T) (hs : -1000000 ≤ size ∧ size ≤ 1000000) (hoc : oc < 27) : ∀ (cs : List Int) (i : Nat) (ts ts' : List Bool) (st : List Int) (s : Mem), XR s o T w → rI s oc 1 = ((i + cs.length : Nat) : Int) → i + cs.length ≤ 1600 → (∀ j, j < cs.length → rI s (oc + 1) (i + j) = enX (cs.getD j 0)) → tys kk cs ts = some ts' → ts.length ≤ 60 → tyv ts st → Pil s (o + 6) st → ∃ s1, L_Rg_value_6 (D + 2) o oc (k : Int) size (st.length : Int) (i : Int) s = L_Rg_value_197 (D + 2) o ((evs (kno T w k size) (unk T w k) cs st).length : Int) s1 ∧ Fr (PX o) s s1 ∧ Pil s1 (o + 6) (evs (kno T w k size) (unk T w k) cs st) ∧ tyv ts' (evs (kno T w k size) (unk T w k) cs st)
  | [], i, ts, ts', st, s, hx, hl, hi, hc, hty, hts, hst, hp => by
    rw [e_Rg_value_6, hl, if_neg (by simp)]
    cases hty
    exact ⟨s, rfl, Fr.rf, hp, hst⟩
  | c :: cs, i, ts, ts', st, s, hx, hl, hi, hc, hty, hts, hst, hp => by
    unfold tys at hty
    obtain ⟨t1, h1, h2⟩ := Option.bind_eq_some_iff.mp hty
    simp only [List.length_cons] at hl hi hc
    obtain ⟨s1, e1, f1, p1⟩ := x_step D (oc := oc) (size := size) hx ht hw hk (by rw [hl]; omega) (by omega) (hc 0 (by omega)) h1 hts hst hp
    have ho := hx.1
    have hn : ∀ a b, a < 28 → ¬ PX o a b := fun a b ha q => by unfold PX at q; omega
    obtain ⟨s2, e2, f2, p2, t2⟩ := x_steps D (oc := oc) ht hw hk hs hoc cs (i + 1) t1 ts' _ s1 (hx.fr f1 (fun a b q => by unfold PX at q; omega)) (by rw [f1.i (hn _ _ (by omega)), hl]; congr 1; omega) (by omega) (fun j hj => by
      rw [f1.i (hn _ _ (by omega)), show i + 1 + j = i + (j + 1) by omega]
      exact hc (j + 1) (by omega)) h2 (ty1_len h1 hts) (ev1_ty (fun p q1 q2 => kno_r ht hw hk hs q1 q2) (fun p v _ _ => unk_r ht hw hk p v) h1 hst) p1
    exact ⟨s2, e1.trans e2, f1.tr f2, p2, t2⟩
/-- the value of a code: the class's way -/
theorem x_value (D : Nat) {s : Mem} {oc k kk : Nat} {size : Int} {cs : List Int} {b : Bool} (hx : XR s o T w) (ht : Tf T) (hw : Wf T w) (hk : k < tG T) (hs : -1000000 ≤ size ∧ size ≤ 1000000) (hoc : oc < 27) (hc : XC s oc cs) (hok : Cok kk cs b) : ∃ s1, f_Rg_value (D + 3) o oc (k : Int) size s = some (valu T w k size cs, s1) ∧ Fr (PX o) s s1 ∧ (-1000000 ≤ valu T w k size cs ∧ valu T w k size cs ≤ 1000000) ∧ (b = true → valu T w k size cs = 0 ∨ valu T w k size cs = 1) := by
  obtain ⟨s1, e1, f1, p1, t1⟩ := x_steps D (oc := oc) ht hw hk hs hoc cs 0 [] [b] [] s hx (by rw [hc.1]; congr 1; omega) (by have := hc.2.1; omega) (fun j hj => by rw [Nat.zero_add]; exact hc.2.2 j hj) hok (by simp) trivial (fun j hj => by cases hj)
  have hl := tyv_len t1
  have e0 : f_Rg_value (D + 3) o oc (k : Int) size s = L_Rg_value_6 (D + 2) o oc (k : Int) size 0 0 s := e_Rg_value (D + 2) o oc k size s
  have e2 : f_Rg_value (D + 3) o oc (k : Int) size s = L_Rg_value_197 (D + 2) o ((evs (kno T w k size) (unk T w k) cs []).length : Int) s1 := e0.trans e1
  have hv : valu T w k size cs = (evs (kno T w k size) (unk T w k) cs []).headD 0 := rfl
  generalize evs (kno T w k size) (unk T w k) cs [] = st at *
  match st, hl, p1, t1 with
  | [v], hl, p1, t1 =>
    refine ⟨s1, ?_, f1, ?_, ?_⟩
    · rw [e2, hv, e_Rg_value_197, if_pos (show ((([v] : List Int).length : Nat) : Int) = 1 from rfl), show rI s1 (o + 6) 0 = v from p1.top (st := [])]
      rfl
    · rw [hv]; exact t1.2.1
    · rw [hv]; exact t1.1
end XRUN
