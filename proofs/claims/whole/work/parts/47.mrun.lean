/-! the reference's value of a code -/
abbrev PMr : Nat → Nat → Prop := fun a i => a = 157 ∨ a = 84 ∧ i = 105
abbrev PMv : Nat → Nat → Prop := fun a i => a = 157 ∨ a = 84 ∧ (i = 50 ∨ i = 55 ∨ i = 105)
theorem PMr_v : ∀ a i, PMr a i → PMv a i := fun a i h => by unfold PMr at h; unfold PMv; omega
theorem PMv_T : PMT PMv := fun a i h => by unfold PMv at h; omega
theorem PMr_T : PMT PMr := fun a i h => by unfold PMr at h; omega
def MP (s : Mem) (st : List Int) : Prop := rI s 84 105 = (st.length : Int) ∧ Pil s 157 st
theorem MP.push {s : Mem} {st : List Int} (h : MP s st) (v : Int) : MP (wI (wI s 157 st.length v) 84 105 ((st.length + 1 : Nat) : Int)) (v :: st) := ⟨by rw [rI_same]; rfl, (h.2.push v).fr (P := fun a i => a = 84 ∧ i = 105) (Fr.rf.w ⟨rfl, rfl⟩) (fun k q => by omega)⟩
theorem MP.set {s : Mem} {v : Int} {st : List Int} (h : MP s (v :: st)) (u : Int) : MP (wI s 157 st.length u) (u :: st) := ⟨by rw [rI_other _ _ _ _ (by omega)]; exact h.1, h.2.set u⟩
theorem Fr_pu {s s' : Mem} (h : Fr PMr s s') (f g : Nat) (v : Int) : Fr PMr s (wI (wI s' 157 f v) 84 105 (g : Int)) := (h.w (Or.inl rfl)).w (Or.inr ⟨rfl, rfl⟩)
section MRUN
variable {T : Tab} {w : Nat → Int}
theorem w32_1600 {e : Nat} (h : e < 1600) : w32 (1600 + (e : Int)) = ((1600 + e : Nat) : Int) := by
  rw [w32_i (by omega) (by omega), Int.natCast_add]
  rfl
theorem w32_3 {b : Nat} (h : b < 3) : w32 (3 + (b : Int)) = ((3 + b : Nat) : Int) := by
  rw [w32_i (by omega) (by omega), Int.natCast_add]
  rfl
theorem lt_36 {b : Nat} (h : b < 3) : 3 + b < 6 := by omega
theorem lt_16 {e : Nat} (h : e < 1600) : e < 2147483647 := by omega
theorem m_step (D : Nat) {s : Mem} {b k e kk q : Nat} {size c : Int} {st : List Int} {ts ts' : List Bool} (hm : MT s T) (hw : MW s w) (hf : Wf T w) (ht : Tf T) (hk : k < tG T) (ha : rI s 84 55 = (k : Int)) (hz : kk = 2 → rI s 84 56 = size) (hb : b < 3) (hl : (e : Int) < rI s 120 (3 + b)) (he : e < 1600) (e2 : w32 (1600 + (e : Int)) = (q : Int)) (hq : q < 3200) (hc : rI s 121 q = c) (hty : ty1 kk c ts = some ts') (hkk : kk ≠ 3) (hts : ts.length ≤ 60) (hst : tyv ts st) (hp : MP s st) : ∃ s1, L_M_codesTell_24 (D + 6) (b : Int) (k : Int) (e : Int) s = L_M_codesTell_24 (D + 6) (b : Int) (k : Int) ((e + 1 : Nat) : Int) s1 ∧ Fr PMr s s1 ∧ MP s1 (ev1 (kno T w k size) (unk T w k) c st) := by
  have hlen := tyv_len hst
  rw [e_M_codesTell_24, w32_3 hb, e2, inB_n (lt_36 hb), Int.toNat_natCast, if_pos hl, inB_n hq, Int.toNat_natCast, hc, w32_s (lt_16 he)]
  clear e2 hq he hl hb
  unfold ty1 at hty
  unfold ev1
  split at hty
  · next h1 =>
    rw [if_neg (show ¬ c < 1000 by omega), if_pos h1]
    split at hty
    · next h2 =>
      rw [w32_i (by omega) (by omega), m_puts (D + 5) _ hp.1 (by omega), Option.bind_some]
      exact ⟨_, rfl, Fr_pu Fr.rf _ _ _, hp.push _⟩
    · cases hty
  next h1 =>
  rw [if_pos (show c < 1000 by omega), if_neg h1]
  split at hty
  · next h2 =>
    exfalso
    split at hty
    · rw [if_neg (by omega)] at hty
      cases hty
    · cases hty
  next h2 =>
  rw [if_neg h2]
  split at hty
  · next h3 =>
    rw [if_neg (show ¬ c < 40 by omega), if_pos h3]
    split at hty
    · next h4 =>
      rw [w32_i (by omega) (by omega), m_part D (size := size) hm hw hf ht hk ha (fun q => hz (h4.2.1 (by omega))) (by omega), Option.bind_some]
      simp only []
      rw [m_puts (D + 5) _ hp.1 (by omega), Option.bind_some]
      exact ⟨_, rfl, Fr_pu Fr.rf _ _ _, hp.push _⟩
    · cases hty
  next h3 =>
  rw [if_pos (show c < 40 by omega), if_neg h3]
  split at hty
  · next h4 =>
    rw [if_pos h4, if_pos h4]
    split at hty
    · next h5 =>
      rw [m_puts (D + 5) _ hp.1 (by omega), Option.bind_some]
      exact ⟨_, rfl, Fr_pu Fr.rf _ _ _, hp.push _⟩
    · cases hty
  next h4 =>
  rw [if_neg h4, if_neg h4]
  split at hty
  · next h5 =>
    rw [if_pos h5, if_pos h5]
    split at hty
    · match st, hst, hlen, hp with
      | v :: r, hst, hlen, hp =>
        simp only [List.length_cons] at hts hlen
        have hv := hst.1 rfl
        have e3 : w32 (rI s 84 105 - 1) = (r.length : Int) := by rw [hp.1, List.length_cons, w32_i (by omega) (by omega)]; omega
        rw [e3, inB_n (by omega), inB_n (by omega), Int.toNat_natCast, hp.2.top, w64_i (by omega) (by omega)]
        exact ⟨_, rfl, Fr.rf.w (Or.inl rfl), hp.set _⟩
    · cases hty
  next h5 =>
  rw [if_neg h5, if_neg h5]
  have bin : ∀ (a b' : Int) (r : List Int), st = b' :: a :: r → st.length ≤ 60 → 1 ≤ c ∧ c ≤ 11 → (-1000000 ≤ a ∧ a ≤ 1000000) → (-1000000 ≤ b' ∧ b' ≤ 1000000) → ∃ s1, ((f_M_qJoins (D + 6) c s).bind fun p1 => L_M_codesTell_24 (D + 6) (b : Int) (k : Int) ((e + 1 : Nat) : Int) p1.2) = L_M_codesTell_24 (D + 6) (b : Int) (k : Int) ((e + 1 : Nat) : Int) s1 ∧ Fr PMr s s1 ∧ MP s1 (jn c a b' :: r) := by
    intro a b' r hstr hle hcr h6 h7
    subst hstr
    simp only [List.length_cons] at hle
    rw [m_joins (D + 4) (f := r.length) (a := a) (b := b') (by rw [hp.1]; rfl) (by omega) hp.2.pop.top hp.2.top hcr h6 h7, Option.bind_some]
    have f1 : Fr (fun a i => a = 84 ∧ i = 105) s (wI s 84 105 (r.length : Int)) := Fr.rf.w ⟨rfl, rfl⟩
    have hq : MP (wI s 84 105 (r.length : Int)) r := ⟨rI_same _ _ _ _, hp.2.pop.pop.fr f1 (fun k q => by omega)⟩
    exact ⟨_, rfl, Fr_pu (Fr.rf.w (Or.inr ⟨rfl, rfl⟩)) _ _ _, hq.push _⟩
  split at hty
  · match st, hst, hlen, bin with
    | b' :: a :: r, hst, hlen, bin =>
      simp only [List.length_cons] at hts hlen
      refine bin a b' r rfl (by simp only [List.length_cons]; omega) ?_ hst.2.2.2.1 hst.2.1
      split at hty
      · omega
      · split at hty
        · omega
        · cases hty
  · match st, hst, hlen, bin with
    | b' :: a :: r, hst, hlen, bin =>
      simp only [List.length_cons] at hts hlen
      split at hty
      · next h6 => exact bin a b' r rfl (by simp only [List.length_cons]; omega) (by omega) hst.2.2.2.1 hst.2.1
      · cases hty
  · cases hty
theorem m_steps (D : Nat) {b k kk : Nat} {size : Int} (ht : Tf T) (hf : Wf T w) (hk : k < tG T) (hkk : kk ≠ 3) (hb : b < 3) (hsz : -1000000 ≤ size ∧ size ≤ 1000000) : ∀ (cs : List Int) (e : Nat) (ts ts' : List Bool) (st : List Int) (s : Mem), MT s T → MW s w → rI s 84 55 = (k : Int) → (kk = 2 → rI s 84 56 = size) → rI s 120 (3 + b) = ((e + cs.length : Nat) : Int) → e + cs.length ≤ 1600 → (∀ j, j < cs.length → rI s 121 (1600 + (e + j)) = cs.getD j 0) → tys kk cs ts = some ts' → ts.length ≤ 60 → tyv ts st → MP s st → ∃ s1, L_M_codesTell_24 (D + 6) (b : Int) (k : Int) (e : Int) s = some (rI s1 157 0, s1) ∧ Fr PMr s s1 ∧ MP s1 (evs (kno T w k size) (unk T w k) cs st) ∧ tyv ts' (evs (kno T w k size) (unk T w k) cs st)
  | [], e, ts, ts', st, s, hm, hw, ha, hz, hl, he, hc, hty, hts, hst, hp => by
    rw [e_M_codesTell_24, w32_3 hb, inB_n (lt_36 hb), Int.toNat_natCast, hl, if_neg (by simp)]
    cases hty
    exact ⟨s, rfl, Fr.rf, hp, hst⟩
  | c :: cs, e, ts, ts', st, s, hm, hw, ha, hz, hl, he, hc, hty, hts, hst, hp => by
    unfold tys at hty
    obtain ⟨t1, h1, h2⟩ := Option.bind_eq_some_iff.mp hty
    simp only [List.length_cons] at hl he hc
    obtain ⟨s1, e1, f1, p1⟩ := m_step D (size := size) hm hw hf ht hk ha hz hb (by rw [hl]; omega) (by omega) (w32_1600 (by omega)) (by omega) (hc 0 (by omega)) h1 hkk hts hst hp
    obtain ⟨s2, e2, f2, p2, t2⟩ := m_steps D ht hf hk hkk hb hsz cs (e + 1) t1 ts' _ s1 (hm.fr f1 PMr_T) (hw.fr f1 (fun a i q => by unfold PMr at q; omega)) ((f1.i (by unfold PMr; omega)).trans ha) (fun q => (f1.i (by unfold PMr; omega)).trans (hz q)) (by rw [f1.i (by unfold PMr; omega), hl]; congr 1; omega) (by omega) (fun j hj => by
      rw [f1.i (by unfold PMr; omega), show e + 1 + j = e + (j + 1) by omega]
      exact hc (j + 1) (by omega)) h2 (ty1_len h1 hts) (ev1_ty (fun p q1 q2 => kno_r ht hf hk hsz q1 q2) (fun p v _ _ => unk_r ht hf hk p v) h1 hst) p1
    exact ⟨s2, e1.trans e2, f1.tr f2, p2, t2⟩
/-- the value of a code that was told: the reference's way -/
theorem m_tell (D : Nat) {s : Mem} {b k : Nat} {size : Int} {cs : List Int} {bt : Bool} (hm : MT s T) (hw : MW s w) (hf : Wf T w) (ht : Tf T) (hk : k < tG T) (hz : b = 2 → rI s 84 56 = size) (hsz : -1000000 ≤ size ∧ size ≤ 1000000) (hb : b < 3) (hc : MC s b cs) (hto : rI s 119 (3 + b) ≠ -1) (hok : Cok b cs bt) : ∃ s1, f_M_codesTell (D + 7) (b : Int) (k : Int) s = some (valu T w k size cs, s1) ∧ Fr PMv s s1 ∧ (-1000000 ≤ valu T w k size cs ∧ valu T w k size cs ≤ 1000000) ∧ (bt = true → valu T w k size cs = 0 ∨ valu T w k size cs = 1) := by
  rcases hc with ⟨a, h1, h2, h3, h4⟩ | ⟨h1, -⟩
  · have f0 : Fr PMv s (wI (wI (wI s 84 55 (k : Int)) 84 50 (b : Int)) 84 105 0) := ((Fr.rf.w (Or.inr ⟨rfl, Or.inr (Or.inl rfl)⟩)).w (Or.inr ⟨rfl, Or.inl rfl⟩)).w (Or.inr ⟨rfl, Or.inr (Or.inr rfl)⟩)
    generalize hs0 : wI (wI (wI s 84 55 (k : Int)) 84 50 (b : Int)) 84 105 0 = s0 at f0
    have a55 : rI s0 84 55 = (k : Int) := by rw [← hs0, rI_other _ _ _ _ (by omega), rI_other _ _ _ _ (by omega), rI_same]
    have a105 : rI s0 84 105 = 0 := by rw [← hs0, rI_same]
    obtain ⟨s1, e2, f1, p1, t1⟩ := m_steps D (kk := b) (b := b) (size := size) ht hf hk (by omega) hb hsz cs a [] [bt] [] s0 (hm.fr f0 PMv_T) (hw.fr f0 (fun a i q => by unfold PMv at q; omega)) a55 (fun q => (f0.i (by unfold PMv; omega)).trans (hz q)) ((f0.i (by unfold PMv; omega)).trans h2) h3 (fun j hj => (f0.i (by unfold PMv; omega)).trans (h4 j hj)) hok (by simp) trivial ⟨a105, fun j hj => by cases hj⟩
    have hv : valu T w k size cs = (evs (kno T w k size) (unk T w k) cs []).headD 0 := rfl
    have hl := tyv_len t1
    refine ⟨s1, ?_, f0.tr (f1.mo PMr_v), ?_⟩
    · rw [show f_M_codesTell (D + 7) (b : Int) (k : Int) s = f_M_codesTell (D + 6 + 1) (b : Int) (k : Int) s from rfl, e_M_codesTell, w32_3 hb, inB_n (lt_36 hb), Int.toNat_natCast, h1, hs0, e2, hv]
      generalize evs (kno T w k size) (unk T w k) cs [] = st at *
      match st, hl, p1, t1 with
      | [v], hl, p1, t1 => rw [show rI s1 157 0 = v from p1.2.top (st := [])]; rfl
    · rw [hv]
      generalize evs (kno T w k size) (unk T w k) cs [] = st at *
      match st, hl, p1, t1 with
      | [v], hl, p1, t1 => exact ⟨t1.2.1, t1.1⟩
  · exact absurd h1 hto
theorem dfl_0 {k : Nat} {size : Int} : valu T w k size (dfl 0) = tW T k := rfl
theorem dfl_1 {k : Nat} {size : Int} : valu T w k size (dfl 1) = if 50 < w (11 + 2 * k) then 1 else 0 := rfl
theorem dfl_2 {k : Nat} {size : Int} : valu T w k size (dfl 2) = flo size 2 := rfl
/-- one cell of a question -/
theorem q_step (D : Nat) {s : Mem} {k e : Nat} {size c : Int} {st : List Int} {ts ts' : List Bool} (hm : MT s T) (hw : MW s w) (hf : Wf T w) (ht : Tf T) (hk : k < tG T) (ha : rI s 84 55 = (k : Int)) (hl : (e : Int) < rI s 84 99) (he : e < 1700) (hc : rI s 155 e = c) (hty : ty1 3 c ts = some ts') (hts : ts.length ≤ 60) (hst : tyv ts st) (hp : MP s st) : ∃ s1, L_M_qTold_7 (D + 6) (k : Int) (e : Int) s = L_M_qTold_7 (D + 6) (k : Int) ((e + 1 : Nat) : Int) s1 ∧ Fr PMr s s1 ∧ MP s1 (ev1 (kno T w k size) (unk T w k) c st) := by
  have hlen := tyv_len hst
  have ci : ∀ v, -1000000 ≤ v ∧ v ≤ 1000000 → clp v = v := fun v h => by unfold clp; rw [if_neg (by omega), if_neg (by omega)]
  rw [e_M_qTold_7, if_pos hl, inB_n (by omega), Int.toNat_natCast, hc, w32_s (by omega)]
  unfold ty1 at hty
  unfold ev1
  split at hty
  · next h1 =>
    rw [if_neg (show ¬ c < 1000 by omega), if_pos h1]
    split at hty
    · next h2 =>
      rw [w32_i (by omega) (by omega), m_puts (D + 5) _ hp.1 (by omega), Option.bind_some]
      exact ⟨_, rfl, Fr_pu Fr.rf _ _ _, hp.push _⟩
    · cases hty
  next h1 =>
  rw [if_pos (show c < 1000 by omega), if_neg h1]
  split at hty
  · next h2 =>
    rw [if_neg (show ¬ c < 60 by omega), if_pos h2]
    split at hty
    · split at hty
      · next h3 =>
        match st, hst, hlen, hp with
        | v :: r, hst, hlen, hp =>
          simp only [List.length_cons] at hts hlen
          have hv := hst.2.1
          have e3 : w32 (rI s 84 105 - 1) = (r.length : Int) := by rw [hp.1, List.length_cons, w32_i (by omega) (by omega)]; omega
          rw [e3, inB_n (by omega), Int.toNat_natCast, hp.2.top, w32_i (by omega) (by omega), m_of (D + 1) hm hw hf ht hk (by omega) hv, Option.bind_some]
          simp only []
          rw [m_clip (D + 5), Option.bind_some, ci _ (unk_r ht hf hk _ _)]
          simp only []
          rw [inB_n (by omega)]
          exact ⟨_, rfl, Fr.rf.w (Or.inl rfl), hp.set _⟩
      · cases hty
    · cases hty
  next h2 =>
  rw [if_pos (show c < 60 by omega), if_neg h2]
  split at hty
  · next h3 =>
    rw [if_neg (show ¬ c < 40 by omega), if_pos h3]
    split at hty
    · next h4 =>
      have h8 : c - 40 ≠ 8 := fun q => by have := h4.2.1 (by omega); omega
      have hkn : kno T w k size (c - 40) = kno T w k 0 (c - 40) := by unfold kno; rw [if_neg h8, if_neg h8]
      rw [w32_i (by omega) (by omega), m_part D (size := 0) hm hw hf ht hk ha (fun q => absurd q h8) (by omega), Option.bind_some]
      simp only []
      rw [m_clip (D + 5), Option.bind_some, ci _ (kno_r ht hf hk (by omega) (by omega) (by omega)), ← hkn]
      simp only []
      rw [m_puts (D + 5) _ hp.1 (by omega), Option.bind_some]
      exact ⟨_, rfl, Fr_pu Fr.rf _ _ _, hp.push _⟩
    · cases hty
  next h3 =>
  rw [if_pos (show c < 40 by omega), if_neg h3]
  split at hty
  · next h4 =>
    rw [if_pos h4, if_pos h4]
    split at hty
    · next h5 =>
      rw [m_puts (D + 5) _ hp.1 (by omega), Option.bind_some]
      exact ⟨_, rfl, Fr_pu Fr.rf _ _ _, hp.push _⟩
    · cases hty
  next h4 =>
  rw [if_neg h4, if_neg h4]
  split at hty
  · next h5 =>
    rw [if_pos h5, if_pos h5]
    split at hty
    · match st, hst, hlen, hp with
      | v :: r, hst, hlen, hp =>
        simp only [List.length_cons] at hts hlen
        have hv := hst.1 rfl
        have e3 : w32 (rI s 84 105 - 1) = (r.length : Int) := by rw [hp.1, List.length_cons, w32_i (by omega) (by omega)]; omega
        rw [e3, inB_n (by omega), inB_n (by omega), Int.toNat_natCast, hp.2.top, w64_i (by omega) (by omega)]
        exact ⟨_, rfl, Fr.rf.w (Or.inl rfl), hp.set _⟩
    · cases hty
  next h5 =>
  rw [if_neg h5, if_neg h5]
  have bin : ∀ (a b' : Int) (r : List Int), st = b' :: a :: r → st.length ≤ 60 → 1 ≤ c ∧ c ≤ 11 → (-1000000 ≤ a ∧ a ≤ 1000000) → (-1000000 ≤ b' ∧ b' ≤ 1000000) → ∃ s1, ((f_M_qJoins (D + 6) c s).bind fun p1 => L_M_qTold_7 (D + 6) (k : Int) ((e + 1 : Nat) : Int) p1.2) = L_M_qTold_7 (D + 6) (k : Int) ((e + 1 : Nat) : Int) s1 ∧ Fr PMr s s1 ∧ MP s1 (jn c a b' :: r) := by
    intro a b' r hstr hle hcr h6 h7
    subst hstr
    simp only [List.length_cons] at hle
    rw [m_joins (D + 4) (f := r.length) (a := a) (b := b') (by rw [hp.1]; rfl) (by omega) hp.2.pop.top hp.2.top hcr h6 h7, Option.bind_some]
    have f1 : Fr (fun a i => a = 84 ∧ i = 105) s (wI s 84 105 (r.length : Int)) := Fr.rf.w ⟨rfl, rfl⟩
    have hq : MP (wI s 84 105 (r.length : Int)) r := ⟨rI_same _ _ _ _, hp.2.pop.pop.fr f1 (fun k q => by omega)⟩
    exact ⟨_, rfl, Fr_pu (Fr.rf.w (Or.inr ⟨rfl, rfl⟩)) _ _ _, hq.push _⟩
  split at hty
  · match st, hst, hlen, bin with
    | b' :: a :: r, hst, hlen, bin =>
      simp only [List.length_cons] at hts hlen
      refine bin a b' r rfl (by simp only [List.length_cons]; omega) ?_ hst.2.2.2.1 hst.2.1
      split at hty
      · omega
      · split at hty
        · omega
        · cases hty
  · match st, hst, hlen, bin with
    | b' :: a :: r, hst, hlen, bin =>
      simp only [List.length_cons] at hts hlen
      split at hty
      · next h6 => exact bin a b' r rfl (by simp only [List.length_cons]; omega) (by omega) hst.2.2.2.1 hst.2.1
      · cases hty
  · cases hty
theorem q_steps (D : Nat) {k : Nat} (ht : Tf T) (hf : Wf T w) (hk : k < tG T) : ∀ (cs : List Int) (e : Nat) (ts ts' : List Bool) (st : List Int) (s : Mem), MT s T → MW s w → rI s 84 55 = (k : Int) → rI s 84 99 = ((e + cs.length : Nat) : Int) → e + cs.length ≤ 1700 → (∀ j, j < cs.length → rI s 155 (e + j) = cs.getD j 0) → tys 3 cs ts = some ts' → ts.length ≤ 60 → tyv ts st → MP s st → ∃ s1, L_M_qTold_7 (D + 6) (k : Int) (e : Int) s = some (rI s1 157 0, s1) ∧ Fr PMr s s1 ∧ MP s1 (evs (kno T w k 0) (unk T w k) cs st) ∧ tyv ts' (evs (kno T w k 0) (unk T w k) cs st)
  | [], e, ts, ts', st, s, hm, hw, ha, hl, he, hc, hty, hts, hst, hp => by
    rw [e_M_qTold_7, hl, if_neg (by simp)]
    cases hty
    exact ⟨s, rfl, Fr.rf, hp, hst⟩
  | c :: cs, e, ts, ts', st, s, hm, hw, ha, hl, he, hc, hty, hts, hst, hp => by
    unfold tys at hty
    obtain ⟨t1, h1, h2⟩ := Option.bind_eq_some_iff.mp hty
    simp only [List.length_cons] at hl he hc
    obtain ⟨s1, e1, f1, p1⟩ := q_step D (size := 0) hm hw hf ht hk ha (by rw [hl]; omega) (by omega) (hc 0 (by omega)) h1 hts hst hp
    obtain ⟨s2, e2, f2, p2, t2⟩ := q_steps D ht hf hk cs (e + 1) t1 ts' _ s1 (hm.fr f1 PMr_T) (hw.fr f1 (fun a i q => by unfold PMr at q; omega)) ((f1.i (by unfold PMr; omega)).trans ha) (by rw [f1.i (by unfold PMr; omega), hl]; congr 1; omega) (by omega) (fun j hj => by
      rw [f1.i (by unfold PMr; omega), show e + 1 + j = e + (j + 1) by omega]
      exact hc (j + 1) (by omega)) h2 (ty1_len h1 hts) (ev1_ty (fun p q1 q2 => kno_r ht hf hk (by omega) q1 q2) (fun p v _ _ => unk_r ht hf hk p v) h1 hst) p1
    exact ⟨s2, e1.trans e2, f1.tr f2, p2, t2⟩
/-- what a question's code tells of guest k -/
theorem m_told (D : Nat) {s : Mem} {k : Nat} {cs : List Int} {bt : Bool} (hm : MT s T) (hw : MW s w) (hf : Wf T w) (ht : Tf T) (hk : k < tG T) (ha : rI s 84 55 = (k : Int)) (hl : rI s 84 99 = (cs.length : Int)) (hle : cs.length ≤ 1700) (hc : ∀ j, j < cs.length → rI s 155 j = cs.getD j 0) (hok : Cok 3 cs bt) : ∃ s1, f_M_qTold (D + 7) (k : Int) s = some (valu T w k 0 cs, s1) ∧ Fr PMr s s1 ∧ (-1000000 ≤ valu T w k 0 cs ∧ valu T w k 0 cs ≤ 1000000) ∧ (bt = true → valu T w k 0 cs = 0 ∨ valu T w k 0 cs = 1) := by
  have f0 : Fr PMr s (wI s 84 105 0) := Fr.rf.w (Or.inr ⟨rfl, rfl⟩)
  obtain ⟨s1, e2, f1, p1, t1⟩ := q_steps D ht hf hk cs 0 [] [bt] [] _ (hm.fr f0 PMr_T) (hw.fr f0 (fun a i q => by unfold PMr at q; omega)) ((f0.i (by unfold PMr; omega)).trans ha) ((f0.i (by unfold PMr; omega)).trans (hl.trans (by congr 1; omega))) (by omega) (fun j hj => by rw [Nat.zero_add, f0.i (by unfold PMr; omega)]; exact hc j hj) hok (by simp) trivial ⟨rI_same _ _ _ _, fun j hj => by cases hj⟩
  have hv : valu T w k 0 cs = (evs (kno T w k 0) (unk T w k) cs []).headD 0 := rfl
  have hl := tyv_len t1
  refine ⟨s1, ?_, f0.tr f1, ?_⟩
  · rw [show f_M_qTold (D + 7) (k : Int) s = f_M_qTold (D + 6 + 1) (k : Int) s from rfl, e_M_qTold, show L_M_qTold_7 (D + 6) (k : Int) 0 (wI s 84 105 0) = _ from e2, hv]
    generalize evs (kno T w k 0) (unk T w k) cs [] = st at *
    match st, hl, p1, t1 with
    | [v], hl, p1, t1 => rw [show rI s1 157 0 = v from p1.2.top (st := [])]; rfl
  · rw [hv]
    generalize evs (kno T w k 0) (unk T w k) cs [] = st at *
    match st, hl, p1, t1 with
    | [v], hl, p1, t1 => exact ⟨t1.2.1, t1.1⟩
end MRUN
