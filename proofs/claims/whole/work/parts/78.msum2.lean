/-! the reference's sums: parts, products, sums against their spec -/
section MSUM2
variable {tp : List Int}
theorem m_takesSignE (D : Nat) {s : Mem} {q : Nat} (h : QE s tp q) {v : Int} (hv : isSg v = true) (hn : sg tp q ≠ v) : f_M_takesSign (D + 2) v s = some (0, s) := by
  rw [e_M_takesSign, h.1.2.2.1, if_pos rfl, m_lookE D h, Option.bind_some]
  exact if_neg (fun e => hn ((sg_ch hv).mpr e))
theorem oP_0 {q : Nat} (h : oP tp q = 0) : sg tp q ≠ 42 ∧ sg tp q ≠ 47 := by
  unfold oP at h
  split at h
  · cases h
  · next n1 =>
    split at h
    · cases h
    · next n2 => exact ⟨n1, n2⟩
theorem oP_1 {q : Nat} (h : oP tp q ≠ 0) : (sg tp q = 42 ∧ oP tp q = 3) ∨ (sg tp q = 47 ∧ oP tp q = 4) := by
  unfold oP at h ⊢
  split at h
  · next n1 => rw [if_pos n1]; exact Or.inl ⟨n1, rfl⟩
  · next n1 =>
    split at h
    · next n2 => rw [if_neg n1, if_pos n2]; exact Or.inr ⟨n2, rfl⟩
    · exact absurd rfl h
theorem oS_0 {q : Nat} (h : oS tp q = 0) : sg tp q ≠ 43 ∧ sg tp q ≠ 45 := by
  unfold oS at h
  split at h
  · cases h
  · next n1 =>
    split at h
    · cases h
    · next n2 => exact ⟨n1, n2⟩
theorem oS_1 {q : Nat} (h : oS tp q ≠ 0) : (sg tp q = 43 ∧ oS tp q = 1) ∨ (sg tp q = 45 ∧ oS tp q = 2) := by
  unfold oS at h ⊢
  split at h
  · next n1 => rw [if_pos n1]; exact Or.inl ⟨n1, rfl⟩
  · next n1 =>
    split at h
    · next n2 => rw [if_neg n1, if_pos n2]; exact Or.inr ⟨n2, rfl⟩
    · exact absurd rfl h
variable {s : Mem} {k o b : Nat} {W C : List Int} {was : Int}
theorem m_162 (D : Nat) (v : Int) (hW : ¬ (3 ≤ W.headD 0 ∧ W.headD 0 ≤ 4)) : ∀ (ms C : List Int) (s : Mem), (∀ x ∈ ms, 3 ≤ x ∧ x ≤ 4) → QK s k (ms ++ W) C o b → C.length + ms.length + W.length < 1650 → ∃ s1, L_M_qGoesOn_162 (D + 2) v s = some (1, s1) ∧ Fr PQk s s1 ∧ QK s1 k (v :: W) (C ++ ms) o b
  | [], C, s, _, h, hn => by
    have h0 : QK s k W C o b := h
    have hn0 : C.length + W.length < 1650 := by simpa using hn
    rw [e_M_qGoesOn_162, m_isOn (D + 1) h0 (by omega) (by decide), Option.bind_some, if_neg (show ¬ W.headD 0 = 3 by omega)]
    simp only []
    rw [if_pos trivial, m_isOn (D + 1) h0 (by omega) (by decide), Option.bind_some, if_neg (show ¬ W.headD 0 = 4 by omega)]
    simp only []
    rw [if_pos trivial, h0.2.2.1.1, inB_n (by omega), Int.toNat_natCast, w32_s (by omega), List.append_nil]
    exact ⟨_, rfl, (Fr.rf.w (by unfold PQk; omega)).w (by unfold PQk; omega), h0.push v⟩
  | x :: ms, C, s, hx, h, hn => by
    have h0 : QK s k (x :: (ms ++ W)) C o b := h
    have hn0 : C.length + (ms.length + 1) + W.length < 1650 := hn
    have hln : (ms ++ W).length = ms.length + W.length := List.length_append
    have hx0 := hx x List.mem_cons_self
    obtain ⟨s1, e1, f1, g1⟩ := m_drops D h0 (by omega) (by omega)
    obtain ⟨s2, e2, f2, g2⟩ := m_162 D v hW ms (C ++ [x]) s1 (fun y hy => hx y (List.mem_cons_of_mem _ hy)) g1 (by rw [List.length_append, List.length_singleton]; omega)
    rw [List.append_assoc] at g2
    refine ⟨s2, ?_, f1.tr f2, g2⟩
    have hd : (x :: (ms ++ W)).headD 0 = x := rfl
    rw [e_M_qGoesOn_162, m_isOn (D + 1) h0 (by rw [List.length_cons]; omega) (by decide), Option.bind_some, hd]
    by_cases c : x = 3
    · rw [if_pos c]
      simp only []
      rw [if_neg (by decide), e1, Option.bind_some]
      exact e2
    · rw [if_neg c]
      simp only []
      rw [if_pos trivial, m_isOn (D + 1) h0 (by rw [List.length_cons]; omega) (by decide), Option.bind_some, hd, if_pos (show x = 4 by omega)]
      simp only []
      rw [if_neg (by decide), e1, Option.bind_some]
      exact e2
theorem m_247 (D : Nat) (v : Int) (hW : ¬ (1 ≤ W.headD 0 ∧ W.headD 0 ≤ 4)) : ∀ (ms C : List Int) (s : Mem), Ops4 ms → QK s k (ms ++ W) C o b → C.length + ms.length + W.length < 1650 → ∃ s1, L_M_qGoesOn_247 (D + 2) v s = some (1, s1) ∧ Fr PQk s s1 ∧ QK s1 k (v :: W) (C ++ ms) o b
  | [], C, s, _, h, hn => by
    have h0 : QK s k W C o b := h
    have hn0 : C.length + W.length < 1650 := by simpa using hn
    rw [e_M_qGoesOn_247, m_isOn (D + 1) h0 (by omega) (by decide), Option.bind_some, if_neg (show ¬ W.headD 0 = 3 by omega)]
    simp only []
    rw [if_pos trivial, m_isOn (D + 1) h0 (by omega) (by decide), Option.bind_some, if_neg (show ¬ W.headD 0 = 4 by omega)]
    simp only []
    rw [if_pos trivial, m_isOn (D + 1) h0 (by omega) (by decide), Option.bind_some, if_neg (show ¬ W.headD 0 = 1 by omega)]
    simp only []
    rw [if_pos trivial, m_isOn (D + 1) h0 (by omega) (by decide), Option.bind_some, if_neg (show ¬ W.headD 0 = 2 by omega)]
    simp only []
    rw [if_pos trivial, h0.2.2.1.1, inB_n (by omega), Int.toNat_natCast, w32_s (by omega), List.append_nil]
    exact ⟨_, rfl, (Fr.rf.w (by unfold PQk; omega)).w (by unfold PQk; omega), h0.push v⟩
  | x :: ms, C, s, hx, h, hn => by
    have h0 : QK s k (x :: (ms ++ W)) C o b := h
    have hn0 : C.length + (ms.length + 1) + W.length < 1650 := hn
    have hln : (ms ++ W).length = ms.length + W.length := List.length_append
    have hx0 := hx x List.mem_cons_self
    obtain ⟨s1, e1, f1, g1⟩ := m_drops D h0 (by omega) (by omega)
    obtain ⟨s2, e2, f2, g2⟩ := m_247 D v hW ms (C ++ [x]) s1 hx.tl g1 (by rw [List.length_append, List.length_singleton]; omega)
    rw [List.append_assoc] at g2
    refine ⟨s2, ?_, f1.tr f2, g2⟩
    have hd : (x :: (ms ++ W)).headD 0 = x := rfl
    have hon : ∀ a : Int, a ≠ 0 → f_M_qIsOn (D + 2) a s = some (if x = a then 1 else 0, s) := fun a ha => m_isOn (D + 1) h0 (by rw [List.length_cons]; omega) ha
    rw [e_M_qGoesOn_247, hon 3 (by decide), Option.bind_some]
    by_cases c : x = 3
    · rw [if_pos c]
      simp only []
      rw [if_neg (by decide), e1, Option.bind_some]
      exact e2
    · rw [if_neg c]
      simp only []
      rw [if_pos trivial, hon 4 (by decide), Option.bind_some]
      by_cases c4 : x = 4
      · rw [if_pos c4]
        simp only []
        rw [if_neg (by decide), e1, Option.bind_some]
        exact e2
      · rw [if_neg c4]
        simp only []
        rw [if_pos trivial, hon 1 (by decide), Option.bind_some]
        by_cases c1 : x = 1
        · rw [if_pos c1]
          simp only []
          rw [if_neg (by decide), e1, Option.bind_some]
          exact e2
        · rw [if_neg c1]
          simp only []
          rw [if_pos trivial, hon 2 (by decide), Option.bind_some, if_pos (show x = 2 by omega)]
          simp only []
          rw [if_neg (by decide), e1, Option.bind_some]
          exact e2
theorem m_53 (D : Nat) (hl : W.length = b) : ∀ (ms C : List Int) (s : Mem), QK s k (ms ++ W) C o b → rI s 84 5 = 0 → C.length + ms.length + W.length < 1650 → ∃ s1, L_M_qSums_53 (D + 2) was s = some (0, wI s1 84 103 was) ∧ Fr PQk s s1 ∧ QK s1 k W (C ++ ms) o b
  | [], C, s, h, h5, hn => by
    have h0 : QK s k W C o b := h
    rw [e_M_qSums_53, h5, if_pos rfl, h0.2.2.2.2, h0.2.2.1.1, if_neg (by omega), List.append_nil]
    exact ⟨s, rfl, Fr.rf, h0⟩
  | x :: ms, C, s, h, h5, hn => by
    have h0 : QK s k (x :: (ms ++ W)) C o b := h
    have hn0 : C.length + (ms.length + 1) + W.length < 1650 := hn
    have hln : (ms ++ W).length = ms.length + W.length := List.length_append
    obtain ⟨s1, e1, f1, g1⟩ := m_drops D h0 (by omega) (by omega)
    obtain ⟨s2, e2, f2, g2⟩ := m_53 D hl ms (C ++ [x]) s1 g1 ((f1.i (by unfold PQk; omega)).trans h5) (by rw [List.length_append, List.length_singleton]; omega)
    rw [List.append_assoc] at g2
    refine ⟨s2, ?_, f1.tr f2, g2⟩
    rw [e_M_qSums_53, h5, if_pos rfl, h0.2.2.2.2, h0.2.2.1.1, if_pos (by rw [List.length_cons]; omega), e1, Option.bind_some]
    exact e2
/-- behind a part: no ) that closes -/
theorem go_0 (E : Nat) {q : Nat} {v : Int} (h : QA s tp q) (hK : QK s k W C o b) (hb : ∀ s1, QK s1 k W C o b → f_M_qBracket (E + 6) s1 = some (v, s1)) (hc : sg tp q ≠ 41 ∨ (v ≠ 20 ∧ v ≠ 23 ∧ v ≠ 24)) : ∃ s1, Fr PM2 s s1 ∧ QE s1 tp q ∧ QK s1 k W C o b ∧ L_M_qGoesOn_0 (E + 6) s = L_M_qGoesOn_122 (E + 6) s1 := by
  obtain ⟨s1, e1, f1, g1⟩ := m_look (E + 5) h
  have K1 := hK.fr f1 (fun a i q => by omega)
  refine ⟨s1, f1, g1, K1, ?_⟩
  rw [e_M_qGoesOn_0, h.2.2.1, if_pos rfl, e1, Option.bind_some]
  simp only []
  by_cases c : ch tp q = 41
  · have hv := hc.elim (fun e => absurd ((sg_ch (by decide)).mpr c) e) id
    rw [if_pos c, hb s1 K1, Option.bind_some]
    simp only []
    rw [if_neg hv.1, hb s1 K1, Option.bind_some]
    simp only []
    rw [if_neg hv.2.1, hb s1 K1, Option.bind_some]
    simp only []
    rw [if_neg hv.2.2]
  · rw [if_neg c]
/-- no sign that joins -/
theorem go_122 (E : Nat) {q : Nat} {v : Int} (h : QE s tp q) (hb : f_M_qBracket (E + 6) s = some (v, s)) (hP : oP tp q = 0) (hS : oS tp q = 0) : L_M_qGoesOn_122 (E + 6) s = if v = 21 ∨ v = 22 then L_M_qGoesOn_326 (E + 6) s else if v = -1 then some (0, s) else (f_M_fail (E + 6) 1 (rI s 84 2) s).bind fun p8 => some (0, p8.2) := by
  obtain ⟨p1, p2⟩ := oP_0 hP
  obtain ⟨p3, p4⟩ := oS_0 hS
  rw [e_M_qGoesOn_122, m_takesSignE (E + 4) h (by decide) p1, Option.bind_some]
  simp only []
  rw [if_pos trivial, m_takesSignE (E + 4) h (by decide) p2, Option.bind_some]
  simp only []
  rw [if_pos trivial, m_takesSignE (E + 4) h (by decide) p3, Option.bind_some]
  simp only []
  rw [if_pos trivial, m_takesSignE (E + 4) h (by decide) p4, Option.bind_some]
  simp only []
  rw [if_pos trivial, hb, Option.bind_some]
  simp only []
  by_cases c1 : v = 21
  · rw [if_pos c1, if_pos (Or.inl c1)]
  · rw [if_neg c1, hb, Option.bind_some]
    simp only []
    by_cases c2 : v = 22
    · rw [if_pos c2, if_pos (Or.inr c2)]
    · rw [if_neg c2, hb, Option.bind_some, if_neg (show ¬ (v = 21 ∨ v = 22) from fun e => e.elim c1 c2)]
      simp only []
      rw [h.1.2.2.1]
      by_cases c3 : v = -1
      · rw [if_pos c3, if_pos c3]
      · rw [if_neg c3, if_neg c3, if_pos rfl]
theorem go_star (E : Nat) {q : Nat} {ms : List Int} (h : QA s tp q) (hK : QK s k (ms ++ W) C o b) (hm : ∀ x ∈ ms, 3 ≤ x ∧ x ≤ 4) (hW : ¬ (3 ≤ W.headD 0 ∧ W.headD 0 ≤ 4)) (hn : C.length + ms.length + W.length < 1650) (hP : oP tp q ≠ 0) : ∃ s1, mGO (E + 6) was s = mKA (E + 6) was s1 ∧ Fr PQp s s1 ∧ QA s1 tp (nx tp q) ∧ QK s1 k (oP tp q :: W) (C ++ ms) o b := by
  obtain ⟨s1, e1, f1, g1⟩ := m_look (E + 5) h
  have K1 := hK.fr f1 (fun a i q => by omega)
  have hq := h.lq
  have h16 := h.1.2.1
  have hs := oP_1 hP
  have hqi := kd_lt (tp := tp) (q := q) (by have : kd tp q = 3 := hs.elim (fun e => (sg_3 e.1 (by decide)).1) (fun e => (sg_3 e.1 (by decide)).1); omega)
  have hL : L_M_qGoesOn_0 (E + 6) s = L_M_qGoesOn_122 (E + 6) s1 := by
    rw [e_M_qGoesOn_0, h.2.2.1, if_pos rfl, e1, Option.bind_some]
    refine if_neg (fun e => ?_)
    have := (sg_ch (tp := tp) (q := q) (v := 41) (by decide)).mpr e
    omega
  have hT : ∃ s2, L_M_qGoesOn_122 (E + 6) s1 = L_M_qGoesOn_162 (E + 6) (oP tp q) s2 ∧ Fr PM2 s1 s2 ∧ QA s2 tp (nx tp q) := by
    rw [e_M_qGoesOn_122]
    have t140 : ∀ s2, Fr PM2 s1 s2 → rI s2 84 2 = ((q + 1 : Nat) : Int) → L_M_qGoesOn_140 (E + 6) s2 = L_M_qGoesOn_162 (E + 6) (oP tp q) s2 := fun s2 f2 h2 => by
      have hb : rI s2 85 q = ch tp q := by rw [ch_i hqi]; exact (f2.i (by omega)).trans (g1.1.1.2.2 q hqi)
      rw [e_M_qGoesOn_140, h2, w32_i (by omega) (by omega), show ((q + 1 : Nat) : Int) - 1 = (q : Int) by omega, inB_n (by omega), Int.toNat_natCast, hb]
      rcases hs with ⟨a, e⟩ | ⟨a, e⟩
      · rw [if_pos ((sg_ch (by decide)).mp a), e]
      · rw [if_neg (by rw [(sg_ch (by decide)).mp a]; decide), e]
    rcases hs with ⟨a, e⟩ | ⟨a, e⟩
    · obtain ⟨s2, e2, f2, g2, h2⟩ := (m_takesSign (E + 4) g1.1 (v := 42) (by decide)).1 a
      rw [e2, Option.bind_some]
      exact ⟨s2, (if_neg one_nz).trans (t140 s2 f2 h2), f2, g2⟩
    · obtain ⟨s2, e2, f2, g2, h2⟩ := (m_takesSign (E + 4) g1.1 (v := 47) (by decide)).1 a
      rw [m_takesSignE (E + 4) g1 (by decide) (by rw [a]; decide), Option.bind_some]
      simp only []
      rw [if_pos trivial, e2, Option.bind_some]
      exact ⟨s2, (if_neg one_nz).trans (t140 s2 f2 h2), f2, g2⟩
  obtain ⟨s2, e2, f2, g2⟩ := hT
  obtain ⟨s3, e3, f3, K3⟩ := m_162 (E + 4) (oP tp q) hW ms C s2 hm (K1.fr f2 (fun a i q => by omega)) hn
  have g3 := g2.kk f3
  refine ⟨s3, ?_, (f1.m2.tr f2.m2).tr f3.mk, g3, K3⟩
  unfold mGO
  rw [hL, e2, e3, Option.bind_some]
  simp only []
  rw [if_neg (by decide)]
  exact mKA_15 _ g3.2.2.1
theorem go_plus (E : Nat) {q : Nat} {ms : List Int} (h : QA s tp q) (hK : QK s k (ms ++ W) C o b) (hm : Ops4 ms) (hW : ¬ (1 ≤ W.headD 0 ∧ W.headD 0 ≤ 4)) (hn : C.length + ms.length + W.length < 1650) (hS : oS tp q ≠ 0) : ∃ s1, mGO (E + 6) was s = mKA (E + 6) was s1 ∧ Fr PQp s s1 ∧ QA s1 tp (nx tp q) ∧ QK s1 k (oS tp q :: W) (C ++ ms) o b := by
  obtain ⟨s1, e1, f1, g1⟩ := m_look (E + 5) h
  have K1 := hK.fr f1 (fun a i q => by omega)
  have hq := h.lq
  have h16 := h.1.2.1
  have hs := oS_1 hS
  have hqi := kd_lt (tp := tp) (q := q) (by have : kd tp q = 3 := hs.elim (fun e => (sg_3 e.1 (by decide)).1) (fun e => (sg_3 e.1 (by decide)).1); omega)
  have hL : L_M_qGoesOn_0 (E + 6) s = L_M_qGoesOn_122 (E + 6) s1 := by
    rw [e_M_qGoesOn_0, h.2.2.1, if_pos rfl, e1, Option.bind_some]
    refine if_neg (fun e => ?_)
    have := (sg_ch (tp := tp) (q := q) (v := 41) (by decide)).mpr e
    omega
  have hT : ∃ s2, L_M_qGoesOn_122 (E + 6) s1 = L_M_qGoesOn_247 (E + 6) (oS tp q) s2 ∧ Fr PM2 s1 s2 ∧ QA s2 tp (nx tp q) := by
    rw [e_M_qGoesOn_122, m_takesSignE (E + 4) g1 (by decide) (by omega), Option.bind_some]
    simp only []
    rw [if_pos trivial, m_takesSignE (E + 4) g1 (by decide) (by omega), Option.bind_some]
    simp only []
    rw [if_pos trivial]
    have t140 : ∀ s2, Fr PM2 s1 s2 → rI s2 84 2 = ((q + 1 : Nat) : Int) → L_M_qGoesOn_225 (E + 6) s2 = L_M_qGoesOn_247 (E + 6) (oS tp q) s2 := fun s2 f2 h2 => by
      have hb : rI s2 85 q = ch tp q := by rw [ch_i hqi]; exact (f2.i (by omega)).trans (g1.1.1.2.2 q hqi)
      rw [e_M_qGoesOn_225, h2, w32_i (by omega) (by omega), show ((q + 1 : Nat) : Int) - 1 = (q : Int) by omega, inB_n (by omega), Int.toNat_natCast, hb]
      rcases hs with ⟨a, e⟩ | ⟨a, e⟩
      · rw [if_pos ((sg_ch (by decide)).mp a), e]
      · rw [if_neg (by rw [(sg_ch (by decide)).mp a]; decide), e]
    rcases hs with ⟨a, e⟩ | ⟨a, e⟩
    · obtain ⟨s2, e2, f2, g2, h2⟩ := (m_takesSign (E + 4) g1.1 (v := 43) (by decide)).1 a
      rw [e2, Option.bind_some]
      exact ⟨s2, (if_neg one_nz).trans (t140 s2 f2 h2), f2, g2⟩
    · obtain ⟨s2, e2, f2, g2, h2⟩ := (m_takesSign (E + 4) g1.1 (v := 45) (by decide)).1 a
      rw [m_takesSignE (E + 4) g1 (by decide) (by rw [a]; decide), Option.bind_some]
      simp only []
      rw [if_pos trivial, e2, Option.bind_some]
      exact ⟨s2, (if_neg one_nz).trans (t140 s2 f2 h2), f2, g2⟩
  obtain ⟨s2, e2, f2, g2⟩ := hT
  obtain ⟨s3, e3, f3, K3⟩ := m_247 (E + 4) (oS tp q) hW ms C s2 hm (K1.fr f2 (fun a i q => by omega)) hn
  have g3 := g2.kk f3
  refine ⟨s3, ?_, (f1.m2.tr f2.m2).tr f3.mk, g3, K3⟩
  unfold mGO
  rw [hL, e2, e3, Option.bind_some]
  simp only []
  rw [if_neg (by decide)]
  exact mKA_15 _ g3.2.2.1
def clo (v : Int) : List Int := if v = 20 then [] else if v = 23 then [5] else [6]
/-- ) stands here and closes -/
theorem go_close (E : Nat) {q : Nat} {ms : List Int} {v : Int} (h : QA s tp q) (hK : QK s k (ms ++ v :: W) C (o + 1) b) (hm : Ops4 ms) (hv : v = 20 ∨ v = 23 ∨ v = 24) (hl : b ≤ W.length) (ho : o < 6) (hn : C.length + ms.length + W.length < 1640) (hc : sg tp q = 41) : ∃ s1, mGO (E + 6) was s = mKB (E + 6) was s1 ∧ Fr PQp s s1 ∧ QA s1 tp (nx tp q) ∧ QK s1 k W (C ++ ms ++ clo v) o b := by
  obtain ⟨s1, e1, f1, g1⟩ := m_look (E + 5) h
  have K1 := hK.fr f1 (fun a i q => by omega)
  have hq := h.lq
  have h16 := h.1.2.1
  have k3 : kd tp q = 3 := (sg_3 hc (by decide)).1
  have hbr : f_M_qBracket (E + 6) s1 = some (v, s1) := m_brk (E + 4) K1 hm (by omega) hl (by omega)
  have f2 : Fr PM2 s1 (wI s1 84 2 ((q + 1 : Nat) : Int)) := Fr.rf.w ⟨rfl, rfl⟩
  have g2 := QA.sig g1 k3 f2 (rI_same _ _ _ _)
  have K2 := K1.fr f2 (fun a i q => by omega)
  obtain ⟨s3, e3, f3, K3⟩ := m_dropsBr (E + 3) (by omega) hl ms C _ hm K2 (by omega)
  have g3 := g2.kk f3
  obtain ⟨t1, t2⟩ := K3.top (by omega)
  have f4 : Fr PQk s3 (wI (wI s3 84 101 (W.length : Int)) 84 102 (o : Int)) := (Fr.rf.w (by unfold PQk; omega)).w (by unfold PQk; omega)
  have g4 := g3.kk f4
  have K4 : QK (wI (wI s3 84 101 (W.length : Int)) 84 102 (o : Int)) k W (C ++ ms) o b := K3.pop.op
  have hlen : (C ++ ms).length = C.length + ms.length := List.length_append
  have hL : L_M_qGoesOn_0 (E + 6) s = L_M_qGoesOn_43 (E + 6) s1 := by
    rw [e_M_qGoesOn_0, h.2.2.1, if_pos rfl, e1, Option.bind_some]
    simp only []
    rw [if_pos ((sg_ch (by decide)).mp hc), hbr, Option.bind_some]
    simp only []
    by_cases c20 : v = 20
    · rw [if_pos c20]
    · rw [if_neg c20, hbr, Option.bind_some]
      simp only []
      by_cases c23 : v = 23
      · rw [if_pos c23]
      · rw [if_neg c23, hbr, Option.bind_some]
        simp only []
        rw [if_pos (by omega)]
  have h43 : L_M_qGoesOn_43 (E + 6) s1 = if v = 20 then ((f_M_qEndsPart (E + 6) (wI (wI s3 84 101 (W.length : Int)) 84 102 (o : Int))).bind fun p2 => L_M_qGoesOn_0 (E + 6) p2.2) else if v = 23 then ((f_M_qCode (E + 6) 5 (wI (wI s3 84 101 (W.length : Int)) 84 102 (o : Int))).bind fun p2 => (f_M_qEndsPart (E + 6) p2.2).bind fun p3 => L_M_qGoesOn_0 (E + 6) p3.2) else (f_M_qCode (E + 6) 6 (wI (wI s3 84 101 (W.length : Int)) 84 102 (o : Int))).bind fun p2 => (f_M_qEndsPart (E + 6) p2.2).bind fun p3 => L_M_qGoesOn_0 (E + 6) p3.2 := by
    rw [e_M_qGoesOn_43, g1.2, w32_s (by omega), e_M_qDropsToBracket, e3, Option.bind_some]
    simp only []
    rw [t1, inB_n (by omega), Int.toNat_natCast, t2, inB_n (by omega), K3.2.2.2.1, w32_i (z := ((o + 1 : Nat) : Int) - 1) (by omega) (by omega), show ((o + 1 : Nat) : Int) - 1 = (o : Int) by omega]
  have fin : ∀ c : Int, ∃ s5, f_M_qCode (E + 6) c (wI (wI s3 84 101 (W.length : Int)) 84 102 (o : Int)) = some (0, s5) ∧ Fr PQp s s5 ∧ QA s5 tp (nx tp q) ∧ QK s5 k W (C ++ ms ++ [c]) o b := fun c => by
    obtain ⟨s5, e5, f5, K5⟩ := m_code (E + 5) K4 (by omega) c
    exact ⟨s5, e5, (((f1.m2.tr f2.m2).tr f3.mk).tr f4.mk).tr f5.mk, g4.kk f5, K5⟩
  unfold mGO mKB mGO clo
  rw [hL, h43]
  by_cases c20 : v = 20
  · rw [if_pos c20, if_pos c20]
    refine ⟨_, ?_, ((f1.m2.tr f2.m2).tr f3.mk).tr f4.mk, g4, by rw [List.append_nil]; exact K4⟩
    rw [Option.bind_assoc]
  · rw [if_neg c20, if_neg c20]
    by_cases c23 : v = 23
    · obtain ⟨s5, e5, f5, g5, K5⟩ := fin 5
      rw [if_pos c23, if_pos c23, e5, Option.bind_some]
      refine ⟨s5, ?_, f5, g5, K5⟩
      rw [Option.bind_assoc]
    · obtain ⟨s5, e5, f5, g5, K5⟩ := fin 6
      rw [if_neg c23, if_neg c23, e5, Option.bind_some]
      refine ⟨s5, ?_, f5, g5, K5⟩
      rw [Option.bind_assoc]
/-- a ) is asked and isn't here -/
theorem go_shut (E : Nat) {q : Nat} {ms : List Int} {v : Int} (h : QA s tp q) (hK : QK s k (ms ++ v :: W) C o b) (hm : Ops4 ms) (hv : v = 20 ∨ v = 23 ∨ v = 24) (hl : b ≤ W.length) (hn : C.length + ms.length + W.length < 1600) (hc : sg tp q ≠ 41) (hP : oP tp q = 0) (hS : oS tp q = 0) : ∃ s1, mGO (E + 6) was s = some (0, s1) ∧ Fr PQp s s1 ∧ MFlt s1 (1, q) := by
  obtain ⟨s1, f1, g1, K1, e1⟩ := go_0 E (v := v) h hK (fun s1 K1 => m_brk (E + 4) K1 hm (by omega) hl (by omega)) (Or.inl hc)
  have hbr : f_M_qBracket (E + 6) s1 = some (v, s1) := m_brk (E + 4) K1 hm (by omega) hl (by omega)
  rw [go_122 E g1 hbr hP hS, if_neg (by omega), if_neg (by omega), m_fail (E + 5) g1.1.2.2.1, Option.bind_some, g1.2] at e1
  have hF : MFlt (wI (wI s1 84 5 1) 84 6 (q : Int)) (1, q) := MFlt.mk K1 (by omega) (by decide)
  refine ⟨_, ?_, ((f1.m2.w (by unfold PQp; omega)).w (by unfold PQp; omega)).w (by unfold PQp; omega), hF.fr (P := fun a i => a = 84 ∧ i = 103) (s' := wI (wI (wI s1 84 5 1) 84 6 (q : Int)) 84 103 was) (Fr.rf.w ⟨rfl, rfl⟩) (fun a i q => by omega)⟩
  unfold mGO
  rw [e1, Option.bind_some]
  exact (if_pos rfl).trans (fin_bad _ (by rw [hF.1.1]; exact hF.1.2))
/-- a , is asked -/
theorem go_comma (E : Nat) {q : Nat} {ms : List Int} {v : Int} (h : QA s tp q) (hK : QK s k (ms ++ v :: W) C o b) (hm : Ops4 ms) (hv : v = 21 ∨ v = 22) (hl : b ≤ W.length) (hn : C.length + ms.length + W.length < 1600) (hP : oP tp q = 0) (hS : oS tp q = 0) : (sg tp q = 44 → ∃ s1, mGO (E + 6) was s = mKA (E + 6) was s1 ∧ Fr PQp s s1 ∧ QA s1 tp (nx tp q) ∧ QK s1 k ((v + 2) :: W) (C ++ ms) o b) ∧ (sg tp q ≠ 44 → ∃ s1, mGO (E + 6) was s = some (0, s1) ∧ Fr PQp s s1 ∧ MFlt s1 (1, q)) := by
  have hv2 : 20 ≤ v ∧ v ≤ 24 := by omega
  have hn2 : C.length + ms.length + W.length < 1650 := by omega
  have hw2 : W.length < 1650 := by omega
  have hc2 : C.length < 1600 := by omega
  obtain ⟨s1, f1, g1, K1, e1⟩ := go_0 E (v := v) h hK (fun s1 K1 => m_brk (E + 4) K1 hm (by omega) hl (by omega)) (Or.inr ⟨by omega, by omega, by omega⟩)
  have hbr : f_M_qBracket (E + 6) s1 = some (v, s1) := m_brk (E + 4) K1 hm (by omega) hl (by omega)
  rw [go_122 E g1 hbr hP hS, if_pos hv, e_M_qGoesOn_326] at e1
  have ha := m_asksSign (E + 3) g1.1 (v := 44) (by decide)
  constructor
  · intro c
    obtain ⟨s2, e2, f2, g2⟩ := ha.1 c
    have K2 := K1.fr f2 (fun a i q => by omega)
    obtain ⟨s3, e3, f3, K3⟩ := m_dropsBr (E + 3) hv2 hl ms C s2 hm K2 hn2
    have g3 := g2.kk f3
    obtain ⟨t1, t2⟩ := K3.top hw2
    rw [e2, Option.bind_some] at e1
    simp only [] at e1
    rw [g2.2.2.1, if_pos rfl, e_M_qDropsToBracket, e3, Option.bind_some] at e1
    simp only [] at e1
    rw [t1, inB_n (by omega), inB_n (by omega), Int.toNat_natCast, t2, w32_i (by omega) (by omega)] at e1
    have f4 : Fr PQk s3 (wI s3 156 W.length (v + 2)) := Fr.rf.w (by unfold PQk; omega)
    have g4 := g3.kk f4
    have K4 : QK (wI s3 156 W.length (v + 2)) k ((v + 2) :: W) (C ++ ms) o b := by
      obtain ⟨h1, ⟨h2, h3⟩, ⟨h4, h5⟩, h6, h7⟩ := K3
      have hf : Fr (fun a i => a = 156) s3 (wI s3 156 W.length (v + 2)) := Fr.rf.w rfl
      exact ⟨(hf.i (by omega)).trans h1, ⟨(hf.i (by omega)).trans h2, h3.fr hf (fun i _ q => by omega)⟩, ⟨(hf.i (by omega)).trans h4, h5.set (v + 2)⟩, (hf.i (by omega)).trans h6, (hf.i (by omega)).trans h7⟩
    refine ⟨_, ?_, ((f1.m2.tr f2.m2).tr f3.mk).tr f4.mk, g4, K4⟩
    unfold mGO
    rw [e1, Option.bind_some]
    exact (if_neg one_nz).trans (mKA_15 _ g4.2.2.1)
  · intro c
    obtain ⟨s2, e2, f2, g2, g3⟩ := ha.2 c
    have h99 : rI s2 84 99 = (C.length : Int) := (f2.i (by omega)).trans K1.2.1.1
    have hF : MFlt s2 (1, q) := ⟨⟨g2, nz1⟩, g3, by rw [h99]; omega, by rw [h99]; omega⟩
    rw [e2, Option.bind_some] at e1
    simp only [] at e1
    rw [if_neg (by rw [g2]; decide)] at e1
    refine ⟨_, ?_, (f1.m2.tr (f2.mo (fun a i q => by unfold PQp; omega))).w (by unfold PQp; omega), hF.fr (P := fun a i => a = 84 ∧ i = 103) (s' := wI s2 84 103 was) (Fr.rf.w ⟨rfl, rfl⟩) (fun a i q => by omega)⟩
    unfold mGO
    rw [e1, Option.bind_some]
    exact (if_pos rfl).trans (fin_bad _ (by rw [g2]; decide))
/-- the sum ends here -/
theorem go_end (E : Nat) {q b0 : Nat} {ms : List Int} (h : QA s tp q) (hK : QK s k (ms ++ W) C o b) (hm : Ops4 ms) (hl : W.length = b) (hn : C.length + ms.length + W.length < 1640) (hP : oP tp q = 0) (hS : oS tp q = 0) : ∃ s1, mGO (E + 6) (b0 : Int) s = some (0, s1) ∧ Fr PQp s s1 ∧ QE s1 tp q ∧ QK s1 k W (C ++ ms) o b0 := by
  obtain ⟨s1, f1, g1, K1, e1⟩ := go_0 E (v := -1) h hK (fun s1 K1 => m_brkn (E + 4) K1 hm hl (by omega)) (Or.inr ⟨by decide, by decide, by decide⟩)
  have hbr : f_M_qBracket (E + 6) s1 = some (-1, s1) := m_brkn (E + 4) K1 hm hl (by omega)
  rw [go_122 E g1 hbr hP hS, if_neg (by decide), if_pos rfl] at e1
  obtain ⟨s2, e2, f2, K2⟩ := m_53 (was := (b0 : Int)) (E + 5) hl ms C s1 K1 g1.1.2.2.1 (by omega)
  have f3 : Fr PQk s2 (wI s2 84 103 (b0 : Int)) := Fr.rf.w (by unfold PQk; omega)
  refine ⟨_, ?_, (f1.m2.tr f2.mk).tr f3.mk, (g1.kk f2).kk f3, K2.bs⟩
  unfold mGO
  rw [e1, Option.bind_some]
  simp only []
  rw [if_pos trivial, e_M_qSums_15, if_pos rfl]
  exact e2
end MSUM2
