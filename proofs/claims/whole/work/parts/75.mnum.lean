/-! the reference's numbers and names -/
section MNUM
variable {tp : List Int}
abbrev PMn : Nat → Nat → Prop := fun a k => a = 84 ∧ (k = 2 ∨ k = 4 ∨ k = 5 ∨ k = 6 ∨ k = 10 ∨ k = 38)
def QB (s : Mem) (tp : List Int) : Prop := (rI s 84 3 = (tp.length : Int) ∧ tp.length ≤ 1600 ∧ Ag s 85 tp) ∧ rI s 84 5 = 0
theorem QB.fr {s s' : Mem} (h : QB s tp) (hf : Fr PM2 s s') : QB s' tp := ⟨⟨(hf.i (by omega)).trans h.1.1, h.1.2.1, h.1.2.2.fr hf (fun i _ q => by omega)⟩, (hf.i (by omega)).trans h.2⟩
theorem QA.b {s : Mem} {q : Nat} (h : QA s tp q) : QB s tp := ⟨h.1, h.2.2.1⟩
theorem m_num49 (D : Nat) {q : Nat} (hq : q ≤ tp.length) (b c : Int) : ∀ (m i : Nat) (v : Int) (s : Mem), i + m = de tp q → q ≤ i → i - q ≤ 4 → QB s tp → rI s 84 2 = (i : Int) → (0 ≤ v ∧ v < (10 ^ (i - q) : Nat)) → (de tp q - q ≤ 4 → ∃ s1, L_M_number_49 (D + 1) b c (q : Int) v s = L_M_number_129 (D + 1) b c (q : Int) (nuF tp m v i) s1 ∧ Fr PM2 s s1 ∧ rI s1 84 2 = (de tp q : Int)) ∧ (4 < de tp q - q → ∃ s1 x, L_M_number_49 (D + 1) b c (q : Int) v s = some (x, s1) ∧ Fr PMn s s1 ∧ rI s1 84 5 = 1 ∧ rI s1 84 6 = ((q + 4 : Nat) : Int) ∧ (0 ≤ x ∧ x ≤ 9999))
  | 0, i, v, s, him, hqi, h4, hB, h2, hv => by
    obtain ⟨⟨h1, hl, h3⟩, h5⟩ := hB
    have hr := ru_p (p := isDg) hq
    refine ⟨fun _ => ⟨s, ?_, Fr.rf, by rw [h2]; omega⟩, fun q => by omega⟩
    rw [e_M_number_49, h2, h1]
    by_cases c1 : i < tp.length
    · have hd : isDg (ch tp i) = false := by
        have e := hr.2.2.1
        rw [show ru isDg tp q = i by show de tp q = i; omega] at e
        exact e c1
      have hb : rI s 85 i = ch tp i := by rw [ch_i c1]; exact h3 i c1
      rw [if_pos (by omega), inB_n (by omega), Int.toNat_natCast, hb, m_isD, Option.bind_some, hd]
      exact if_pos rfl
    · rw [if_neg (by omega)]
      rfl
  | m + 1, i, v, s, him, hqi, h4, hB, h2, hv => by
    have hBB := hB
    obtain ⟨⟨h1, hl, h3⟩, h5⟩ := hB
    have hr := ru_p (p := isDg) hq
    have hde : de tp q ≤ tp.length := hr.2.1
    have hd := hr.2.2.2 i hqi (by show i < de tp q; omega)
    have hb : rI s 85 i = ch tp i := by rw [ch_i (by omega)]; exact h3 i (by omega)
    rw [e_M_number_49, h2, h1, if_pos (by omega), inB_n (by omega), Int.toNat_natCast, hb, m_isD, Option.bind_some, hd]
    simp only []
    rw [if_pos trivial, if_neg (by decide), h2, w32_i (z := (i : Int) - (q : Int)) (by omega) (by omega)]
    by_cases c4 : (i : Int) - (q : Int) = 4
    · refine ⟨fun q => (by omega), fun _ => ?_⟩
      rw [if_pos c4, m_fail D h5, Option.bind_some]
      exact ⟨_, 0, rfl, (Fr.rf.w (by omega)).w (by omega), by rw [rI_other _ _ _ _ (by omega), rI_same], by rw [rI_same]; omega, by omega⟩
    · have d2 := hd
      unfold isDg at d2
      rw [Bool.and_eq_true, decide_eq_true_iff, decide_eq_true_iff] at d2
      have hp : 10 ^ (i - q) ≤ 10 ^ 3 := Nat.pow_le_pow_right (by omega) (by omega)
      have e1 : (10 ^ (i + 1 - q) : Nat) = 10 * 10 ^ (i - q) := by rw [show i + 1 - q = (i - q) + 1 by omega, Nat.pow_succ, Nat.mul_comm]
      rw [if_neg c4, inB_n (by omega), Int.toNat_natCast, hb, w32_i (z := 10 * v) (by omega) (by omega), w32_i (z := 10 * v + ch tp i) (by omega) (by omega), w32_i (z := 10 * v + ch tp i - 48) (by omega) (by omega), w32_s (by omega)]
      have f1 : Fr PM2 s (wI s 84 2 ((i + 1 : Nat) : Int)) := Fr.rf.w ⟨rfl, rfl⟩
      have hb1 : (0 : Int) ≤ 10 * v + ch tp i - 48 := by omega
      have hb2 : 10 * v + ch tp i - 48 < (10 ^ (i + 1 - q) : Nat) := by rw [e1]; omega
      have ih := m_num49 D hq b c m (i + 1) (10 * v + ch tp i - 48) (wI s 84 2 ((i + 1 : Nat) : Int)) (by omega) (by omega) (by omega) (hBB.fr f1) (rI_same _ _ _ _) ⟨hb1, hb2⟩
      refine ⟨fun e => ?_, fun e => ?_⟩
      · obtain ⟨s1, e2, f2, g2⟩ := ih.1 e
        exact ⟨s1, e2, f1.tr f2, g2⟩
      · obtain ⟨s1, x, e2, f2, g2, g3, g4⟩ := ih.2 e
        exact ⟨s1, x, e2, (f1.mo (fun a k q => by omega)).tr f2, g2, g3, g4⟩
theorem QA.num {s s' : Mem} {q : Nat} (h : QA s tp q) (k2 : kd tp q = 2) (hf : Fr PM4 s s') (h2 : rI s' 84 2 = (de tp q : Int)) (h4 : rI s' 84 4 = (de tp q : Int)) : QA s' tp (nx tp q) := by
  have hq := h.lq
  have e : en tp q = de tp q := by unfold en; rw [k2]; rfl
  have h3 := ru_p (p := isBk) (en_p hq).2
  have hn : en tp q ≤ nx tp q := h3.1
  refine h.pl hf h2 (by rw [← e]; exact (en_p hq).2) (by unfold nx; rw [e]) ?_ (by omega)
  rw [h4, gl_2 k2]
  omega
theorem m_inR (D : Nat) (a b c : Int) (s : Mem) : f_M_isIn (D + 1) a b c s = some (if b ≤ a ∧ a ≤ c then 1 else 0, s) := by
  rw [e_M_isIn]
  by_cases h : a < b
  · rw [if_pos (by rw [lC_lt]; exact h), if_neg (by omega)]
  · rw [if_neg (by rw [lC_lt]; exact h)]
    by_cases h2 : c < a
    · rw [if_pos (by rw [lC_gt]; exact h2), if_neg (by omega)]
    · rw [if_neg (by rw [lC_gt]; exact h2), if_pos (by omega)]
/-- a number that is asked for -/
theorem m_number (D : Nat) {s : Mem} {q : Nat} (h : QA s tp q) (a b : Int) : (kd tp q = 2 → de tp q - q ≤ 4 → (a ≤ nu tp q ∧ nu tp q ≤ b) → ∃ s1, f_M_number (D + 2) a b s = some (nu tp q, s1) ∧ Fr PMn s s1 ∧ QA s1 tp (nx tp q) ∧ rI s1 84 10 = (q : Int)) ∧ (kd tp q = 2 → de tp q - q ≤ 4 → ¬ (a ≤ nu tp q ∧ nu tp q ≤ b) → ∃ s1, f_M_number (D + 2) a b s = some (nu tp q, s1) ∧ Fr PMn s s1 ∧ rI s1 84 5 = 2 ∧ rI s1 84 6 = (q : Int)) ∧ (kd tp q = 2 → 4 < de tp q - q → ∃ s1 x, f_M_number (D + 2) a b s = some (x, s1) ∧ Fr PMn s s1 ∧ rI s1 84 5 = 1 ∧ rI s1 84 6 = ((q + 4 : Nat) : Int) ∧ (0 ≤ x ∧ x ≤ 9999)) ∧ (kd tp q ≠ 2 → ∃ s1 x, f_M_number (D + 2) a b s = some (x, s1) ∧ Fr PMn s s1 ∧ rI s1 84 5 = 1 ∧ rI s1 84 6 = (q : Int) ∧ (0 ≤ x ∧ x ≤ 9999)) := by
  obtain ⟨s0, e0, f0, g0⟩ := m_look D h
  have hq := h.lq
  have hr := ru_p (p := isDg) hq
  have h5 := g0.1.2.2.1
  have h9 := g0.1.2.2.2.2.1
  have f0n : Fr PMn s s0 := f0.mo (fun a k q => by omega)
  rw [e_M_number, h.2.2.1, if_pos rfl, e0, Option.bind_some]
  simp only []
  rw [m_isD, Option.bind_some]
  simp only []
  have body : kd tp q = 2 → isDg (ch tp q) = true ∧ ¬ rI s0 84 2 = rI s0 84 4 := fun k2 => by
    have := kd_2 k2
    refine ⟨this.2.1, fun e => ?_⟩
    rw [g0.2] at e
    rw [h9.mp e.symm] at this
    cases this.2.2
  have hm : q + (de tp q - q) = de tp q := by have : q ≤ de tp q := hr.1; omega
  have hn := m_num49 D hq a b (de tp q - q) q 0 s0 hm (Nat.le_refl _) (by omega) g0.1.b g0.2 ⟨by omega, by rw [Nat.sub_self]; decide⟩
  have nue : de tp q - q ≤ 4 → nuF tp (de tp q - q) 0 q = nu tp q := fun e => by unfold nu; rw [Nat.min_eq_right e]
  refine ⟨fun k2 e4 hin => ?_, fun k2 e4 hin => ?_, fun k2 e4 => ?_, fun k2 => ?_⟩
  · obtain ⟨b1, b2⟩ := body k2
    obtain ⟨s1, e1, f1, g1⟩ := hn.1 e4
    rw [b1, if_pos rfl, if_neg (by decide), if_neg b2, g0.2, e1, nue e4, e_M_number_129, m_inR, Option.bind_some, if_pos hin]
    simp only []
    rw [if_neg (by decide), g1]
    refine ⟨_, rfl, ((f0n.tr (f1.mo (fun a k q => by omega))).w (by omega)).w (by omega), ?_, rI_same _ _ _ _⟩
    have hA : QA (wI s1 84 4 (de tp q : Int)) tp (nx tp q) := QA.num g0.1 k2 ((f1.mo (fun a k q => by omega)).w (by omega)) (by rw [rI_other _ _ _ _ (by omega)]; exact g1) (rI_same _ _ _ _)
    exact hA.fr (P := fun a k => a = 84 ∧ k = 10) (Fr.rf.w ⟨rfl, rfl⟩) (fun a k q => by omega)
  · obtain ⟨b1, b2⟩ := body k2
    obtain ⟨s1, e1, f1, g1⟩ := hn.1 e4
    rw [b1, if_pos rfl, if_neg (by decide), if_neg b2, g0.2, e1, nue e4, e_M_number_129, m_inR, Option.bind_some, if_neg hin]
    simp only []
    rw [if_pos trivial, m_fail D (by rw [rI_other _ _ _ _ (by omega), rI_other _ _ _ _ (by omega), f1.i (by omega)]; exact h5), Option.bind_some, rI_same]
    exact ⟨_, rfl, ((((f0n.tr (f1.mo (fun a k q => by omega))).w (by omega)).w (by omega)).w (by omega)).w (by omega), by rw [rI_other _ _ _ _ (by omega), rI_same], rI_same _ _ _ _⟩
  · obtain ⟨b1, b2⟩ := body k2
    obtain ⟨s1, x, e1, f1, g1, g2, g3⟩ := hn.2 e4
    rw [b1, if_pos rfl, if_neg (by decide), if_neg b2, g0.2, e1]
    exact ⟨s1, x, rfl, f0n.tr f1, g1, g2, g3⟩
  · have key : ∃ s1 x, ((f_M_fail (D + 1) 1 (rI s0 84 2) s0).bind fun p3 => some ((0 : Int), p3.2)) = some (x, s1) ∧ Fr PMn s s1 ∧ rI s1 84 5 = 1 ∧ rI s1 84 6 = (q : Int) ∧ (0 ≤ x ∧ x ≤ 9999) := by
      rw [m_fail D h5, Option.bind_some, g0.2]
      exact ⟨_, 0, rfl, (f0n.w (by omega)).w (by omega), by rw [rI_other _ _ _ _ (by omega), rI_same], rI_same _ _ _ _, by omega⟩
    by_cases c : isDg (ch tp q) = true
    · rw [if_pos c, if_neg (by decide)]
      by_cases cg : rI s0 84 2 = rI s0 84 4
      · rw [if_pos cg]; exact key
      · exfalso
        apply k2
        have hqi : q < tp.length := by
          rcases Nat.lt_or_ge q tp.length with e | e
          · exact e
          · exfalso
            unfold ch at c
            rw [if_neg (by omega)] at c
            exact absurd c (by decide)
        have ng : ¬ gl tp q = true := fun e => cg (by rw [g0.2]; exact (h9.mpr e).symm)
        unfold kd
        rw [if_neg (by omega), if_neg (fun e => by rw [c] at e; cases e.2), if_neg ng, if_neg (by rw [dg_lt c]; decide)]
    · rw [if_neg c, if_pos rfl]; exact key

theorem m_own (D : Nat) {s : Mem} {q : Nat} (h : QE s tp q) : f_M_isOwnHere (D + 3) s = some (if 0 ≤ wd tp q ∧ wd tp q < 27 then 1 else 0, s) := by
  have k_299 : L_M_isOwnHere_299 (D + 2) 1 s = some (1, s) := by
    rw [e_M_isOwnHere_299, if_neg (by decide)]
  have k_223 : L_M_isOwnHere_223 (D + 2) 1 s = some (1, s) := by
    rw [e_M_isOwnHere_223, if_neg (by decide), k_299]
  have k_147 : L_M_isOwnHere_147 (D + 2) 1 s = some (1, s) := by
    rw [e_M_isOwnHere_147, if_neg (by decide), k_223]
  have k_71 : L_M_isOwnHere_71 (D + 2) 1 s = some (1, s) := by
    rw [e_M_isOwnHere_71, if_neg (by decide), k_147]
  rw [e_M_isOwnHere]
  have h87 : f_M_isHere (D + 2) 5 87 s = some (if wd tp q = 0 then 1 else 0, s) := m_isH D h (o := 87) rfl
  rw [h87, Option.bind_some]
  simp only []
  by_cases c0 : wd tp q = 0
  · rw [if_pos c0, if_neg (by decide), if_pos (show 0 ≤ wd tp q ∧ wd tp q < 27 by omega), k_71]
  rw [if_neg c0, if_pos rfl]
  have h88 : f_M_isHere (D + 2) 5 88 s = some (if wd tp q = 1 then 1 else 0, s) := m_isH D h (o := 88) rfl
  rw [h88, Option.bind_some]
  simp only []
  by_cases c1 : wd tp q = 1
  · rw [if_pos c1, if_neg (by decide), if_pos (show 0 ≤ wd tp q ∧ wd tp q < 27 by omega), k_71]
  rw [if_neg c1, if_pos rfl]
  have h89 : f_M_isHere (D + 2) 2 89 s = some (if wd tp q = 2 then 1 else 0, s) := m_isH D h (o := 89) rfl
  rw [h89, Option.bind_some]
  simp only []
  by_cases c2 : wd tp q = 2
  · rw [if_pos c2, if_neg (by decide), if_pos (show 0 ≤ wd tp q ∧ wd tp q < 27 by omega), k_71]
  rw [if_neg c2, if_pos rfl]
  have h90 : f_M_isHere (D + 2) 3 90 s = some (if wd tp q = 3 then 1 else 0, s) := m_isH D h (o := 90) rfl
  rw [h90, Option.bind_some]
  simp only []
  by_cases c3 : wd tp q = 3
  · rw [if_pos c3, if_neg (by decide), if_pos (show 0 ≤ wd tp q ∧ wd tp q < 27 by omega), k_71]
  rw [if_neg c3, if_pos rfl]
  have h91 : f_M_isHere (D + 2) 3 91 s = some (if wd tp q = 4 then 1 else 0, s) := m_isH D h (o := 91) rfl
  rw [h91, Option.bind_some]
  simp only []
  by_cases c4 : wd tp q = 4
  · rw [if_pos c4, if_neg (by decide), if_pos (show 0 ≤ wd tp q ∧ wd tp q < 27 by omega), k_71]
  rw [if_neg c4, if_pos rfl]
  have h92 : f_M_isHere (D + 2) 4 92 s = some (if wd tp q = 5 then 1 else 0, s) := m_isH D h (o := 92) rfl
  rw [h92, Option.bind_some]
  simp only []
  by_cases c5 : wd tp q = 5
  · rw [if_pos c5, if_neg (by decide), if_pos (show 0 ≤ wd tp q ∧ wd tp q < 27 by omega), k_71]
  rw [if_neg c5, if_pos rfl]
  rw [e_M_isOwnHere_71, if_pos rfl]
  have h93 : f_M_isHere (D + 2) 6 93 s = some (if wd tp q = 6 then 1 else 0, s) := m_isH D h (o := 93) rfl
  rw [h93, Option.bind_some]
  simp only []
  by_cases c6 : wd tp q = 6
  · rw [if_pos c6, if_neg (by decide), if_pos (show 0 ≤ wd tp q ∧ wd tp q < 27 by omega), k_147]
  rw [if_neg c6, if_pos rfl]
  have h94 : f_M_isHere (D + 2) 6 94 s = some (if wd tp q = 7 then 1 else 0, s) := m_isH D h (o := 94) rfl
  rw [h94, Option.bind_some]
  simp only []
  by_cases c7 : wd tp q = 7
  · rw [if_pos c7, if_neg (by decide), if_pos (show 0 ≤ wd tp q ∧ wd tp q < 27 by omega), k_147]
  rw [if_neg c7, if_pos rfl]
  have h95 : f_M_isHere (D + 2) 6 95 s = some (if wd tp q = 8 then 1 else 0, s) := m_isH D h (o := 95) rfl
  rw [h95, Option.bind_some]
  simp only []
  by_cases c8 : wd tp q = 8
  · rw [if_pos c8, if_neg (by decide), if_pos (show 0 ≤ wd tp q ∧ wd tp q < 27 by omega), k_147]
  rw [if_neg c8, if_pos rfl]
  have h96 : f_M_isHere (D + 2) 5 96 s = some (if wd tp q = 9 then 1 else 0, s) := m_isH D h (o := 96) rfl
  rw [h96, Option.bind_some]
  simp only []
  by_cases c9 : wd tp q = 9
  · rw [if_pos c9, if_neg (by decide), if_pos (show 0 ≤ wd tp q ∧ wd tp q < 27 by omega), k_147]
  rw [if_neg c9, if_pos rfl]
  have h97 : f_M_isHere (D + 2) 5 97 s = some (if wd tp q = 10 then 1 else 0, s) := m_isH D h (o := 97) rfl
  rw [h97, Option.bind_some]
  simp only []
  by_cases c10 : wd tp q = 10
  · rw [if_pos c10, if_neg (by decide), if_pos (show 0 ≤ wd tp q ∧ wd tp q < 27 by omega), k_147]
  rw [if_neg c10, if_pos rfl]
  have h98 : f_M_isHere (D + 2) 6 98 s = some (if wd tp q = 11 then 1 else 0, s) := m_isH D h (o := 98) rfl
  rw [h98, Option.bind_some]
  simp only []
  by_cases c11 : wd tp q = 11
  · rw [if_pos c11, if_neg (by decide), if_pos (show 0 ≤ wd tp q ∧ wd tp q < 27 by omega), k_147]
  rw [if_neg c11, if_pos rfl]
  rw [e_M_isOwnHere_147, if_pos rfl]
  have h99 : f_M_isHere (D + 2) 4 99 s = some (if wd tp q = 12 then 1 else 0, s) := m_isH D h (o := 99) rfl
  rw [h99, Option.bind_some]
  simp only []
  by_cases c12 : wd tp q = 12
  · rw [if_pos c12, if_neg (by decide), if_pos (show 0 ≤ wd tp q ∧ wd tp q < 27 by omega), k_223]
  rw [if_neg c12, if_pos rfl]
  have h100 : f_M_isHere (D + 2) 5 100 s = some (if wd tp q = 13 then 1 else 0, s) := m_isH D h (o := 100) rfl
  rw [h100, Option.bind_some]
  simp only []
  by_cases c13 : wd tp q = 13
  · rw [if_pos c13, if_neg (by decide), if_pos (show 0 ≤ wd tp q ∧ wd tp q < 27 by omega), k_223]
  rw [if_neg c13, if_pos rfl]
  have h101 : f_M_isHere (D + 2) 6 101 s = some (if wd tp q = 14 then 1 else 0, s) := m_isH D h (o := 101) rfl
  rw [h101, Option.bind_some]
  simp only []
  by_cases c14 : wd tp q = 14
  · rw [if_pos c14, if_neg (by decide), if_pos (show 0 ≤ wd tp q ∧ wd tp q < 27 by omega), k_223]
  rw [if_neg c14, if_pos rfl]
  have h102 : f_M_isHere (D + 2) 4 102 s = some (if wd tp q = 15 then 1 else 0, s) := m_isH D h (o := 102) rfl
  rw [h102, Option.bind_some]
  simp only []
  by_cases c15 : wd tp q = 15
  · rw [if_pos c15, if_neg (by decide), if_pos (show 0 ≤ wd tp q ∧ wd tp q < 27 by omega), k_223]
  rw [if_neg c15, if_pos rfl]
  have h103 : f_M_isHere (D + 2) 4 103 s = some (if wd tp q = 16 then 1 else 0, s) := m_isH D h (o := 103) rfl
  rw [h103, Option.bind_some]
  simp only []
  by_cases c16 : wd tp q = 16
  · rw [if_pos c16, if_neg (by decide), if_pos (show 0 ≤ wd tp q ∧ wd tp q < 27 by omega), k_223]
  rw [if_neg c16, if_pos rfl]
  have h104 : f_M_isHere (D + 2) 6 104 s = some (if wd tp q = 17 then 1 else 0, s) := m_isH D h (o := 104) rfl
  rw [h104, Option.bind_some]
  simp only []
  by_cases c17 : wd tp q = 17
  · rw [if_pos c17, if_neg (by decide), if_pos (show 0 ≤ wd tp q ∧ wd tp q < 27 by omega), k_223]
  rw [if_neg c17, if_pos rfl]
  rw [e_M_isOwnHere_223, if_pos rfl]
  have h105 : f_M_isHere (D + 2) 4 105 s = some (if wd tp q = 18 then 1 else 0, s) := m_isH D h (o := 105) rfl
  rw [h105, Option.bind_some]
  simp only []
  by_cases c18 : wd tp q = 18
  · rw [if_pos c18, if_neg (by decide), if_pos (show 0 ≤ wd tp q ∧ wd tp q < 27 by omega), k_299]
  rw [if_neg c18, if_pos rfl]
  have h106 : f_M_isHere (D + 2) 6 106 s = some (if wd tp q = 19 then 1 else 0, s) := m_isH D h (o := 106) rfl
  rw [h106, Option.bind_some]
  simp only []
  by_cases c19 : wd tp q = 19
  · rw [if_pos c19, if_neg (by decide), if_pos (show 0 ≤ wd tp q ∧ wd tp q < 27 by omega), k_299]
  rw [if_neg c19, if_pos rfl]
  have h107 : f_M_isHere (D + 2) 3 107 s = some (if wd tp q = 20 then 1 else 0, s) := m_isH D h (o := 107) rfl
  rw [h107, Option.bind_some]
  simp only []
  by_cases c20 : wd tp q = 20
  · rw [if_pos c20, if_neg (by decide), if_pos (show 0 ≤ wd tp q ∧ wd tp q < 27 by omega), k_299]
  rw [if_neg c20, if_pos rfl]
  have h108 : f_M_isHere (D + 2) 2 108 s = some (if wd tp q = 21 then 1 else 0, s) := m_isH D h (o := 108) rfl
  rw [h108, Option.bind_some]
  simp only []
  by_cases c21 : wd tp q = 21
  · rw [if_pos c21, if_neg (by decide), if_pos (show 0 ≤ wd tp q ∧ wd tp q < 27 by omega), k_299]
  rw [if_neg c21, if_pos rfl]
  have h109 : f_M_isHere (D + 2) 3 109 s = some (if wd tp q = 22 then 1 else 0, s) := m_isH D h (o := 109) rfl
  rw [h109, Option.bind_some]
  simp only []
  by_cases c22 : wd tp q = 22
  · rw [if_pos c22, if_neg (by decide), if_pos (show 0 ≤ wd tp q ∧ wd tp q < 27 by omega), k_299]
  rw [if_neg c22, if_pos rfl]
  have h110 : f_M_isHere (D + 2) 3 110 s = some (if wd tp q = 23 then 1 else 0, s) := m_isH D h (o := 110) rfl
  rw [h110, Option.bind_some]
  simp only []
  by_cases c23 : wd tp q = 23
  · rw [if_pos c23, if_neg (by decide), if_pos (show 0 ≤ wd tp q ∧ wd tp q < 27 by omega), k_299]
  rw [if_neg c23, if_pos rfl]
  rw [e_M_isOwnHere_299, if_pos rfl]
  have h111 : f_M_isHere (D + 2) 3 111 s = some (if wd tp q = 24 then 1 else 0, s) := m_isH D h (o := 111) rfl
  rw [h111, Option.bind_some]
  simp only []
  by_cases c24 : wd tp q = 24
  · rw [if_pos c24, if_neg (by decide), if_pos (show 0 ≤ wd tp q ∧ wd tp q < 27 by omega)]
  rw [if_neg c24, if_pos rfl]
  have h112 : f_M_isHere (D + 2) 3 112 s = some (if wd tp q = 25 then 1 else 0, s) := m_isH D h (o := 112) rfl
  rw [h112, Option.bind_some]
  simp only []
  by_cases c25 : wd tp q = 25
  · rw [if_pos c25, if_neg (by decide), if_pos (show 0 ≤ wd tp q ∧ wd tp q < 27 by omega)]
  rw [if_neg c25, if_pos rfl]
  have h113 : f_M_isHere (D + 2) 3 113 s = some (if wd tp q = 26 then 1 else 0, s) := m_isH D h (o := 113) rfl
  rw [h113, Option.bind_some]
  simp only []
  by_cases c26 : wd tp q = 26
  · rw [if_pos c26, if_neg (by decide), if_pos (show 0 ≤ wd tp q ∧ wd tp q < 27 by omega)]
  rw [if_neg c26, if_pos rfl]
  rw [if_neg (by omega)]
/-- which of the words of parts -/
def qw (w : Int) : Int := if w = 3 then 0 else if w = 4 then 1 else if 10 ≤ w ∧ w ≤ 20 then w - 8 else -1
theorem m_qWordHere (D : Nat) {s : Mem} {q : Nat} (h : QE s tp q) : f_M_qWordHere (D + 3) s = some (qw (wd tp q), s) := by
  rw [e_M_qWordHere]
  have h142 : f_M_isHere (D + 2) 3 142 s = some (if wd tp q = 3 then 1 else 0, s) := m_isH D h (o := 142) rfl
  rw [h142, Option.bind_some]
  simp only []
  by_cases c3 : wd tp q = 3
  · rw [if_pos c3, if_neg (by decide), c3]; rfl
  rw [if_neg c3, if_pos rfl]
  have h143 : f_M_isHere (D + 2) 3 143 s = some (if wd tp q = 4 then 1 else 0, s) := m_isH D h (o := 143) rfl
  rw [h143, Option.bind_some]
  simp only []
  by_cases c4 : wd tp q = 4
  · rw [if_pos c4, if_neg (by decide), c4]; rfl
  rw [if_neg c4, if_pos rfl]
  have h144 : f_M_isHere (D + 2) 5 144 s = some (if wd tp q = 10 then 1 else 0, s) := m_isH D h (o := 144) rfl
  rw [h144, Option.bind_some]
  simp only []
  by_cases c10 : wd tp q = 10
  · rw [if_pos c10, if_neg (by decide), c10]; rfl
  rw [if_neg c10, if_pos rfl]
  have h145 : f_M_isHere (D + 2) 6 145 s = some (if wd tp q = 11 then 1 else 0, s) := m_isH D h (o := 145) rfl
  rw [h145, Option.bind_some]
  simp only []
  by_cases c11 : wd tp q = 11
  · rw [if_pos c11, if_neg (by decide), c11]; rfl
  rw [if_neg c11, if_pos rfl]
  have h146 : f_M_isHere (D + 2) 4 146 s = some (if wd tp q = 12 then 1 else 0, s) := m_isH D h (o := 146) rfl
  rw [h146, Option.bind_some]
  simp only []
  by_cases c12 : wd tp q = 12
  · rw [if_pos c12, if_neg (by decide), c12]; rfl
  rw [if_neg c12, if_pos rfl]
  have h147 : f_M_isHere (D + 2) 5 147 s = some (if wd tp q = 13 then 1 else 0, s) := m_isH D h (o := 147) rfl
  rw [h147, Option.bind_some]
  simp only []
  by_cases c13 : wd tp q = 13
  · rw [if_pos c13, if_neg (by decide), c13]; rfl
  rw [if_neg c13, if_pos rfl]
  have h148 : f_M_isHere (D + 2) 6 148 s = some (if wd tp q = 14 then 1 else 0, s) := m_isH D h (o := 148) rfl
  rw [h148, Option.bind_some]
  simp only []
  by_cases c14 : wd tp q = 14
  · rw [if_pos c14, if_neg (by decide), c14]; rfl
  rw [if_neg c14, if_pos rfl]
  have h149 : f_M_isHere (D + 2) 4 149 s = some (if wd tp q = 15 then 1 else 0, s) := m_isH D h (o := 149) rfl
  rw [h149, Option.bind_some]
  simp only []
  by_cases c15 : wd tp q = 15
  · rw [if_pos c15, if_neg (by decide), c15]; rfl
  rw [if_neg c15, if_pos rfl]
  have h150 : f_M_isHere (D + 2) 4 150 s = some (if wd tp q = 16 then 1 else 0, s) := m_isH D h (o := 150) rfl
  rw [h150, Option.bind_some]
  simp only []
  by_cases c16 : wd tp q = 16
  · rw [if_pos c16, if_neg (by decide), c16]; rfl
  rw [if_neg c16, if_pos rfl]
  have h151 : f_M_isHere (D + 2) 6 151 s = some (if wd tp q = 17 then 1 else 0, s) := m_isH D h (o := 151) rfl
  rw [h151, Option.bind_some]
  simp only []
  by_cases c17 : wd tp q = 17
  · rw [if_pos c17, if_neg (by decide), c17]; rfl
  rw [if_neg c17, if_pos rfl]
  have h152 : f_M_isHere (D + 2) 4 152 s = some (if wd tp q = 18 then 1 else 0, s) := m_isH D h (o := 152) rfl
  rw [h152, Option.bind_some]
  simp only []
  by_cases c18 : wd tp q = 18
  · rw [if_pos c18, if_neg (by decide), c18]; rfl
  rw [if_neg c18, if_pos rfl]
  have h153 : f_M_isHere (D + 2) 6 153 s = some (if wd tp q = 19 then 1 else 0, s) := m_isH D h (o := 153) rfl
  rw [h153, Option.bind_some]
  simp only []
  by_cases c19 : wd tp q = 19
  · rw [if_pos c19, if_neg (by decide), c19]; rfl
  rw [if_neg c19, if_pos rfl]
  have h154 : f_M_isHere (D + 2) 3 154 s = some (if wd tp q = 20 then 1 else 0, s) := m_isH D h (o := 154) rfl
  rw [h154, Option.bind_some]
  simp only []
  by_cases c20 : wd tp q = 20
  · rw [if_pos c20, if_neg (by decide), c20]; rfl
  rw [if_neg c20, if_pos rfl]
  have e : qw (wd tp q) = -1 := by unfold qw; rw [if_neg c3, if_neg c4, if_neg (by omega)]
  rw [e]
theorem m_allowed (D : Nat) {s : Mem} {k : Nat} (hk : k ≤ 3) (h : rI s 84 50 = (k : Int)) (w : Int) (hw : w = 3 ∨ w = 4 ∨ 10 ≤ w ∧ w ≤ 20) : f_M_isAllowed (D + 1) (qw w) s = some (if alw k w ∨ (k = 3 ∧ (w = 19 ∨ w = 20)) then 1 else 0, s) := by
  rw [e_M_isAllowed, h]
  have hw2 : w = 3 ∨ w = 4 ∨ w = 10 ∨ w = 11 ∨ w = 12 ∨ w = 13 ∨ w = 14 ∨ w = 15 ∨ w = 16 ∨ w = 17 ∨ w = 18 ∨ w = 19 ∨ w = 20 := by omega
  have h4 : k = 0 ∨ k = 1 ∨ k = 2 ∨ k = 3 := by omega
  rcases h4 with rfl | rfl | rfl | rfl <;> rcases hw2 with rfl | rfl | rfl | rfl | rfl | rfl | rfl | rfl | rfl | rfl | rfl | rfl | rfl <;> rfl
theorem qw_r (w : Int) : (w = 3 ∨ w = 4 ∨ 10 ≤ w ∧ w ≤ 20) ∧ 0 ≤ qw w ∧ qw w ≤ 12 ∨ ¬ (w = 3 ∨ w = 4 ∨ 10 ≤ w ∧ w ≤ 20) ∧ qw w = -1 := by
  unfold qw
  by_cases c3 : w = 3
  · rw [if_pos c3]; omega
  · rw [if_neg c3]
    by_cases c4 : w = 4
    · rw [if_pos c4]; omega
    · rw [if_neg c4]
      by_cases c5 : 10 ≤ w ∧ w ≤ 20
      · rw [if_pos c5]; omega
      · rw [if_neg c5]; omega
theorem qw_v {w : Int} : (w = 3 → qw w = 0) ∧ (w = 4 → qw w = 1) ∧ (10 ≤ w ∧ w ≤ 20 → qw w = w - 8) := by
  refine ⟨fun e => (by rw [e]; rfl), fun e => (by rw [e]; rfl), fun e => ?_⟩
  unfold qw
  rw [if_neg (by omega), if_neg (by omega), if_pos e]
theorem m_qWordOf (D : Nat) {s : Mem} {q k : Nat} (h : QE s tp q) (hk : k ≤ 3) (h50 : rI s 84 50 = (k : Int)) : f_M_qWordOf (D + 4) 11 13 s = some (if k = 3 ∧ (wd tp q = 19 ∨ wd tp q = 20) then qw (wd tp q) else -1, s) ∧ f_M_qWordOf (D + 4) 0 11 s = some (if alw k (wd tp q) then qw (wd tp q) else -1, s) := by
  rw [e_M_qWordOf, e_M_qWordOf, m_qWordHere D h, Option.bind_some, Option.bind_some]
  simp only []
  have hv := @qw_v (wd tp q)
  rcases qw_r (wd tp q) with ⟨hw, hr⟩ | ⟨hw, hr⟩
  · have ha := m_allowed (D + 2) hk h50 (wd tp q) hw
    constructor
    · by_cases c : wd tp q = 19 ∨ wd tp q = 20
      · have hna : ¬ alw k (wd tp q) = true := fun e => by have := alw_n e; omega
        rw [if_neg (by omega), if_pos (by omega), ha, Option.bind_some]
        simp only []
        by_cases c3 : k = 3 ∧ (wd tp q = 19 ∨ wd tp q = 20)
        · rw [if_pos (Or.inr c3), if_neg (by decide), if_pos c3]
        · have hno : ¬ (alw k (wd tp q) = true ∨ (k = 3 ∧ (wd tp q = 19 ∨ wd tp q = 20))) := fun e => e.elim hna c3
          rw [if_neg hno, if_pos rfl, if_neg c3]
      · rw [if_pos (by omega), if_neg (fun e => c e.2)]
    · rw [if_neg (by omega)]
      by_cases c : wd tp q = 19 ∨ wd tp q = 20
      · have hna : ¬ alw k (wd tp q) = true := fun e => by have := alw_n e; omega
        rw [if_neg (by omega), if_neg hna]
      · rw [if_pos (by omega), ha, Option.bind_some]
        simp only []
        by_cases c3 : alw k (wd tp q) = true
        · rw [if_pos (Or.inl c3), if_neg (by decide), if_pos c3]
        · have hno : ¬ (alw k (wd tp q) = true ∨ (k = 3 ∧ (wd tp q = 19 ∨ wd tp q = 20))) := fun e => e.elim c3 (fun e => c e.2)
          rw [if_neg hno, if_pos rfl, if_neg c3]
  · have hna : ¬ alw k (wd tp q) = true := fun e => by have := alw_n e; omega
    have hno : ¬ (k = 3 ∧ (wd tp q = 19 ∨ wd tp q = 20)) := by omega
    rw [hr]
    constructor
    · rw [if_pos (by decide), if_neg hno]
    · rw [if_pos (by decide), if_neg hna]
theorem m_qAsksWord (D : Nat) {s : Mem} {q : Nat} (h : QA s tp q) (hw : wd tp q = 3 ∨ wd tp q = 4 ∨ 10 ≤ wd tp q ∧ wd tp q ≤ 20) : ∃ s1, f_M_qAsksWord (D + 5) (qw (wd tp q)) s = some (0, s1) ∧ Fr PM4 s s1 ∧ QA s1 tp (nx tp q) := by
  have h13 : wd tp q = 3 ∨ wd tp q = 4 ∨ wd tp q = 10 ∨ wd tp q = 11 ∨ wd tp q = 12 ∨ wd tp q = 13 ∨ wd tp q = 14 ∨ wd tp q = 15 ∨ wd tp q = 16 ∨ wd tp q = 17 ∨ wd tp q = 18 ∨ wd tp q = 19 ∨ wd tp q = 20 := by omega
  rcases h13 with e | e | e | e | e | e | e | e | e | e | e | e | e
  · have h142 : ∃ s1, f_M_asks (D + 4) 3 142 s = some (0, s1) ∧ Fr PM4 s s1 ∧ QA s1 tp (nx tp q) := (m_asks D h (o := 142) rfl).1 e
    obtain ⟨s1, e1, f1, g1⟩ := h142
    rw [e_M_qAsksWord, e, show qw 3 = 0 from rfl, if_pos rfl, e1, Option.bind_some]
    exact ⟨s1, rfl, f1, g1⟩
  · have h143 : ∃ s1, f_M_asks (D + 4) 3 143 s = some (0, s1) ∧ Fr PM4 s s1 ∧ QA s1 tp (nx tp q) := (m_asks D h (o := 143) rfl).1 e
    obtain ⟨s1, e1, f1, g1⟩ := h143
    rw [e_M_qAsksWord, e, show qw 4 = 1 from rfl, if_neg (by decide), if_pos rfl, e1, Option.bind_some]
    exact ⟨s1, rfl, f1, g1⟩
  · have h144 : ∃ s1, f_M_asks (D + 4) 5 144 s = some (0, s1) ∧ Fr PM4 s s1 ∧ QA s1 tp (nx tp q) := (m_asks D h (o := 144) rfl).1 e
    obtain ⟨s1, e1, f1, g1⟩ := h144
    rw [e_M_qAsksWord, e, show qw 10 = 2 from rfl, if_neg (by decide), if_neg (by decide), if_pos rfl, e1, Option.bind_some]
    exact ⟨s1, rfl, f1, g1⟩
  · have h145 : ∃ s1, f_M_asks (D + 4) 6 145 s = some (0, s1) ∧ Fr PM4 s s1 ∧ QA s1 tp (nx tp q) := (m_asks D h (o := 145) rfl).1 e
    obtain ⟨s1, e1, f1, g1⟩ := h145
    rw [e_M_qAsksWord, e, show qw 11 = 3 from rfl, if_neg (by decide), if_neg (by decide), if_neg (by decide), if_pos rfl, e1, Option.bind_some]
    exact ⟨s1, rfl, f1, g1⟩
  · have h146 : ∃ s1, f_M_asks (D + 4) 4 146 s = some (0, s1) ∧ Fr PM4 s s1 ∧ QA s1 tp (nx tp q) := (m_asks D h (o := 146) rfl).1 e
    obtain ⟨s1, e1, f1, g1⟩ := h146
    rw [e_M_qAsksWord, e, show qw 12 = 4 from rfl, if_neg (by decide), if_neg (by decide), if_neg (by decide), if_neg (by decide), if_pos rfl, e1, Option.bind_some]
    exact ⟨s1, rfl, f1, g1⟩
  · have h147 : ∃ s1, f_M_asks (D + 4) 5 147 s = some (0, s1) ∧ Fr PM4 s s1 ∧ QA s1 tp (nx tp q) := (m_asks D h (o := 147) rfl).1 e
    obtain ⟨s1, e1, f1, g1⟩ := h147
    rw [e_M_qAsksWord, e, show qw 13 = 5 from rfl, if_neg (by decide), if_neg (by decide), if_neg (by decide), if_neg (by decide), if_neg (by decide), if_pos rfl, e1, Option.bind_some]
    exact ⟨s1, rfl, f1, g1⟩
  · have h148 : ∃ s1, f_M_asks (D + 4) 6 148 s = some (0, s1) ∧ Fr PM4 s s1 ∧ QA s1 tp (nx tp q) := (m_asks D h (o := 148) rfl).1 e
    obtain ⟨s1, e1, f1, g1⟩ := h148
    rw [e_M_qAsksWord, e, show qw 14 = 6 from rfl, if_neg (by decide), if_neg (by decide), if_neg (by decide), if_neg (by decide), if_neg (by decide), if_neg (by decide), if_pos rfl, e1, Option.bind_some]
    exact ⟨s1, rfl, f1, g1⟩
  · have h149 : ∃ s1, f_M_asks (D + 4) 4 149 s = some (0, s1) ∧ Fr PM4 s s1 ∧ QA s1 tp (nx tp q) := (m_asks D h (o := 149) rfl).1 e
    obtain ⟨s1, e1, f1, g1⟩ := h149
    rw [e_M_qAsksWord, e, show qw 15 = 7 from rfl, if_neg (by decide), if_neg (by decide), if_neg (by decide), if_neg (by decide), if_neg (by decide), if_neg (by decide), if_neg (by decide), if_pos rfl, e1, Option.bind_some]
    exact ⟨s1, rfl, f1, g1⟩
  · have h150 : ∃ s1, f_M_asks (D + 4) 4 150 s = some (0, s1) ∧ Fr PM4 s s1 ∧ QA s1 tp (nx tp q) := (m_asks D h (o := 150) rfl).1 e
    obtain ⟨s1, e1, f1, g1⟩ := h150
    rw [e_M_qAsksWord, e, show qw 16 = 8 from rfl, if_neg (by decide), if_neg (by decide), if_neg (by decide), if_neg (by decide), if_neg (by decide), if_neg (by decide), if_neg (by decide), if_neg (by decide), if_pos rfl, e1, Option.bind_some]
    exact ⟨s1, rfl, f1, g1⟩
  · have h151 : ∃ s1, f_M_asks (D + 4) 6 151 s = some (0, s1) ∧ Fr PM4 s s1 ∧ QA s1 tp (nx tp q) := (m_asks D h (o := 151) rfl).1 e
    obtain ⟨s1, e1, f1, g1⟩ := h151
    rw [e_M_qAsksWord, e, show qw 17 = 9 from rfl, if_neg (by decide), if_neg (by decide), if_neg (by decide), if_neg (by decide), if_neg (by decide), if_neg (by decide), if_neg (by decide), if_neg (by decide), if_neg (by decide), if_pos rfl, e1, Option.bind_some]
    exact ⟨s1, rfl, f1, g1⟩
  · have h152 : ∃ s1, f_M_asks (D + 4) 4 152 s = some (0, s1) ∧ Fr PM4 s s1 ∧ QA s1 tp (nx tp q) := (m_asks D h (o := 152) rfl).1 e
    obtain ⟨s1, e1, f1, g1⟩ := h152
    rw [e_M_qAsksWord, e, show qw 18 = 10 from rfl, if_neg (by decide), if_neg (by decide), if_neg (by decide), if_neg (by decide), if_neg (by decide), if_neg (by decide), if_neg (by decide), if_neg (by decide), if_neg (by decide), if_neg (by decide), if_pos rfl, e1, Option.bind_some]
    exact ⟨s1, rfl, f1, g1⟩
  · have h153 : ∃ s1, f_M_asks (D + 4) 6 153 s = some (0, s1) ∧ Fr PM4 s s1 ∧ QA s1 tp (nx tp q) := (m_asks D h (o := 153) rfl).1 e
    obtain ⟨s1, e1, f1, g1⟩ := h153
    rw [e_M_qAsksWord, e, show qw 19 = 11 from rfl, if_neg (by decide), if_neg (by decide), if_neg (by decide), if_neg (by decide), if_neg (by decide), if_neg (by decide), if_neg (by decide), if_neg (by decide), if_neg (by decide), if_neg (by decide), if_neg (by decide), if_pos rfl, e1, Option.bind_some]
    exact ⟨s1, rfl, f1, g1⟩
  · have h154 : ∃ s1, f_M_asks (D + 4) 3 154 s = some (0, s1) ∧ Fr PM4 s s1 ∧ QA s1 tp (nx tp q) := (m_asks D h (o := 154) rfl).1 e
    obtain ⟨s1, e1, f1, g1⟩ := h154
    rw [e_M_qAsksWord, e, show qw 20 = 12 from rfl, if_neg (by decide), if_neg (by decide), if_neg (by decide), if_neg (by decide), if_neg (by decide), if_neg (by decide), if_neg (by decide), if_neg (by decide), if_neg (by decide), if_neg (by decide), if_neg (by decide), if_neg (by decide), e1, Option.bind_some]
    exact ⟨s1, rfl, f1, g1⟩
/-- a name as a number -/
def nmF (tp : List Int) : Nat → Int → Nat → Int
  | 0, v, _ => v
  | n + 1, v, i => nmF tp n (27 * v + ch tp i - 96) (i + 1)
def nmv (tp : List Int) (q : Nat) : Int := nmF tp (le tp q - q) 0 q
theorem m_name58 (D : Nat) {q : Nat} (hq : q ≤ tp.length) : ∀ (m i : Nat) (v : Int) (s : Mem), i + m = le tp q → q ≤ i → i - q ≤ 6 → QB s tp → rI s 84 2 = (i : Int) → rI s 84 38 = (q : Int) → (0 ≤ v ∧ v < (27 ^ (i - q) : Nat)) → (le tp q - q ≤ 6 → ∃ s1, L_M_name_58 (D + 1) v s = some (nmF tp m v i, wI s1 84 4 (le tp q : Int)) ∧ Fr PM2 s s1 ∧ rI s1 84 2 = (le tp q : Int)) ∧ (6 < le tp q - q → ∃ s1 x, L_M_name_58 (D + 1) v s = some (x, s1) ∧ Fr PMn s s1 ∧ rI s1 84 5 = 1 ∧ rI s1 84 6 = ((q + 6 : Nat) : Int))
  | 0, i, v, s, him, hqi, h4, hB, h2, h38, hv => by
    obtain ⟨⟨h1, hl, h3⟩, h5⟩ := hB
    have hr := ru_p (p := isLt) hq
    refine ⟨fun _ => ⟨s, ?_, Fr.rf, by rw [h2]; omega⟩, fun q => by omega⟩
    rw [e_M_name_58, h2, h1]
    by_cases c1 : i < tp.length
    · have hd : isLt (ch tp i) = false := by
        have e := hr.2.2.1
        rw [show ru isLt tp q = i by show le tp q = i; omega] at e
        exact e c1
      have hb : rI s 85 i = ch tp i := by rw [ch_i c1]; exact h3 i c1
      rw [if_pos (by omega), inB_n (by omega), Int.toNat_natCast, hb, m_isL, Option.bind_some, hd]
      refine (if_pos rfl).trans ?_
      rw [h2, show (i : Int) = (le tp q : Int) by omega]
      rfl
    · rw [if_neg (by omega), show (i : Int) = (le tp q : Int) by omega]
      rfl
  | m + 1, i, v, s, him, hqi, h4, hB, h2, h38, hv => by
    have hBB := hB
    obtain ⟨⟨h1, hl, h3⟩, h5⟩ := hB
    have hr := ru_p (p := isLt) hq
    have hde : le tp q ≤ tp.length := hr.2.1
    have hd := hr.2.2.2 i hqi (by show i < le tp q; omega)
    have hb : rI s 85 i = ch tp i := by rw [ch_i (by omega)]; exact h3 i (by omega)
    rw [e_M_name_58, h2, h1, if_pos (by omega), inB_n (by omega), Int.toNat_natCast, hb, m_isL, Option.bind_some, hd]
    simp only []
    rw [if_pos trivial, if_neg (by decide), h2, h38, w32_i (z := (i : Int) - (q : Int)) (by omega) (by omega)]
    by_cases c4 : (i : Int) - (q : Int) = 6
    · refine ⟨fun q => (by omega), fun _ => ?_⟩
      rw [if_pos c4, m_fail D h5, Option.bind_some]
      exact ⟨_, 0, rfl, (Fr.rf.w (by omega)).w (by omega), by rw [rI_other _ _ _ _ (by omega), rI_same], by rw [rI_same]; omega⟩
    · have d2 := hd
      unfold isLt at d2
      rw [Bool.and_eq_true, decide_eq_true_iff, decide_eq_true_iff] at d2
      have hp : 27 ^ (i - q) ≤ 27 ^ 5 := Nat.pow_le_pow_right (by omega) (by omega)
      have e1 : (27 ^ (i + 1 - q) : Nat) = 27 * 27 ^ (i - q) := by rw [show i + 1 - q = (i - q) + 1 by omega, Nat.pow_succ, Nat.mul_comm]
      rw [if_neg c4, inB_n (by omega), Int.toNat_natCast, hb, w64_i (z := 27 * v) (by omega) (by omega), w64_i (z := 27 * v + ch tp i) (by omega) (by omega), w64_i (z := 27 * v + ch tp i - 97) (by omega) (by omega), w64_i (z := 27 * v + ch tp i - 97 + 1) (by omega) (by omega), w32_s (by omega), show 27 * v + ch tp i - 97 + 1 = 27 * v + ch tp i - 96 by omega]
      have f1 : Fr PM2 s (wI s 84 2 ((i + 1 : Nat) : Int)) := Fr.rf.w ⟨rfl, rfl⟩
      have hb1 : (0 : Int) ≤ 27 * v + ch tp i - 96 := by omega
      have hb2 : 27 * v + ch tp i - 96 < (27 ^ (i + 1 - q) : Nat) := by rw [e1]; omega
      have ih := m_name58 D hq m (i + 1) (27 * v + ch tp i - 96) (wI s 84 2 ((i + 1 : Nat) : Int)) (by omega) (by omega) (by omega) (hBB.fr f1) (rI_same _ _ _ _) ((rI_other _ _ _ _ (by omega)).trans h38) ⟨hb1, hb2⟩
      refine ⟨fun e => ?_, fun e => ?_⟩
      · obtain ⟨s1, e2, f2, g2⟩ := ih.1 e
        exact ⟨s1, e2, f1.tr f2, g2⟩
      · obtain ⟨s1, x, e2, f2, g2, g3⟩ := ih.2 e
        exact ⟨s1, x, e2, (f1.mo (fun a k q => by omega)).tr f2, g2, g3⟩
/-- a name that is asked for -/
abbrev isNm (tp : List Int) (q : Nat) : Prop := kd tp q = 1 ∧ ¬ (0 ≤ wd tp q ∧ wd tp q < 27)
theorem m_name (D : Nat) {s : Mem} {q : Nat} (h : QA s tp q) : (isNm tp q → le tp q - q ≤ 6 → ∃ s1, f_M_name (D + 4) s = some (nmv tp q, s1) ∧ Fr PMn s s1 ∧ QA s1 tp (nx tp q) ∧ rI s1 84 38 = (q : Int)) ∧ (isNm tp q → 6 < le tp q - q → ∃ s1 x, f_M_name (D + 4) s = some (x, s1) ∧ Fr PMn s s1 ∧ rI s1 84 5 = 1 ∧ rI s1 84 6 = ((q + 6 : Nat) : Int)) ∧ (¬ isNm tp q → ∃ s1 x, f_M_name (D + 4) s = some (x, s1) ∧ Fr PMn s s1 ∧ rI s1 84 5 = 1 ∧ rI s1 84 6 = (q : Int)) := by
  obtain ⟨s0, e0, f0, g0⟩ := m_look (D + 2) h
  have hq := h.lq
  have hr := ru_p (p := isLt) hq
  have h5 := g0.1.2.2.1
  have h9 := g0.1.2.2.2.2.1
  have f0n : Fr PMn s s0 := f0.mo (fun a k q => by omega)
  rw [e_M_name, h.2.2.1, if_pos rfl, e0, Option.bind_some]
  simp only []
  rw [m_isL, Option.bind_some]
  simp only []
  have fl : ∃ s1 x, ((f_M_fail (D + 3) 1 (rI s0 84 2) s0).bind fun p3 => some ((0 : Int), p3.2)) = some (x, s1) ∧ Fr PMn s s1 ∧ rI s1 84 5 = 1 ∧ rI s1 84 6 = (q : Int) := by
    rw [m_fail (D + 2) h5, Option.bind_some, g0.2]
    exact ⟨_, 0, rfl, (f0n.w (by omega)).w (by omega), by rw [rI_other _ _ _ _ (by omega), rI_same], rI_same _ _ _ _⟩
  have body : isNm tp q → isLt (ch tp q) = true ∧ (¬ rI s0 84 2 = rI s0 84 4) := fun hn => by
    have := kd_1 hn.1
    refine ⟨this.2.1, fun e => ?_⟩
    rw [g0.2] at e
    rw [h9.mp e.symm] at this
    cases this.2.2
  have hm : q + (le tp q - q) = le tp q := by have : q ≤ le tp q := hr.1; omega
  have f38 : Fr (fun a k => a = 84 ∧ k = 38) s0 (wI s0 84 38 (q : Int)) := Fr.rf.w ⟨rfl, rfl⟩
  have g1 := g0.fr f38 (fun a k q => by omega)
  have hn := m_name58 (D + 2) hq (le tp q - q) q 0 (wI s0 84 38 (q : Int)) hm (Nat.le_refl _) (by omega) g1.1.b g1.2 (rI_same _ _ _ _) ⟨by omega, by rw [Nat.sub_self]; decide⟩
  have f01 : Fr PMn s (wI s0 84 38 (q : Int)) := f0n.w (by omega)
  refine ⟨fun hnm e4 => ?_, fun hnm e4 => ?_, fun hnm => ?_⟩
  · obtain ⟨b1, b2⟩ := body hnm
    obtain ⟨s1, e1, f1, g2⟩ := hn.1 e4
    rw [b1, if_pos rfl, if_neg (by decide), if_neg b2, m_own D g0, Option.bind_some, if_neg hnm.2]
    simp only []
    rw [if_pos trivial, g0.2, e1]
    refine ⟨_, rfl, (f01.tr (f1.mo (fun a k q => by omega))).w (by omega), QA.wrd g1 hnm.1 ((f1.mo (fun a k q => by omega)).w (by omega)) (by rw [rI_other _ _ _ _ (by omega)]; exact g2) (rI_same _ _ _ _), ?_⟩
    rw [rI_other _ _ _ _ (by omega), f1.i (by omega), rI_same]
  · obtain ⟨b1, b2⟩ := body hnm
    obtain ⟨s1, x, e1, f1, g2, g3⟩ := hn.2 e4
    rw [b1, if_pos rfl, if_neg (by decide), if_neg b2, m_own D g0, Option.bind_some, if_neg hnm.2]
    simp only []
    rw [if_pos trivial, g0.2, e1]
    exact ⟨s1, x, rfl, f01.tr f1, g2, g3⟩
  · by_cases c : isLt (ch tp q) = true
    · rw [if_pos c, if_neg (by decide)]
      by_cases cg : rI s0 84 2 = rI s0 84 4
      · rw [if_pos cg]; exact fl
      · have hqi : q < tp.length := by
          rcases Nat.lt_or_ge q tp.length with e | e
          · exact e
          · exfalso
            unfold ch at c
            rw [if_neg (by omega)] at c
            exact absurd c (by decide)
        have ng : ¬ gl tp q = true := fun e => cg (by rw [g0.2]; exact (h9.mpr e).symm)
        have k1 : kd tp q = 1 := by
          unfold kd
          rw [if_neg (by omega), if_neg (fun e => by rw [c] at e; cases e.1), if_neg ng, if_pos c]
        have ho : 0 ≤ wd tp q ∧ wd tp q < 27 := by
          rcases Classical.em (0 ≤ wd tp q ∧ wd tp q < 27) with e | e
          · exact e
          · exact absurd ⟨k1, e⟩ hnm
        rw [if_neg cg, m_own D g0, Option.bind_some, if_pos ho]
        simp only []
        rw [if_neg (by decide)]
        exact fl
    · rw [if_neg c, if_pos rfl]; exact fl
end MNUM
