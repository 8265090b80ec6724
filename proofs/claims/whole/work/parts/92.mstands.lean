/-! the reference takes a table -/
section MSTANDS
theorem m_st7 (D : Nat) {s0 : Mem} : ∀ (j b : Nat) (s : Mem), b + j = 3 → Fr (fun a i => a = 114 ∧ 3 ≤ i) s0 s → (∀ k, k < b → rI s 114 (3 + k) = rI s0 114 k) → ∃ s1, L_M_stands_7 D (b : Int) s = L_M_stands_34 D 0 s1 ∧ Fr (fun a i => a = 114 ∧ 3 ≤ i) s0 s1 ∧ ∀ k, k < 3 → rI s1 114 (3 + k) = rI s0 114 k
  | 0, b, s, hb, hf, hk => by
    rw [e_M_stands_7, if_neg (by omega)]
    exact ⟨s, rfl, hf, fun k hk2 => hk k (by omega)⟩
  | j + 1, b, s, hb, hf, hk => by
    rw [e_M_stands_7, if_pos (by omega), inB_n (by omega), show w32 (3 + (b : Int)) = (((3 + b : Nat)) : Int) by rw [w32_i (by omega) (by omega)]; omega, inB_n (by omega), Int.toNat_natCast, Int.toNat_natCast, w32_s (by omega)]
    refine m_st7 D j (b + 1) _ (by omega) (hf.w (by omega)) (fun k hk2 => ?_)
    by_cases c : k = b
    · rw [c, rI_same]; exact hf.i (by omega)
    · rw [rI_other _ _ _ _ (by omega)]; exact hk k (by omega)
theorem m_st34 (D : Nat) {s0 : Mem} : ∀ (j b : Nat) (s : Mem), b + j = 3 → Fr (fun a i => (a = 119 ∨ a = 120) ∧ 3 ≤ i) s0 s → (∀ k, k < b → rI s 119 (3 + k) = rI s0 119 k ∧ rI s 120 (3 + k) = rI s0 120 k) → ∃ s1, L_M_stands_34 D (b : Int) s = L_M_stands_75 D 0 s1 ∧ Fr (fun a i => (a = 119 ∨ a = 120) ∧ 3 ≤ i) s0 s1 ∧ ∀ k, k < 3 → rI s1 119 (3 + k) = rI s0 119 k ∧ rI s1 120 (3 + k) = rI s0 120 k
  | 0, b, s, hb, hf, hk => by
    rw [e_M_stands_34, if_neg (by omega)]
    exact ⟨s, rfl, hf, fun k hk2 => hk k (by omega)⟩
  | j + 1, b, s, hb, hf, hk => by
    rw [e_M_stands_34, if_pos (by omega), inB_n (by omega), show w32 (3 + (b : Int)) = ((3 + b : Nat) : Int) by rw [w32_i (by omega) (by omega)]; omega, inB_n (by omega), inB_n (by omega), inB_n (by omega), Int.toNat_natCast, Int.toNat_natCast, w32_s (by omega)]
    refine m_st34 D j (b + 1) _ (by omega) ((hf.w (by omega)).w (by omega)) (fun k hk2 => ?_)
    by_cases c : k = b
    · rw [c]
      refine ⟨?_, ?_⟩
      · rw [rI_other _ _ _ _ (by omega), rI_same]; exact hf.i (by omega)
      · rw [rI_same]; exact hf.i (by omega)
    · obtain ⟨a1, a2⟩ := hk k (by omega)
      refine ⟨?_, ?_⟩
      · rw [rI_other _ _ _ _ (by omega), rI_other _ _ _ _ (by omega)]; exact a1
      · rw [rI_other _ _ _ _ (by omega), rI_other _ _ _ _ (by omega)]; exact a2
theorem m_st75 (D : Nat) {s0 : Mem} : ∀ (j b : Nat) (s : Mem), b + j = 7 → Fr (fun a i => a = 115 ∧ 7 ≤ i) s0 s → (∀ k, k < b → rI s 115 (7 + k) = rI s0 115 k) → ∃ s1, L_M_stands_75 D (b : Int) s = L_M_stands_104 D 0 s1 ∧ Fr (fun a i => a = 115 ∧ 7 ≤ i) s0 s1 ∧ ∀ k, k < 7 → rI s1 115 (7 + k) = rI s0 115 k
  | 0, b, s, hb, hf, hk => by
    rw [e_M_stands_75, if_neg (by omega)]
    exact ⟨s, rfl, hf, fun k hk2 => hk k (by omega)⟩
  | j + 1, b, s, hb, hf, hk => by
    rw [e_M_stands_75, if_pos (by omega), inB_n (by omega), show w32 (7 + (b : Int)) = (((7 + b : Nat)) : Int) by rw [w32_i (by omega) (by omega)]; omega, inB_n (by omega), Int.toNat_natCast, Int.toNat_natCast, w32_s (by omega)]
    refine m_st75 D j (b + 1) _ (by omega) (hf.w (by omega)) (fun k hk2 => ?_)
    by_cases c : k = b
    · rw [c, rI_same]; exact hf.i (by omega)
    · rw [rI_other _ _ _ _ (by omega)]; exact hk k (by omega)
theorem m_st104 (D : Nat) {s0 : Mem} : ∀ (j b : Nat) (s : Mem), b + j = 14 → Fr (fun a i => a = 116 ∧ 14 ≤ i) s0 s → (∀ k, k < b → rI s 116 (14 + k) = rI s0 116 k) → ∃ s1, L_M_stands_104 D (b : Int) s = L_M_stands_133 D 0 s1 ∧ Fr (fun a i => a = 116 ∧ 14 ≤ i) s0 s1 ∧ ∀ k, k < 14 → rI s1 116 (14 + k) = rI s0 116 k
  | 0, b, s, hb, hf, hk => by
    rw [e_M_stands_104, if_neg (by omega)]
    exact ⟨s, rfl, hf, fun k hk2 => hk k (by omega)⟩
  | j + 1, b, s, hb, hf, hk => by
    rw [e_M_stands_104, if_pos (by omega), inB_n (by omega), show w32 (14 + (b : Int)) = (((14 + b : Nat)) : Int) by rw [w32_i (by omega) (by omega)]; omega, inB_n (by omega), Int.toNat_natCast, Int.toNat_natCast, w32_s (by omega)]
    refine m_st104 D j (b + 1) _ (by omega) (hf.w (by omega)) (fun k hk2 => ?_)
    by_cases c : k = b
    · rw [c, rI_same]; exact hf.i (by omega)
    · rw [rI_other _ _ _ _ (by omega)]; exact hk k (by omega)
theorem m_st133 (D : Nat) {s0 : Mem} {n : Nat} (hn : n ≤ 1600) (h47 : rI s0 84 47 = (n : Int)) : ∀ (j b : Nat) (s : Mem), b + j = n → Fr (fun a i => a = 121 ∧ 1600 ≤ i) s0 s → (∀ k, k < b → rI s 121 (1600 + k) = rI s0 121 k) → ∃ s1, L_M_stands_133 D (b : Int) s = L_M_stands_165 D 0 s1 ∧ Fr (fun a i => a = 121 ∧ 1600 ≤ i) s0 s1 ∧ ∀ k, k < n → rI s1 121 (1600 + k) = rI s0 121 k
  | 0, b, s, hb, hf, hk => by
    rw [e_M_stands_133, hf.i (show ¬ ((84 : Nat) = 121 ∧ 1600 ≤ 47) by omega), h47, if_neg (by omega)]
    exact ⟨s, rfl, hf, fun k hk2 => hk k (by omega)⟩
  | j + 1, b, s, hb, hf, hk => by
    rw [e_M_stands_133, hf.i (show ¬ ((84 : Nat) = 121 ∧ 1600 ≤ 47) by omega), h47, if_pos (by omega), inB_n (by omega), show w32 (1600 + (b : Int)) = (((1600 + b : Nat)) : Int) by rw [w32_i (by omega) (by omega)]; omega, inB_n (by omega), Int.toNat_natCast, Int.toNat_natCast, w32_s (by omega)]
    refine m_st133 D hn h47 j (b + 1) _ (by omega) (hf.w (by omega)) (fun k hk2 => ?_)
    by_cases c : k = b
    · rw [c, rI_same]; exact hf.i (by omega)
    · rw [rI_other _ _ _ _ (by omega)]; exact hk k (by omega)
theorem m_st165 (D : Nat) {s0 : Mem} : ∀ (j b : Nat) (s : Mem), b + j = 185 → Fr (fun a _ => a = 122) s0 s → (∀ k, k < b → rI s 122 (k) = 0) → ∃ s1, L_M_stands_165 D (b : Int) s = L_M_stands_187 D 0 s1 ∧ Fr (fun a _ => a = 122) s0 s1 ∧ ∀ k, k < 185 → rI s1 122 (k) = 0
  | 0, b, s, hb, hf, hk => by
    rw [e_M_stands_165, if_neg (by omega)]
    exact ⟨s, rfl, hf, fun k hk2 => hk k (by omega)⟩
  | j + 1, b, s, hb, hf, hk => by
    rw [e_M_stands_165, if_pos (by omega), inB_n (by omega), Int.toNat_natCast, w32_s (by omega)]
    refine m_st165 D j (b + 1) _ (by omega) (hf.w (by omega)) (fun k hk2 => ?_)
    by_cases c : k = b
    · rw [c, rI_same]
    · rw [rI_other _ _ _ _ (by omega)]; exact hk k (by omega)
theorem m_st187 (D : Nat) {s0 : Mem} : ∀ (j b : Nat) (s : Mem), b + j = 9 → Fr (fun a i => a = 122 ∧ 1 ≤ i ∧ i < 10) s0 s → (∀ k, k < b → rI s 122 (1 + k) = rI s0 118 k) → ∃ s1, L_M_stands_187 D (b : Int) s = L_M_stands_215 D 0 s1 ∧ Fr (fun a i => a = 122 ∧ 1 ≤ i ∧ i < 10) s0 s1 ∧ ∀ k, k < 9 → rI s1 122 (1 + k) = rI s0 118 k
  | 0, b, s, hb, hf, hk => by
    rw [e_M_stands_187, if_neg (by omega)]
    exact ⟨s, rfl, hf, fun k hk2 => hk k (by omega)⟩
  | j + 1, b, s, hb, hf, hk => by
    rw [e_M_stands_187, if_pos (by omega), inB_n (by omega), show w32 (1 + (b : Int)) = (((1 + b : Nat)) : Int) by rw [w32_i (by omega) (by omega)]; omega, inB_n (by omega), Int.toNat_natCast, Int.toNat_natCast, w32_s (by omega)]
    refine m_st187 D j (b + 1) _ (by omega) (hf.w (by omega)) (fun k hk2 => ?_)
    by_cases c : k = b
    · rw [c, rI_same]; exact hf.i (by omega)
    · rw [rI_other _ _ _ _ (by omega)]; exact hk k (by omega)
theorem m_st215 (D : Nat) {s0 : Mem} {n : Nat} (hn : n ≤ 7) (h1 : rI s0 114 1 = (n : Int)) : ∀ (j b : Nat) (s : Mem), b + j = n → Fr (fun a i => a = 122 ∧ 10 ≤ i ∧ i < 10 + 2 * n ∧ i % 2 = 0) s0 s → (∀ k, k < b → rI s 122 (10 + 2 * k) = rI s0 117 k) → ∃ s1, L_M_stands_215 D (b : Int) s = some (0, wI (wI s1 84 70 0) 84 66 0) ∧ Fr (fun a i => a = 122 ∧ 10 ≤ i ∧ i < 10 + 2 * n ∧ i % 2 = 0) s0 s1 ∧ ∀ k, k < n → rI s1 122 (10 + 2 * k) = rI s0 117 k
  | 0, b, s, hb, hf, hk => by
    rw [e_M_stands_215, hf.i (show ¬ ((114 : Nat) = 122 ∧ 10 ≤ 1 ∧ 1 < 10 + 2 * n ∧ 1 % 2 = 0) by omega), h1, if_neg (by omega)]
    exact ⟨s, rfl, hf, fun k hk2 => hk k (by omega)⟩
  | j + 1, b, s, hb, hf, hk => by
    rw [e_M_stands_215, hf.i (show ¬ ((114 : Nat) = 122 ∧ 10 ≤ 1 ∧ 1 < 10 + 2 * n ∧ 1 % 2 = 0) by omega), h1, if_pos (by omega), inB_n (by omega), show w32 (2 * (b : Int)) = (((2 * b : Nat)) : Int) by rw [w32_i (by omega) (by omega)]; omega, show w32 (10 + ((2 * b : Nat) : Int)) = (((10 + 2 * b : Nat)) : Int) by rw [w32_i (by omega) (by omega)]; omega, inB_n (by omega), Int.toNat_natCast, Int.toNat_natCast, w32_s (by omega)]
    refine m_st215 D hn h1 j (b + 1) _ (by omega) (hf.w (by omega)) (fun k hk2 => ?_)
    by_cases c : k = b
    · rw [c, rI_same]; exact hf.i (by omega)
    · rw [rI_other _ _ _ _ (by omega)]; exact hk k (by omega)
abbrev PMs : Nat → Nat → Prop := fun a i => a = 84 ∧ (i = 49 ∨ i = 66 ∨ i = 70) ∨ a = 114 ∧ 3 ≤ i ∨ (a = 119 ∨ a = 120) ∧ 3 ≤ i ∨ a = 115 ∧ 7 ≤ i ∨ a = 116 ∧ 14 ≤ i ∨ a = 121 ∧ 1600 ≤ i ∨ a = 122
/-- the names and the toast that stand -/
def MNm (s : Mem) (d : Dr) : Prop := (∀ i, i < (dG d).length → rI s 115 (7 + i) = nmB (gg d i).1) ∧ rI s 114 5 = dT d
theorem m_stands (D : Nat) {s : Mem} {d : Dr} {q : Nat} (hd : DOk d) (hq : q ≤ 1600) (hM : MD s d q) (h53 : rI s 84 53 = -1) (h57 : rI s 84 57 = 0) : ∃ s1, f_M_stands (D + 1) s = some (0, s1) ∧ Fr PMs s s1 ∧ MM s1 (dTab d) (dW d) ∧ MNm s1 d ∧ rI s1 122 24 = 0 ∧ rI s1 84 70 = 0 ∧ rI s1 84 66 = 0 := by
  have hg7 := hd.2.1.1
  obtain ⟨⟨y1, y2, y3⟩, y4, y5, n, y6, y7, y8, y9, y10⟩ := hM
  have f0 : Fr (fun a i => a = 84 ∧ i = 49) s (wI s 84 49 1) := Fr.rf.w ⟨rfl, rfl⟩
  obtain ⟨s1, e1, f1, g1⟩ := m_st7 D 3 0 (wI s 84 49 1) rfl Fr.rf (fun k hk => absurd hk (Nat.not_lt_zero _))
  obtain ⟨s2, e2, f2, g2⟩ := m_st34 D 3 0 s1 rfl Fr.rf (fun k hk => absurd hk (Nat.not_lt_zero _))
  obtain ⟨s3, e3, f3, g3⟩ := m_st75 D 7 0 s2 rfl Fr.rf (fun k hk => absurd hk (Nat.not_lt_zero _))
  obtain ⟨s4, e4, f4, g4⟩ := m_st104 D 14 0 s3 rfl Fr.rf (fun k hk => absurd hk (Nat.not_lt_zero _))
  have h47 : rI s4 84 47 = (n : Int) := by rw [f4.i (by omega), f3.i (by omega), f2.i (by omega), f1.i (by omega), f0.i (by omega)]; exact y6
  obtain ⟨s5, e5, f5, g5⟩ := m_st133 D (by omega) h47 n 0 s4 (by omega) Fr.rf (fun k hk => absurd hk (Nat.not_lt_zero _))
  obtain ⟨s6, e6, f6, g6⟩ := m_st165 D (s0 := s5) 185 0 s5 rfl Fr.rf (fun k hk => absurd hk (Nat.not_lt_zero _))
  obtain ⟨s7, e7, f7, g7⟩ := m_st187 D 9 0 s6 rfl Fr.rf (fun k hk => absurd hk (Nat.not_lt_zero _))
  have h71 : rI s7 114 1 = ((dG d).length : Int) := by rw [f7.i (by omega), f6.i (by omega), f5.i (by omega), f4.i (by omega), f3.i (by omega), f2.i (by omega), f1.i (by omega), f0.i (by omega)]; exact y2
  obtain ⟨s8, e8, f8, g8⟩ := m_st215 D hg7 h71 (dG d).length 0 s7 (by omega) Fr.rf (fun k hk => absurd hk (Nat.not_lt_zero _))
  have hE : L_M_stands_7 D 0 (wI s 84 49 1) = some (0, wI (wI s8 84 70 0) 84 66 0) := Eq.trans e1 (Eq.trans e2 (Eq.trans e3 (Eq.trans e4 (Eq.trans e5 (Eq.trans e6 (Eq.trans e7 e8))))))
  have f9 : Fr (fun a i => a = 84 ∧ (i = 66 ∨ i = 70)) s8 (wI (wI s8 84 70 0) 84 66 0) := (Fr.rf.w (by omega)).w (by omega)
  have v70 : rI (wI (wI s8 84 70 0) 84 66 0) 84 70 = 0 := by rw [rI_other _ _ _ _ (by omega), rI_same]
  have v66 : rI (wI (wI s8 84 70 0) 84 66 0) 84 66 = 0 := rI_same _ _ _ _
  rw [e_M_stands, hE]
  generalize wI (wI s8 84 70 0) 84 66 0 = s9 at f9 v70 v66 ⊢
  have q8 : Fr (fun a i => a = 122 ∨ a = 84 ∧ (i = 66 ∨ i = 70)) s5 s9 := (((f6.mo (fun a i q => by omega)).tr (f7.mo (fun a i q => by omega))).tr (f8.mo (fun a i q => by omega))).tr (f9.mo (fun a i q => by omega))
  have q5 : Fr (fun a i => a = 121 ∧ 1600 ≤ i ∨ a = 122 ∨ a = 84 ∧ (i = 66 ∨ i = 70)) s4 s9 := (f5.mo (fun a i q => by omega)).tr (q8.mo (fun a i q => by omega))
  have q4 : Fr (fun a i => a = 116 ∧ 14 ≤ i ∨ a = 121 ∧ 1600 ≤ i ∨ a = 122 ∨ a = 84 ∧ (i = 66 ∨ i = 70)) s3 s9 := (f4.mo (fun a i q => by omega)).tr (q5.mo (fun a i q => by omega))
  have q3 : Fr (fun a i => a = 115 ∧ 7 ≤ i ∨ a = 116 ∧ 14 ≤ i ∨ a = 121 ∧ 1600 ≤ i ∨ a = 122 ∨ a = 84 ∧ (i = 66 ∨ i = 70)) s2 s9 := (f3.mo (fun a i q => by omega)).tr (q4.mo (fun a i q => by omega))
  have q2 : Fr (fun a i => (a = 119 ∨ a = 120) ∧ 3 ≤ i ∨ a = 115 ∧ 7 ≤ i ∨ a = 116 ∧ 14 ≤ i ∨ a = 121 ∧ 1600 ≤ i ∨ a = 122 ∨ a = 84 ∧ (i = 66 ∨ i = 70)) s1 s9 := (f2.mo (fun a i q => by omega)).tr (q3.mo (fun a i q => by omega))
  have q1 : Fr (fun a i => a = 114 ∧ 3 ≤ i ∨ (a = 119 ∨ a = 120) ∧ 3 ≤ i ∨ a = 115 ∧ 7 ≤ i ∨ a = 116 ∧ 14 ≤ i ∨ a = 121 ∧ 1600 ≤ i ∨ a = 122 ∨ a = 84 ∧ (i = 66 ∨ i = 70)) (wI s 84 49 1) s9 := (f1.mo (fun a i q => by omega)).tr (q2.mo (fun a i q => by omega))
  have q0 : Fr PMs s s9 := (f0.mo (fun a i q => by unfold PMs; omega)).tr (q1.mo (fun a i q => by unfold PMs; omega))
  have c114 : ∀ k, k < 3 → rI s9 114 (3 + k) = rI s 114 k := fun k hk => by rw [q2.i (by omega), g1 k hk, f0.i (by omega)]
  have c119 : ∀ k, k < 3 → rI s9 119 (3 + k) = rI s 119 k ∧ rI s9 120 (3 + k) = rI s 120 k := fun k hk => by
    rw [q3.i (by omega), q3.i (by omega), (g2 k hk).1, (g2 k hk).2, f1.i (by omega), f1.i (by omega), f0.i (by omega), f0.i (by omega)]
    exact ⟨rfl, rfl⟩
  have c115 : ∀ k, k < 7 → rI s9 115 (7 + k) = rI s 115 k := fun k hk => by rw [q4.i (by omega), g3 k hk, f2.i (by omega), f1.i (by omega), f0.i (by omega)]
  have c116 : ∀ k, k < 14 → rI s9 116 (14 + k) = rI s 116 k := fun k hk => by rw [q5.i (by omega), g4 k hk, f3.i (by omega), f2.i (by omega), f1.i (by omega), f0.i (by omega)]
  have c121 : ∀ k, k < n → rI s9 121 (1600 + k) = rI s 121 k := fun k hk => by rw [q8.i (by omega), g5 k hk, f4.i (by omega), f3.i (by omega), f2.i (by omega), f1.i (by omega), f0.i (by omega)]
  have c122 : ∀ i, i < 24 → rI s9 122 i = dW d i := fun i hi => by
    rw [f9.i (by omega)]
    by_cases h10 : 10 ≤ i ∧ i < 10 + 2 * (dG d).length ∧ i % 2 = 0
    · obtain ⟨k, rfl⟩ : ∃ k, i = 10 + 2 * k := ⟨(i - 10) / 2, by omega⟩
      have hk : k < (dG d).length := by omega
      rw [g8 k hk, f7.i (by omega), f6.i (by omega), f5.i (by omega), f4.i (by omega), f3.i (by omega), f2.i (by omega), f1.i (by omega), f0.i (by omega), (y4 k hk).2.1, dW_s hk]
    · by_cases h1 : 1 ≤ i ∧ i < 10
      · obtain ⟨k, rfl⟩ : ∃ k, i = 1 + k := ⟨i - 1, by omega⟩
        rw [f8.i (by omega), g7 k (by omega), f6.i (by omega), f5.i (by omega), f4.i (by omega), f3.i (by omega), f2.i (by omega), f1.i (by omega), f0.i (by omega), y5 k (by omega), dW_h (by omega)]
      · rw [f8.i (by omega), f7.i (by omega), g6 i (by omega)]
        unfold dW
        rw [if_neg h1, if_neg h10]
  have cMC : ∀ k, k < 3 → MCd s n k (dC d k) → MC s9 k (tC (dTab d) k) := fun k hk hc => by
    show MC s9 k ((dC d k).getD (dfl k))
    cases e : dC d k with
    | none =>
      rw [e] at hc
      have h1 : rI s 119 k = -1 := hc
      exact Or.inr ⟨by rw [(c119 k hk).1]; exact h1, rfl⟩
    | some cs =>
      rw [e] at hc
      obtain ⟨a, a1, a2, a3, a4⟩ := hc
      exact Or.inl ⟨a, by rw [(c119 k hk).1]; exact a1, by rw [(c119 k hk).2]; exact a2, by show a + cs.length ≤ 1600; omega, fun i hi => by
        have hi2 : i < cs.length := hi
        rw [c121 (a + i) (by omega)]; exact a4 i hi2⟩
  have e53 : rI s9 84 53 = -1 := (q0.i (by unfold PMs; omega)).trans h53
  have z24 : rI s9 122 24 = 0 := by rw [f9.i (by omega), f8.i (by omega), f7.i (by omega)]; exact g6 24 (by omega)
  refine ⟨s9, rfl, q0, ⟨⟨(c114 0 (by omega)).trans y1, (c114 1 (by omega)).trans y2, fun k hk => ?_, fun k hk => ?_, cMC 0 (by decide) y8, cMC 1 (by decide) y9, cMC 2 (by decide) y10⟩, c122, ?_, e53, (q0.i (by unfold PMs; omega)).trans h57⟩, ⟨fun i hi => ?_, (c114 2 (by omega)).trans y3⟩, z24, v70, v66⟩
  · have hk2 : k < (dG d).length := hk
    rw [e53, if_neg (by omega), c116 (2 * k) (by omega)]
    exact (y4 k hk2).2.2.1
  · have hk2 : k < (dG d).length := hk
    rw [show 15 + 2 * k = 14 + (2 * k + 1) by omega, c116 (2 * k + 1) (by omega)]
    exact (y4 k hk2).2.2.2
  · rw [q1.i (by omega), rI_same]
  · rw [c115 i (by omega)]; exact (y4 i hi).1
abbrev PMg : Nat → Nat → Prop := fun a i => PMf a i ∨ a = 84 ∧ (i = 7 ∨ i = 8)
abbrev PMt : Nat → Nat → Prop := fun a i => PMg a i ∨ PMs a i
variable {tp : List Int}
theorem m_tableQ (E : Nat) {s : Mem} (h : MTp s tp) (hb : Bys tp) (hw : MWs s) (h53 : rI s 84 53 = -1) (h57 : rI s 84 57 = 0) : (∀ e, tabP tp = .inl e → ∃ s1, f_M_table (E + 15) s = some (-1, s1) ∧ Fr (fun a i => PMg a i ∨ a = 86 ∧ i = 1) s s1 ∧ rI s1 84 7 = e.1 ∧ rI s1 84 8 = (e.2 : Int) ∧ rI s1 84 1 = 0 ∧ rI s1 86 1 = w32 (rI s 86 1 + 1)) ∧ (∀ d, tabP tp = .inr d → ∃ s1, f_M_table (E + 15) s = some ((d.1 : Int), s1) ∧ Fr PMt s s1 ∧ (rI s1 84 7 = 0 ∧ rI s1 84 8 = -1) ∧ rI s1 84 1 = 0 ∧ MM s1 (dTab d) (dW d) ∧ MNm s1 d ∧ rI s1 122 24 = 0 ∧ rI s1 84 70 = 0 ∧ rI s1 84 66 = 0) := by
  have hl := h.2.1
  obtain ⟨s0, f0, h1, hT⟩ := m_tabT (E + 1) h hb hw
  constructor
  · intro e he
    rw [he] at hT
    obtain ⟨s1, e1, f1, g1⟩ := hT
    have z5 : rI s1 84 5 ≠ 0 := by rw [g1.1.1]; exact g1.1.2
    rw [e1, e_M_table_130, if_neg z5]
    have f2 : Fr (fun a i => a = 84 ∧ (i = 7 ∨ i = 8) ∨ a = 86 ∧ i = 1) s1 (wI (wI (wI s1 84 7 (rI s1 84 5)) 84 8 (rI s1 84 6)) 86 1 (w32 (rI s1 86 1 + 1))) := ((Fr.rf.w (by omega)).w (by omega)).w (by omega)
    have f01 : Fr PMf s s1 := f0.tr (f1.mo (fun a i q => Or.inl q))
    refine ⟨_, rfl, (f01.mo (fun a i q => Or.inl (Or.inl q))).tr (f2.mo (fun a i q => q.elim (fun h => Or.inl (Or.inr h)) Or.inr)), ?_, ?_, ?_, ?_⟩
    · rw [rI_other _ _ _ _ (by omega), rI_other _ _ _ _ (by omega), rI_same]; exact g1.1.1
    · rw [rI_other _ _ _ _ (by omega), rI_same]; exact g1.2
    · rw [f2.i (by omega), f1.i (by unfold PMe; unfold PMd; omega)]; exact h1
    · rw [rI_same, f01.i (by unfold PMf; unfold PMe; unfold PMd; omega)]
  · intro d he
    have hd := tabP_ok h.2.1 he
    rw [he] at hT
    obtain ⟨s1, e1, f1, ⟨g5, g6⟩, ⟨q, hq, M1⟩, g48⟩ := hT
    rw [e1, e_M_table_130, g5, if_pos rfl]
    have f2 : Fr (fun a i => a = 84 ∧ (i = 7 ∨ i = 8)) s1 (wI (wI s1 84 7 0) 84 8 (rI s1 84 6)) := (Fr.rf.w (by omega)).w (by omega)
    have v7 : rI (wI (wI s1 84 7 0) 84 8 (rI s1 84 6)) 84 7 = 0 := by rw [rI_other _ _ _ _ (by omega), rI_same]
    have v8 : rI (wI (wI s1 84 7 0) 84 8 (rI s1 84 6)) 84 8 = -1 := by rw [rI_same]; exact g6
    have f01 : Fr PMf s s1 := f0.tr (f1.mo (fun a i q => Or.inl q))
    generalize wI (wI s1 84 7 0) 84 8 (rI s1 84 6) = s2 at f2 v7 v8 ⊢
    have M2 : MD s2 d q := M1.fr f2 (Nat.le_refl _) (fun a i q => by omega)
    obtain ⟨s3, e3, f3, m3, n3, k3, u3, w3⟩ := m_stands (E + 13) hd hq M2 (by rw [f2.i (by omega), f01.i (by unfold PMf; unfold PMe; unfold PMd; omega)]; exact h53) (by rw [f2.i (by omega), f01.i (by unfold PMf; unfold PMe; unfold PMd; omega)]; exact h57)
    rw [e3, Option.bind_some]
    refine ⟨s3, ?_, ((f01.mo (fun a i q => Or.inl (Or.inl q))).tr (f2.mo (fun a i q => Or.inl (Or.inr q)))).tr (f3.mo (fun a i q => Or.inr q)), ⟨(f3.i (by unfold PMs; omega)).trans v7, (f3.i (by unfold PMs; omega)).trans v8⟩, ?_, m3, n3, k3, u3, w3⟩
    · show some (rI s3 84 48, s3) = some ((d.1 : Int), s3)
      rw [f3.i (by unfold PMs; omega), f2.i (by omega), g48]
    · rw [f3.i (by unfold PMs; omega), f2.i (by omega), f1.i (by unfold PMe; unfold PMd; omega)]; exact h1
end MSTANDS
