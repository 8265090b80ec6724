/-! the reference reads a hoop, a rule, a statement -/
section MRULE
variable {tp : List Int}
theorem any_h {l : List Int} {v : Int} : l.any (fun h => h == v) = true ↔ v ∈ l := by
  rw [List.any_eq_true]
  constructor
  · rintro ⟨y, hy, e⟩
    rw [beq_iff_eq] at e
    rw [← e]; exact hy
  · intro h
    exact ⟨v, h, beq_self_eq_true _⟩
theorem m_hoopS (D : Nat) {q : Nat} {s : Mem} {d : Dr} (hd : DOk d) (h : QA s tp (nx tp q)) (hM : MD s d q) (hlt : q < nx tp q) : MOS tp (f_M_hoopTold (D + 3) s) (hopP tp d q) s := by
  have hN9 := hd.1
  unfold hopP
  rw [e_M_hoopTold, hM.1.1, w32_i (by omega) (by omega)]
  rcases m_numS D h 0 ((dN d : Int) - 1) with ⟨e, s1, x, r1, e1, f1, g1⟩ | ⟨s1, r1, e1, f1, g1, g10, n1, n2⟩
  · have z5 : rI s1 84 5 ≠ 0 := by rw [g1.1.1]; exact g1.1.2
    rw [r1, e1, Option.bind_some]
    simp only []
    rw [if_neg z5, e_M_hoopTold_40, if_neg z5]
    exact ⟨s1, rfl, f1.md, g1⟩
  · have M1 : MD s1 d q := hM.fr f1 (Nat.le_refl _) (fun a k q => by unfold PMn at q; omega)
    obtain ⟨v, hv⟩ := Int.eq_ofNat_of_zero_le n1
    have hv9 : v < 9 := by omega
    have h118 := M1.2.2.1 v hv9
    rw [r1, e1, Option.bind_some]
    simp only [bn]
    rw [g1.2.2.1, if_pos rfl, hv, inB_n (by omega), Int.toNat_natCast, h118]
    by_cases c : (v : Int) ∈ dH d
    · obtain ⟨s2, e2, f2, g2⟩ := m_flS (D + 1) g1.2.2.1 (a := 2) (b := rI s1 84 10) (q := nx tp q) (by decide) g10
      have z5 : rI s2 84 5 ≠ 0 := by rw [g2.1.1]; exact g2.1.2
      rw [if_pos (any_h.mpr c), if_pos c, if_pos rfl, e2, Option.bind_some]
      simp only []
      rw [e_M_hoopTold_40, if_neg z5]
      exact ⟨s2, rfl, f1.md.tr (f2.mo (fun a k q => by unfold PMd; omega)), g2⟩
    · rw [if_neg (fun e => c (any_h.mp e)), if_neg c, if_neg (by decide), e_M_hoopTold_40, g1.2.2.1, if_pos rfl, inB_n (by omega), Int.toNat_natCast]
      have f2 : Fr (fun a k => a = 118 ∧ k = v) s1 (wI s1 118 v 1) := Fr.rf.w ⟨rfl, rfl⟩
      have hlt2 := num_lt r1
      refine ⟨_, rfl, f1.md.tr (f2.mo (fun a k q => by unfold PMd; omega)), g1.fr2 f2 (fun a k q => by omega), ?_⟩
      obtain ⟨⟨y1, y2, y3⟩, y4, y5, n, y6, y7, y8, y9, y10⟩ := M1
      refine ⟨⟨(f2.i (by omega)).trans y1, (f2.i (by omega)).trans y2, (f2.i (by omega)).trans y3⟩, fun i hi => ?_, fun j hj => ?_, n, (f2.i (by omega)).trans y6, ?_, y8.fr f2 (Nat.le_refl _) (fun a i q => by omega), y9.fr f2 (Nat.le_refl _) (fun a i q => by omega), y10.fr f2 (Nat.le_refl _) (fun a i q => by omega)⟩
      · obtain ⟨a1, a2, a3, a4⟩ := y4 i hi
        exact ⟨(f2.i (by omega)).trans a1, (f2.i (by omega)).trans a2, (f2.i (by omega)).trans a3, (f2.i (by omega)).trans a4⟩
      · show _ = if (j : Int) ∈ dH d ++ [(v : Int)] then 1 else 0
        by_cases e : j = v
        · rw [e, rI_same, if_pos (List.mem_append.mpr (Or.inr (List.mem_singleton.mpr rfl)))]
        · rw [rI_other _ _ _ _ (by omega), y5 j hj]
          by_cases m : (j : Int) ∈ dH d
          · rw [if_pos m, if_pos (List.mem_append.mpr (Or.inl m))]
          · rw [if_neg m, if_neg]
            intro q
            rcases List.mem_append.mp q with q | q
            · exact m q
            · have := List.mem_singleton.mp q
              omega
      · show n ≤ nx tp (nx tp q)
        have a1 := hlt2.1
        simp only [] at a1
        omega
theorem m_codes92 (D : Nat) {k : Nat} {cs : List Int} {n0 : Nat} (hk : k < 3) : ∀ (m c : Nat) (s : Mem), c + m = cs.length → n0 + cs.length ≤ 1600 → rI s 84 99 = (cs.length : Int) → Ag s 155 cs → rI s 84 47 = ((n0 + c : Nat) : Int) → (∀ i, i < c → rI s 121 (n0 + i) = cs.getD i 0) → ∃ s1, L_M_codesTold_92 D (k : Int) (c : Int) s = some (0, wI s1 120 k ((n0 + cs.length : Nat) : Int)) ∧ Fr (fun a i => a = 84 ∧ i = 47 ∨ a = 121 ∧ n0 ≤ i ∧ i < 1600) s s1 ∧ rI s1 84 47 = ((n0 + cs.length : Nat) : Int) ∧ ∀ i, i < cs.length → rI s1 121 (n0 + i) = cs.getD i 0
  | 0, c, s, hm, hl, h99, hA, h47, hc => by
    have e : c = cs.length := by omega
    rw [e_M_codesTold_92, h99, if_neg (by omega), inB_n (by omega), Int.toNat_natCast, h47, e]
    rw [e] at hc h47
    exact ⟨s, rfl, Fr.rf, h47, hc⟩
  | m + 1, c, s, hm, hl, h99, hA, h47, hc => by
    rw [e_M_codesTold_92, h99, if_pos (by omega), inB_n (by omega), h47, inB_n (by omega), Int.toNat_natCast, Int.toNat_natCast, hA c (by omega), w32_s (by omega), w32_s (by omega)]
    have f1 : Fr (fun a i => a = 84 ∧ i = 47 ∨ a = 121 ∧ i = n0 + c) s (wI (wI s 121 (n0 + c) (cs.getD c 0)) 84 47 ((n0 + c + 1 : Nat) : Int)) := (Fr.rf.w (by omega)).w (by omega)
    obtain ⟨s1, e1, f2, g1, g2⟩ := m_codes92 D hk m (c + 1) (wI (wI s 121 (n0 + c) (cs.getD c 0)) 84 47 ((n0 + c + 1 : Nat) : Int)) (by omega) hl ((f1.i (by omega)).trans h99) (hA.fr f1 (fun i _ q => by omega)) (rI_same _ _ _ _) (fun i hi => by
      by_cases e : i = c
      · rw [e, rI_other _ _ _ _ (by omega), rI_same]
      · rw [f1.i (by omega)]; exact hc i (by omega))
    exact ⟨s1, e1, (f1.mo (fun a i q => by omega)).tr f2, g1, g2⟩
abbrev PRp : Nat → Nat → Prop := fun a i => (a = 84 ∧ (i = 2 ∨ i = 4 ∨ i = 5 ∨ i = 6 ∨ i = 10 ∨ i = 38 ∨ i = 50 ∨ i = 99 ∨ i = 101 ∨ i = 102 ∨ i = 103)) ∨ a = 155 ∨ a = 156
abbrev PR2 (k n : Nat) : Nat → Nat → Prop := fun a i => a = 119 ∧ i = k ∨ a = 120 ∧ i = k ∨ a = 84 ∧ i = 47 ∨ a = 121 ∧ n ≤ i ∧ i < 1600
abbrev PRl (k n : Nat) : Nat → Nat → Prop := fun a i => PRp a i ∨ PR2 k n a i
theorem PRp_0 : ∀ a i, (a = 84 ∧ (i = 50 ∨ i = 99 ∨ i = 101 ∨ i = 102 ∨ i = 103)) → PRp a i := fun a i q => by unfold PRp; omega
theorem PRp_q : ∀ a i, PQp a i → PRp a i := fun a i q => by unfold PQp at q; unfold PRp; omega
theorem PRp_d : ∀ a i, PRp a i → PMd a i := fun a i q => by unfold PRp at q; unfold PMd; omega
theorem PR2_d {k n : Nat} (hk : k < 3) : ∀ a i, PR2 k n a i → PMd a i := fun a i q => by unfold PR2 at q; unfold PMd; omega
theorem PRl_d {k n : Nat} (hk : k < 3) : ∀ a i, PRl k n a i → PMd a i := fun a i q => q.elim (PRp_d a i) (PR2_d hk a i)
theorem PR2_q {k n : Nat} : ∀ a i, PR2 k n a i → (a = 84 ∧ (i < 2 ∨ 6 < i)) ∨ a < 84 ∨ 114 ≤ a ∧ a < 130 ∨ 155 ≤ a := fun a i q => by unfold PR2 at q; omega
theorem PRl_c {k n j : Nat} (h : j ≠ k) : ∀ a i, PRl k n a i → (a ≠ 119 ∨ i ≠ j) ∧ (a ≠ 120 ∨ i ≠ j) ∧ (a ≠ 121 ∨ n ≤ i) := fun a i q => by unfold PRl PRp PR2 at q; omega
theorem PRl_n {k n a : Nat} (h1 : 114 ≤ a) (h2 : a ≤ 118) : ∀ i, ¬ PRl k n a i := fun i q => by unfold PRl PRp PR2 at q; omega
theorem MD_rule {s s4 : Mem} {d : Dr} {q q1 k n : Nat} {cs : List Int} (hM : MD s d q) (h47 : rI s 84 47 = (n : Int)) (fall : Fr (PRl k n) s s4) (w119 : rI s4 119 k = (n : Int)) (w120 : rI s4 120 k = ((n + cs.length : Nat) : Int)) (w47 : rI s4 84 47 = ((n + cs.length : Nat) : Int)) (wcs : ∀ i, i < cs.length → rI s4 121 (n + i) = cs.getD i 0) (hq : n + cs.length ≤ q1) : MD s4 (d.1, d.2.1, d.2.2.1, d.2.2.2.1, upC (dC d) k cs, d.2.2.2.2.2) q1 := by
  obtain ⟨⟨y1, y2, y3⟩, y4, y5, n', y6, y7, y8⟩ := hM
  have en : n' = n := by omega
  rw [en] at y8
  have hcd : ∀ j, j < 3 → MCd s n j (dC d j) := fun j hj => by
    have h3 : j = 0 ∨ j = 1 ∨ j = 2 := by omega
    rcases h3 with rfl | rfl | rfl
    · exact y8.1
    · exact y8.2.1
    · exact y8.2.2
  have hnew : ∀ j, j < 3 → MCd s4 (n + cs.length) j (upC (dC d) k cs j) := fun j hj => by
    unfold upC
    by_cases c : j = k
    · rw [if_pos c, c]
      exact ⟨n, w119, w120, Nat.le_refl _, wcs⟩
    · rw [if_neg c]
      exact (hcd j hj).fr fall (Nat.le_add_right _ _) (PRl_c c)
  refine ⟨⟨(fall.i (PRl_n (by decide) (by decide) _)).trans y1, (fall.i (PRl_n (by decide) (by decide) _)).trans y2, (fall.i (PRl_n (by decide) (by decide) _)).trans y3⟩, fun i hi => ?_, fun j hj => (fall.i (PRl_n (by decide) (by decide) _)).trans (y5 j hj), n + cs.length, w47, hq, hnew 0 (by decide), hnew 1 (by decide), hnew 2 (by decide)⟩
  obtain ⟨a1, a2, a3, a4⟩ := y4 i hi
  exact ⟨(fall.i (PRl_n (by decide) (by decide) _)).trans a1, (fall.i (PRl_n (by decide) (by decide) _)).trans a2, (fall.i (PRl_n (by decide) (by decide) _)).trans a3, (fall.i (PRl_n (by decide) (by decide) _)).trans a4⟩
theorem m_ruleS (E : Nat) {q k : Nat} {s : Mem} {d : Dr} (hk : k < 3) (h : QA s tp (nx tp q)) (hM : MD s d q) (hlt : q < nx tp q) : MOS tp (f_M_codesTold (E + 12) (k : Int) (q : Int) s) (rulP tp k d q) s := by
  have h5 := h.2.2.1
  have h16 := h.1.2.1
  have hM0 := hM
  obtain ⟨-, -, -, n, y6, y7, y8⟩ := hM
  have hck : MCd s n k (dC d k) := by
    have h3 : k = 0 ∨ k = 1 ∨ k = 2 := by omega
    rcases h3 with rfl | rfl | rfl
    · exact y8.1
    · exact y8.2.1
    · exact y8.2.2
  unfold rulP
  rw [e_M_codesTold, h5, if_pos rfl, inB_n (by omega), Int.toNat_natCast]
  cases hC : dC d k with
  | some cs =>
    rw [hC] at hck
    obtain ⟨a, a1, -⟩ := hck
    obtain ⟨s1, e1, f1, g1⟩ := m_flS (E + 10) h5 (a := 5) (b := (q : Int)) (q := q) (by decide) rfl
    have z5 : rI s1 84 5 ≠ 0 := by rw [g1.1.1]; exact g1.1.2
    rw [a1, if_neg (by omega), e1, Option.bind_some]
    simp only []
    rw [e_M_codesTold_23, if_neg z5]
    exact ⟨s1, rfl, f1.mo (fun a k q => by unfold PMd; omega), g1⟩
  | none =>
    rw [hC] at hck
    have a1 : rI s 119 k = -1 := hck
    rw [a1, if_pos rfl, e_M_codesTold_23, h5, if_pos rfl]
    have f0 : Fr (fun a i => a = 84 ∧ (i = 50 ∨ i = 99 ∨ i = 101 ∨ i = 102 ∨ i = 103)) s (wI (wI (wI (wI (wI s 84 50 (k : Int)) 84 99 0) 84 101 0) 84 102 0) 84 103 0) := ((((Fr.rf.w (by omega)).w (by omega)).w (by omega)).w (by omega)).w (by omega)
    have K0 : QK (wI (wI (wI (wI (wI s 84 50 (k : Int)) 84 99 0) 84 101 0) 84 102 0) 84 103 0) k [] [] 0 0 := by
      refine ⟨?_, ⟨?_, fun i hi => absurd hi (Nat.not_lt_zero _)⟩, ⟨?_, fun i hi => absurd hi (Nat.not_lt_zero _)⟩, ?_, ?_⟩
      · simp (disch := omega) only [rI_other, rI_same]
      · have : rI (wI (wI (wI (wI (wI s 84 50 (k : Int)) 84 99 0) 84 101 0) 84 102 0) 84 103 0) 84 99 = 0 := by simp (disch := omega) only [rI_other, rI_same]
        exact this
      · have : rI (wI (wI (wI (wI (wI s 84 50 (k : Int)) 84 99 0) 84 101 0) 84 102 0) 84 103 0) 84 101 = 0 := by simp (disch := omega) only [rI_other, rI_same]
        exact this
      · have : rI (wI (wI (wI (wI (wI s 84 50 (k : Int)) 84 99 0) 84 101 0) 84 102 0) 84 103 0) 84 102 = 0 := by simp (disch := omega) only [rI_other, rI_same]
        exact this
      · exact rI_same _ _ _ _
    generalize wI (wI (wI (wI (wI s 84 50 (k : Int)) 84 99 0) 84 101 0) 84 102 0) 84 103 0 = s0 at f0 K0 ⊢
    have g0 : QA s0 tp (nx tp q) := h.fr2 f0 (fun a i q => by omega)
    have hT : TPr tp (if k = 1 then f_M_qTest (E + 11) s0 else f_M_qSums (E + 11) s0) (fun s1 => some (0, s1)) (cdP tp k (nx tp q)) s0 k [] [] 0 0 := by
      unfold cdP
      by_cases c : k = 1
      · rw [if_pos c, if_pos c]
        exact m_qTest E (by omega) (by omega) g0 K0 (Nat.zero_le _)
      · rw [if_neg c, if_neg c]
        have := m_qSums (E + 3) (n := 6) (b0 := 0) (W := []) (C := []) (by omega) (by omega) g0 K0 (Nat.zero_le _) (by decide) (by decide)
        rcases this.cs with ⟨e, s1, r1, r2, r3, r4⟩ | ⟨q1, c1, s1, r1, r2, r3, r4, r5⟩
        · rw [r1]; exact ⟨s1, r2, r3, r4.l⟩
        · rw [r1]; exact ⟨s1, r2, r3, r4, r5⟩
    have hbr : (if (k : Int) = 1 then ((f_M_qTest (E + 11) s0).bind fun p1 => L_M_codesTold_72 (E + 11) (k : Int) p1.2) else (f_M_qSums (E + 11) s0).bind fun p1 => L_M_codesTold_72 (E + 11) (k : Int) p1.2) = ((if k = 1 then f_M_qTest (E + 11) s0 else f_M_qSums (E + 11) s0).bind fun p1 => L_M_codesTold_72 (E + 11) (k : Int) p1.2) := by
      by_cases c : k = 1
      · rw [if_pos c, if_pos (by omega)]
      · rw [if_neg c, if_neg (by omega)]
    have f0p : Fr PRp s s0 := f0.mo PRp_0
    rw [hbr]
    rcases hT.cs with ⟨e, s1, r1, e1, f1, g1⟩ | ⟨q1, cs, s1, r1, e1, f1, g1, K1⟩
    · have z5 : rI s1 84 5 ≠ 0 := by rw [g1.1.1]; exact g1.1.2
      rw [r1, e1, Option.bind_some]
      simp only []
      rw [e_M_codesTold_72, if_neg z5]
      exact ⟨s1, rfl, (f0p.tr (f1.mo PRp_q)).mo PRp_d, g1⟩
    · rw [List.nil_append] at K1
      obtain ⟨b1, b2, b3⟩ := cdP_g k _ _ _ h.lq r1
      have hq1 := b3.1
      have fp : Fr PRp s s1 := f0p.tr (f1.mo PRp_q)
      have h47 : rI s1 84 47 = (n : Int) := (fp.i (by unfold PRp; omega)).trans y6
      rw [r1, e1, Option.bind_some]
      simp only [bn]
      rw [e_M_codesTold_72, g1.2.2.1, if_pos rfl, inB_n (by omega), Int.toNat_natCast, h47]
      have f2 : Fr (fun a i => a = 119 ∧ i = k) s1 (wI s1 119 k (n : Int)) := Fr.rf.w ⟨rfl, rfl⟩
      obtain ⟨s3, e3, f3, k47, kcs⟩ := m_codes92 (E + 11) (n0 := n) (cs := cs) hk cs.length 0 (wI s1 119 k (n : Int)) (by omega) (by omega) ((f2.i (by omega)).trans K1.2.1.1) (K1.2.1.2.fr f2 (fun i _ q => by omega)) (by rw [f2.i (by omega), h47]; rfl) (fun i hi => absurd hi (Nat.not_lt_zero _))
      have e3' : L_M_codesTold_92 (E + 11) (k : Int) 0 (wI s1 119 k (n : Int)) = some (0, wI s3 120 k ((n + cs.length : Nat) : Int)) := e3
      have f4 : Fr (fun a i => a = 120 ∧ i = k) s3 (wI s3 120 k ((n + cs.length : Nat) : Int)) := Fr.rf.w ⟨rfl, rfl⟩
      have f24 : Fr (PR2 k n) s1 (wI s3 120 k ((n + cs.length : Nat) : Int)) := ((f2.mo (fun a i q => Or.inl q)).tr (f3.mo (fun a i q => Or.inr (Or.inr q)))).tr (f4.mo (fun a i q => Or.inr (Or.inl q)))
      have fall : Fr (PRl k n) s (wI s3 120 k ((n + cs.length : Nat) : Int)) := (fp.mo (fun a i q => Or.inl q)).tr (f24.mo (fun a i q => Or.inr q))
      have w119 : rI (wI s3 120 k ((n + cs.length : Nat) : Int)) 119 k = (n : Int) := by rw [f4.i (by omega), f3.i (by omega), rI_same]
      have w120 : rI (wI s3 120 k ((n + cs.length : Nat) : Int)) 120 k = ((n + cs.length : Nat) : Int) := rI_same _ _ _ _
      have w47 : rI (wI s3 120 k ((n + cs.length : Nat) : Int)) 84 47 = ((n + cs.length : Nat) : Int) := by rw [f4.i (by omega)]; exact k47
      have wcs : ∀ i, i < cs.length → rI (wI s3 120 k ((n + cs.length : Nat) : Int)) 121 (n + i) = cs.getD i 0 := fun i hi => by rw [f4.i (by omega)]; exact kcs i hi
      rw [e3']
      refine ⟨_, rfl, fall.mo (PRl_d hk), g1.fr2 f24 PR2_q, MD_rule hM0 y6 fall w119 w120 w47 wcs ?_⟩
      have b4 : nx tp q + cs.length ≤ q1 := b2
      exact Nat.le_trans (Nat.add_le_add_right (Nat.le_trans y7 (Nat.le_of_lt hlt)) _) b4
end MRULE
