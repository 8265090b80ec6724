/-! the reference reads a guest, a hoop, a rule -/
section MGUEST
variable {tp : List Int}
abbrev P8 (n : Nat) : Nat → Nat → Prop := fun a k => a = 115 ∧ k = n ∨ a = 117 ∧ k = n ∨ a = 116 ∧ (k = 2 * n ∨ k = 2 * n + 1) ∨ a = 114 ∧ k = 1
theorem P8_d {n : Nat} (hn : n < 7) : ∀ a k, P8 n a k → PMd a k := fun a k q => by unfold P8 at q; unfold PMd; omega
theorem P8_q {n : Nat} : ∀ a k, P8 n a k → (a = 84 ∧ (k < 2 ∨ 6 < k)) ∨ a < 84 ∨ 114 ≤ a ∧ a < 130 ∨ 155 ≤ a := fun a k q => by unfold P8 at q; omega
theorem MD_guest {s7 s8 : Mem} {d : Dr} {q q' : Nat} {nm : List Int} {v3 v5 v7 : Int} (hg : (dG d).length < 7) (M7 : MD s7 d q) (f8 : Fr (P8 (dG d).length) s7 s8) (t1 : rI s8 115 (dG d).length = nmB nm) (t2 : rI s8 117 (dG d).length = v3) (t3 : rI s8 116 (2 * (dG d).length) = v5) (t4 : rI s8 116 (2 * (dG d).length + 1) = v7) (t5 : rI s8 114 1 = (((dG d).length + 1 : Nat) : Int)) (hq : q ≤ q') : MD s8 (d.1, d.2.1, dG d ++ [(nm, v3, v5, v7)], d.2.2.2) q' := by
  have hgl : (dG (d.1, d.2.1, dG d ++ [(nm, v3, v5, v7)], d.2.2.2)).length = (dG d).length + 1 := by
    show (dG d ++ [_]).length = _
    rw [List.length_append]; rfl
  obtain ⟨⟨y1, y2, y3⟩, y4, y5, n, y6, y7, y8, y9, y10⟩ := M7
  refine ⟨⟨(f8.i (by unfold P8; omega)).trans y1, ?_, (f8.i (by unfold P8; omega)).trans y3⟩, fun i hi => ?_, fun j hj => (f8.i (by unfold P8; omega)).trans (y5 j hj), n, (f8.i (by unfold P8; omega)).trans y6, Nat.le_trans y7 hq, y8.fr f8 (Nat.le_refl _) (fun a i q => by unfold P8 at q; omega), y9.fr f8 (Nat.le_refl _) (fun a i q => by unfold P8 at q; omega), y10.fr f8 (Nat.le_refl _) (fun a i q => by unfold P8 at q; omega)⟩
  · rw [t5, hgl]
  · rw [hgl] at hi
    rw [gg_app (d := (d.1, d.2.1, dG d ++ [(nm, v3, v5, v7)], d.2.2.2)) rfl]
    by_cases c : i < (dG d).length
    · rw [if_pos c]
      obtain ⟨a1, a2, a3, a4⟩ := y4 i c
      exact ⟨(f8.i (by unfold P8; omega)).trans a1, (f8.i (by unfold P8; omega)).trans a2, (f8.i (by unfold P8; omega)).trans a3, (f8.i (by unfold P8; omega)).trans a4⟩
    · have ei : i = (dG d).length := by omega
      rw [if_neg c, if_pos ei, ei]
      exact ⟨t1, t2, t3, t4⟩
theorem m_guestS (D : Nat) {q : Nat} {s : Mem} {d : Dr} (hd : DOk d) (h : QA s tp (nx tp q)) (hM : MD s d q) (hlt : q < nx tp q) : MOS tp (f_M_guestTold (D + 6) (q : Int) s) (gstP tp d q) s := by
  have h5 := h.2.2.1
  have hg7 := hd.2.1.1
  have hN9 := hd.1
  have h1 := hM.1.2.1
  unfold gstP
  rw [e_M_guestTold, h5, if_pos rfl, h1]
  by_cases c7 : (dG d).length = 7
  · obtain ⟨s1, e1, f1, g1⟩ := m_flS (D + 4) h5 (a := 5) (b := (q : Int)) (q := q) (by decide) rfl
    rw [if_pos c7, if_pos (by omega), e1, Option.bind_some]
    exact ⟨s1, by rw [e_M_guestTold_24, if_neg (by rw [g1.1.1]; exact g1.1.2)], f1.mo (fun a k q => by unfold PMd; omega), g1⟩
  · rw [if_neg c7, if_neg (by omega), e_M_guestTold_24, h5, if_pos rfl]
    rcases m_namS (D + 1) h with ⟨e, s1, x, r1, e1, f1, g1⟩ | ⟨q2, s1, r1, k1, k6, e1, f1, g1, g38⟩
    · have h1' : rI s1 114 1 = ((dG d).length : Int) := (f1.i (by unfold PMn; omega)).trans h1
      have hz : L_M_guestTold_40 (D + 5) x 0 s1 = some (0, s1) := m_gt40d (D + 4) x (by rw [g1.1.1]; exact g1.1.2) h1' hg7 (dG d).length 0 (by omega)
      rw [r1, e1, Option.bind_some]
      exact ⟨s1, hz, f1.md, g1⟩
    · have hnm := nmX_p k1 k6
      have M1 : MD s1 d q := hM.fr f1 (Nat.le_refl _) (fun a k q => by unfold PMn at q; omega)
      have h40 := m_gt40 (D + 3) hd M1 g1.2.2.1 g38 hnm.2.2 (dG d).length 0 (by omega) (fun i hi => absurd hi (Nat.not_lt_zero _))
      rw [nmv_B h.lq] at e1
      rw [r1, e1, Option.bind_some]
      simp only [bn]
      by_cases ca : (dG d).any (fun g => g.1 == nmX tp (nx tp q)) = true
      · obtain ⟨s2, e2, f2, g2⟩ := h40.1 (any_nm.mp ca)
        rw [if_pos ca]
        exact ⟨s2, e2, f1.md.tr f2.md, g2⟩
      · have e2 : L_M_guestTold_40 (D + 5) (nmB (nmX tp (nx tp q))) 0 s1 = L_M_guestTold_40 (D + 5) (nmB (nmX tp (nx tp q))) ((dG d).length : Int) s1 := h40.2 (fun i hi e => ca (any_nm.mpr ⟨i, hi, e⟩))
        rw [if_neg ca, e2, e_M_guestTold_40, M1.1.2.1, if_neg (by omega)]
        rcases m_wrdS (D + 1) (n := 2) (o := 89) (i := 2) g1 rfl rfl rfl with ⟨e, s2, r2, e3, f2, g2⟩ | ⟨q3, s2, r2, e3, f2, g2⟩
        · have hz : ∀ b c : Int, L_M_guestTold_111 (D + 5) b c 0 s2 = some (0, s2) := fun b c => m_gt111d (D + 4) b c (by rw [g2.1.1]; exact g2.1.2) ((f2.i (by unfold PMn; omega)).trans M1.1.2.1) hg7 (dG d).length 0 (by omega)
          rw [r2, e3, Option.bind_some]
          simp only []
          rw [m_number0 (D + 4) _ _ (by rw [g2.1.1]; exact g2.1.2), Option.bind_some]
          exact ⟨s2, hz _ _, f1.md.tr f2.md, g2⟩
        · have M2 : MD s2 d q := M1.fr f2 (Nat.le_refl _) (fun a k q => by unfold PMn at q; omega)
          rw [r2, e3, Option.bind_some]
          simp only [bn]
          rw [M2.1.1, w32_i (by omega) (by omega)]
          rcases m_numS (D + 3) g2 0 ((dN d : Int) - 1) with ⟨e, s3, x, r3, e4, f3, g3⟩ | ⟨s3, r3, e4, f3, g3, g10, n1, n2⟩
          · have hz : ∀ b c : Int, L_M_guestTold_111 (D + 5) b c 0 s3 = some (0, s3) := fun b c => m_gt111d (D + 4) b c (by rw [g3.1.1]; exact g3.1.2) ((f3.i (by unfold PMn; omega)).trans M2.1.2.1) hg7 (dG d).length 0 (by omega)
            rw [r3, e4, Option.bind_some]
            exact ⟨s3, hz _ _, (f1.md.tr f2.md).tr f3.md, g3⟩
          · have M3 : MD s3 d q := M2.fr f3 (Nat.le_refl _) (fun a k q => by unfold PMn at q; omega)
            have h111 := m_gt111 (D + 3) (b := nmB (nmX tp (nx tp q))) (v := nu tp q3) hd M3 g3.2.2.1 g10 (dG d).length 0 (by omega) (fun i hi => absurd hi (Nat.not_lt_zero _))
            rw [r3, e4, Option.bind_some]
            simp only []
            by_cases cb : (dG d).any (fun g => g.2.1 == nu tp q3) = true
            · obtain ⟨s4, e5, f4, g4⟩ := h111.1 (any_ste.mp cb)
              rw [if_pos cb]
              exact ⟨s4, e5, ((f1.md.tr f2.md).tr f3.md).tr f4.md, g4⟩
            · have e5 : L_M_guestTold_111 (D + 5) (nmB (nmX tp (nx tp q))) (nu tp q3) 0 s3 = L_M_guestTold_111 (D + 5) (nmB (nmX tp (nx tp q))) (nu tp q3) ((dG d).length : Int) s3 := h111.2 (fun i hi e => cb (any_ste.mpr ⟨i, hi, e⟩))
              have f123 := (f1.md.tr f2.md).tr f3.md
              rw [if_neg cb, e5, e_M_guestTold_111, M3.1.2.1, if_neg (by omega)]
              rcases m_wrdS (D + 1) (n := 3) (o := 90) (i := 3) g3 rfl rfl rfl with ⟨e, s4, r4, e6, f4, g4⟩ | ⟨q5, s4, r4, e6, f4, g4⟩
              · have z5 : rI s4 84 5 ≠ 0 := by rw [g4.1.1]; exact g4.1.2
                rw [r4, e6, Option.bind_some]
                simp only []
                rw [m_number0 (D + 4) _ _ z5, Option.bind_some]
                simp only []
                rw [m_asks0 (D + 4) _ _ z5, Option.bind_some]
                simp only []
                rw [m_number0 (D + 4) _ _ z5, Option.bind_some]
                exact ⟨s4, if_neg z5, f123.tr f4.md, g4⟩
              · rw [r4, e6, Option.bind_some]
                simp only []
                rcases m_numS (D + 3) g4 0 9 with ⟨e, s5, x, r5, e7, f5, g5⟩ | ⟨s5, r5, e7, f5, g5, -, n3, n4⟩
                · have z5 : rI s5 84 5 ≠ 0 := by rw [g5.1.1]; exact g5.1.2
                  rw [r5, e7, Option.bind_some]
                  simp only []
                  rw [m_asks0 (D + 4) _ _ z5, Option.bind_some]
                  simp only []
                  rw [m_number0 (D + 4) _ _ z5, Option.bind_some]
                  exact ⟨s5, if_neg z5, (f123.tr f4.md).tr f5.md, g5⟩
                · rw [r5, e7, Option.bind_some]
                  simp only []
                  rcases m_wrdS (D + 1) (n := 3) (o := 91) (i := 4) g5 rfl rfl rfl with ⟨e, s6, r6, e8, f6, g6⟩ | ⟨q7, s6, r6, e8, f6, g6⟩
                  · have z5 : rI s6 84 5 ≠ 0 := by rw [g6.1.1]; exact g6.1.2
                    rw [r6, e8, Option.bind_some]
                    simp only []
                    rw [m_number0 (D + 4) _ _ z5, Option.bind_some]
                    exact ⟨s6, if_neg z5, ((f123.tr f4.md).tr f5.md).tr f6.md, g6⟩
                  · rw [r6, e8, Option.bind_some]
                    simp only []
                    rcases m_numS (D + 3) g6 0 9 with ⟨e, s7, x, r7, e9, f7, g7⟩ | ⟨s7, r7, e9, f7, g7, -, n5, n6⟩
                    · have z5 : rI s7 84 5 ≠ 0 := by rw [g7.1.1]; exact g7.1.2
                      rw [r7, e9, Option.bind_some]
                      exact ⟨s7, if_neg z5, (((f123.tr f4.md).tr f5.md).tr f6.md).tr f7.md, g7⟩
                    · have M7 : MD s7 d q := (((M3.fr f4 (Nat.le_refl _) (fun a k q => by unfold PMn at q; omega)).fr f5 (Nat.le_refl _) (fun a k q => by unfold PMn at q; omega)).fr f6 (Nat.le_refl _) (fun a k q => by unfold PMn at q; omega)).fr f7 (Nat.le_refl _) (fun a k q => by unfold PMn at q; omega)
                      have k7 := M7.1.2.1
                      rw [r7, e9, Option.bind_some]
                      simp only []
                      rw [g7.2.2.1, if_pos rfl, k7, inB_n (by omega), inB_n (by omega), show w32 (2 * ((dG d).length : Int)) = ((2 * (dG d).length : Nat) : Int) by rw [w32_i (by omega) (by omega)]; omega, inB_n (by omega), w32_s (by omega), inB_n (by omega), Int.toNat_natCast, Int.toNat_natCast, Int.toNat_natCast, w32_s (by omega)]
                      have f8 : Fr (P8 (dG d).length) s7 (wI (wI (wI (wI (wI s7 115 (dG d).length (nmB (nmX tp (nx tp q)))) 117 (dG d).length (nu tp q3)) 116 (2 * (dG d).length) (nu tp q5)) 116 (2 * (dG d).length + 1) (nu tp q7)) 114 1 (((dG d).length + 1 : Nat) : Int)) := ((((Fr.rf.w (Or.inl ⟨rfl, rfl⟩)).w (Or.inr (Or.inl ⟨rfl, rfl⟩))).w (Or.inr (Or.inr (Or.inl ⟨rfl, Or.inl rfl⟩)))).w (Or.inr (Or.inr (Or.inl ⟨rfl, Or.inr rfl⟩)))).w (Or.inr (Or.inr (Or.inr ⟨rfl, rfl⟩)))
                      have t1 : rI (wI (wI (wI (wI (wI s7 115 (dG d).length (nmB (nmX tp (nx tp q)))) 117 (dG d).length (nu tp q3)) 116 (2 * (dG d).length) (nu tp q5)) 116 (2 * (dG d).length + 1) (nu tp q7)) 114 1 (((dG d).length + 1 : Nat) : Int)) 115 (dG d).length = nmB (nmX tp (nx tp q)) := by simp (disch := omega) only [rI_other, rI_same]
                      have t2 : rI (wI (wI (wI (wI (wI s7 115 (dG d).length (nmB (nmX tp (nx tp q)))) 117 (dG d).length (nu tp q3)) 116 (2 * (dG d).length) (nu tp q5)) 116 (2 * (dG d).length + 1) (nu tp q7)) 114 1 (((dG d).length + 1 : Nat) : Int)) 117 (dG d).length = nu tp q3 := by simp (disch := omega) only [rI_other, rI_same]
                      have t3 : rI (wI (wI (wI (wI (wI s7 115 (dG d).length (nmB (nmX tp (nx tp q)))) 117 (dG d).length (nu tp q3)) 116 (2 * (dG d).length) (nu tp q5)) 116 (2 * (dG d).length + 1) (nu tp q7)) 114 1 (((dG d).length + 1 : Nat) : Int)) 116 (2 * (dG d).length) = nu tp q5 := by simp (disch := omega) only [rI_other, rI_same]
                      have t4 : rI (wI (wI (wI (wI (wI s7 115 (dG d).length (nmB (nmX tp (nx tp q)))) 117 (dG d).length (nu tp q3)) 116 (2 * (dG d).length) (nu tp q5)) 116 (2 * (dG d).length + 1) (nu tp q7)) 114 1 (((dG d).length + 1 : Nat) : Int)) 116 (2 * (dG d).length + 1) = nu tp q7 := by simp (disch := omega) only [rI_other, rI_same]
                      have t5 : rI (wI (wI (wI (wI (wI s7 115 (dG d).length (nmB (nmX tp (nx tp q)))) 117 (dG d).length (nu tp q3)) 116 (2 * (dG d).length) (nu tp q5)) 116 (2 * (dG d).length + 1) (nu tp q7)) 114 1 (((dG d).length + 1 : Nat) : Int)) 114 1 = (((dG d).length + 1 : Nat) : Int) := rI_same _ _ _ _
                      generalize wI (wI (wI (wI (wI s7 115 (dG d).length (nmB (nmX tp (nx tp q)))) 117 (dG d).length (nu tp q3)) 116 (2 * (dG d).length) (nu tp q5)) 116 (2 * (dG d).length + 1) (nu tp q7)) 114 1 (((dG d).length + 1 : Nat) : Int) = s8 at f8 t1 t2 t3 t4 t5 ⊢
                      have p1 := num_lt r3
                      have p2 := num_lt r5
                      have p3 := num_lt r7
                      have p4 := wrd_lt (by decide) r2
                      have p5 := wrd_lt (by decide) r4
                      have p6 := wrd_lt (by decide) r6
                      have p7 := nam_lt r1
                      refine ⟨s8, rfl, ((((f123.tr f4.md).tr f5.md).tr f6.md).tr f7.md).tr (f8.mo (P8_d (Nat.lt_of_le_of_ne hg7 c7))), g7.fr2 f8 P8_q, MD_guest (Nat.lt_of_le_of_ne hg7 c7) M7 f8 t1 t2 t3 t4 t5 (Nat.le_of_lt ?_)⟩
                      exact Nat.lt_trans hlt (Nat.lt_trans p7.1 (Nat.lt_trans p4.1 (Nat.lt_trans p1.1 (Nat.lt_trans p5.1 (Nat.lt_trans p2.1 (Nat.lt_trans p6.1 p3.1))))))
end MGUEST
