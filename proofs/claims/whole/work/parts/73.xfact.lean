/-! the class reads facts and tests -/
section XFACT
variable {tp : List Int} {cp k : Nat}
def XSubF (tp : List Int) (cp k : Nat) (E o : Nat) : Option (Nat → Res) → Prop
  | none => o = 6
  | some fa => o < 6 ∧ Good tp fa ∧ (∀ s q C, XPs tp cp k s q C (o + 1) → C.length ≤ q → XRes tp cp k (f_Rd_readTest (E + 5) s) (tesP tp fa q) s C (o + 1)) ∧ ∀ s q C, XPs tp cp k s q C (o + 1) → C.length ≤ q → XRes tp cp k (f_Rd_readFact (E + 4) s) (fa q) s C (o + 1)
theorem oC_0 {q : Nat} (h : oC tp q = 0) : sg tp q ≠ 60 ∧ sg tp q ≠ 62 ∧ sg tp q ≠ 61 := by
  unfold oC at h
  split at h
  · cases h
  · next n1 =>
    split at h
    · cases h
    · next n2 =>
      split at h
      · cases h
      · next n3 => exact ⟨n1, n2, n3⟩
theorem oC_1 {q : Nat} (h : oC tp q ≠ 0) : (sg tp q = 60 ∧ oC tp q = 7) ∨ (sg tp q = 62 ∧ oC tp q = 8) ∨ (sg tp q = 61 ∧ oC tp q = 9) := by
  unfold oC at h ⊢
  split at h
  · next n1 => rw [if_pos n1]; exact Or.inl ⟨n1, rfl⟩
  · next n1 =>
    split at h
    · next n2 => rw [if_neg n1, if_pos n2]; exact Or.inr (Or.inl ⟨n2, rfl⟩)
    · next n2 =>
      split at h
      · next n3 => rw [if_neg n1, if_neg n2, if_pos n3]; exact Or.inr (Or.inr ⟨n3, rfl⟩)
      · exact absurd rfl h
theorem x_facS (E : Nat) {o n : Nat} {sub : Option (Nat → Res)} (hb : Bys tp) (hc : 4 ≤ cp) (ho : o ≤ 6) (hsub : XSubF tp cp k E o sub) (hS : ∀ s q C, XPs tp cp k s q C o → C.length ≤ q → XRes tp cp k (f_Rd_readSum (E + 5) s) (sumL tp k n q) s C o) {s : Mem} {q : Nat} {C : List Int} (h : XPs tp cp k s q C o) (hl : C.length ≤ q) : XRes tp cp k (f_Rd_readFact (E + 6) s) (facS tp k n sub q) s C o := by
  have hl16 := h.1.1.2.1
  have hq := h.2.2.2
  have r11 := h.1.2.2.2.2.1
  have r12 := h.1.2.2.2.2.2.1
  rw [e_Rd_readFact, r11, r12]
  unfold facS
  by_cases c23 : wd tp q = 23
  · rw [if_pos c23, if_pos c23]
    apply XRes.wr
    obtain ⟨n1, n2, n3⟩ := nx_w c23 (by decide)
    rw [e_Rd_readNot]
    have hop := x_opn E h hb hc ho
    match sub, hsub with
    | none, hsub =>
      obtain ⟨s1, e1, f1, g1, g2⟩ := hop.2 hsub
      rw [e1, Option.bind_some]
      simp only []
      rw [if_pos trivial]
      exact ⟨s1, rfl, f1, g1, g2⟩
    | some fa, ⟨ho6, hg, hT, hF⟩ =>
      obtain ⟨s1, e1, f1, g1⟩ := hop.1 ho6
      rw [e1, Option.bind_some]
      simp only []
      rw [if_neg (by decide)]
      rcases (hF s1 _ _ g1 (by omega)).cs with ⟨er, s2, r1, r2, f2, g2, g3⟩ | ⟨q1, c1, s2, r1, r2, f2, g2⟩
      · rw [r1, r2, Option.bind_some]
        simp only []
        rw [if_pos trivial]
        exact ⟨s2, rfl, f1.tr f2, g2, g3⟩
      · obtain ⟨b1, b2, b3⟩ := hg _ _ _ n2.1 r1
        have hl3 : (C ++ c1).length < 1600 := by
          have := g2.2.2.2
          rw [List.length_append]; omega
        rw [r1, r2, Option.bind_some]
        simp only [bnd]
        rw [if_neg (by decide), g2.2.1.2.2.1, show ((o + 1 : Nat) : Int) - 1 = (o : Int) by omega, w32_i (z := (o : Int)) (by omega) (by omega)]
        have g3 := g2.op (o' := o) hc
        obtain ⟨s7, e7, f7, g7⟩ := x_addp (E + 3) (c := 12) (z := 10023) g3 hc hl3 rfl
        rw [rQ_wI] at e7
        rw [e7, Option.bind_some]
        have hh : C ++ (c1 ++ [12]) = C ++ c1 ++ [12] := by simp only [List.append_assoc]
        exact ⟨s7, rfl, ((f1.tr f2).w (by unfold PXp; omega)).tr f7, by rw [hh]; exact g7⟩
  · rw [if_neg c23, if_neg c23]
    by_cases c24 : wd tp q = 24
    · rw [if_pos c24, if_pos c24]
      obtain ⟨n1, n2, n3⟩ := nx_w c24 (by decide)
      obtain ⟨s1, e1, f1, g1⟩ := x_addp (E + 4) (c := 13) (z := 1) h hc (by omega) rfl
      obtain ⟨s2, e2, f2, g2⟩ := x_nxp (E + 2) g1 hb hc
      rw [e1, Option.bind_some]
      simp only []
      rw [e2, Option.bind_some]
      exact ⟨s2, rfl, f1.tr f2, g2⟩
    · rw [if_neg c24, if_neg c24]
      by_cases c91 : sg tp q = 91
      · rw [if_pos c91, if_pos c91]
        obtain ⟨n1, n2, n3⟩ := nx_s c91 (by decide)
        have hop := x_opn (E + 1) h hb hc ho
        match sub, hsub with
        | none, hsub =>
          obtain ⟨s1, e1, f1, g1, g2⟩ := hop.2 hsub
          rw [e1, Option.bind_some]
          simp only []
          rw [if_pos trivial]
          exact ⟨s1, rfl, f1, g1, g2⟩
        | some fa, ⟨ho6, hg, hT, hF⟩ =>
          obtain ⟨s1, e1, f1, g1⟩ := hop.1 ho6
          rw [e1, Option.bind_some]
          simp only []
          rw [if_neg (by decide)]
          rcases (hT s1 _ _ g1 (by omega)).cs with ⟨er, s2, r1, r2, f2, g2, g3⟩ | ⟨q1, c1, s2, r1, r2, f2, g2⟩
          · rw [r1, r2, Option.bind_some]
            simp only []
            rw [if_pos trivial]
            exact ⟨s2, rfl, f1.tr f2, g2, g3⟩
          · rw [r1, r2, Option.bind_some]
            simp only [bnd]
            rw [if_neg (by decide)]
            exact x_close (E + 1) g2 hb hc ho6 (fun s => some (1, s)) (f1.tr f2) (fun _ s3 g3 => ⟨s3, rfl, Fr.rf, g3⟩)
      · rw [if_neg c91, if_neg c91]
        rcases (hS s _ _ h hl).cs with ⟨er, s2, r1, r2, f2, g2, g3⟩ | ⟨q1, c1, s2, r1, r2, f2, g2⟩
        · rw [r1, r2, Option.bind_some]
          simp only []
          rw [if_pos trivial]
          exact ⟨s2, rfl, f2, g2, g3⟩
        · obtain ⟨b1, b2, b3⟩ := sumL_g k n _ _ _ hq r1
          rw [r1, r2, Option.bind_some]
          simp only [bnd]
          rw [if_neg (by decide), g2.1.2.2.2.2.2.1, g2.1.2.1]
          by_cases c0 : oC tp q1 = 0
          · obtain ⟨m1, m2, m3⟩ := oC_0 c0
            rw [if_pos c0, if_neg m1, if_neg m2, if_neg m3]
            exact ((XRes.fl (E + 4) rfl C o).wr).tr f2
          · rw [if_neg c0]
            obtain ⟨d1, d2, d3⟩ := Ops_C _ c0
            have key : XRes tp cp k (L_Rd_readFact_125 (E + 5) (sg tp q1) s2) (match sumL tp k n (nx tp q1) with
              | .inl e => .inl e
              | .inr x => .inr (x.1, c1 ++ x.2 ++ [oC tp q1])) s C o := by
              obtain ⟨s3, e3, f3, g3⟩ := x_nxp (E + 2) g2 hb hc
              rw [e_Rd_readFact_125, e3, Option.bind_some]
              simp only []
              rcases (hS s3 _ _ g3 (by rw [List.length_append]; omega)).cs with ⟨er, s4, r3, r4, f4, g4, g5⟩ | ⟨q3, c3, s4, r3, r4, f4, g4⟩
              · rw [r3, r4, Option.bind_some]
                simp only []
                rw [if_pos trivial]
                exact ⟨s4, rfl, (f2.tr f3).tr f4, g4, g5⟩
              · obtain ⟨b4, b5, b6⟩ := sumL_g k n _ _ _ d2.1 r3
                have hl3 : (C ++ c1 ++ c3).length < 1600 := by
                  have := g4.2.2.2
                  rw [List.length_append, List.length_append]; omega
                rw [r3, r4, Option.bind_some]
                simp only []
                rw [if_neg (by decide)]
                obtain ⟨s7, e7, f7, g7⟩ := x_addp (E + 4) (c := oC tp q1) (z := w32 (10000 + sg tp q1)) g4 hc hl3 (by rcases oC_1 c0 with ⟨a, b⟩ | ⟨a, b⟩ | ⟨a, b⟩ <;> rw [a, b] <;> decide)
                rw [e7, Option.bind_some]
                have hh : C ++ (c1 ++ c3 ++ [oC tp q1]) = C ++ c1 ++ c3 ++ [oC tp q1] := by simp only [List.append_assoc]
                exact ⟨s7, rfl, ((f2.tr f3).tr f4).tr f7, by rw [hh]; exact g7⟩
            rcases oC_1 c0 with ⟨a, b⟩ | ⟨a, b⟩ | ⟨a, b⟩
            · rw [if_pos a]; exact key
            · rw [if_neg (by omega), if_pos a]; exact key
            · rw [if_neg (by omega), if_neg (by omega), if_pos a]; exact key
theorem x_fact (hb : Bys tp) (hc : 4 ≤ cp) (hk : k ≤ 3) : ∀ (n o D : Nat) (s : Mem) (q : Nat) (C : List Int), n + o = 6 → XPs tp cp k s q C o → C.length ≤ q → XRes tp cp k (f_Rd_readFact (D + 4 * n + 9) s) (facL tp k n q) s C o
  | 0, o, D, s, q, C, hn, h, hl => x_facS (D + 3) (sub := none) hb hc (by omega) (show o = 6 by omega) (fun s q C h hl => x_sum hb hc hk 0 o D s q C hn h hl) h hl
  | n + 1, o, D, s, q, C, hn, h, hl => by
    have hsub : XSubF tp cp k (D + 4 * n + 7) o (some (facL tp k n)) := by
      refine ⟨by omega, facL_g k n, fun s q C h hl => ?_, fun s q C h hl => ?_⟩
      · refine x_tesP (D + 4 * n + 7) hb hc (facL_g k n) (fun s q C h hl => ?_) h hl
        have := x_fact hb hc hk n (o + 1) (D + 1) s q C (by omega) h hl
        rw [show D + 1 + 4 * n + 9 = D + 4 * n + 7 + 3 by omega] at this
        exact this
      · have := x_fact hb hc hk n (o + 1) (D + 2) s q C (by omega) h hl
        rw [show D + 2 + 4 * n + 9 = D + 4 * n + 7 + 4 by omega] at this
        exact this
    have := x_facS (D + 4 * n + 7) hb hc (by omega) hsub (fun s q C h hl => by
      have := x_sum hb hc hk (n + 1) o D s q C hn h hl
      rw [show D + 4 * (n + 1) + 8 = D + 4 * n + 7 + 5 by omega] at this
      exact this) h hl
    rw [show D + 4 * n + 7 + 6 = D + 4 * (n + 1) + 9 by omega] at this
    exact this
theorem x_test (hb : Bys tp) (hc : 4 ≤ cp) (hk : k ≤ 3) (n o D : Nat) (s : Mem) (q : Nat) (C : List Int) (hn : n + o = 6) (h : XPs tp cp k s q C o) (hl : C.length ≤ q) : XRes tp cp k (f_Rd_readTest (D + 4 * n + 11) s) (tesL tp k n q) s C o := by
  refine x_tesP (D + 4 * n + 6) hb hc (facL_g k n) (fun s q C h hl => ?_) h hl
  exact x_fact hb hc hk n o D s q C hn h hl
end XFACT
