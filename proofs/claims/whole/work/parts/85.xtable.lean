/-! the class reads a table -/
section XTABLE
variable {tp : List Int}
theorem PSo_p {o cp a i : Nat} (h : PXp cp a i) (h1 : o ≤ cp) (h2 : cp + 1 ≤ o + 10) : PSo o a i := by unfold PXp at h; unfold PSo; omega
theorem x_hoopS (D : Nat) {q o : Nat} {s : Mem} {d : Dr} (hd : DOk d) (h : XS s tp q) (hX : XD s o d) (hb : Bys tp) : XOS tp (f_Rd_readHoop (D + 6) o s) (hopP tp d q) s o := by
  have hN9 := hd.1.2
  have ho := hX.1
  obtain ⟨s1, e1, f1, g1⟩ := x_nxS (D + 2) h hb
  have f1r : Fr PRs s s1 := f1.mo (fun a k q => by unfold PRs; unfold PRd at q; omega)
  have X1 := hX.fr f1 (fun a k q => by unfold PRd at q; omega)
  unfold hopP
  rw [e_Rd_readHoop, e1, Option.bind_some]
  simp only []
  rw [X1.2.1.2.1]
  rcases x_seatS D g1 hb hN9 X1.2.2.1 with ⟨e, s2, r2, e2, f2, g2⟩ | ⟨s2, ⟨r2, ra, z2, n2⟩, e2, f2, g2, v2, -⟩
  · rw [e2, Option.bind_some]
    rcases bn_l r2 with r2a | ⟨x, r2a, r5⟩
    · rw [r2a]
      exact ⟨s2, if_pos rfl, f1r.rs.tr f2.rs, g2⟩
    · split at r5
      · next a5 =>
        cases r5
        rw [r2a]
        simp only [bn]
        rw [if_pos a5]
        exact ⟨s2, if_pos trivial, f1r.rs.tr f2.rs, g2⟩
      · cases r5
  · rw [r2, e2, Option.bind_some]
    simp only [bn]
    rw [if_neg ra, if_neg one_nz, v2]
    have w2 : Fr (fun a k => a = o ∧ k = 3) s2 (wI s2 o 3 (iOr (rI s2 o 3) (iShl 1 (nu tp (nx tp q))))) := Fr.rf.w ⟨rfl, rfl⟩
    have X2 := X1.fr f2 (fun a k q => by unfold PRs at q; omega)
    refine ⟨_, rfl, (f1r.rs.tr f2.rs).tr (w2.mo (fun a k q => by unfold PSo; omega)), g2.fr w2 (fun a k q => by omega), ?_⟩
    obtain ⟨-, ⟨y1, y2, y3, y4⟩, y5, y6, y7, y8, y9, y10⟩ := X2
    refine ⟨ho, ⟨(w2.i (by omega)).trans y1, (w2.i (by omega)).trans y2, (w2.i (by omega)).trans y3, (w2.i (by omega)).trans y4⟩, ?_, ?_, fun i hi => ?_, y8.fr w2 (fun i => ⟨by omega, by omega⟩), y9.fr w2 (fun i => ⟨by omega, by omega⟩), y10.fr w2 (fun i => ⟨by omega, by omega⟩)⟩
    · rw [rI_same]
      exact y5.add z2 (by omega)
    · rw [w2.i (by omega)]; exact y6
    · obtain ⟨a1, a2, a3, a4⟩ := y7 i hi
      exact ⟨fun k hk => (w2.i (by omega)).trans (a1 k hk), (w2.i (by omega)).trans a2, (w2.i (by omega)).trans a3, (w2.i (by omega)).trans a4⟩
theorem x_toastS (D : Nat) {q o : Nat} {s : Mem} {d : Dr} (h : XS s tp q) (hX : XD s o d) (hb : Bys tp) : XOS tp (f_Rd_readToast (D + 6) o s) (toaP tp d q) s o := by
  have ho := hX.1
  obtain ⟨s1, e1, f1, g1⟩ := x_nxS (D + 2) h hb
  have f1r : Fr PRs s s1 := f1.mo (fun a k q => by unfold PRs; unfold PRd at q; omega)
  have X1 := hX.fr f1 (fun a k q => by unfold PRd at q; omega)
  unfold toaP
  rw [e_Rd_readToast, e1, Option.bind_some]
  simp only []
  rcases x_numS D g1 hb 100 with ⟨e, s2, r2, e2, f2, g2⟩ | ⟨s2, r2, e2, f2, g2, v2, -⟩
  · rw [r2, e2, Option.bind_some]
    exact ⟨s2, if_pos rfl, f1r.rs.tr f2.rs, g2⟩
  · rw [r2, e2, Option.bind_some]
    simp only [bn]
    rw [if_neg one_nz, v2]
    have w2 : Fr (fun a k => a = o ∧ k = 5) s2 (wI s2 o 5 (nu tp (nx tp q))) := Fr.rf.w ⟨rfl, rfl⟩
    have X2 := X1.fr f2 (fun a k q => by unfold PRs at q; omega)
    refine ⟨_, rfl, (f1r.rs.tr f2.rs).tr (w2.mo (fun a k q => by unfold PSo; omega)), g2.fr w2 (fun a k q => by omega), ?_⟩
    obtain ⟨-, ⟨y1, y2, y3, y4⟩, y5, y6, y7, y8, y9, y10⟩ := X2
    refine ⟨ho, ⟨(w2.i (by omega)).trans y1, (w2.i (by omega)).trans y2, (w2.i (by omega)).trans y3, rI_same _ _ _ _⟩, ?_, ?_, fun i hi => ?_, y8.fr w2 (fun i => ⟨by omega, by omega⟩), y9.fr w2 (fun i => ⟨by omega, by omega⟩), y10.fr w2 (fun i => ⟨by omega, by omega⟩)⟩
    · rw [w2.i (by omega)]; exact y5
    · rw [w2.i (by omega)]; exact y6
    · obtain ⟨a1, a2, a3, a4⟩ := y7 i hi
      exact ⟨fun k hk => (w2.i (by omega)).trans (a1 k hk), (w2.i (by omega)).trans a2, (w2.i (by omega)).trans a3, (w2.i (by omega)).trans a4⟩
/-- a rule begins: its code is empty, the reader stands behind the word -/
theorem x_startS (D : Nat) {q cp k : Nat} {w : Int} {s : Mem} {cs : List Int} (hk : k ≤ 3) (hc : 4 ≤ cp) (h : XTp s tp ∧ XRd s tp q ∧ OkF s ∧ q ≤ tp.length) (hb : Bys tp) (hw : w = wi k) : ∃ s1, f_Rd_startCode (D + 2) cp w s = some (0, s1) ∧ Fr (fun a i => PXp cp a i ∨ a = 3 ∧ (i = 5 ∨ i = 6) ∨ a = cp) s s1 ∧ XPs tp cp k s1 q [] 0 ∧ rI s1 cp 2 = 1 := by
  obtain ⟨h1, h2, h3, h4⟩ := h
  rw [e_Rd_startCode, e_Cd_clear, Option.bind_some]
  simp only []
  rw [rQ_wI, rQ_wI, rQ_wQ, if_pos ⟨rfl, rfl⟩]
  have hf : Fr (fun a i => a = cp ∧ (i = 1 ∨ i = 2) ∨ a = 3 ∧ (i = 5 ∨ i = 6 ∨ i = 7)) s (wI (wI (wI (wI (wI (wQ s 3 5 cp) cp 1 0) cp 2 0) cp 2 1) 3 6 w) 3 7 0) := (((((Fr.rf.wq (by omega)).w (by omega)).w (by omega)).w (by omega)).w (by omega)).w (by omega)
  refine ⟨_, rfl, hf.mo (fun a i q => by unfold PXp; omega), ⟨⟨h1.fr hf (fun a k q => by omega), h2.fr hf (fun a k q => by omega)⟩, ⟨?_, ?_, rI_same _ _ _ _, h3.fr hf (fun k hk q => by omega)⟩, ⟨?_, Nat.zero_le _, fun i hi => absurd hi (Nat.not_lt_zero _)⟩, h4⟩, ?_⟩
  · rw [rQ_wI, rQ_wI, rQ_wI, rQ_wI, rQ_wI, rQ_wQ, if_pos ⟨rfl, rfl⟩]
  · rw [rI_other _ _ _ _ (by omega), rI_same, hw]
  · rw [rI_other _ _ _ _ (by omega), rI_other _ _ _ _ (by omega), rI_other _ _ _ _ (by omega), rI_other _ _ _ _ (by omega), rI_same]; rfl
  · rw [rI_other _ _ _ _ (by omega), rI_other _ _ _ _ (by omega), rI_same]
theorem x_code (D : Nat) {k cp : Nat} (hk : k ≤ 3) (hc : 4 ≤ cp) (hb : Bys tp) {s : Mem} {q : Nat} (h : XPs tp cp k s q [] 0) : XRes tp cp k (if k = 1 then f_Rd_readTest (D + 35) s else f_Rd_readSum (D + 35) s) (cdP tp k q) s [] 0 := by
  unfold cdP
  by_cases c : k = 1
  · rw [if_pos c, if_pos c]
    exact x_test hb hc hk 6 0 D s q [] (by omega) h (Nat.zero_le _)
  · rw [if_neg c, if_neg c]
    exact x_sum hb hc hk 6 0 (D + 3) s q [] (by omega) h (Nat.zero_le _)
theorem x_ruleS (D : Nat) {q o k cp : Nat} {s : Mem} {d : Dr} (hk : k < 3) (hcp : cp = o + (5 + 2 * k)) (h : XS s tp q) (hX : XD s o d) (hb : Bys tp) (hw : wd tp q = wi k) : XOS tp ((f_Rd_startRule (D + 35) cp s).bind fun p1 => if p1.1 = 0 then (some (0, p1.2)) else (if k = 1 then f_Rd_readTest (D + 35) p1.2 else f_Rd_readSum (D + 35) p1.2).bind fun p2 => if p2.1 = 0 then (some (0, p2.2)) else some (1, p2.2)) (rulP tp k d q) s o := by
  have ho := hX.1
  have hl := h.1.2.1
  have hcd : XCd s cp k (dC d k) := by
    have h3 : k = 0 ∨ k = 1 ∨ k = 2 := by omega
    obtain ⟨-, -, -, -, -, y8, y9, y10⟩ := hX
    rcases h3 with rfl | rfl | rfl
    · rw [hcp]; exact y8
    · rw [hcp]; exact y9
    · rw [hcp]; exact y10
  unfold rulP
  rw [e_Rd_startRule, h.2.1.1, h.2.1.2.2.2.1, hw]
  cases hC : dC d k with
  | some cs =>
    rw [hC] at hcd
    obtain ⟨s1, e1, f1, g1⟩ := x_flS (s := s) (a := 5) (q := q) (b := (q : Int)) (D + 33) (by decide) rfl
    rw [hcd.1, if_neg one_nz, e1, Option.bind_some]
    exact ⟨s1, if_pos rfl, f1.rs, g1⟩
  | none =>
    rw [hC] at hcd
    obtain ⟨s1, e1, f1, g1, g1b⟩ := x_startS (D + 32) (cs := []) (cp := cp) (k := k) (w := wi k) (by omega) (by omega) h hb rfl
    obtain ⟨s2, e2, f2, g2⟩ := x_nxp (D + 31) g1 hb (by omega)
    have f1s : Fr (PSo o) s s1 := f1.mo (fun a i q => by
      rcases q with q | q | q
      · exact PSo_p q (by omega) (by omega)
      · unfold PSo; omega
      · unfold PSo; omega)
    have f2s : Fr (PSo o) s1 s2 := f2.mo (fun a i q => PSo_p q (by omega) (by omega))
    rw [hcd.1, if_pos rfl, e1, Option.bind_some]
    simp only []
    rw [e2, Option.bind_some, Option.bind_some]
    simp only []
    rw [if_neg one_nz]
    rcases (x_code D (by omega) (by omega) hb g2).cs with ⟨e, s3, r3, e3, f3, g3, g4⟩ | ⟨q3, c3, s3, r3, e3, f3, g3⟩
    · rw [r3, e3, Option.bind_some]
      exact ⟨s3, if_pos rfl, (f1s.tr f2s).tr (f3.mo (fun a i q => PSo_p q (by omega) (by omega))), ⟨g3, cdP_nz k _ _ r3⟩, g4⟩
    · rw [r3, e3, Option.bind_some]
      simp only [bn]
      rw [if_neg one_nz]
      rw [List.nil_append] at g3
      refine ⟨s3, rfl, (f1s.tr f2s).tr (f3.mo (fun a i q => PSo_p q (by omega) (by omega))), ⟨g3.1.1, g3.1.2, g3.2.1.2.2.2, g3.2.2.2⟩, ?_⟩
      have fall : Fr (fun a i => a = 3 ∨ a = cp ∨ a = cp + 1) s s3 := ((f1.mo (fun a i q => by unfold PXp at q; omega)).tr (f2.mo (fun a i q => by unfold PXp at q; omega))).tr (f3.mo (fun a i q => by unfold PXp at q; omega))
      have hg : rI s3 cp 2 = 1 := by rw [f3.i (by unfold PXp; omega), f2.i (by unfold PXp; omega)]; exact g1b
      obtain ⟨-, ⟨y1, y2, y3, y4⟩, y5, y6, y7, y8, y9, y10⟩ := hX
      refine ⟨ho, ⟨(fall.i (by omega)).trans y1, (fall.i (by omega)).trans y2, (fall.i (by omega)).trans y3, (fall.i (by omega)).trans y4⟩, ?_, ?_, fun i hi => ?_, ?_, ?_, ?_⟩
      · rw [fall.i (by omega)]; exact y5
      · rw [fall.i (by omega)]; exact y6
      · obtain ⟨a1, a2, a3, a4⟩ := y7 i hi
        exact ⟨fun k hk => (fall.i (by omega)).trans (a1 k hk), (fall.i (by omega)).trans a2, (fall.i (by omega)).trans a3, (fall.i (by omega)).trans a4⟩
      · show XCd s3 (o + 5) 0 (upC (dC d) k c3 0)
        unfold upC
        by_cases c : 0 = k
        · have ec : cp = o + 5 := by omega
          rw [if_pos c, ← ec]; exact ⟨hg, g3.2.2.1⟩
        · rw [if_neg c]; exact y8.fr fall (fun i => ⟨by omega, by omega⟩)
      · show XCd s3 (o + 7) 1 (upC (dC d) k c3 1)
        unfold upC
        by_cases c : 1 = k
        · have ec : cp = o + 7 := by omega
          rw [if_pos c, ← ec]; exact ⟨hg, g3.2.2.1⟩
        · rw [if_neg c]; exact y9.fr fall (fun i => ⟨by omega, by omega⟩)
      · show XCd s3 (o + 9) 2 (upC (dC d) k c3 2)
        unfold upC
        by_cases c : 2 = k
        · have ec : cp = o + 9 := by omega
          rw [if_pos c, ← ec]; exact ⟨hg, g3.2.2.1⟩
        · rw [if_neg c]; exact y10.fr fall (fun i => ⟨by omega, by omega⟩)
theorem XOS.wr {X : Rs} {res : PR (Nat × Dr)} {s : Mem} {o : Nat} (h : XOS tp X res s o) : XOS tp (X.bind fun p1 => if p1.1 = 0 ∨ p1.1 = 1 then some (p1.1, p1.2) else none) res s o := by
  match res, h with
  | .inl e, ⟨s1, h1, h2, h3⟩ => exact ⟨s1, by rw [h1, Option.bind_some]; exact if_pos (Or.inl rfl), h2, h3⟩
  | .inr x, ⟨s1, h1, h2, h3⟩ => exact ⟨s1, by rw [h1, Option.bind_some]; exact if_pos (Or.inr rfl), h2, h3⟩
/-- a statement behind the first one -/
theorem x_stbS (D : Nat) {q o n : Nat} {s : Mem} {d : Dr} (hn : n ≠ 0) (hd : DOk d) (h : XS s tp q) (hX : XD s o d) (hb : Bys tp) : XOS tp (f_Rd_readStatement (D + 36) o (n : Int) s) (stbP tp d q) s o := by
  have hw := h.2.1.2.2.2.1
  have fl : XOS tp ((f_Rd_fail (D + 35) 1 (rI s 3 9) s).bind fun p1 => if p1.1 = 0 ∨ p1.1 = 1 then some (p1.1, p1.2) else none) (.inl (1, q)) s o := by
    obtain ⟨s1, e1, f1, g1⟩ := x_flS (s := s) (a := 1) (q := q) (b := rI s 3 9) (D + 34) (by decide) h.2.1.1
    exact ⟨s1, e1, f1.rs, g1⟩
  unfold stbP
  rw [e_Rd_readStatement, if_neg (by omega), e_Rd_readStatement_9, hw]
  by_cases c0 : wd tp q = 0
  · rw [if_pos c0, e_Rd_readStatement_21, if_neg (by decide), if_neg (by omega), if_neg (by omega), if_neg (by omega), if_neg (by omega), if_neg (by omega), if_neg (by omega)]
    exact fl
  · rw [if_neg c0, e_Rd_readStatement_21, if_pos rfl, hw, if_neg c0]
    by_cases c1 : wd tp q = 1
    · rw [if_pos c1, if_pos c1]
      exact (x_guestS (D + 29) hd h hX hb).wr
    · rw [if_neg c1, if_neg c1]
      by_cases c2 : wd tp q = 2
      · rw [if_pos c2, if_neg (by omega), if_neg (by omega), if_neg (by omega), if_neg (by omega), if_neg (by omega)]
        exact fl
      · rw [if_neg c2]
        by_cases c3 : wd tp q = 3
        · rw [if_pos c3, if_neg (by omega), if_neg (by omega), if_neg (by omega), if_neg (by omega), if_neg (by omega)]
          exact fl
        · rw [if_neg c3]
          by_cases c4 : wd tp q = 4
          · rw [if_pos c4, if_neg (by omega), if_neg (by omega), if_neg (by omega), if_neg (by omega), if_neg (by omega)]
            exact fl
          · rw [if_neg c4]
            by_cases c5 : wd tp q = 5
            · rw [if_pos c5, if_pos c5]
              exact (x_hoopS (D + 29) hd h hX hb).wr
            · rw [if_neg c5, if_neg c5]
              by_cases c6 : wd tp q = 6
              · rw [if_pos c6, if_pos c6]
                have := x_ruleS D (k := 0) (cp := o + 5) (by omega) rfl h hX hb (by rw [c6]; rfl)
                exact this
              · rw [if_neg c6, if_neg c6]
                by_cases c7 : wd tp q = 7
                · rw [if_pos c7, if_pos c7]
                  have := x_ruleS D (k := 1) (cp := o + 7) (by omega) rfl h hX hb (by rw [c7]; rfl)
                  exact this
                · rw [if_neg c7, if_neg c7]
                  by_cases c8 : wd tp q = 8
                  · rw [if_pos c8, if_pos c8]
                    have := x_ruleS D (k := 2) (cp := o + 9) (by omega) rfl h hX hb (by rw [c8]; rfl)
                    exact this
                  · rw [if_neg c8, if_neg c8]
                    by_cases c9 : wd tp q = 9
                    · rw [if_pos c9, if_pos c9]
                      exact (x_toastS (D + 29) h hX hb).wr
                    · rw [if_neg c9, if_neg c9]
                      exact fl
end XTABLE
