/-! the class reads a table: the whole of it -/
section XTAB
variable {tp : List Int}
theorem nz5 : (5 : Int) ≠ 0 := by decide
/-- a draft ahead of its first statement -/
def d0 : Dr := (0, 0, [], [], (fun _ => none), 0)
theorem x_cadd (D : Nat) {s : Mem} {c : Nat} {cs : List Int} {v z : Int} (h : XC s c cs) (hl : cs.length < 1600) (hz : z = enX v) : ∃ s1, f_Cd_add (D + 1) c z s = some (0, s1) ∧ Fr (fun a k => a = c ∧ k = 1 ∨ a = c + 1) s s1 ∧ XC s1 c (cs ++ [v]) := by
  obtain ⟨h1, h2, h3⟩ := h
  rw [e_Cd_add, h1, if_pos (by omega), inB_n (by omega), Int.toNat_natCast, rI_other _ _ _ _ (by omega), h1, w32_s (by omega)]
  have hf : Fr (fun a k => a = c ∧ k = 1 ∨ a = c + 1) s (wI (wI s (c + 1) cs.length z) c 1 ((cs.length + 1 : Nat) : Int)) := (Fr.rf.w (Or.inr rfl)).w (Or.inl ⟨rfl, rfl⟩)
  refine ⟨_, rfl, hf, ?_, ?_, fun i hi => ?_⟩
  · rw [rI_same, List.length_append]; rfl
  · rw [List.length_append, List.length_singleton]; omega
  · rw [List.length_append, List.length_singleton] at hi
    rw [rI_other _ _ _ _ (by omega)]
    by_cases e : i = cs.length
    · rw [e, rI_same, hz, List.getD_eq_getElem?_getD, List.getElem?_append_right (Nat.le_refl _), Nat.sub_self]; rfl
    · rw [rI_other _ _ _ _ (by omega), h3 i (by omega), List.getD_eq_getElem?_getD, List.getD_eq_getElem?_getD, List.getElem?_append_left (by omega)]
theorem x_cclr (D : Nat) (c : Nat) (s : Mem) : ∃ s1, f_Cd_clear (D + 1) c s = some (0, s1) ∧ Fr (fun a k => a = c ∧ (k = 1 ∨ k = 2)) s s1 ∧ XC s1 c [] ∧ rI s1 c 2 = 0 := by
  refine ⟨_, e_Cd_clear D c s, (Fr.rf.w (by omega)).w (by omega), ⟨?_, Nat.zero_le _, fun i hi => absurd hi (Nat.not_lt_zero _)⟩, rI_same _ _ _ _⟩
  rw [rI_other _ _ _ _ (by omega), rI_same]; rfl
theorem x_clear (D : Nat) {o : Nat} (ho : o = 6 ∨ o = 17) (s : Mem) : ∃ s1, f_Tb_clear (D + 2) o s = some (0, s1) ∧ Fr (fun a _ => o ≤ a ∧ a ≤ o + 10) s s1 ∧ XD s1 o d0 := by
  rw [e_Tb_clear]
  have f0 : Fr (fun a _ => a = o) s (wI (wI (wI (wI (wI (wI s o 0 0) o 1 0) o 2 0) o 3 0) o 4 0) o 5 0) := (((((Fr.rf.w (P := fun a _ => a = o) rfl).w rfl).w rfl).w rfl).w rfl).w rfl
  have v0 : rI (wI (wI (wI (wI (wI (wI s o 0 0) o 1 0) o 2 0) o 3 0) o 4 0) o 5 0) o 0 = 0 := by simp (disch := omega) only [rI_other, rI_same]
  have v1 : rI (wI (wI (wI (wI (wI (wI s o 0 0) o 1 0) o 2 0) o 3 0) o 4 0) o 5 0) o 1 = 0 := by simp (disch := omega) only [rI_other, rI_same]
  have v2 : rI (wI (wI (wI (wI (wI (wI s o 0 0) o 1 0) o 2 0) o 3 0) o 4 0) o 5 0) o 2 = 0 := by simp (disch := omega) only [rI_other, rI_same]
  have v3 : rI (wI (wI (wI (wI (wI (wI s o 0 0) o 1 0) o 2 0) o 3 0) o 4 0) o 5 0) o 3 = 0 := by simp (disch := omega) only [rI_other, rI_same]
  have v4 : rI (wI (wI (wI (wI (wI (wI s o 0 0) o 1 0) o 2 0) o 3 0) o 4 0) o 5 0) o 4 = 0 := by simp (disch := omega) only [rI_other, rI_same]
  have v5 : rI (wI (wI (wI (wI (wI (wI s o 0 0) o 1 0) o 2 0) o 3 0) o 4 0) o 5 0) o 5 = 0 := by simp (disch := omega) only [rI_other, rI_same]
  generalize wI (wI (wI (wI (wI (wI s o 0 0) o 1 0) o 2 0) o 3 0) o 4 0) o 5 0 = s0 at f0 v0 v1 v2 v3 v4 v5 ⊢
  obtain ⟨s1, e1, f1, c1, i1⟩ := x_cclr D (o + 5) s0
  obtain ⟨s2, e2, f2, c2⟩ := x_cadd D (v := 40) (z := 10003) c1 (by decide) (by decide)
  obtain ⟨s3, e3, f3, c3, i3⟩ := x_cclr D (o + 7) s2
  obtain ⟨s4, e4, f4, c4⟩ := x_cadd D (v := 42) (z := 10010) c3 (by decide) (by decide)
  obtain ⟨s5, e5, f5, c5⟩ := x_cadd D (v := 1050) (z := 50) c4 (by decide) (by decide)
  obtain ⟨s6, e6, f6, c6⟩ := x_cadd D (v := 8) (z := 10062) c5 (by decide) (by decide)
  obtain ⟨s7, e7, f7, c7, i7⟩ := x_cclr D (o + 9) s6
  obtain ⟨s8, e8, f8, c8⟩ := x_cadd D (v := 48) (z := 10016) c7 (by decide) (by decide)
  obtain ⟨s9, e9, f9, c9⟩ := x_cadd D (v := 1002) (z := 2) c8 (by decide) (by decide)
  obtain ⟨sa, ea, fa, ca⟩ := x_cadd D (v := 4) (z := 10047) c9 (by decide) (by decide)
  rw [e1, Option.bind_some]
  simp only []
  rw [e2, Option.bind_some]
  simp only []
  rw [e3, Option.bind_some]
  simp only []
  rw [e4, Option.bind_some]
  simp only []
  rw [e5, Option.bind_some]
  simp only []
  rw [e6, Option.bind_some]
  simp only []
  rw [e7, Option.bind_some]
  simp only []
  rw [e8, Option.bind_some]
  simp only []
  rw [e9, Option.bind_some]
  simp only []
  rw [ea, Option.bind_some]
  have q5 : Fr (fun a k => o + 7 ≤ a ∧ a ≤ o + 10) s2 sa := (((((((f3.mo (fun a k q => by omega)).tr (f4.mo (fun a k q => by omega))).tr (f5.mo (fun a k q => by omega))).tr (f6.mo (fun a k q => by omega))).tr (f7.mo (fun a k q => by omega))).tr (f8.mo (fun a k q => by omega))).tr (f9.mo (fun a k q => by omega))).tr (fa.mo (fun a k q => by omega))
  have q7 : Fr (fun a k => o + 9 ≤ a ∧ a ≤ o + 10) s6 sa := (((f7.mo (fun a k q => by omega)).tr (f8.mo (fun a k q => by omega))).tr (f9.mo (fun a k q => by omega))).tr (fa.mo (fun a k q => by omega))
  have qa : Fr (fun a k => o + 5 ≤ a ∧ a ≤ o + 10) s0 sa := ((f1.mo (fun a k q => by omega)).tr (f2.mo (fun a k q => by omega))).tr (q5.mo (fun a k q => by omega))
  refine ⟨sa, rfl, (f0.mo (fun a k q => by omega)).tr (qa.mo (fun a k q => by omega)), ho, ⟨(qa.i (by omega)).trans v0, (qa.i (by omega)).trans v1, (qa.i (by omega)).trans v2, (qa.i (by omega)).trans v5⟩, ?_, ?_, fun i hi => absurd hi (Nat.not_lt_zero _), ⟨?_, ?_⟩, ⟨?_, ?_⟩, ⟨?_, ?_⟩⟩
  · rw [qa.i (by omega), v3]
    exact ⟨0, rfl, by decide, fun q _ => ⟨fun e => by rw [Nat.zero_div] at e; exact absurd e (by decide), fun e => by cases e⟩⟩
  · rw [qa.i (by omega), v4]
    exact ⟨0, rfl, by decide, fun q _ => ⟨fun e => by rw [Nat.zero_div] at e; exact absurd e (by decide), fun e => by cases e⟩⟩
  · rw [q5.i (by omega), f2.i (by omega)]; exact i1
  · exact c2.fr q5 (fun i => ⟨by omega, by omega⟩)
  · rw [q7.i (by omega), f6.i (by omega), f5.i (by omega), f4.i (by omega)]; exact i3
  · exact c6.fr q7 (fun i => ⟨by omega, by omega⟩)
  · rw [fa.i (by omega), f9.i (by omega), f8.i (by omega)]; exact i7
  · exact ca
theorem x_beginR (D : Nat) {s : Mem} (h : XTp s tp) (hb : Bys tp) : ∃ s1, f_Rd_begin (D + 4) s = some (0, s1) ∧ Fr PRs s s1 ∧ XS s1 tp (sk tp 0) := by
  have f0 : Fr (fun a k => a = 3 ∧ (k = 3 ∨ k = 4 ∨ k = 10)) s (wI (wI (wI s 3 3 0) 3 4 (-1)) 3 10 0) := ((Fr.rf.w (by omega)).w (by omega)).w (by omega)
  have h0 := h.fr f0 (fun a k q => by omega)
  have v10 : rI (wI (wI (wI s 3 3 0) 3 4 (-1)) 3 10 0) 3 10 = ((0 : Nat) : Int) := rI_same _ _ _ _
  obtain ⟨s1, e1, f1, g1⟩ := x_nxt D (p := 0) h0 hb (Nat.zero_le _) v10
  rw [e_Rd_begin, e1, Option.bind_some]
  refine ⟨s1, rfl, (f0.mo (fun a k q => by unfold PRs; omega)).tr (f1.mo (fun a k q => by unfold PRs; unfold PRd at q; omega)), h0.fr f1 (fun a k q => by unfold PRd at q; omega), g1, ⟨?_, ?_⟩, (St.sk (Nat.zero_le _)).1⟩
  · rw [f1.i (by unfold PRd; omega), rI_other _ _ _ _ (by omega), rI_other _ _ _ _ (by omega), rI_same]
  · rw [f1.i (by unfold PRd; omega), rI_other _ _ _ _ (by omega), rI_same]
def XTb (X : Rs) (res : PR Dr) (s : Mem) (o : Nat) : Prop := match res with
  | .inl e => ∃ s1, X = some (0, s1) ∧ Fr (PSo o) s s1 ∧ XF s1 e
  | .inr d => ∃ s1, X = some (1, s1) ∧ Fr (PSo o) s s1 ∧ OkF s1 ∧ XD s1 o d
theorem XTb.tr {X : Rs} {res : PR Dr} {s s0 : Mem} {o : Nat} (h : XTb X res s o) (hf : Fr (PSo o) s0 s) : XTb X res s0 o := by
  match res, h with
  | .inl e, ⟨s1, h1, h2, h3⟩ => exact ⟨s1, h1, hf.tr h2, h3⟩
  | .inr d, ⟨s1, h1, h2, h3⟩ => exact ⟨s1, h1, hf.tr h2, h3⟩
theorem x_bad (D : Nat) {s : Mem} {e : Int × Nat} (h : XF s e) (o : Nat) (c : Int) : L_Rd_readTable_10 D o c s = some (0, s) := by
  have h3 : ¬ rI s 3 3 = 0 := by rw [h.1.1]; exact h.1.2
  have h83 : L_Rd_readTable_83 D o s = some (0, s) := by rw [e_Rd_readTable_83, if_neg h3, e_Rd_readTable_110, if_neg h3]
  rw [e_Rd_readTable_10, if_neg h3, h83, ite_self, ite_self]
theorem x_tabE (D : Nat) {o q : Nat} {d : Dr} {s : Mem} {c : Int} (hc : c ≤ 60) (hd : 1 ≤ d.1) (h : XS s tp q) (hX : XD s o d) (k0 : kd tp q = 0) : L_Rd_readTable_10 (D + 1) o c s = some (1, s) := by
  rw [e_Rd_readTable_10, if_neg (by omega), h.2.1.2.2.1, k0, if_pos (show ((0 : Nat) : Int) = 0 from rfl), e_Rd_readTable_83, h.2.2.1.1, if_pos rfl, hX.2.1.1, if_neg (by omega), e_Rd_readTable_110, h.2.2.1.1, if_pos rfl]
theorem XD.inc {s : Mem} {o : Nat} {d : Dr} (h : XD s o d) (hl : d.1 ≤ 100) : Fr (fun a k => a = o ∧ k = 0) s (wI s o 0 (w32 (rI s o 0 + 1))) ∧ XD (wI s o 0 (w32 (rI s o 0 + 1))) o (dI d) := by
  have f0 : Fr (fun a k => a = o ∧ k = 0) s (wI s o 0 (w32 (rI s o 0 + 1))) := Fr.rf.w ⟨rfl, rfl⟩
  obtain ⟨h0, ⟨h1, h2, h3, h4⟩, h5, h6, h7, h8, h9, h10⟩ := h
  refine ⟨f0, h0, ⟨?_, (f0.i (by omega)).trans h2, (f0.i (by omega)).trans h3, (f0.i (by omega)).trans h4⟩, ?_, ?_, fun i hi => ?_, h8.fr f0 (fun i => ⟨by omega, by omega⟩), h9.fr f0 (fun i => ⟨by omega, by omega⟩), h10.fr f0 (fun i => ⟨by omega, by omega⟩)⟩
  · rw [rI_same, h1, w32_s (by omega)]; rfl
  · rw [f0.i (by omega)]; exact h5
  · rw [f0.i (by omega)]; exact h6
  · obtain ⟨a1, a2, a3, a4⟩ := h7 i hi
    exact ⟨fun k hk => (f0.i (by omega)).trans (a1 k hk), (f0.i (by omega)).trans a2, (f0.i (by omega)).trans a3, (f0.i (by omega)).trans a4⟩
theorem tabW_0 {f q : Nat} {d : Dr} (h : kd tp q = 0) : tabW tp f q d = .inr d := by
  cases f with
  | zero => rfl
  | succ f => unfold tabW; rw [if_pos h]
theorem x_tabW (D : Nat) {o : Nat} (hb : Bys tp) : ∀ (m c q f : Nat) (d : Dr) (s : Mem), c + m = 60 → d.1 = c → 1 ≤ c → tp.length ≤ f + q → DOk d → XS s tp q → XD s o d → XTb (L_Rd_readTable_10 (D + 36) o (c : Int) s) (tabW tp f q d) s o := by
  intro m
  induction m with
  | zero =>
    intro c q f d s hm hd hc hf hk h hX
    by_cases k0 : kd tp q = 0
    · rw [tabW_0 k0]
      exact ⟨s, x_tabE (D + 35) (by omega) (by omega) h hX k0, Fr.rf, h.2.2.1, hX⟩
    · have hq := kd_lt k0
      cases f with
      | zero => exact absurd hf (by omega)
      | succ f =>
        have hF : XF (wI (wI s 3 3 5) 3 4 (rI s 3 9)) (5, q) := ⟨⟨by rw [rI_other _ _ _ _ (by omega), rI_same], nz5⟩, by rw [rI_same]; exact h.2.1.1⟩
        rw [e_Rd_readTable_10, if_neg (by omega), h.2.1.2.2.1, if_neg (by omega), h.2.2.1.1, if_pos rfl, if_pos (show (c : Int) = 60 by omega), e_Rd_fail, Option.bind_some]
        unfold tabW
        rw [if_neg k0, if_pos (show d.1 = 60 by omega)]
        exact ⟨_, x_bad _ hF _ _, (Fr.rf.w (by unfold PSo; omega)).w (by unfold PSo; omega), hF⟩
  | succ m ih =>
    intro c q f d s hm hd hc hf hk h hX
    have ho := hX.1
    by_cases k0 : kd tp q = 0
    · rw [tabW_0 k0]
      exact ⟨s, x_tabE (D + 35) (by omega) (by omega) h hX k0, Fr.rf, h.2.2.1, hX⟩
    · have hq := kd_lt k0
      cases f with
      | zero => exact absurd hf (by omega)
      | succ f =>
        rw [e_Rd_readTable_10, if_neg (by omega), h.2.1.2.2.1, if_neg (by omega), h.2.2.1.1, if_pos rfl, if_neg (show ¬ (c : Int) = 60 by omega)]
        unfold tabW
        rw [if_neg k0, if_neg (show ¬ d.1 = 60 by omega)]
        have hst := x_stbS D (n := c) (by omega) hk h hX hb
        cases hr : stbP tp d q with
        | inl e =>
          rw [hr] at hst
          obtain ⟨s1, e1, f1, g1⟩ := hst
          have hs : staP tp d q = .inl e := by unfold staP; rw [hr]; rfl
          rw [hs, e1, Option.bind_some]
          exact ⟨s1, (if_pos rfl).trans (x_bad _ g1 _ _), f1, g1⟩
        | inr x =>
          rw [hr] at hst
          obtain ⟨s1, e1, f1, g1, X1⟩ := hst
          rw [e1, Option.bind_some]
          simp only []
          rw [if_neg one_nz]
          rcases x_sgnS (D + 32) g1 hb 59 with ⟨e, s2, r2, e2, f2, g2⟩ | ⟨q2, s2, r2, e2, f2, g2⟩
          · have hs : staP tp d q = .inl e := by
              unfold staP
              rw [hr]
              show bn (sgnP tp 59 x.1) _ = _
              rw [r2]
              rfl
            rw [hs, e2, Option.bind_some]
            exact ⟨s2, (if_pos rfl).trans (x_bad _ g2 _ _), f1.tr f2.rs, g2⟩
          · have hs : staP tp d q = .inr (q2, dI x.2) := by
              unfold staP
              rw [hr]
              show bn (sgnP tp 59 x.1) _ = _
              rw [r2]
              rfl
            obtain ⟨⟨n1, n2⟩, n3, n4⟩ := sta_ok h.1.2.1 hs hk
            have n1' : q < q2 := n1
            have n4' : x.2.1 + 1 = d.1 + 1 := n4
            have X2 := X1.fr f2 (fun a k q => by unfold PRs at q; omega)
            obtain ⟨f3, X3⟩ := X2.inc (by omega)
            have g3 := g2.fr f3 (fun a k q => by omega)
            have key := ih (c + 1) q2 f (dI x.2) _ (by omega) (by show x.2.1 + 1 = c + 1; omega) (by omega) (by omega) n3 g3 X3
            rw [hs, e2, Option.bind_some]
            simp only []
            rw [if_neg one_nz, w32_s (k := c) (by omega)]
            exact key.tr ((f1.tr f2.rs).tr (f3.mo (fun a k q => by unfold PSo; omega)))
/-- the first statement -/
theorem numP_39 {q : Nat} : (∀ e, numP tp 0 9 q = .inl e → numP tp 3 9 q = .inl e) ∧ (∀ x, numP tp 0 9 q = .inr x → numP tp 3 9 q = if nu tp q < 3 then .inl (2, q) else .inr x) := by
  unfold numP
  by_cases k2 : kd tp q = 2
  · rw [if_pos k2, if_pos k2]
    by_cases c4 : 4 < de tp q - q
    · rw [if_pos c4, if_pos c4]
      exact ⟨fun e h => h, fun x h => by cases h⟩
    · rw [if_neg c4, if_neg c4]
      by_cases c : 0 ≤ nu tp q ∧ nu tp q ≤ 9
      · rw [if_pos c]
        refine ⟨fun e h => (by cases h), fun x h => ?_⟩
        by_cases c3 : nu tp q < 3
        · rw [if_pos c3, if_neg (by omega)]
        · rw [if_neg c3, if_pos (by omega)]; exact h
      · rw [if_neg c, if_neg (show ¬ (3 ≤ nu tp q ∧ nu tp q ≤ 9) by omega)]
        exact ⟨fun e h => h, fun x h => by cases h⟩
  · rw [if_neg k2, if_neg k2]
    exact ⟨fun e h => h, fun x h => by cases h⟩
def d1 (n : Nat) : Dr := (0, n, [], [], (fun _ => none), 0)
theorem x_seatsS (D : Nat) {q o : Nat} {s : Mem} (h : XS s tp q) (hX : XD s o d0) (hb : Bys tp) : (∃ e s1, numP tp 3 9 (nx tp q) = .inl e ∧ f_Rd_readSeats (D + 6) o s = some (0, s1) ∧ Fr PRs s s1 ∧ XF s1 e) ∨ ∃ s1, numP tp 3 9 (nx tp q) = .inr (nx tp (nx tp q), nu tp (nx tp q)) ∧ f_Rd_readSeats (D + 6) o s = some (1, s1) ∧ Fr (PSo o) s s1 ∧ XS s1 tp (nx tp (nx tp q)) ∧ XD s1 o (d1 (nu tp (nx tp q)).toNat) := by
  have ho := hX.1
  obtain ⟨s1, e1, f1, g1⟩ := x_nxS (D + 2) h hb
  have f1r : Fr PRs s s1 := f1.mo (fun a k q => by unfold PRs; unfold PRd at q; omega)
  have X1 := hX.fr f1 (fun a k q => by unfold PRd at q; omega)
  have hr := nu_r (tp := tp) g1.2.2.2
  rw [e_Rd_readSeats, e1, Option.bind_some]
  simp only []
  rcases x_numS D g1 hb 9 with ⟨e, s2, r2, e2, f2, g2⟩ | ⟨s2, r2, e2, f2, g2, v2, v3⟩
  · rw [e2, Option.bind_some]
    exact Or.inl ⟨e, s2, numP_39.1 e r2, if_pos rfl, f1r.tr f2, g2⟩
  · rw [e2, Option.bind_some]
    simp only []
    rw [if_neg one_nz, v2]
    have hn := numP_39.2 _ r2
    by_cases c3 : nu tp (nx tp q) < 3
    · rw [if_pos c3] at hn
      rw [if_pos c3, v3]
      obtain ⟨s3, e3, f3, g3⟩ := x_flS (s := s2) (a := 2) (q := nx tp q) (b := (nx tp q : Int)) (D + 4) nz2 rfl
      exact Or.inl ⟨_, s3, hn, e3, (f1r.tr f2).tr f3, g3⟩
    · rw [if_neg c3] at hn
      rw [if_neg c3]
      have X2 := X1.fr f2 (fun a k q => by unfold PRs at q; omega)
      have f3 : Fr (fun a k => a = o ∧ k = 1) s2 (wI s2 o 1 (nu tp (nx tp q))) := Fr.rf.w ⟨rfl, rfl⟩
      refine Or.inr ⟨_, hn, rfl, (f1r.tr f2).rs.tr (f3.mo (fun a k q => by unfold PSo; omega)), g2.fr f3 (fun a k q => by omega), ?_⟩
      obtain ⟨h0, ⟨h1, h2, h3, h4⟩, h5, h6, h7, h8, h9, h10⟩ := X2
      refine ⟨h0, ⟨(f3.i (by omega)).trans h1, ?_, (f3.i (by omega)).trans h3, (f3.i (by omega)).trans h4⟩, ?_, ?_, fun i hi => absurd hi (Nat.not_lt_zero _), h8.fr f3 (fun i => ⟨by omega, by omega⟩), h9.fr f3 (fun i => ⟨by omega, by omega⟩), h10.fr f3 (fun i => ⟨by omega, by omega⟩)⟩
      · rw [rI_same]
        show nu tp (nx tp q) = (((nu tp (nx tp q)).toNat : Nat) : Int)
        omega
      · rw [f3.i (by omega)]; exact h5
      · rw [f3.i (by omega)]; exact h6
theorem x_fst (D : Nat) {q o : Nat} {s : Mem} (h : XS s tp q) (hX : XD s o d0) (hb : Bys tp) : XTb (L_Rd_readTable_10 (D + 36) o 0 s) (bn (fstP tp q) fun x => tabW tp tp.length x.1 x.2) s o := by
  have ho := hX.1
  have hl := h.1.2.1
  unfold fstP
  by_cases k0 : kd tp q = 0
  · have hq : q = tp.length := by have := kd_0.mp k0; have := h.2.2.2; omega
    have hw : wrdP tp 0 q = .inl (1, q) := by
      unfold wrdP wd
      rw [if_neg (by omega)]
    rw [hw, e_Rd_readTable_10, if_neg (by decide), h.2.1.2.2.1, k0, if_pos (show ((0 : Nat) : Int) = 0 from rfl), e_Rd_readTable_83, h.2.2.1.1, if_pos rfl, hX.2.1.1, if_pos (show ((d0.1 : Nat) : Int) = 0 from rfl), e_Rd_fail, Option.bind_some, e_Rd_readTable_110]
    have hF : XF (wI (wI s 3 3 1) 3 4 (rI s 1 1)) (1, q) := ⟨⟨by rw [rI_other _ _ _ _ (by omega), rI_same], nz1⟩, by rw [rI_same, h.1.1, hq]⟩
    refine ⟨_, if_neg ?_, (Fr.rf.w (by unfold PSo; omega)).w (by unfold PSo; omega), hF⟩
    show ¬ rI (wI (wI s 3 3 1) 3 4 (rI s 1 1)) 3 3 = 0
    rw [hF.1.1]
    exact nz1
  · rw [e_Rd_readTable_10, if_neg (by decide), h.2.1.2.2.1, if_neg (by omega), h.2.2.1.1, if_pos rfl, if_neg (show ¬ (0 : Int) = 60 by decide), e_Rd_readStatement, if_pos rfl, e_Rd_readStatement_9, h.2.1.2.2.2.1]
    by_cases c0 : wd tp q = 0
    · have hw : wrdP tp 0 q = .inr (nx tp q) := by unfold wrdP; rw [if_pos c0]
      rw [if_pos c0, e_Rd_readStatement_21, if_pos rfl, h.2.1.2.2.2.1, if_pos c0, hw]
      rcases x_seatsS (D + 29) h hX hb with ⟨e, s1, r1, e1, f1, g1⟩ | ⟨s1, r1, e1, f1, g1, X1⟩
      · rw [e1, Option.bind_some]
        simp only [bn]
        rw [r1, if_pos (Or.inl trivial), Option.bind_some]
        exact ⟨s1, (if_pos rfl).trans (x_bad _ g1 _ _), f1.rs, g1⟩
      · rw [e1, Option.bind_some]
        simp only [bn]
        rw [r1, if_pos (Or.inr trivial), Option.bind_some]
        simp only []
        rw [if_neg one_nz]
        rcases x_sgnS (D + 32) g1 hb 59 with ⟨e, s2, r2, e2, f2, g2⟩ | ⟨q2, s2, r2, e2, f2, g2⟩
        · rw [e2, Option.bind_some, r2]
          exact ⟨s2, (if_pos rfl).trans (x_bad _ g2 _ _), f1.tr f2.rs, g2⟩
        · have hs : fstP tp q = .inr (q2, (1, (nu tp (nx tp q)).toNat, [], [], (fun _ => none), 0)) := by
            unfold fstP
            rw [hw]
            show bn (numP tp 3 9 (nx tp q)) _ = _
            rw [r1]
            show bn (sgnP tp 59 (nx tp (nx tp q))) _ = _
            rw [r2]
            rfl
          obtain ⟨⟨n1, n2⟩, n3, n4⟩ := fst_ok hs
          have X2 := X1.fr f2 (fun a k q => by unfold PRs at q; omega)
          obtain ⟨f3, X3⟩ := X2.inc (show 0 ≤ 100 by decide)
          have g3 := g2.fr f3 (fun a k q => by omega)
          have key := x_tabW D hb 59 1 q2 tp.length (dI (d1 (nu tp (nx tp q)).toNat)) _ rfl rfl (by decide) (by omega) n3 g3 X3
          rw [e2, Option.bind_some, r2]
          simp only []
          rw [if_neg one_nz]
          exact key.tr ((f1.tr f2.rs).tr (f3.mo (fun a k q => by unfold PSo; omega)))
    · have hw : wrdP tp 0 q = .inl (1, q) := by unfold wrdP; rw [if_neg c0]
      obtain ⟨s1, e1, f1, g1⟩ := x_flS (s := s) (a := 1) (q := q) (b := rI s 3 9) (D + 34) (by decide) h.2.1.1
      rw [if_neg c0, e_Rd_readStatement_21, if_neg (by decide), e1, Option.bind_some, hw]
      exact ⟨s1, (if_pos rfl).trans (x_bad _ g1 _ _), f1.rs, g1⟩
theorem x_readTable (D : Nat) {o : Nat} {s : Mem} (ho : o = 6 ∨ o = 17) (h : XTp s tp) (hb : Bys tp) : XTb (f_Rd_readTable (D + 37) o s) (tabP tp) s o := by
  obtain ⟨s1, e1, f1, g1⟩ := x_beginR (D + 32) h hb
  obtain ⟨s2, e2, f2, X2⟩ := x_clear (D + 34) ho s1
  have g2 : XS s2 tp (sk tp 0) := g1.fr f2 (fun a k q => by omega)
  have f12 : Fr (PSo o) s s2 := f1.rs.tr (f2.mo (fun a k q => by unfold PSo; omega))
  rw [e_Rd_readTable, e1, Option.bind_some]
  simp only []
  rw [e2, Option.bind_some]
  exact (x_fst D g2 X2 hb).tr f12
end XTAB
