/-! the reference reads a table -/
section MTABLE
variable {tp : List Int}
abbrev PMe : Nat → Nat → Prop := fun a i => PMd a i ∨ a = 84 ∧ i = 48
theorem Fr.me {s s' : Mem} (h : Fr PMd s s') : Fr PMe s s' := h.mo (fun _ _ q => Or.inl q)
theorem P2_e : ∀ a k, PM2 a k → PMe a k := fun a k q => by unfold PM2 at q; unfold PMe PMd; omega
theorem P4_e : ∀ a k, PM4 a k → PMe a k := fun a k q => by unfold PM4 at q; unfold PMe PMd; omega
theorem P56_e : ∀ a k, (a = 84 ∧ (k = 5 ∨ k = 6)) → PMe a k := fun a k q => by unfold PMe PMd; omega
theorem P114_d : ∀ a k, (a = 114 ∧ k = 2) → PMd a k := fun a k q => by unfold PMd; omega
theorem P1140_e : ∀ a k, (a = 114 ∧ k = 0) → PMe a k := fun a k q => by unfold PMe PMd; omega
theorem P13_e : ∀ a i, (a = 114 ∧ i < 3 ∨ a = 118 ∨ a = 119 ∧ i < 3) → PMe a i := fun a i q => by unfold PMe PMd; omega
theorem n48_n : ¬ PMn 84 48 := by unfold PMn; omega
theorem n48_d : ¬ PMd 84 48 := by unfold PMd; omega
/-- a statement, ahead of its end -/
def MSt (tp : List Int) (X : Rs) (res : PR (Nat × Dr)) (s : Mem) : Prop := match res with
  | .inl e => ∃ s1, X = some (0, s1) ∧ Fr PMe s s1 ∧ MFl s1 e
  | .inr x => ∃ s1, X = some (0, s1) ∧ Fr PMe s s1 ∧ QA s1 tp x.1 ∧ MD s1 x.2 x.1 ∧ rI s1 84 48 = (x.2.1 : Int)
theorem m_139 (D : Nat) {X : Rs} {s : Mem} {d : Dr} {q : Nat} (h48 : rI s 84 48 = (d.1 : Int)) (hl : d.1 ≤ 100) (hdd : ∀ x, stbP tp d q = .inr x → x.2.1 = d.1) (h : MOS tp X (stbP tp d q) s) : MSt tp (X.bind fun p => L_M_statementTold_139 (D + 3) p.2) (staP tp d q) s := by
  unfold staP
  cases hr : stbP tp d q with
  | inl e =>
    rw [hr] at h
    obtain ⟨s1, e1, f1, g1⟩ := h
    have z5 : rI s1 84 5 ≠ 0 := by rw [g1.1.1]; exact g1.1.2
    rw [e1, Option.bind_some, e_M_statementTold_139, m_asksSign0 (D + 2) _ z5, Option.bind_some]
    have f2 : Fr (fun a k => a = 84 ∧ k = 48) s1 (wI s1 84 48 (w32 (rI s1 84 48 + 1))) := Fr.rf.w ⟨rfl, rfl⟩
    exact ⟨_, rfl, f1.me.tr (f2.mo (fun a k q => Or.inr q)), ⟨(f2.i (by omega)).trans g1.1.1, g1.1.2⟩, (f2.i (by omega)).trans g1.2⟩
  | inr x =>
    have hx := hdd x hr
    rw [hr] at h
    obtain ⟨s1, e1, f1, g1, M1⟩ := h
    rw [e1, Option.bind_some, e_M_statementTold_139]
    show MSt tp _ (bn (sgnP tp 59 x.1) _) s
    rcases m_sgnS D g1 (v := 59) (by decide) with ⟨e, s2, r2, e2, f2, g2⟩ | ⟨q2, s2, r2, e2, f2, g2⟩
    · rw [r2, e2, Option.bind_some]
      have f3 : Fr (fun a k => a = 84 ∧ k = 48) s2 (wI s2 84 48 (w32 (rI s2 84 48 + 1))) := Fr.rf.w ⟨rfl, rfl⟩
      exact ⟨_, rfl, (f1.me.tr f2.md.me).tr (f3.mo (fun a k q => Or.inr q)), ⟨(f3.i (by omega)).trans g2.1.1, g2.1.2⟩, (f3.i (by omega)).trans g2.2⟩
    · have hlt := sgn_lt (by decide) r2
      have e48 : rI s2 84 48 = (d.1 : Int) := by rw [f2.i n48_n, f1.i n48_d]; exact h48
      have f3 : Fr (fun a k => a = 84 ∧ k = 48) s2 (wI s2 84 48 (w32 (rI s2 84 48 + 1))) := Fr.rf.w ⟨rfl, rfl⟩
      have M2 : MD s2 x.2 q2 := M1.fr f2 (by omega) (fun a k q => by unfold PMn at q; omega)
      have M3 := M2.fr f3 (Nat.le_refl _) (fun a k q => by omega)
      rw [r2, e2, Option.bind_some]
      refine ⟨_, rfl, (f1.me.tr f2.md.me).tr (f3.mo (fun a k q => Or.inr q)), g2.fr2 f3 (fun a k q => by omega), M3, ?_⟩
      show rI (wI s2 84 48 (w32 (rI s2 84 48 + 1))) 84 48 = ((x.2.1 + 1 : Nat) : Int)
      rw [rI_same, e48, w32_s (by omega), hx]
theorem m_asksE (D : Nat) {n o q : Nat} {s : Mem} (g : QE s tp q) : ∀ {i : Int}, woO o = true → (WD.getD (woA o) []).length = n → (woA o : Int) = i → wd tp q ≠ i → f_M_takes (D + 3) n o s = some (0, s) := fun {i} ho hn hi hw => by
  have := m_takesE D g ho (by rw [hi]; exact hw)
  rw [hn] at this
  exact this
theorem m_takesT (D : Nat) {n o q : Nat} {s : Mem} {i : Int} (g : QE s tp q) (ho : woO o = true) (hn : (WD.getD (woA o) []).length = n) (hi : (woA o : Int) = i) (hw : wd tp q = i) : ∃ s1, f_M_takes (D + 3) n o s = some (1, s1) ∧ Fr PM4 s s1 ∧ QA s1 tp (nx tp q) := by
  have := (m_takes D g.1 ho).1 (by rw [hi]; exact hw)
  rw [hn] at this
  exact this
theorem MSt.tr {X : Rs} {res : PR (Nat × Dr)} {s s0 : Mem} (h : MSt tp X res s) (hf : Fr PMe s0 s) : MSt tp X res s0 := by
  match res, h with
  | .inl e, ⟨s1, h1, h2, h3⟩ => exact ⟨s1, h1, hf.tr h2, h3⟩
  | .inr d, ⟨s1, h1, h2, h3⟩ => exact ⟨s1, h1, hf.tr h2, h3⟩
theorem m_staS (E : Nat) {q : Nat} {s : Mem} {d : Dr} (hd : DOk d) (g : QE s tp q) (hM : MD s d q) (h48 : rI s 84 48 = (d.1 : Int)) (h60 : d.1 < 60) : MSt tp (f_M_statementTold (E + 13) s) (staP tp d q) s := by
  have h16 := g.1.1.2.1
  have hdd : ∀ x, stbP tp d q = .inr x → x.2.1 = d.1 := fun x hx => (stb_ok h16 hx hd).2.2
  have step : ∀ {n o : Nat} {i : Int} {X : Mem → Rs}, woO o = true → (WD.getD (woA o) []).length = n → (woA o : Int) = i → i ≠ -1 → wd tp q = i → (∀ s1, QA s1 tp (nx tp q) → MD s1 d q → q < nx tp q → MOS tp (X s1) (stbP tp d q) s1) → MSt tp ((f_M_takes (E + 12) n o s).bind fun p => (X p.2).bind fun p => L_M_statementTold_139 (E + 12) p.2) (staP tp d q) s := fun {n o i X} ho hn hi h1 hw hX => by
    obtain ⟨s1, e1, f1, g1⟩ := m_takesT (E + 9) g ho hn hi hw
    have hlt := nx_w hw h1
    have M1 : MD s1 d q := hM.fr f1 (Nat.le_refl _) (fun a k q => by omega)
    have e48 : rI s1 84 48 = (d.1 : Int) := (f1.i (by omega)).trans h48
    have key := m_139 (E + 9) e48 (by omega) hdd (hX s1 g1 M1 hlt.1)
    rw [e1, Option.bind_some]
    exact key.tr (f1.mo P4_e)
  have stp2 : ∀ {n o : Nat} {i : Int} {X : Mem → Rs}, woO o = true → (WD.getD (woA o) []).length = n → (woA o : Int) = i → i ≠ -1 → wd tp q = i → (∀ s1, QA s1 tp (nx tp q) → MD s1 d q → q < nx tp q → MOS tp (X s1) (stbP tp d q) s1) → ∃ s1, f_M_takes (E + 12) n o s = some (1, s1) ∧ MSt tp ((X s1).bind fun p => L_M_statementTold_139 (E + 12) p.2) (staP tp d q) s := fun {n o i X} ho hn hi h1 hw hX => by
    obtain ⟨s1, e1, f1, g1⟩ := m_takesT (E + 9) g ho hn hi hw
    have key := step ho hn hi h1 hw hX
    rw [e1, Option.bind_some] at key
    exact ⟨s1, e1, key⟩
  rw [e_M_statementTold, h48, if_neg (by omega), g.2]
  by_cases c1 : wd tp q = 1
  · obtain ⟨s1, e1, k1⟩ := stp2 (X := f_M_guestTold (E + 12) (q : Int)) (n := 5) (o := 88) (i := 1) rfl rfl rfl (by decide) c1 (fun s1 g1 M1 hlt => by
      unfold stbP
      rw [if_pos c1]
      exact m_guestS (E + 6) hd g1 M1 hlt)
    rw [e1, Option.bind_some]
    simp only []
    rw [if_neg one_nz]
    exact k1
  · rw [m_asksE (E + 9) (n := 5) (o := 88) g (i := 1) rfl rfl rfl c1, Option.bind_some]
    simp only []
    rw [if_pos trivial]
    by_cases c5 : wd tp q = 5
    · obtain ⟨s1, e1, k1⟩ := stp2 (X := f_M_hoopTold (E + 12)) (n := 4) (o := 92) (i := 5) rfl rfl rfl (by decide) c5 (fun s1 g1 M1 hlt => by
        unfold stbP
        rw [if_neg c1, if_pos c5]
        exact m_hoopS (E + 9) hd g1 M1 hlt)
      rw [e1, Option.bind_some]
      simp only []
      rw [if_neg one_nz]
      exact k1
    · rw [m_asksE (E + 9) (n := 4) (o := 92) g (i := 5) rfl rfl rfl c5, Option.bind_some]
      simp only []
      rw [if_pos trivial]
      by_cases c6 : wd tp q = 6
      · obtain ⟨s1, e1, k1⟩ := stp2 (X := f_M_codesTold (E + 12) 0 (q : Int)) (n := 6) (o := 93) (i := 6) rfl rfl rfl (by decide) c6 (fun s1 g1 M1 hlt => by
          unfold stbP
          rw [if_neg c1, if_neg c5, if_pos c6]
          exact m_ruleS E (k := 0) (by decide) g1 M1 hlt)
        rw [e1, Option.bind_some]
        simp only []
        rw [if_neg one_nz]
        exact k1
      · rw [m_asksE (E + 9) (n := 6) (o := 93) g (i := 6) rfl rfl rfl c6, Option.bind_some]
        simp only []
        rw [if_pos trivial]
        by_cases c7 : wd tp q = 7
        · obtain ⟨s1, e1, k1⟩ := stp2 (X := f_M_codesTold (E + 12) 1 (q : Int)) (n := 6) (o := 94) (i := 7) rfl rfl rfl (by decide) c7 (fun s1 g1 M1 hlt => by
            unfold stbP
            rw [if_neg c1, if_neg c5, if_neg c6, if_pos c7]
            exact m_ruleS E (k := 1) (by decide) g1 M1 hlt)
          rw [e1, Option.bind_some]
          simp only []
          rw [if_neg one_nz]
          exact k1
        · rw [m_asksE (E + 9) (n := 6) (o := 94) g (i := 7) rfl rfl rfl c7, Option.bind_some]
          simp only []
          rw [if_pos trivial]
          by_cases c8 : wd tp q = 8
          · obtain ⟨s1, e1, k1⟩ := stp2 (X := f_M_codesTold (E + 12) 2 (q : Int)) (n := 6) (o := 95) (i := 8) rfl rfl rfl (by decide) c8 (fun s1 g1 M1 hlt => by
              unfold stbP
              rw [if_neg c1, if_neg c5, if_neg c6, if_neg c7, if_pos c8]
              exact m_ruleS E (k := 2) (by decide) g1 M1 hlt)
            rw [e1, Option.bind_some]
            simp only []
            rw [if_neg one_nz]
            exact k1
          · rw [m_asksE (E + 9) (n := 6) (o := 95) g (i := 8) rfl rfl rfl c8, Option.bind_some]
            simp only []
            rw [if_pos trivial]
            have hM1 := hM
            have key : MOS tp ((f_M_asks (E + 12) 5 96 s).bind fun p6 => (f_M_number (E + 12) 0 100 p6.2).bind fun p7 => some (0, wI p7.2 114 2 p7.1)) (stbP tp d q) s := by
              unfold stbP
              rw [if_neg c1, if_neg c5, if_neg c6, if_neg c7, if_neg c8]
              rcases m_wrdS (E + 8) (n := 5) (o := 96) (i := 9) g.1 rfl rfl rfl with ⟨e, s1, r1, e1, f1, g1⟩ | ⟨q1, s1, r1, e1, f1, g1⟩
              · have z5 : rI s1 84 5 ≠ 0 := by rw [g1.1.1]; exact g1.1.2
                have c9 : ¬ wd tp q = 9 := fun c => by
                  unfold wrdP at r1
                  rw [if_pos c] at r1
                  cases r1
                have he : e = (1, q) := by
                  unfold wrdP at r1
                  rw [if_neg c9] at r1
                  cases r1
                  rfl
                rw [if_neg c9, e1, Option.bind_some]
                simp only []
                rw [m_number0 (E + 11) _ _ z5, Option.bind_some]
                have f2 : Fr (fun a k => a = 114 ∧ k = 2) s1 (wI s1 114 2 0) := Fr.rf.w ⟨rfl, rfl⟩
                rw [he] at g1
                exact ⟨_, rfl, f1.md.tr (f2.mo P114_d), ⟨(f2.i (by omega)).trans g1.1.1, g1.1.2⟩, (f2.i (by omega)).trans g1.2⟩
              · obtain ⟨c9, rfl⟩ := wrdP_i r1
                have hlt := nx_w c9 (by decide)
                have M1 : MD s1 d q := hM.fr f1 (Nat.le_refl _) (fun a k q => by unfold PMn at q; omega)
                rw [if_pos c9, e1, Option.bind_some]
                simp only []
                unfold toaP
                rcases m_numS (E + 10) g1 0 100 with ⟨e, s2, x, r2, e2, f2, g2⟩ | ⟨s2, r2, e2, f2, g2, -, n1, n2⟩
                · rw [r2, e2, Option.bind_some]
                  have f3 : Fr (fun a k => a = 114 ∧ k = 2) s2 (wI s2 114 2 x) := Fr.rf.w ⟨rfl, rfl⟩
                  exact ⟨_, rfl, (f1.md.tr f2.md).tr (f3.mo P114_d), ⟨(f3.i (by omega)).trans g2.1.1, g2.1.2⟩, (f3.i (by omega)).trans g2.2⟩
                · have f3 : Fr (fun a k => a = 114 ∧ k = 2) s2 (wI s2 114 2 (nu tp (nx tp q))) := Fr.rf.w ⟨rfl, rfl⟩
                  have hlt2 := num_lt r2
                  have M2 : MD s2 d q := M1.fr f2 (Nat.le_refl _) (fun a k q => by unfold PMn at q; omega)
                  rw [r2, e2, Option.bind_some]
                  refine ⟨_, rfl, (f1.md.tr f2.md).tr (f3.mo P114_d), g2.fr2 f3 (fun a k q => by omega), ?_⟩
                  obtain ⟨⟨y1, y2, y3⟩, y4, y5, n, y6, y7, y8, y9, y10⟩ := M2
                  refine ⟨⟨(f3.i (by omega)).trans y1, (f3.i (by omega)).trans y2, rI_same _ _ _ _⟩, fun i hi => ?_, fun j hj => (f3.i (by omega)).trans (y5 j hj), n, (f3.i (by omega)).trans y6, ?_, y8.fr f3 (Nat.le_refl _) (fun a i q => by omega), y9.fr f3 (Nat.le_refl _) (fun a i q => by omega), y10.fr f3 (Nat.le_refl _) (fun a i q => by omega)⟩
                  · obtain ⟨a1, a2, a3, a4⟩ := y4 i hi
                    exact ⟨(f3.i (by omega)).trans a1, (f3.i (by omega)).trans a2, (f3.i (by omega)).trans a3, (f3.i (by omega)).trans a4⟩
                  · show n ≤ nx tp (nx tp q)
                    have a1 := hlt2.1
                    simp only [] at a1
                    omega
            have k2 := m_139 (E + 9) h48 (by omega) hdd key
            rw [Option.bind_assoc] at k2
            have hb : ∀ p6 : Int × Mem, (((f_M_number (E + 12) 0 100 p6.2).bind fun p7 => some ((0 : Int), wI p7.2 114 2 p7.1)).bind fun p => L_M_statementTold_139 (E + 9 + 3) p.2) = ((f_M_number (E + 12) 0 100 p6.2).bind fun p7 => L_M_statementTold_139 (E + 12) (wI p7.2 114 2 p7.1)) := fun p6 => by rw [Option.bind_assoc]; rfl
            simp only [hb] at k2
            exact k2
/-- the statements, to the end -/
def MTl (D : Nat) (X : Rs) (res : PR Dr) (s : Mem) : Prop := match res with
  | .inl e => ∃ s1, X = L_M_table_130 D s1 ∧ Fr PMe s s1 ∧ MFl s1 e
  | .inr d => ∃ s1, X = L_M_table_130 D s1 ∧ Fr PMe s s1 ∧ (rI s1 84 5 = 0 ∧ rI s1 84 6 = -1) ∧ (∃ q, q ≤ 1600 ∧ MD s1 d q) ∧ rI s1 84 48 = (d.1 : Int)
theorem MTl.tr {D : Nat} {X : Rs} {res : PR Dr} {s s0 : Mem} (h : MTl D X res s) (hf : Fr PMe s0 s) : MTl D X res s0 := by
  match res, h with
  | .inl e, ⟨s1, h1, h2, h3⟩ => exact ⟨s1, h1, hf.tr h2, h3⟩
  | .inr d, ⟨s1, h1, h2, h3⟩ => exact ⟨s1, h1, hf.tr h2, h3⟩
theorem m_108b (D : Nat) {s : Mem} (h : rI s 84 5 ≠ 0) : L_M_table_108 D s = L_M_table_130 D s := by rw [e_M_table_108, if_neg h]
theorem ch_m1 (hb : Bys tp) {q : Nat} : ch tp q = -1 ↔ kd tp q = 0 := by
  rw [kd_0]
  unfold ch
  by_cases c : q < tp.length
  · rw [if_pos c]
    have := tg_r hb c
    constructor
    · intro h; omega
    · intro h; omega
  · rw [if_neg c]
    exact ⟨fun _ => by omega, fun _ => rfl⟩
theorem m_tabW (E : Nat) (hb : Bys tp) : ∀ (f q : Nat) (d : Dr) (s : Mem), tp.length ≤ f + q → DOk d → d.1 ≤ 60 → QA s tp q → MD s d q → rI s 84 48 = (d.1 : Int) → MTl (E + 13) (L_M_table_108 (E + 13) s) (tabW tp f q d) s := by
  intro f
  induction f with
  | zero =>
    intro q d s hf hd h60 h hM h48
    have k0 : kd tp q = 0 := kd_0.mpr (by omega)
    obtain ⟨s1, e1, f1, g1⟩ := m_look (E + 12) h
    rw [tabW_0 k0, e_M_table_108, h.2.2.1, if_pos rfl, e1, Option.bind_some]
    simp only []
    rw [if_pos ((ch_m1 hb).mpr k0)]
    have h16 := h.1.2.1
    have hq := h.lq
    exact ⟨s1, rfl, f1.mo P2_e, ⟨g1.1.2.2.1, g1.1.2.2.2.2.2.2⟩, ⟨q, by omega, hM.fr f1 (Nat.le_refl _) (fun a k q => by omega)⟩, (f1.i (by omega)).trans h48⟩
  | succ f ih =>
    intro q d s hf hd h60 h hM h48
    have h16 := h.1.2.1
    have hq := h.lq
    obtain ⟨s1, e1, f1, g1⟩ := m_look (E + 12) h
    have f1e : Fr PMe s s1 := f1.mo P2_e
    have M1 : MD s1 d q := hM.fr f1 (Nat.le_refl _) (fun a k q => by omega)
    have e48 : rI s1 84 48 = (d.1 : Int) := (f1.i (by omega)).trans h48
    by_cases k0 : kd tp q = 0
    · rw [tabW_0 k0, e_M_table_108, h.2.2.1, if_pos rfl, e1, Option.bind_some]
      simp only []
      rw [if_pos ((ch_m1 hb).mpr k0)]
      exact ⟨s1, rfl, f1e, ⟨g1.1.2.2.1, g1.1.2.2.2.2.2.2⟩, ⟨q, by omega, M1⟩, e48⟩
    · unfold tabW
      rw [if_neg k0, e_M_table_108, h.2.2.1, if_pos rfl, e1, Option.bind_some]
      simp only []
      rw [if_neg (fun e => k0 ((ch_m1 hb).mp e))]
      by_cases c60 : d.1 = 60
      · obtain ⟨s2, e2, f2, g2⟩ := m_flS (E + 11) g1.1.2.2.1 (a := 5) (b := rI s1 84 2) (q := q) (by decide) g1.2
        have z5 : rI s2 84 5 ≠ 0 := by rw [g2.1.1]; exact g2.1.2
        rw [if_pos c60, e_M_statementTold, e48, if_pos (by omega), e2, Option.bind_some, Option.bind_some]
        exact ⟨s2, m_108b _ z5, f1e.tr (f2.mo P56_e), g2⟩
      · rw [if_neg c60]
        have hs := m_staS E hd g1 M1 e48 (by omega)
        cases hr : staP tp d q with
        | inl e =>
          rw [hr] at hs
          obtain ⟨s2, e2, f2, g2⟩ := hs
          have z5 : rI s2 84 5 ≠ 0 := by rw [g2.1.1]; exact g2.1.2
          rw [e2, Option.bind_some]
          exact ⟨s2, m_108b _ z5, f1e.tr f2, g2⟩
        | inr x =>
          obtain ⟨⟨n1, n2⟩, n3, n4⟩ := sta_ok h16 hr hd
          rw [hr] at hs
          obtain ⟨s2, e2, f2, g2, M2, k2⟩ := hs
          rw [e2, Option.bind_some]
          exact (ih x.1 x.2 s2 (by omega) n3 (by omega) g2 M2 k2).tr (f1e.tr f2)
theorem gl_sk0 : gl tp (sk tp 0) = false := by
  unfold gl pv
  by_cases c : sk tp 0 = 0
  · rw [if_pos c]; rfl
  · rw [if_neg c]
    have h := ru_p (p := isBk) (tp := tp) (i := 0) (Nat.zero_le _)
    have h1 := h.2.2.2 (sk tp 0 - 1) (Nat.zero_le _) (by unfold sk at c ⊢; omega)
    rw [(bk_n h1).1, (bk_n h1).2]
    rfl
theorem m_t40 (D : Nat) : ∀ (j b : Nat) (s : Mem), b + j = 3 → (∀ k, k < b → rI s 114 k = 0) → ∃ s1, L_M_table_40 D (b : Int) s = L_M_table_60 D 0 s1 ∧ Fr (fun a i => a = 114 ∧ i < 3) s s1 ∧ ∀ k, k < 3 → rI s1 114 k = 0
  | 0, b, s, hb, hk => by
    rw [e_M_table_40, if_neg (by omega)]
    exact ⟨s, rfl, Fr.rf, fun k hk2 => hk k (by omega)⟩
  | j + 1, b, s, hb, hk => by
    rw [e_M_table_40, if_pos (by omega), inB_n (by omega), Int.toNat_natCast, w32_s (by omega)]
    have f1 : Fr (fun a i => a = 114 ∧ i = b) s (wI s 114 b 0) := Fr.rf.w ⟨rfl, rfl⟩
    obtain ⟨s1, e1, f2, g2⟩ := m_t40 D j (b + 1) (wI s 114 b 0) (by omega) (fun k hk2 => by
      by_cases c : k = b
      · rw [c, rI_same]
      · rw [f1.i (by omega)]; exact hk k (by omega))
    exact ⟨s1, e1, (f1.mo (fun a i q => by omega)).tr f2, g2⟩
theorem m_t60 (D : Nat) : ∀ (j b : Nat) (s : Mem), b + j = 9 → (∀ k, k < b → rI s 118 k = 0) → ∃ s1, L_M_table_60 D (b : Int) s = L_M_table_81 D 0 s1 ∧ Fr (fun a _ => a = 118) s s1 ∧ ∀ k, k < 9 → rI s1 118 k = 0
  | 0, b, s, hb, hk => by
    rw [e_M_table_60, if_neg (by omega)]
    exact ⟨s, rfl, Fr.rf, fun k hk2 => hk k (by omega)⟩
  | j + 1, b, s, hb, hk => by
    rw [e_M_table_60, if_pos (by omega), inB_n (by omega), Int.toNat_natCast, w32_s (by omega)]
    have f1 : Fr (fun a i => a = 118 ∧ i = b) s (wI s 118 b 0) := Fr.rf.w ⟨rfl, rfl⟩
    obtain ⟨s1, e1, f2, g2⟩ := m_t60 D j (b + 1) (wI s 118 b 0) (by omega) (fun k hk2 => by
      by_cases c : k = b
      · rw [c, rI_same]
      · rw [f1.i (by omega)]; exact hk k (by omega))
    exact ⟨s1, e1, (f1.mo (fun a i q => by omega)).tr f2, g2⟩
theorem m_t81 (D : Nat) : ∀ (j b : Nat) (s : Mem), b + j = 3 → (∀ k, k < b → rI s 119 k = -1) → ∃ s1, L_M_table_81 D (b : Int) s = ((f_M_tableTold D s1).bind fun p1 => L_M_table_108 D (wI p1.2 84 48 1)) ∧ Fr (fun a i => a = 119 ∧ i < 3) s s1 ∧ ∀ k, k < 3 → rI s1 119 k = -1
  | 0, b, s, hb, hk => by
    rw [e_M_table_81, if_neg (by omega)]
    exact ⟨s, rfl, Fr.rf, fun k hk2 => hk k (by omega)⟩
  | j + 1, b, s, hb, hk => by
    rw [e_M_table_81, if_pos (by omega), inB_n (by omega), Int.toNat_natCast, w32_s (by omega)]
    have f1 : Fr (fun a i => a = 119 ∧ i = b) s (wI s 119 b (-1)) := Fr.rf.w ⟨rfl, rfl⟩
    obtain ⟨s1, e1, f2, g2⟩ := m_t81 D j (b + 1) (wI s 119 b (-1)) (by omega) (fun k hk2 => by
      by_cases c : k = b
      · rw [c, rI_same]
      · rw [f1.i (by omega)]; exact hk k (by omega))
    exact ⟨s1, e1, (f1.mo (fun a i q => by omega)).tr f2, g2⟩
theorem MD.z {s : Mem} {q : Nat} (h0 : ∀ k, k < 3 → rI s 114 k = 0) (h8 : ∀ k, k < 9 → rI s 118 k = 0) (h9 : ∀ k, k < 3 → rI s 119 k = -1) (h47 : rI s 84 47 = 0) : MD s d0 q := ⟨⟨h0 0 (by decide), h0 1 (by decide), h0 2 (by decide)⟩, fun i hi => absurd hi (Nat.not_lt_zero _), fun j hj => by rw [h8 j hj, if_neg (fun q => by cases q)], 0, h47, Nat.zero_le _, h9 0 (by decide), h9 1 (by decide), h9 2 (by decide)⟩
abbrev PMf : Nat → Nat → Prop := fun a i => PMe a i ∨ a = 84 ∧ (i = 1 ∨ i = 3)
theorem P0_f : ∀ a i, (a = 84 ∧ (i = 1 ∨ i = 2 ∨ i = 3 ∨ i = 4 ∨ i = 5 ∨ i = 6 ∨ i = 47)) → PMf a i := fun a i q => by unfold PMf PMe PMd; omega
/-- a whole table, up to its end -/
theorem m_tabT (E : Nat) {s : Mem} (h : MTp s tp) (hb : Bys tp) (hw : MWs s) : ∃ s0, Fr PMf s s0 ∧ rI s0 84 1 = 0 ∧ MTl (E + 13) (f_M_table (E + 14) s) (tabP tp) s0 := by
  obtain ⟨h1, h2, h3⟩ := h
  have f0 : Fr (fun a i => a = 84 ∧ (i = 1 ∨ i = 2 ∨ i = 3 ∨ i = 4 ∨ i = 5 ∨ i = 6 ∨ i = 47)) s (wI (wI (wI (wI (wI (wI (wI s 84 3 (rI s 84 1)) 84 1 0) 84 2 0) 84 4 (-1)) 84 5 0) 84 6 (-1)) 84 47 0) := ((((((Fr.rf.w (by omega)).w (by omega)).w (by omega)).w (by omega)).w (by omega)).w (by omega)).w (by omega)
  have v1 : rI (wI (wI (wI (wI (wI (wI (wI s 84 3 (rI s 84 1)) 84 1 0) 84 2 0) 84 4 (-1)) 84 5 0) 84 6 (-1)) 84 47 0) 84 1 = 0 := by simp (disch := omega) only [rI_other, rI_same]
  have v2 : rI (wI (wI (wI (wI (wI (wI (wI s 84 3 (rI s 84 1)) 84 1 0) 84 2 0) 84 4 (-1)) 84 5 0) 84 6 (-1)) 84 47 0) 84 2 = 0 := by simp (disch := omega) only [rI_other, rI_same]
  have v3 : rI (wI (wI (wI (wI (wI (wI (wI s 84 3 (rI s 84 1)) 84 1 0) 84 2 0) 84 4 (-1)) 84 5 0) 84 6 (-1)) 84 47 0) 84 3 = (tp.length : Int) := by simp (disch := omega) only [rI_other, rI_same]; exact h1
  have v4 : rI (wI (wI (wI (wI (wI (wI (wI s 84 3 (rI s 84 1)) 84 1 0) 84 2 0) 84 4 (-1)) 84 5 0) 84 6 (-1)) 84 47 0) 84 4 = -1 := by simp (disch := omega) only [rI_other, rI_same]
  have v5 : rI (wI (wI (wI (wI (wI (wI (wI s 84 3 (rI s 84 1)) 84 1 0) 84 2 0) 84 4 (-1)) 84 5 0) 84 6 (-1)) 84 47 0) 84 5 = 0 := by simp (disch := omega) only [rI_other, rI_same]
  have v6 : rI (wI (wI (wI (wI (wI (wI (wI s 84 3 (rI s 84 1)) 84 1 0) 84 2 0) 84 4 (-1)) 84 5 0) 84 6 (-1)) 84 47 0) 84 6 = -1 := by simp (disch := omega) only [rI_other, rI_same]
  have v7 : rI (wI (wI (wI (wI (wI (wI (wI s 84 3 (rI s 84 1)) 84 1 0) 84 2 0) 84 4 (-1)) 84 5 0) 84 6 (-1)) 84 47 0) 84 47 = 0 := rI_same _ _ _ _
  rw [e_M_table]
  generalize wI (wI (wI (wI (wI (wI (wI s 84 3 (rI s 84 1)) 84 1 0) 84 2 0) 84 4 (-1)) 84 5 0) 84 6 (-1)) 84 47 0 = sa at f0 v1 v2 v3 v4 v5 v6 v7 ⊢
  obtain ⟨s1, e1, f1, g1⟩ := m_t40 (E + 13) 3 0 sa rfl (fun k hk => absurd hk (Nat.not_lt_zero _))
  obtain ⟨s2, e2, f2, g2⟩ := m_t60 (E + 13) 9 0 s1 rfl (fun k hk => absurd hk (Nat.not_lt_zero _))
  obtain ⟨s3, e3, f3, g3⟩ := m_t81 (E + 13) 3 0 s2 rfl (fun k hk => absurd hk (Nat.not_lt_zero _))
  have e123 : L_M_table_40 (E + 13) 0 sa = ((f_M_tableTold (E + 13) s3).bind fun p1 => L_M_table_108 (E + 13) (wI p1.2 84 48 1)) := Eq.trans e1 (Eq.trans e2 e3)
  have f13 : Fr (fun a i => a = 114 ∧ i < 3 ∨ a = 118 ∨ a = 119 ∧ i < 3) sa s3 := ((f1.mo (fun a i q => by omega)).tr (f2.mo (fun a i q => by omega))).tr (f3.mo (fun a i q => by omega))
  have z114 : ∀ k, k < 3 → rI s3 114 k = 0 := fun k hk => by rw [f3.i (by omega), f2.i (by omega)]; exact g1 k hk
  have z118 : ∀ k, k < 9 → rI s3 118 k = 0 := fun k hk => by rw [f3.i (by omega)]; exact g2 k hk
  have M3 : ∀ q, MD s3 d0 q := fun q => MD.z z114 z118 g3 ((f13.i (by omega)).trans v7)
  have A3 : QA s3 tp (sk tp 0) := ⟨⟨(f13.i (by omega)).trans v3, h2, (h3.fr f0 (fun i _ q => by omega)).fr f13 (fun i _ q => by omega)⟩, (hw.fr2 f0 (fun a k q => by omega)).fr2 f13 (fun a k q => by omega), (f13.i (by omega)).trans v5, ⟨0, (f13.i (by omega)).trans v2, Nat.zero_le _, rfl⟩, by rw [f13.i (by omega), v4, gl_sk0]; exact ⟨fun q => (by omega), fun q => (by cases q)⟩, by rw [f13.i (by omega), v4]; omega, (f13.i (by omega)).trans v6⟩
  rw [e123]
  refine ⟨sa, f0.mo P0_f, v1, ?_⟩
  have f13e : Fr PMe sa s3 := f13.mo P13_e
  have key : MTl (E + 13) ((f_M_tableTold (E + 13) s3).bind fun p1 => L_M_table_108 (E + 13) (wI p1.2 84 48 1)) (tabP tp) s3 := by
    unfold tabP fstP
    rw [e_M_tableTold]
    have fin : ∀ {e : Int × Nat} (s4 : Mem), Fr PMe s3 s4 → MFl s4 e → MTl (E + 13) (L_M_table_108 (E + 13) (wI s4 84 48 1)) (.inl e : PR Dr) s3 := fun {e} s4 f4 g4 => by
      have f5 : Fr (fun a k => a = 84 ∧ k = 48) s4 (wI s4 84 48 1) := Fr.rf.w ⟨rfl, rfl⟩
      have z5 : rI (wI s4 84 48 1) 84 5 ≠ 0 := by rw [f5.i (by omega), g4.1.1]; exact g4.1.2
      exact ⟨_, m_108b _ z5, f4.tr (f5.mo (fun a k q => Or.inr q)), ⟨(f5.i (by omega)).trans g4.1.1, g4.1.2⟩, (f5.i (by omega)).trans g4.2⟩
    rcases m_wrdS (E + 8) (n := 5) (o := 87) (i := 0) A3 rfl rfl rfl with ⟨e, s4, r4, e4, f4, g4⟩ | ⟨q4, s4, r4, e4, f4, g4⟩
    · have z5 : rI s4 84 5 ≠ 0 := by rw [g4.1.1]; exact g4.1.2
      have f5 : Fr (fun a k => a = 114 ∧ k = 0) s4 (wI s4 114 0 0) := Fr.rf.w ⟨rfl, rfl⟩
      have z5' : rI (wI s4 114 0 0) 84 5 ≠ 0 := by rw [f5.i (by omega)]; exact z5
      rw [r4, e4, Option.bind_some]
      simp only []
      rw [m_number0 (E + 11) _ _ z5, Option.bind_some]
      simp only []
      rw [m_asksSign0 (E + 11) _ z5', Option.bind_some, Option.bind_some]
      exact fin _ (f4.md.me.tr (f5.mo P1140_e)) ⟨⟨(f5.i (by omega)).trans g4.1.1, g4.1.2⟩, (f5.i (by omega)).trans g4.2⟩
    · rw [r4, e4, Option.bind_some]
      simp only [bn]
      rcases m_numS (E + 10) g4 3 9 with ⟨e, s5, x, r5, e5, f5, g5⟩ | ⟨s5, r5, e5, f5, g5, -, n1, n2⟩
      · have f6 : Fr (fun a k => a = 114 ∧ k = 0) s5 (wI s5 114 0 x) := Fr.rf.w ⟨rfl, rfl⟩
        have z5' : rI (wI s5 114 0 x) 84 5 ≠ 0 := by rw [f6.i (by omega), g5.1.1]; exact g5.1.2
        rw [r5, e5, Option.bind_some]
        simp only []
        rw [m_asksSign0 (E + 11) _ z5', Option.bind_some, Option.bind_some]
        exact fin _ ((f4.md.tr f5.md).me.tr (f6.mo P1140_e)) ⟨⟨(f6.i (by omega)).trans g5.1.1, g5.1.2⟩, (f6.i (by omega)).trans g5.2⟩
      · have f6 : Fr (fun a k => a = 114 ∧ k = 0) s5 (wI s5 114 0 (nu tp q4)) := Fr.rf.w ⟨rfl, rfl⟩
        have g6 : QA (wI s5 114 0 (nu tp q4)) tp (nx tp q4) := g5.fr2 f6 (fun a k q => by omega)
        have M5 : ∀ q, MD s5 d0 q := fun q => ((M3 q).fr f4 (Nat.le_refl _) (fun a k q => by unfold PMn at q; omega)).fr f5 (Nat.le_refl _) (fun a k q => by unfold PMn at q; omega)
        have M6 : ∀ q, MD (wI s5 114 0 (nu tp q4)) (d1 (nu tp q4).toNat) q := fun q => by
          obtain ⟨⟨y1, y2, y3⟩, y4, y5, n, y6, y7, y8, y9, y10⟩ := M5 q
          refine ⟨⟨?_, (f6.i (by omega)).trans y2, (f6.i (by omega)).trans y3⟩, fun i hi => absurd hi (Nat.not_lt_zero _), fun j hj => (f6.i (by omega)).trans (y5 j hj), n, (f6.i (by omega)).trans y6, y7, y8.fr f6 (Nat.le_refl _) (fun a i q => by omega), y9.fr f6 (Nat.le_refl _) (fun a i q => by omega), y10.fr f6 (Nat.le_refl _) (fun a i q => by omega)⟩
          rw [rI_same]
          show nu tp q4 = (((nu tp q4).toNat : Nat) : Int)
          omega
        have f46 : Fr PMe s3 (wI s5 114 0 (nu tp q4)) := (f4.md.tr f5.md).me.tr (f6.mo P1140_e)
        rw [r5, e5, Option.bind_some]
        simp only []
        rcases m_sgnS (E + 9) g6 (v := 59) (by decide) with ⟨e, s7, r7, e7, f7, g7⟩ | ⟨q7, s7, r7, e7, f7, g7⟩
        · rw [e7, Option.bind_some, Option.bind_some, r7]
          exact fin _ (f46.tr f7.md.me) g7
        · have hs : fstP tp (sk tp 0) = .inr (q7, (1, (nu tp q4).toNat, [], [], (fun _ => none), 0)) := by
            unfold fstP
            rw [r4]
            show bn (numP tp 3 9 q4) _ = _
            rw [r5]
            show bn (sgnP tp 59 (nx tp q4)) _ = _
            rw [r7]
            rfl
          obtain ⟨⟨n3, n4⟩, n5, n6⟩ := fst_ok hs
          have f8 : Fr (fun a k => a = 84 ∧ k = 48) s7 (wI s7 84 48 1) := Fr.rf.w ⟨rfl, rfl⟩
          have M7 : MD s7 (d1 (nu tp q4).toNat) q7 := (M6 q7).fr f7 (Nat.le_refl _) (fun a k q => by unfold PMn at q; omega)
          have M8 := M7.fr f8 (Nat.le_refl _) (fun a k q => by omega)
          have g8 : QA (wI s7 84 48 1) tp q7 := g7.fr2 f8 (fun a k q => by omega)
          have kk := m_tabW E hb tp.length q7 (1, (nu tp q4).toNat, [], [], (fun _ => none), 0) (wI s7 84 48 1) (by omega) n5 (show 1 ≤ 60 by decide) g8 M8 (rI_same _ _ _ _)
          rw [e7, Option.bind_some, Option.bind_some, r7]
          exact kk.tr ((f46.tr f7.md.me).tr (f8.mo (fun a k q => Or.inr q)))
  exact key.tr f13e
end MTABLE
