/-! questions: the reference -/
section MASK
variable {tp : List Int} {T : Tab} {w : Nat → Int}
theorem m_qKind (D : Nat) {s : Mem} {q : Nat} (h : QA s tp q) : ((27 ≤ wd tp q ∧ wd tp q ≤ 32) → ∃ s1, f_M_qKind (D + 5) s = some (wd tp q - 27, s1) ∧ Fr PMn s s1 ∧ QA s1 tp (nx tp q)) ∧ (¬ (27 ≤ wd tp q ∧ wd tp q ≤ 32) → ∃ s1, f_M_qKind (D + 5) s = some (5, s1) ∧ Fr PMn s s1 ∧ MFl s1 (1, q)) := by
  have mn : ∀ {s s' : Mem}, Fr PM4 s s' → Fr PMn s s' := fun h => h.mo (fun a k q => by unfold PMn; omega)
  rw [e_M_qKind]
  have T0 := m_takes (D + 1) h (o := 130) rfl
  by_cases c0 : wd tp q = 27
  · obtain ⟨s1, e1, f1, g1⟩ := T0.1 c0
    have e1' : f_M_takes (D + 4) 5 130 s = some (1, s1) := e1
    refine ⟨fun _ => ?_, fun q => absurd ⟨by omega, by omega⟩ q⟩
    rw [e1', Option.bind_some]
    simp only []
    rw [if_neg one_nz, e_M_qKind_76, if_neg (by decide), c0]
    exact ⟨s1, rfl, mn f1, g1⟩
  · obtain ⟨s0, e0, f0, g0⟩ := T0.2 c0
    have e0' : f_M_takes (D + 4) 5 130 s = some (0, s0) := e0
    have f0n : Fr PMn s s0 := f0.mo (fun a k q => by unfold PMn; omega)
    rw [e0', Option.bind_some]
    simp only []
    rw [if_pos trivial]
    by_cases c1 : wd tp q = 28
    · obtain ⟨s1, e1, f1, g1⟩ := m_takesT (D + 1) (n := 4) (o := 131) (i := 28) g0 rfl rfl rfl c1
      refine ⟨fun _ => ?_, fun q => absurd ⟨by omega, by omega⟩ q⟩
      rw [e1, Option.bind_some]
      simp only []
      rw [if_neg one_nz, e_M_qKind_76, if_neg (by decide), c1]
      exact ⟨s1, rfl, f0n.tr (mn f1), g1⟩
    · rw [m_asksE (D + 1) (n := 4) (o := 131) g0 (i := 28) rfl rfl rfl c1, Option.bind_some]
      simp only []
      rw [if_pos trivial]
      by_cases c2 : wd tp q = 29
      · obtain ⟨s1, e1, f1, g1⟩ := m_takesT (D + 1) (n := 5) (o := 132) (i := 29) g0 rfl rfl rfl c2
        refine ⟨fun _ => ?_, fun q => absurd ⟨by omega, by omega⟩ q⟩
        rw [e1, Option.bind_some]
        simp only []
        rw [if_neg one_nz, e_M_qKind_76, if_neg (by decide), c2]
        exact ⟨s1, rfl, f0n.tr (mn f1), g1⟩
      · rw [m_asksE (D + 1) (n := 5) (o := 132) g0 (i := 29) rfl rfl rfl c2, Option.bind_some]
        simp only []
        rw [if_pos trivial]
        by_cases c3 : wd tp q = 30
        · obtain ⟨s1, e1, f1, g1⟩ := m_takesT (D + 1) (n := 5) (o := 133) (i := 30) g0 rfl rfl rfl c3
          refine ⟨fun _ => ?_, fun q => absurd ⟨by omega, by omega⟩ q⟩
          rw [e1, Option.bind_some]
          simp only []
          rw [if_neg one_nz, e_M_qKind_76, if_neg (by decide), c3]
          exact ⟨s1, rfl, f0n.tr (mn f1), g1⟩
        · rw [m_asksE (D + 1) (n := 5) (o := 133) g0 (i := 30) rfl rfl rfl c3, Option.bind_some]
          simp only []
          rw [if_pos trivial]
          by_cases c4 : wd tp q = 31
          · obtain ⟨s1, e1, f1, g1⟩ := m_takesT (D + 1) (n := 4) (o := 134) (i := 31) g0 rfl rfl rfl c4
            refine ⟨fun _ => ?_, fun q => absurd ⟨by omega, by omega⟩ q⟩
            rw [e1, Option.bind_some]
            simp only []
            rw [if_neg one_nz, e_M_qKind_76, if_neg (by decide), c4]
            exact ⟨s1, rfl, f0n.tr (mn f1), g1⟩
          · rw [m_asksE (D + 1) (n := 4) (o := 134) g0 (i := 31) rfl rfl rfl c4, Option.bind_some]
            simp only []
            rw [if_pos trivial, e_M_qKind_76, if_pos rfl]
            rcases m_wrdS D (n := 5) (o := 135) (i := 32) g0.1 rfl rfl rfl with ⟨e, s1, r1, e1, f1, g1⟩ | ⟨q1, s1, r1, e1, f1, g1⟩
            · have c5 : ¬ wd tp q = 32 := fun c => by
                unfold wrdP at r1
                rw [if_pos c] at r1
                cases r1
              have he : e = (1, q) := by
                unfold wrdP at r1
                rw [if_neg c5] at r1
                cases r1
                rfl
              refine ⟨fun q => by omega, fun _ => ?_⟩
              rw [e1, Option.bind_some]
              rw [he] at g1
              exact ⟨s1, rfl, f0n.tr f1, g1⟩
            · obtain ⟨c5, rfl⟩ := wrdP_i r1
              refine ⟨fun _ => ?_, fun q => absurd ⟨by omega, by omega⟩ q⟩
              rw [e1, Option.bind_some, c5]
              exact ⟨s1, rfl, f0n.tr f1, g1⟩
theorem ask1_0 {v a : Int} {g : Nat} : ask1 0 v g a = if v = 1 ∧ a = -1 then (g : Int) else a := by unfold ask1; rw [if_pos rfl]
theorem ask1_1 {v a : Int} {g : Nat} : ask1 1 v g a = if v = 1 then (g : Int) else a := by unfold ask1; rw [if_neg (by decide), if_pos rfl]
theorem ask1_2 {v a : Int} {g : Nat} : ask1 2 v g a = if v = 1 then a + 1 else a := by unfold ask1; rw [if_neg (by decide), if_neg (by decide), if_pos rfl]
theorem ask1_3 {v a : Int} {g : Nat} : ask1 3 v g a = a + v := by unfold ask1; rw [if_neg (by decide), if_neg (by decide), if_neg (by decide), if_pos rfl]
theorem ask1_4 {v a : Int} {g : Nat} : ask1 4 v g a = if g = 0 ∨ a < v then v else a := by unfold ask1; rw [if_neg (by decide), if_neg (by decide), if_neg (by decide), if_neg (by decide), if_pos rfl]
theorem ask1_5 {v a : Int} {g : Nat} : ask1 5 v g a = if g = 0 ∨ v < a then v else a := by unfold ask1; rw [if_neg (by decide), if_neg (by decide), if_neg (by decide), if_neg (by decide), if_neg (by decide)]
/-- an answer goes on -/
abbrev PMq : Nat → Nat → Prop := fun a k => a = 84 ∧ (k = 106 ∨ k = 107)
theorem q55 (D : Nat) {b c e : Int} {s : Mem} (h2 : b ≠ 2) : L_M_qTakes_55 D b c e s = L_M_qTakes_75 D b c s := by rw [e_M_qTakes_55, if_neg h2]
theorem q75 (D : Nat) {b c : Int} {s : Mem} (h2 : b ≠ 3) : L_M_qTakes_75 D b c s = L_M_qTakes_90 D b c s := by rw [e_M_qTakes_75, if_neg h2]
theorem q90 (D : Nat) {b c : Int} {s : Mem} (h2 : ¬ 3 < b) : L_M_qTakes_90 D b c s = some (0, wI s 84 107 0) := by rw [e_M_qTakes_90, if_neg h2]
theorem q38 (D : Nat) {b c e f : Int} {s : Mem} (h2 : b ≠ 1) : L_M_qTakes_38 D b c e f s = L_M_qTakes_55 D b c f s := by rw [e_M_qTakes_38, if_neg h2]
theorem q16 (D : Nat) {b c e f : Int} {s : Mem} (h2 : b ≠ 0) : L_M_qTakes_16 D b c e f s = L_M_qTakes_38 D b c e f s := by rw [e_M_qTakes_16, if_neg h2]
theorem q00 (D : Nat) {a b c : Int} {s : Mem} (h : a < 3) : f_M_qTakes (D + 1) a b c s = L_M_qTakes_16 D a b c (if b = 1 then 1 else 0) s := by
  rw [e_M_qTakes, if_pos h]
  by_cases c1 : b = 1
  · rw [if_pos (by rw [lC_eq]; exact c1), if_pos c1]
  · rw [if_neg (by rw [lC_eq]; exact c1), if_neg c1]
theorem q33 (D : Nat) {a b c : Int} {s : Mem} (h : ¬ a < 3) : f_M_qTakes (D + 1) a b c s = L_M_qTakes_16 D a b c 0 s := by rw [e_M_qTakes, if_neg h]
theorem m_takesQ (D : Nat) {s : Mem} {kind v a : Int} {g : Nat} (hk : 0 ≤ kind ∧ kind ≤ 5) (ha : rI s 84 106 = a) (hn : rI s 84 107 = if g = 0 then 1 else 0) (hb : -100000000 ≤ a ∧ a ≤ 100000000) (hv : -1000000 ≤ v ∧ v ≤ 1000000) : ∃ s1, f_M_qTakes (D + 1) kind v (g : Int) s = some (0, s1) ∧ Fr PMq s s1 ∧ rI s1 84 106 = ask1 kind v g a ∧ rI s1 84 107 = 0 := by
  have t90 : ∀ {s' : Mem} {x y : Int}, x = y → Fr PMq s s' → rI s' 84 106 = x → ∃ s1, some ((0 : Int), wI s' 84 107 0) = some (0, s1) ∧ Fr PMq s s1 ∧ rI s1 84 106 = y ∧ rI s1 84 107 = 0 := fun {s' x y} e hf hx => ⟨_, rfl, hf.w (by unfold PMq; omega), by rw [rI_other _ _ _ _ (by omega), hx, e], rI_same _ _ _ _⟩
  have fw : ∀ x : Int, Fr PMq s (wI s 84 106 x) := fun x => Fr.rf.w (by unfold PMq; omega)
  have h6 : kind = 0 ∨ kind = 1 ∨ kind = 2 ∨ kind = 3 ∨ kind = 4 ∨ kind = 5 := by omega
  rcases h6 with rfl | rfl | rfl | rfl | rfl | rfl
  · rw [q00 D (by decide), e_M_qTakes_16, if_pos rfl]
    by_cases c : v = 1
    · rw [if_pos c, if_neg one_nz, ha]
      by_cases c2 : a = -1
      · rw [if_pos (by rw [lC_eq]; exact c2), q55 D (by decide), q75 D (by decide), q90 D (by decide)]
        exact t90 (by rw [ask1_0, if_pos ⟨c, c2⟩]) (fw _) (rI_same _ _ _ _)
      · rw [if_neg (by rw [lC_eq]; exact c2), q38 D (by decide), q55 D (by decide), q75 D (by decide), q90 D (by decide)]
        exact t90 (by rw [ask1_0, if_neg (fun q => c2 q.2)]) Fr.rf ha
    · rw [if_neg c, if_pos rfl, q38 D (by decide), q55 D (by decide), q75 D (by decide), q90 D (by decide)]
      exact t90 (by rw [ask1_0, if_neg (fun q => c q.1)]) Fr.rf ha
  · rw [q00 D (by decide), q16 D (by decide), e_M_qTakes_38, if_pos rfl]
    by_cases c : v = 1
    · rw [if_pos c, if_neg one_nz, q55 D (by decide), q75 D (by decide), q90 D (by decide)]
      exact t90 (by rw [ask1_1, if_pos c]) (fw _) (rI_same _ _ _ _)
    · rw [if_neg c, if_pos rfl, q55 D (by decide), q75 D (by decide), q90 D (by decide)]
      exact t90 (by rw [ask1_1, if_neg c]) Fr.rf ha
  · rw [q00 D (by decide), q16 D (by decide), q38 D (by decide), e_M_qTakes_55, if_pos rfl]
    by_cases c : v = 1
    · rw [if_pos c, if_neg one_nz, q75 D (by decide), q90 D (by decide), ha, w64_i (by omega) (by omega)]
      exact t90 (by rw [ask1_2, if_pos c]) (fw _) (rI_same _ _ _ _)
    · rw [if_neg c, if_pos rfl, q75 D (by decide), q90 D (by decide)]
      exact t90 (by rw [ask1_2, if_neg c]) Fr.rf ha
  · rw [q33 D (by decide), q16 D (by decide), q38 D (by decide), q55 D (by decide), e_M_qTakes_75, if_pos rfl, q90 D (by decide), ha, w64_i (by omega) (by omega)]
    exact t90 ask1_3.symm (fw _) (rI_same _ _ _ _)
  · rw [q33 D (by decide), q16 D (by decide), q38 D (by decide), q55 D (by decide), q75 D (by decide), e_M_qTakes_90, if_pos (by decide), hn, ha]
    by_cases g0 : g = 0
    · rw [if_pos g0, if_neg one_nz]
      exact t90 (by rw [ask1_4, if_pos (Or.inl g0)]) (fw _) (rI_same _ _ _ _)
    · rw [if_neg g0, if_pos rfl, if_pos rfl]
      by_cases c : a < v
      · rw [if_pos (by rw [lC_gt]; exact c)]
        exact t90 (by rw [ask1_4, if_pos (Or.inr c)]) (fw _) (rI_same _ _ _ _)
      · rw [if_neg (by rw [lC_gt]; exact c)]
        exact t90 (by rw [ask1_4, if_neg (fun q => q.elim g0 c)]) Fr.rf ha
  · rw [q33 D (by decide), q16 D (by decide), q38 D (by decide), q55 D (by decide), q75 D (by decide), e_M_qTakes_90, if_pos (by decide), hn, ha]
    by_cases g0 : g = 0
    · rw [if_pos g0, if_neg one_nz]
      exact t90 (by rw [ask1_5, if_pos (Or.inl g0)]) (fw _) (rI_same _ _ _ _)
    · rw [if_neg g0, if_pos rfl, if_neg (by decide)]
      by_cases c : v < a
      · rw [if_pos (by rw [lC_lt]; exact c)]
        exact t90 (by rw [ask1_5, if_pos (Or.inr c)]) (fw _) (rI_same _ _ _ _)
      · rw [if_neg (by rw [lC_lt]; exact c)]
        exact t90 (by rw [ask1_5, if_neg (fun q => q.elim g0 c)]) Fr.rf ha
theorem ask1_r {kind v a : Int} {g : Nat} (hg : g ≤ 7) (ha : -1000000 * ((g : Int) + 1) ≤ a ∧ a ≤ 1000000 * ((g : Int) + 1)) (hv : -1000000 ≤ v ∧ v ≤ 1000000) : -1000000 * (((g + 1 : Nat) : Int) + 1) ≤ ask1 kind v g a ∧ ask1 kind v g a ≤ 1000000 * (((g + 1 : Nat) : Int) + 1) := by
  unfold ask1
  repeat' split
  all_goals omega
abbrev PMl : Nat → Nat → Prop := fun a i => a = 157 ∨ a = 84 ∧ (i = 55 ∨ i = 105 ∨ i = 106 ∨ i = 107)
theorem m_askF (D : Nat) {kind : Int} {cs : List Int} {bt : Bool} (hk : 0 ≤ kind ∧ kind ≤ 5) (ht : Tf T) (hw : Wf T w) (hok : Cok 3 cs bt) (hl : cs.length ≤ 1600) : ∀ (j g : Nat) (a : Int) (s : Mem), g + j = tG T → MT s T → MW s w → rI s 84 99 = (cs.length : Int) → Ag s 155 cs → rI s 84 106 = a → rI s 84 107 = (if g = 0 then 1 else 0) → (-1000000 * ((g : Int) + 1) ≤ a ∧ a ≤ 1000000 * ((g : Int) + 1)) → ∃ s1, L_M_ask_183 (D + 7) kind (g : Int) s = some (askF T w cs kind j g a, s1) ∧ Fr PMl s s1
  | 0, g, a, s, hg, hm, hws, h99, hA, ha, hn, hb => by
    rw [e_M_ask_183, m_g (D + 6) hm, Option.bind_some]
    simp only []
    rw [if_neg (by omega), ha]
    exact ⟨s, rfl, Fr.rf⟩
  | j + 1, g, a, s, hg, hm, hws, h99, hA, ha, hn, hb => by
    have h7 := ht.2.2.1
    have f0 : Fr (fun a i => a = 84 ∧ i = 55) s (wI s 84 55 (g : Int)) := Fr.rf.w ⟨rfl, rfl⟩
    obtain ⟨s1, e1, f1, r1, -⟩ := m_told D (cs := cs) (k := g) (s := wI s 84 55 (g : Int)) (hm.fr f0 (fun a i q => by omega)) (hws.fr f0 (fun a i q => by omega)) hw ht (by omega) (rI_same _ _ _ _) ((f0.i (by omega)).trans h99) (by omega) (fun i hi => (f0.i (by omega)).trans (hA i hi)) hok
    have f01 : Fr (fun a i => a = 157 ∨ a = 84 ∧ (i = 55 ∨ i = 105)) s s1 := (f0.mo (fun a i q => by omega)).tr (f1.mo (fun a i q => by unfold PMr at q; omega))
    obtain ⟨s2, e2, f2, k1, k2⟩ := m_takesQ (D + 6) (s := s1) (kind := kind) (v := valu T w g 0 cs) (g := g) hk ((f01.i (by omega)).trans ha) ((f01.i (by omega)).trans hn) (by omega) r1
    have f02 : Fr PMl s s2 := (f01.mo (fun a i q => by unfold PMl; omega)).tr (f2.mo (fun a i q => by unfold PMq at q; unfold PMl; omega))
    obtain ⟨s3, e3, f3⟩ := m_askF D hk ht hw hok hl j (g + 1) (ask1 kind (valu T w g 0 cs) g a) s2 (by omega) (hm.fr f02 (fun a i q => by unfold PMl at q; omega)) (hws.fr f02 (fun a i q => by unfold PMl at q; omega)) ((f02.i (by unfold PMl; omega)).trans h99) (hA.fr f02 (fun i _ q => by unfold PMl at q; omega)) k1 (by rw [k2, if_neg (by omega)]) (ask1_r (by omega) hb r1)
    rw [e_M_ask_183, m_g (D + 6) hm, Option.bind_some]
    simp only []
    rw [if_pos (by omega), e1, Option.bind_some]
    simp only []
    rw [e2, Option.bind_some]
    simp only []
    rw [w32_s (by omega)]
    exact ⟨s3, e3, f02.tr f3⟩
abbrev PMk : Nat → Nat → Prop := fun a i => (a = 84 ∧ (i = 2 ∨ i = 3 ∨ i = 4 ∨ i = 5 ∨ i = 6 ∨ i = 7 ∨ i = 8 ∨ i = 10 ∨ i = 38 ∨ i = 50 ∨ i = 55 ∨ i = 99 ∨ i = 101 ∨ i = 102 ∨ i = 103 ∨ i = 105 ∨ i = 106 ∨ i = 107)) ∨ a = 155 ∨ a = 156 ∨ a = 157
theorem m_133b (D : Nat) (b : Int) {s : Mem} {e : Int × Nat} (h : MFl s e) : ∃ s1, L_M_ask_133 D b s = some (-1000000000000000, s1) ∧ Fr (fun a i => a = 84 ∧ (i = 7 ∨ i = 8)) s s1 ∧ rI s1 84 7 = e.1 ∧ rI s1 84 8 = (e.2 : Int) := by
  have z5 : rI s 84 5 ≠ 0 := by rw [h.1.1]; exact h.1.2
  rw [e_M_ask_133, if_neg z5]
  refine ⟨_, rfl, (Fr.rf.w (by omega)).w (by omega), ?_, ?_⟩
  · rw [rI_other _ _ _ _ (by omega), rI_same]; exact h.1.1
  · rw [rI_same]; exact h.2
theorem m_109b (D : Nat) (b : Int) {s : Mem} {e : Int × Nat} (h : MFl s e) : L_M_ask_109 D b s = L_M_ask_133 D b s ∧ L_M_ask_98 D b s = L_M_ask_133 D b s := by
  have z5 : rI s 84 5 ≠ 0 := by rw [h.1.1]; exact h.1.2
  have e : L_M_ask_109 D b s = L_M_ask_133 D b s := by rw [e_M_ask_109, if_neg z5]
  exact ⟨e, by rw [e_M_ask_98, if_neg z5, e]⟩
def MQs (T : Tab) (w : Nat → Int) (X : Rs) (res : PR (Int × List Int)) (s : Mem) : Prop := match res with
  | .inl e => ∃ s1, X = some (-1000000000000000, s1) ∧ Fr PMk s s1 ∧ rI s1 84 7 = e.1 ∧ rI s1 84 8 = (e.2 : Int)
  | .inr x => ∃ s1, X = some (sAsk T w x.1 x.2, s1) ∧ Fr PMk s s1 ∧ rI s1 84 7 = 0 ∧ rI s1 84 8 = -1
theorem MQs.tr {X : Rs} {res : PR (Int × List Int)} {s s0 : Mem} (h : MQs T w X res s) (hf : Fr PMk s0 s) : MQs T w X res s0 := by
  match res, h with
  | .inl e, ⟨s1, h1, h2, h3⟩ => exact ⟨s1, h1, hf.tr h2, h3⟩
  | .inr x, ⟨s1, h1, h2, h3⟩ => exact ⟨s1, h1, hf.tr h2, h3⟩
theorem PMk_T : PMT PMk := fun a i h => by unfold PMk at h; omega
abbrev PMk1 : Nat → Nat → Prop := fun a i => PMk a i ∨ a = 84 ∧ i = 1
theorem PMk1_T : PMT PMk1 := fun a i h => h.elim (PMk_T a i) (fun h => by omega)
theorem m_askE (E : Nat) {kind : Int} {b : Bool} {q : Nat} {s : Mem} {X : Rs} (hk : 0 ≤ kind ∧ kind ≤ 5) (hbb : b = decide (kind < 3)) (hb : Bys tp) (ht : Tf T) (hw : Wf T w) (hm : MT s T) (hws : MW s w) (hl : q ≤ tp.length) (hX : TPr tp X (fun s1 => some (0, s1)) (cqP tp b q) s 3 [] [] 0 0) : MQs T w (X.bind fun p2 => L_M_ask_109 (E + 14) kind p2.2) (enP tp kind (cqP tp b q)) s := by
  rcases hX.cs with ⟨e, s1, r1, e1, f1, g1⟩ | ⟨q1, cs, s1, r1, e1, f1, g1, K1⟩
  · obtain ⟨s2, e2, f2, v1, v2⟩ := m_133b (E + 14) kind g1
    rw [r1, e1, Option.bind_some]
    exact ⟨s2, (m_109b (E + 14) kind g1).1.trans e2, (f1.mo (fun a i q => by unfold PQp at q; unfold PMk; omega)).tr (f2.mo (fun a i q => by unfold PMk; omega)), v1, v2⟩
  · rw [List.nil_append] at K1
    have f1k : Fr PMk s s1 := f1.mo (fun a i q => by unfold PQp at q; unfold PMk; omega)
    obtain ⟨s2, e2, f2, g2⟩ := m_look (E + 13) g1
    have f2k : Fr PMk s1 s2 := f2.mo (fun a i q => by unfold PMk; omega)
    have h16 := g1.1.2.1
    rw [r1, e1, Option.bind_some]
    show MQs T w (L_M_ask_109 (E + 14) kind s1) (if kd tp q1 = 0 then .inr (kind, cs) else .inl (1, q1)) s
    rw [e_M_ask_109, g1.2.2.1, if_pos rfl, e2, Option.bind_some]
    simp only []
    by_cases k0 : kd tp q1 = 0
    · have hok := cqP_ok r1
      have K2 : QK s2 3 [] cs 0 0 := K1.fr f2 (fun a i q => by omega)
      have f3 : Fr (fun a i => a = 84 ∧ (i = 7 ∨ i = 8 ∨ i = 106 ∨ i = 107)) s2 (wI (wI (wI (wI s2 84 7 (rI s2 84 5)) 84 8 (rI s2 84 6)) 84 106 (if kind < 2 then -1 else 0)) 84 107 1) := (((Fr.rf.w (by omega)).w (by omega)).w (by omega)).w (by omega)
      have v7 : rI (wI (wI (wI (wI s2 84 7 (rI s2 84 5)) 84 8 (rI s2 84 6)) 84 106 (if kind < 2 then -1 else 0)) 84 107 1) 84 7 = 0 := by
        rw [rI_other _ _ _ _ (by omega), rI_other _ _ _ _ (by omega), rI_other _ _ _ _ (by omega), rI_same]; exact g2.1.2.2.1
      have v8 : rI (wI (wI (wI (wI s2 84 7 (rI s2 84 5)) 84 8 (rI s2 84 6)) 84 106 (if kind < 2 then -1 else 0)) 84 107 1) 84 8 = -1 := by
        rw [rI_other _ _ _ _ (by omega), rI_other _ _ _ _ (by omega), rI_same]; exact g2.1.2.2.2.2.2.2
      have v106 : rI (wI (wI (wI (wI s2 84 7 (rI s2 84 5)) 84 8 (rI s2 84 6)) 84 106 (if kind < 2 then -1 else 0)) 84 107 1) 84 106 = if kind < 2 then -1 else 0 := by
        rw [rI_other _ _ _ _ (by omega), rI_same]
      have v107 : rI (wI (wI (wI (wI s2 84 7 (rI s2 84 5)) 84 8 (rI s2 84 6)) 84 106 (if kind < 2 then -1 else 0)) 84 107 1) 84 107 = 1 := rI_same _ _ _ _
      have eb : L_M_ask_133 (E + 14) kind s2 = L_M_ask_183 (E + 14) kind 0 (wI (wI (wI (wI s2 84 7 (rI s2 84 5)) 84 8 (rI s2 84 6)) 84 106 (if kind < 2 then -1 else 0)) 84 107 1) := by
        rw [e_M_ask_133, if_pos g2.1.2.2.1]
        by_cases c : kind < 2
        · rw [if_pos c, if_pos c]
        · rw [if_neg c, if_neg c]
      rw [if_pos ((ch_m1 hb).mpr k0), if_pos k0, eb]
      generalize wI (wI (wI (wI s2 84 7 (rI s2 84 5)) 84 8 (rI s2 84 6)) 84 106 (if kind < 2 then -1 else 0)) 84 107 1 = s3 at f3 v7 v8 v106 v107 ⊢
      have f03 : Fr PMk s s3 := (f1k.tr f2k).tr (f3.mo (fun a i q => by unfold PMk; omega))
      have hlen : cs.length ≤ 1600 := by
        have h1 := (cqP_g b _ _ _ hl r1).2.1
        have h2 := g1.lq
        omega
      obtain ⟨s4, e4, f4⟩ := m_askF (E + 7) (kind := kind) hk ht hw hok hlen (tG T) 0 (if kind < 2 then -1 else 0) s3 (by omega) (hm.fr f03 PMk_T) (hws.fr f03 (fun a i q => by unfold PMk at q; omega)) ((f3.i (by omega)).trans K2.2.1.1) (K2.2.1.2.fr f3 (fun i _ q => by omega)) v106 v107 (by split <;> omega)
      exact ⟨s4, e4, f03.tr (f4.mo (fun a i q => by unfold PMl at q; unfold PMk; omega)), (f4.i (by unfold PMl; omega)).trans v7, (f4.i (by unfold PMl; omega)).trans v8⟩
    · obtain ⟨s3, e3, f3, g3⟩ := m_flS (E + 13) g2.1.2.2.1 (a := 1) (b := rI s2 84 2) (q := q1) (by decide) g2.2
      obtain ⟨s4, e4, f4, v1, v2⟩ := m_133b (E + 14) kind g3
      rw [if_neg (fun e => k0 ((ch_m1 hb).mp e)), if_neg k0, e3, Option.bind_some]
      exact ⟨s4, e4, ((f1k.tr f2k).tr (f3.mo (fun a i q => by unfold PMk; omega))).tr (f4.mo (fun a i q => by unfold PMk; omega)), v1, v2⟩
theorem m_askQ (E : Nat) {s : Mem} (hm : MM s T w) (ht : Tf T) (hw : Wf T w) (h : MTp s tp) (hb : Bys tp) (hws : MWs s) : ∃ s0, rI s0 84 1 = 0 ∧ Fr PMk1 s s0 ∧ MQs T w (f_M_ask (E + 15) s) (askP tp (sk tp 0)) s0 := by
  obtain ⟨h1, h2, h3⟩ := h
  rw [e_M_ask, hm.2.2.1, if_neg one_nz]
  have f0 : Fr PMk1 s (wI (wI (wI (wI (wI (wI (wI (wI (wI (wI (wI s 84 3 (rI s 84 1)) 84 1 0) 84 2 0) 84 4 (-1)) 84 5 0) 84 6 (-1)) 84 50 3) 84 99 0) 84 101 0) 84 102 0) 84 103 0) := ((((((((((Fr.rf.w (by unfold PMk1 PMk; omega)).w (by unfold PMk1 PMk; omega)).w (by unfold PMk1 PMk; omega)).w (by unfold PMk1 PMk; omega)).w (by unfold PMk1 PMk; omega)).w (by unfold PMk1 PMk; omega)).w (by unfold PMk1 PMk; omega)).w (by unfold PMk1 PMk; omega)).w (by unfold PMk1 PMk; omega)).w (by unfold PMk1 PMk; omega)).w (by unfold PMk1 PMk; omega)
  have v1 : rI (wI (wI (wI (wI (wI (wI (wI (wI (wI (wI (wI s 84 3 (rI s 84 1)) 84 1 0) 84 2 0) 84 4 (-1)) 84 5 0) 84 6 (-1)) 84 50 3) 84 99 0) 84 101 0) 84 102 0) 84 103 0) 84 1 = 0 := by simp (disch := omega) only [rI_other, rI_same]
  have v2 : rI (wI (wI (wI (wI (wI (wI (wI (wI (wI (wI (wI s 84 3 (rI s 84 1)) 84 1 0) 84 2 0) 84 4 (-1)) 84 5 0) 84 6 (-1)) 84 50 3) 84 99 0) 84 101 0) 84 102 0) 84 103 0) 84 2 = 0 := by simp (disch := omega) only [rI_other, rI_same]
  have v3 : rI (wI (wI (wI (wI (wI (wI (wI (wI (wI (wI (wI s 84 3 (rI s 84 1)) 84 1 0) 84 2 0) 84 4 (-1)) 84 5 0) 84 6 (-1)) 84 50 3) 84 99 0) 84 101 0) 84 102 0) 84 103 0) 84 3 = (tp.length : Int) := by simp (disch := omega) only [rI_other, rI_same]; exact h1
  have v4 : rI (wI (wI (wI (wI (wI (wI (wI (wI (wI (wI (wI s 84 3 (rI s 84 1)) 84 1 0) 84 2 0) 84 4 (-1)) 84 5 0) 84 6 (-1)) 84 50 3) 84 99 0) 84 101 0) 84 102 0) 84 103 0) 84 4 = -1 := by simp (disch := omega) only [rI_other, rI_same]
  have v5 : rI (wI (wI (wI (wI (wI (wI (wI (wI (wI (wI (wI s 84 3 (rI s 84 1)) 84 1 0) 84 2 0) 84 4 (-1)) 84 5 0) 84 6 (-1)) 84 50 3) 84 99 0) 84 101 0) 84 102 0) 84 103 0) 84 5 = 0 := by simp (disch := omega) only [rI_other, rI_same]
  have v6 : rI (wI (wI (wI (wI (wI (wI (wI (wI (wI (wI (wI s 84 3 (rI s 84 1)) 84 1 0) 84 2 0) 84 4 (-1)) 84 5 0) 84 6 (-1)) 84 50 3) 84 99 0) 84 101 0) 84 102 0) 84 103 0) 84 6 = -1 := by simp (disch := omega) only [rI_other, rI_same]
  have v50 : rI (wI (wI (wI (wI (wI (wI (wI (wI (wI (wI (wI s 84 3 (rI s 84 1)) 84 1 0) 84 2 0) 84 4 (-1)) 84 5 0) 84 6 (-1)) 84 50 3) 84 99 0) 84 101 0) 84 102 0) 84 103 0) 84 50 = 3 := by simp (disch := omega) only [rI_other, rI_same]
  have v99 : rI (wI (wI (wI (wI (wI (wI (wI (wI (wI (wI (wI s 84 3 (rI s 84 1)) 84 1 0) 84 2 0) 84 4 (-1)) 84 5 0) 84 6 (-1)) 84 50 3) 84 99 0) 84 101 0) 84 102 0) 84 103 0) 84 99 = 0 := by simp (disch := omega) only [rI_other, rI_same]
  have v101 : rI (wI (wI (wI (wI (wI (wI (wI (wI (wI (wI (wI s 84 3 (rI s 84 1)) 84 1 0) 84 2 0) 84 4 (-1)) 84 5 0) 84 6 (-1)) 84 50 3) 84 99 0) 84 101 0) 84 102 0) 84 103 0) 84 101 = 0 := by simp (disch := omega) only [rI_other, rI_same]
  have v102 : rI (wI (wI (wI (wI (wI (wI (wI (wI (wI (wI (wI s 84 3 (rI s 84 1)) 84 1 0) 84 2 0) 84 4 (-1)) 84 5 0) 84 6 (-1)) 84 50 3) 84 99 0) 84 101 0) 84 102 0) 84 103 0) 84 102 = 0 := by simp (disch := omega) only [rI_other, rI_same]
  have v103 : rI (wI (wI (wI (wI (wI (wI (wI (wI (wI (wI (wI s 84 3 (rI s 84 1)) 84 1 0) 84 2 0) 84 4 (-1)) 84 5 0) 84 6 (-1)) 84 50 3) 84 99 0) 84 101 0) 84 102 0) 84 103 0) 84 103 = 0 := rI_same _ _ _ _
  generalize wI (wI (wI (wI (wI (wI (wI (wI (wI (wI (wI s 84 3 (rI s 84 1)) 84 1 0) 84 2 0) 84 4 (-1)) 84 5 0) 84 6 (-1)) 84 50 3) 84 99 0) 84 101 0) 84 102 0) 84 103 0 = s0 at f0 v1 v2 v3 v4 v5 v6 v50 v99 v101 v102 v103 ⊢
  have K0 : QK s0 3 [] [] 0 0 := ⟨v50, ⟨v99, fun i hi => absurd hi (Nat.not_lt_zero _)⟩, ⟨v101, fun i hi => absurd hi (Nat.not_lt_zero _)⟩, v102, v103⟩
  have A0 : QA s0 tp (sk tp 0) := ⟨⟨v3, h2, h3.fr f0 (fun i _ q => by unfold PMk1 PMk at q; omega)⟩, hws.fr2 f0 (fun a k q => by unfold PMk1 PMk at q; omega), v5, ⟨0, v2, Nat.zero_le _, rfl⟩, by rw [v4, gl_sk0]; exact ⟨fun q => (by omega), fun q => (by cases q)⟩, by rw [v4]; omega, v6⟩
  have hm0 : MT s0 T := hm.1.fr f0 PMk1_T
  have hw0 : MW s0 w := hm.2.1.fr f0 (fun a i q => by unfold PMk1 PMk at q; omega)
  refine ⟨s0, v1, f0, ?_⟩
  generalize sk tp 0 = q at A0 ⊢
  have hqk := m_qKind (E + 9) A0
  unfold askP
  by_cases c : 27 ≤ wd tp q ∧ wd tp q ≤ 32
  · obtain ⟨s1, e1, f1, g1⟩ := hqk.1 c
    have hlt := nx_w (tp := tp) (q := q) rfl (by omega)
    have hl := g1.lq
    have h16 := g1.1.2.1
    have f1k : Fr PMk s0 s1 := f1.mo (fun a i q => by unfold PMn at q; unfold PMk; omega)
    have K1 : QK s1 3 [] [] 0 0 := K0.fr f1 (fun a i q => by unfold PMn at q; omega)
    have hm1 : MT s1 T := hm0.fr f1k PMk_T
    have hw1 : MW s1 w := hw0.fr f1k (fun a i q => by unfold PMk at q; omega)
    rw [if_pos c, e1, Option.bind_some]
    simp only []
    rw [g1.2.2.1, if_pos rfl]
    by_cases c3 : wd tp q < 30
    · have hT : TPr tp (f_M_qTest (E + 14) s1) (fun s1 => some (0, s1)) (cqP tp (decide (wd tp q < 30)) (nx tp q)) s1 3 [] [] 0 0 := by
        rw [decide_eq_true c3]
        exact m_qTest (E + 3) (n := 6) (by omega) (by omega) g1 K1 (Nat.zero_le _)
      rw [if_pos (by omega)]
      exact (m_askE E (kind := wd tp q - 27) (by omega) (by
        by_cases c : wd tp q < 30
        · rw [decide_eq_true c, decide_eq_true (by omega)]
        · rw [decide_eq_false c, decide_eq_false (by omega)]) hb ht hw hm1 hw1 hl hT).tr f1k
    · have hT : TPr tp (f_M_qSums (E + 14) s1) (fun s1 => some (0, s1)) (cqP tp (decide (wd tp q < 30)) (nx tp q)) s1 3 [] [] 0 0 := by
        rw [decide_eq_false c3]
        have := m_qSums (E + 6) (n := 6) (b0 := 0) (W := []) (C := []) (by omega) (by omega) g1 K1 (Nat.zero_le _) (by decide) (by decide)
        rcases this.cs with ⟨e, s1, r1, r2, r3, r4⟩ | ⟨q1, c1, s1, r1, r2, r3, r4, r5⟩
        · show TPr tp _ _ (sumL tp 3 6 (nx tp q)) _ _ _ _ _ _
          rw [r1]; exact ⟨s1, r2, r3, r4.l⟩
        · show TPr tp _ _ (sumL tp 3 6 (nx tp q)) _ _ _ _ _ _
          rw [r1]; exact ⟨s1, r2, r3, r4, r5⟩
      rw [if_neg (by omega), e_M_ask_98, g1.2.2.1, if_pos rfl]
      exact (m_askE E (kind := wd tp q - 27) (by omega) (by
        by_cases c : wd tp q < 30
        · rw [decide_eq_true c, decide_eq_true (by omega)]
        · rw [decide_eq_false c, decide_eq_false (by omega)]) hb ht hw hm1 hw1 hl hT).tr f1k
  · obtain ⟨s1, e1, f1, g1⟩ := hqk.2 c
    have z5 : rI s1 84 5 ≠ 0 := by rw [g1.1.1]; exact g1.1.2
    have f1k : Fr PMk s0 s1 := f1.mo (fun a i q => by unfold PMn at q; unfold PMk; omega)
    obtain ⟨s2, e2, f2, v7, v8⟩ := m_133b (E + 14) 5 g1
    rw [if_neg c, e1, Option.bind_some]
    simp only []
    rw [if_neg z5, (m_109b (E + 14) 5 g1).2]
    exact ⟨s2, e2, f1k.tr (f2.mo (fun a i q => by unfold PMk; omega)), v7, v8⟩
end MASK
