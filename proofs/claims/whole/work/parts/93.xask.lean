/-! questions: what they are, the class -/
theorem XT.fr2 {s s' : Mem} {t : Nat} {T : Tab} {P : Nat → Nat → Prop} (h : XT s t T) (hf : Fr P s s') (hp : ∀ a k, P a k → a < t ∨ t + 10 < a) : XT s' t T := by
  obtain ⟨h1, h2, h3, h4, h5, h6, h7⟩ := h
  have hn : ∀ a k, t ≤ a → a ≤ t + 10 → ¬ P a k := fun a k h1 h2 q => by have := hp a k q; omega
  exact ⟨h1, (hf.i (hn _ _ (by omega) (by omega))).trans h2, (hf.i (hn _ _ (by omega) (by omega))).trans h3, fun k hk => (hf.i (hn _ _ (by omega) (by omega))).trans (h4 k hk), h5.fr hf (fun k => ⟨hn _ _ (by omega) (by omega), hn _ _ (by omega) (by omega)⟩), h6.fr hf (fun k => ⟨hn _ _ (by omega) (by omega), hn _ _ (by omega) (by omega)⟩), h7.fr hf (fun k => ⟨hn _ _ (by omega) (by omega), hn _ _ (by omega) (by omega)⟩)⟩
theorem XM.fr2 {s s' : Mem} {T : Tab} {w : Nat → Int} {P : Nat → Nat → Prop} (h : XM s T w) (hf : Fr P s s') (hp : ∀ a k, P a k → (a < rQ s 0 2 ∨ rQ s 0 2 + 10 < a) ∧ (a < 28 ∨ 33 ≤ a ∨ a = 28 ∧ k = 3) ∧ (a ≠ 0 ∨ k ≠ 2)) : XM s' T w := by
  obtain ⟨⟨h1, h2, h3, h4, h5, h6, h7, h8⟩, hq⟩ := h
  have hn : ∀ a k, (28 ≤ a ∧ a ≤ 32 ∧ (a ≠ 28 ∨ k ≠ 3) ∨ a = 0 ∧ k = 2) → ¬ P a k := fun a k ha q => by have := hp a k q; omega
  have e28 : rQ s' 28 0 = rQ s 28 0 := hf.q (hn _ _ (by omega))
  have e02 : rQ s' 0 2 = rQ s 0 2 := hf.q (hn _ _ (by omega))
  refine ⟨⟨h1, ?_, (hf.i (hn _ _ (by omega))).trans h3, ?_, fun k hk => (hf.i (hn _ _ (by omega))).trans (h5 k hk), fun k hk => (hf.i (hn _ _ (by omega))).trans (h6 k hk), fun k hk => (hf.i (hn _ _ (by omega))).trans (h7 k hk), fun q hq => (hf.i (hn _ _ (by omega))).trans (h8 q hq)⟩, by rw [e28, e02]; exact hq⟩
  · rw [e28]
    exact h2.fr2 hf (fun a k q => by rw [hq]; exact (hp a k q).1)
  · rw [hf.i (hn _ _ (by omega))]
    exact h4
def cqP (tp : List Int) (b : Bool) (q : Nat) : Res := if b then tesL tp 3 6 q else sumL tp 3 6 q
def enP (tp : List Int) (k : Int) : Res → PR (Int × List Int)
  | .inl e => .inl e
  | .inr x => if kd tp x.1 = 0 then .inr (k, x.2) else .inl (1, x.1)
/-- a question: its kind, its code -/
def askP (tp : List Int) (q : Nat) : PR (Int × List Int) := if 27 ≤ wd tp q ∧ wd tp q ≤ 32 then enP tp (wd tp q - 27) (cqP tp (decide (wd tp q < 30)) (nx tp q)) else .inl (1, q)
def ask1 (kind v : Int) (g : Nat) (a : Int) : Int := if kind = 0 then (if v = 1 ∧ a = -1 then (g : Int) else a) else if kind = 1 then (if v = 1 then (g : Int) else a) else if kind = 2 then (if v = 1 then a + 1 else a) else if kind = 3 then a + v else if kind = 4 then (if g = 0 ∨ a < v then v else a) else (if g = 0 ∨ v < a then v else a)
def askF (T : Tab) (w : Nat → Int) (cs : List Int) (kind : Int) : Nat → Nat → Int → Int
  | 0, _, a => a
  | j + 1, g, a => askF T w cs kind j (g + 1) (ask1 kind (valu T w g 0 cs) g a)
def sAsk (T : Tab) (w : Nat → Int) (kind : Int) (cs : List Int) : Int := askF T w cs kind (tG T) 0 (if kind < 2 then -1 else 0)
section XASK
variable {tp : List Int} {T : Tab} {w : Nat → Int}
theorem cqP_nz (b : Bool) : Nz (cqP tp b) := fun q e h => by
  unfold cqP at h
  split at h
  · exact tesL_nz 3 6 _ _ h
  · exact sumL_nz 3 6 _ _ h
theorem cqP_g (b : Bool) : Good tp (cqP tp b) := fun q q' c hq h => by
  unfold cqP at h
  split at h
  · exact tesL_g 3 6 _ _ _ hq h
  · exact sumL_g 3 6 _ _ _ hq h
theorem cqP_ok {b : Bool} {q q' : Nat} {c : List Int} (h : cqP tp b q = .inr (q', c)) : Cok 3 c b := by
  unfold cqP at h
  cases b with
  | true => exact tesL_ok (by omega) h
  | false => exact sumL_ok (by omega) h
theorem askP_i {q : Nat} {x : Int × List Int} (h : askP tp q = .inr x) : (0 ≤ x.1 ∧ x.1 ≤ 5) ∧ Cok 3 x.2 (decide (x.1 < 3)) := by
  unfold askP at h
  split at h
  · next hw =>
    cases hc : cqP tp (decide (wd tp q < 30)) (nx tp q) with
    | inl e => rw [hc] at h; cases h
    | inr y =>
      rw [hc] at h
      have h : (if kd tp y.1 = 0 then (.inr (wd tp q - 27, y.2) : PR (Int × List Int)) else .inl (1, y.1)) = .inr x := h
      split at h
      · cases h
        refine ⟨⟨by show 0 ≤ wd tp q - 27; omega, by show wd tp q - 27 ≤ 5; omega⟩, ?_⟩
        have := cqP_ok (q' := y.1) (c := y.2) hc
        show Cok 3 y.2 (decide (wd tp q - 27 < 3))
        rw [show decide (wd tp q - 27 < 3) = decide (wd tp q < 30) from by
          by_cases c : wd tp q < 30
          · rw [decide_eq_true c, decide_eq_true (by omega)]
          · rw [decide_eq_false c, decide_eq_false (by omega)]]
        exact this
      · cases h
  · cases h
/-- the class: tests -/
theorem x_ansT (D : Nat) {kind : Int} {cs : List Int} (hk : kind = 0 ∨ kind = 1 ∨ kind = 2) (ht : Tf T) (hw : Wf T w) (hok : Cok 3 cs true) : ∀ (j g : Nat) (b c e : Int) (s : Mem), g + j = tG T → XM s T w → XC s 4 cs → rI s 3 2 = 27 + kind → (0 ≤ e ∧ e ≤ g) → (e = 0 ↔ b = -1) → ∃ s1, L_X_answerTest_9 (D + 3) b c e (g : Int) s = some (if kind = 0 then askF T w cs 0 j g b else if kind = 1 then askF T w cs 1 j g c else askF T w cs 2 j g e, s1) ∧ Fr (PX 28) s s1
  | 0, g, b, c, e, s, hg, hx, hc, h2, he, hb => by
    have eg := hx.1.g
    rw [hx.2] at eg
    rw [e_X_answerTest_9, eg, if_neg (by omega), h2]
    refine ⟨s, ?_, Fr.rf⟩
    rcases hk with rfl | rfl | rfl
    · rw [if_pos (by omega), if_pos rfl]; rfl
    · rw [if_neg (by omega), if_pos (by omega), if_neg (by decide), if_pos rfl]; rfl
    · rw [if_neg (by omega), if_neg (by omega), if_neg (by decide), if_neg (by decide)]; rfl
  | j + 1, g, b, c, e, s, hg, hx, hc, h2, he, hb => by
    have eg := hx.1.g
    rw [hx.2] at eg
    have h7 := ht.2.2.1
    obtain ⟨s1, e1, f1, r1, r2⟩ := x_value D (oc := 4) (k := g) (size := 0) hx.1 ht hw (by omega) (by omega) (by omega) hc hok
    have x1 := hx.fr f1 (fun a k q => by unfold PX at q; omega)
    have c1 : XC s1 4 cs := hc.fr f1 (fun i => ⟨by unfold PX; omega, by unfold PX; omega⟩)
    have h21 : rI s1 3 2 = 27 + kind := (f1.i (by unfold PX; omega)).trans h2
    have v01 := r2 rfl
    have unf : ∀ kk a, askF T w cs kk (j + 1) g a = askF T w cs kk j (g + 1) (ask1 kk (valu T w g 0 cs) g a) := fun _ _ => rfl
    rw [e_X_answerTest_9, eg, if_pos (by omega), e1, Option.bind_some, unf, unf, unf]
    simp only []
    by_cases v0 : valu T w g 0 cs = 0
    · have a0 : ask1 0 (valu T w g 0 cs) g b = b := by unfold ask1; rw [if_pos rfl, if_neg (by omega)]
      have a1 : ask1 1 (valu T w g 0 cs) g c = c := by unfold ask1; rw [if_neg (by decide), if_pos rfl, if_neg (by omega)]
      have a2 : ask1 2 (valu T w g 0 cs) g e = e := by unfold ask1; rw [if_neg (by decide), if_neg (by decide), if_pos rfl, if_neg (by omega)]
      obtain ⟨s2, e2, f2⟩ := x_ansT D hk ht hw hok j (g + 1) b c e s1 (by omega) x1 c1 h21 (by omega) hb
      rw [if_pos v0, w32_s (by omega), a0, a1, a2]
      exact ⟨s2, e2, f1.tr f2⟩
    · have v1 : valu T w g 0 cs = 1 := by omega
      have a1 : ask1 1 (valu T w g 0 cs) g c = g := by unfold ask1; rw [if_neg (by decide), if_pos rfl, if_pos v1]
      have a2 : ask1 2 (valu T w g 0 cs) g e = e + 1 := by unfold ask1; rw [if_neg (by decide), if_neg (by decide), if_pos rfl, if_pos v1]
      rw [if_neg v0, w32_s (by omega), a1, a2, w32_i (z := e + 1) (by omega) (by omega)]
      by_cases e0 : e = 0
      · have a0 : ask1 0 (valu T w g 0 cs) g b = g := by unfold ask1; rw [if_pos rfl, if_pos ⟨v1, hb.mp e0⟩]
        obtain ⟨s2, e2, f2⟩ := x_ansT D hk ht hw hok j (g + 1) g g (e + 1) s1 (by omega) x1 c1 h21 (by omega) (by omega)
        rw [if_pos e0, a0]
        exact ⟨s2, e2, f1.tr f2⟩
      · have a0 : ask1 0 (valu T w g 0 cs) g b = b := by unfold ask1; rw [if_pos rfl, if_neg (fun q => e0 (hb.mpr q.2))]
        obtain ⟨s2, e2, f2⟩ := x_ansT D hk ht hw hok j (g + 1) b g (e + 1) s1 (by omega) x1 c1 h21 (by omega) (by omega)
        rw [if_neg e0, a0]
        exact ⟨s2, e2, f1.tr f2⟩
theorem x_ansS (D : Nat) {kind : Int} {cs : List Int} (hk : kind = 3 ∨ kind = 4 ∨ kind = 5) (ht : Tf T) (hw : Wf T w) (hok : Cok 3 cs false) : ∀ (j g : Nat) (b c e : Int) (s : Mem), g + j = tG T → XM s T w → XC s 4 cs → rI s 3 2 = 27 + kind → (-1000000 * (g : Int) ≤ b ∧ b ≤ 1000000 * (g : Int)) → ∃ s1, L_X_answerSum_10 (D + 3) b c e (g : Int) s = some (if kind = 3 then askF T w cs 3 j g b else if kind = 4 then askF T w cs 4 j g c else askF T w cs 5 j g e, s1) ∧ Fr (PX 28) s s1
  | 0, g, b, c, e, s, hg, hx, hc, h2, hb => by
    have eg := hx.1.g
    rw [hx.2] at eg
    rw [e_X_answerSum_10, eg, if_neg (by omega), h2]
    refine ⟨s, ?_, Fr.rf⟩
    rcases hk with rfl | rfl | rfl
    · rw [if_pos (by omega), if_pos rfl]; rfl
    · rw [if_neg (by omega), if_pos (by omega), if_neg (by decide), if_pos rfl]; rfl
    · rw [if_neg (by omega), if_neg (by omega), if_neg (by decide), if_neg (by decide)]; rfl
  | j + 1, g, b, c, e, s, hg, hx, hc, h2, hb => by
    have eg := hx.1.g
    rw [hx.2] at eg
    have h7 := ht.2.2.1
    obtain ⟨s1, e1, f1, r1, -⟩ := x_value D (oc := 4) (k := g) (size := 0) hx.1 ht hw (by omega) (by omega) (by omega) hc hok
    have x1 := hx.fr f1 (fun a k q => by unfold PX at q; omega)
    have c1 : XC s1 4 cs := hc.fr f1 (fun i => ⟨by unfold PX; omega, by unfold PX; omega⟩)
    have h21 : rI s1 3 2 = 27 + kind := (f1.i (by unfold PX; omega)).trans h2
    have unf : ∀ kk a, askF T w cs kk (j + 1) g a = askF T w cs kk j (g + 1) (ask1 kk (valu T w g 0 cs) g a) := fun _ _ => rfl
    have a3 : ask1 3 (valu T w g 0 cs) g b = b + valu T w g 0 cs := by unfold ask1; rw [if_neg (by decide), if_neg (by decide), if_neg (by decide), if_pos rfl]
    have a4 : ask1 4 (valu T w g 0 cs) g c = if g = 0 ∨ c < valu T w g 0 cs then valu T w g 0 cs else c := by unfold ask1; rw [if_neg (by decide), if_neg (by decide), if_neg (by decide), if_neg (by decide), if_pos rfl]
    have a5 : ask1 5 (valu T w g 0 cs) g e = if g = 0 ∨ valu T w g 0 cs < e then valu T w g 0 cs else e := by unfold ask1; rw [if_neg (by decide), if_neg (by decide), if_neg (by decide), if_neg (by decide), if_neg (by decide)]
    rw [e_X_answerSum_10, eg, if_pos (by omega), e1, Option.bind_some, unf, unf, unf, a3, a4, a5]
    simp only []
    rw [w64_i (by omega) (by omega)]
    generalize valu T w g 0 cs = v at r1 ⊢
    by_cases g0 : g = 0
    · obtain ⟨s2, e2, f2⟩ := x_ansS D hk ht hw hok j (g + 1) (b + v) v v s1 (by omega) x1 c1 h21 (by omega)
      rw [if_pos (by omega), e_X_answerSum_63, if_pos (by omega), w32_s (by omega), if_pos (Or.inl g0), if_pos (Or.inl g0)]
      exact ⟨s2, e2, f1.tr f2⟩
    · have em : f_Math_maxL (D + 3) c v s1 = some (if g = 0 ∨ c < v then v else c, s1) := by
        rw [e_Math_maxL]
        by_cases cc : c < v
        · rw [if_pos (by rw [lC_lt]; exact cc), if_pos (Or.inr cc)]
        · rw [if_neg (by rw [lC_lt]; exact cc), if_neg (by omega)]
      have el : f_Math_minL (D + 3) e v s1 = some (if g = 0 ∨ v < e then v else e, s1) := by
        rw [e_Math_minL]
        by_cases cc : v < e
        · rw [if_pos (by rw [lC_gt]; exact cc), if_pos (Or.inr cc)]
        · rw [if_neg (by rw [lC_gt]; exact cc), if_neg (by omega)]
      obtain ⟨s2, e2, f2⟩ := x_ansS D hk ht hw hok j (g + 1) (b + v) (if g = 0 ∨ c < v then v else c) (if g = 0 ∨ v < e then v else e) s1 (by omega) x1 c1 h21 (by omega)
      rw [if_neg (by omega), em, Option.bind_some]
      simp only []
      rw [e_X_answerSum_63, if_neg (by omega), el, Option.bind_some]
      simp only []
      rw [w32_s (by omega)]
      exact ⟨s2, e2, f1.tr f2⟩
/-- the class reads a question -/
abbrev PXq : Nat → Nat → Prop := fun a k => a = 3 ∧ 2 ≤ k ∧ k ≤ 15 ∨ a = 4 ∨ a = 5
def XQ (X : Rs) (res : PR (Int × List Int)) (s : Mem) : Prop := match res with
  | .inl e => ∃ s1, X = some (0, s1) ∧ Fr PXq s s1 ∧ XF s1 e
  | .inr x => ∃ s1, X = some (1, s1) ∧ Fr PXq s s1 ∧ OkF s1 ∧ rI s1 3 2 = 27 + x.1 ∧ XC s1 4 x.2
theorem x_question (D : Nat) {s : Mem} (h : XTp s tp) (hb : Bys tp) : XQ (f_Rd_readQuestion (D + 36) s) (askP tp (sk tp 0)) s := by
  obtain ⟨s1, e1, f1, g1⟩ := x_beginR (D + 31) h hb
  have f1q : Fr PXq s s1 := f1.mo (fun a k q => by unfold PRs at q; unfold PXq; omega)
  have hl := g1.1.2.1
  rw [e_Rd_readQuestion, e1, Option.bind_some]
  simp only []
  rw [g1.2.1.2.2.2.1, g1.2.1.1]
  generalize sk tp 0 = q at g1 ⊢
  have f2 : Fr (fun a k => a = 3 ∧ k = 2) s1 (wI s1 3 2 (wd tp q)) := Fr.rf.w ⟨rfl, rfl⟩
  have v2 : rI (wI s1 3 2 (wd tp q)) 3 2 = wd tp q := rI_same _ _ _ _
  have g2 : XS (wI s1 3 2 (wd tp q)) tp q := by
    obtain ⟨y1, y2, y3, y4⟩ := g1
    exact ⟨y1.fr f2 (fun a k q => by omega), y2.fr f2 (fun a k q => by omega), y3.fr f2 (fun k hk q => by omega), y4⟩
  generalize wI s1 3 2 (wd tp q) = s2 at f2 v2 g2 ⊢
  have f2q : Fr PXq s s2 := f1q.tr (f2.mo (fun a k q => by unfold PXq; omega))
  obtain ⟨sf, ef, ff, gf⟩ := x_flS (s := s2) (a := 1) (q := q) (b := (q : Int)) (D + 34) (by decide) rfl
  have ffq : Fr PXq s sf := f2q.tr (ff.mo (fun a k q => by unfold PRs at q; unfold PXq; omega))
  unfold askP
  by_cases c1 : wd tp q < 27
  · rw [if_pos c1, ef, if_neg (by omega)]
    exact ⟨sf, rfl, ffq, gf⟩
  · rw [if_neg c1]
    by_cases c2 : 32 < wd tp q
    · rw [if_pos c2, ef, if_neg (by omega)]
      exact ⟨sf, rfl, ffq, gf⟩
    · rw [if_neg c2, if_pos (by omega)]
      obtain ⟨s3, e3, f3, g3⟩ := x_nxS (D + 32) g2 hb
      obtain ⟨s4, e4, f4, g4, -⟩ := x_startS (D + 33) (k := 3) (cp := 4) (w := -1) (cs := []) (by omega) (by omega) g3 hb rfl
      have f4q : Fr PXq s s4 := (f2q.tr (f3.mo (fun a k q => by unfold PRd at q; unfold PXq; omega))).tr (f4.mo (fun a k q => by unfold PXp at q; unfold PXq; omega))
      have v4 : rI s4 3 2 = wd tp q := by rw [f4.i (by unfold PXp; omega), f3.i (by unfold PRd; omega)]; exact v2
      have fin : ∀ {X : Rs} {b : Bool}, XRes tp 4 3 X (cqP tp b (nx tp q)) s4 [] 0 → XQ (X.bind fun p5 => if p5.1 = 0 then (some (0, p5.2)) else L_Rd_readQuestion_79 (D + 35) p5.2) (enP tp (wd tp q - 27) (cqP tp b (nx tp q))) s := fun {X b} hX => by
        rcases hX.cs with ⟨e, s5, r5, e5, f5, g5, h5⟩ | ⟨q5, c5, s5, r5, e5, f5, g5⟩
        · rw [r5, e5, Option.bind_some]
          exact ⟨s5, if_pos rfl, f4q.tr (f5.mo (fun a k q => by unfold PXp at q; unfold PXq; omega)), ⟨g5, cqP_nz b _ _ r5⟩, h5⟩
        · rw [List.nil_append] at g5
          have f5q : Fr PXq s s5 := f4q.tr (f5.mo (fun a k q => by unfold PXp at q; unfold PXq; omega))
          rw [r5, e5, Option.bind_some]
          simp only []
          rw [if_neg one_nz, e_Rd_readQuestion_79, g5.1.2.2.2.1]
          show XQ _ (if kd tp q5 = 0 then .inr (wd tp q - 27, c5) else .inl (1, q5)) s
          by_cases k0 : kd tp q5 = 0
          · rw [if_pos k0, if_pos (by omega)]
            refine ⟨s5, rfl, f5q, g5.2.1.2.2.2, ?_, g5.2.2.1⟩
            rw [f5.i (by unfold PXp; omega), v4]
            show wd tp q = 27 + (wd tp q - 27)
            omega
          · rw [if_neg k0, if_neg (by omega), g5.1.2.1, e_Rd_fail, Option.bind_some]
            refine ⟨_, if_pos rfl, (f5q.w (by unfold PXq; omega)).w (by unfold PXq; omega), ⟨by rw [rI_other _ _ _ _ (by omega), rI_same], nz1⟩, rI_same _ _ _ _⟩
      rw [e3, Option.bind_some]
      simp only []
      rw [e4, Option.bind_some]
      simp only []
      rw [e_Rd_asksByTest, v4]
      by_cases c30 : wd tp q < 30
      · have hT : XRes tp 4 3 (f_Rd_readTest (D + 35) s4) (cqP tp (decide (wd tp q < 30)) (nx tp q)) s4 [] 0 := by
          rw [decide_eq_true c30]
          exact x_test hb (by omega) (by omega) 6 0 D s4 (nx tp q) [] (by omega) g4 (Nat.zero_le _)
        have key := fin hT
        have h1 : (if wd tp q = 27 then some ((1 : Int), s4) else if wd tp q = 28 then some (1, s4) else if wd tp q = 29 then some (1, s4) else some (0, s4)) = some (1, s4) := by
          by_cases a1 : wd tp q = 27
          · rw [if_pos a1]
          · rw [if_neg a1]
            by_cases a2 : wd tp q = 28
            · rw [if_pos a2]
            · rw [if_neg a2, if_pos (by omega)]
        rw [h1, Option.bind_some]
        simp only []
        rw [if_neg one_nz]
        exact key
      · have hT : XRes tp 4 3 (f_Rd_readSum (D + 35) s4) (cqP tp (decide (wd tp q < 30)) (nx tp q)) s4 [] 0 := by
          rw [decide_eq_false c30]
          exact x_sum hb (by omega) (by omega) 6 0 (D + 3) s4 (nx tp q) [] (by omega) g4 (Nat.zero_le _)
        have key := fin hT
        rw [if_neg (by omega), if_neg (by omega), if_neg (by omega), Option.bind_some]
        simp only []
        rw [if_pos trivial]
        exact key
abbrev PXk : Nat → Nat → Prop := fun a k => a = 3 ∧ 2 ≤ k ∧ k ≤ 15 ∨ a = 4 ∨ a = 5 ∨ a = 34 ∨ a = 0 ∧ (k = 13 ∨ k = 14) ∨ a = 1 ∧ k = 1
theorem x_askQ (D : Nat) {s : Mem} (hx : XM s T w) (ht : Tf T) (hw : Wf T w) (h : XTp s tp) (hb : Bys tp) : (∀ e, askP tp (sk tp 0) = .inl e → ∃ s1, f_X_ask (D + 37) s = some (-1000000000000000, s1) ∧ Fr PXk s s1 ∧ rI s1 0 13 = e.1 ∧ rI s1 0 14 = (e.2 : Int) ∧ rI s1 1 1 = 0) ∧ (∀ x, askP tp (sk tp 0) = .inr x → ∃ s1, f_X_ask (D + 37) s = some (sAsk T w x.1 x.2, s1) ∧ Fr PXk s s1 ∧ (rI s1 0 13 = 0 ∧ rI s1 0 14 = -1) ∧ rI s1 1 1 = 0) := by
  have hQ := x_question D h hb
  have hr6 := hx.1.2.1.1
  rw [hx.2] at hr6
  rw [e_X_ask, x_has (D + 35) hx ht, Option.bind_some]
  simp only []
  rw [if_neg one_nz]
  constructor
  · intro e he
    rw [he] at hQ
    obtain ⟨s1, e1, f1, g1⟩ := hQ
    rw [e1, Option.bind_some]
    simp only []
    rw [e_X_noteFault, Option.bind_some]
    refine ⟨_, if_pos trivial, (((f1.mo (fun a k q => by unfold PXq at q; unfold PXk; omega)).w (by unfold PXk; omega)).w (by unfold PXk; omega)).w (by unfold PXk; omega), ?_, ?_, rI_same _ _ _ _⟩
    · show rI (wI (wI (wI s1 0 13 (rI s1 3 3)) 0 14 (rI s1 3 4)) 1 1 0) 0 13 = e.1
      rw [rI_other _ _ _ _ (by omega), rI_other _ _ _ _ (by omega), rI_same]; exact g1.1.1
    · show rI (wI (wI (wI s1 0 13 (rI s1 3 3)) 0 14 (rI s1 3 4)) 1 1 0) 0 14 = (e.2 : Int)
      rw [rI_other _ _ _ _ (by omega), rI_same]; exact g1.2
  · intro x he
    obtain ⟨hk, hok⟩ := askP_i he
    rw [he] at hQ
    obtain ⟨s1, e1, f1, g1, v1, c1⟩ := hQ
    rw [e1, Option.bind_some]
    simp only []
    rw [e_X_noteFault, Option.bind_some]
    simp only []
    rw [if_neg one_nz]
    have f2 : Fr (fun a k => a = 0 ∧ (k = 13 ∨ k = 14) ∨ a = 1 ∧ k = 1) s1 (wI (wI (wI s1 0 13 (rI s1 3 3)) 0 14 (rI s1 3 4)) 1 1 0) := ((Fr.rf.w (by omega)).w (by omega)).w (by omega)
    have w13 : rI (wI (wI (wI s1 0 13 (rI s1 3 3)) 0 14 (rI s1 3 4)) 1 1 0) 0 13 = 0 := by rw [rI_other _ _ _ _ (by omega), rI_other _ _ _ _ (by omega), rI_same]; exact g1.1
    have w14 : rI (wI (wI (wI s1 0 13 (rI s1 3 3)) 0 14 (rI s1 3 4)) 1 1 0) 0 14 = -1 := by rw [rI_other _ _ _ _ (by omega), rI_same]; exact g1.2
    have w11 : rI (wI (wI (wI s1 0 13 (rI s1 3 3)) 0 14 (rI s1 3 4)) 1 1 0) 1 1 = 0 := rI_same _ _ _ _
    generalize wI (wI (wI s1 0 13 (rI s1 3 3)) 0 14 (rI s1 3 4)) 1 1 0 = s2 at f2 w13 w14 w11 ⊢
    have f12 : Fr (fun a k => PXq a k ∨ a = 0 ∧ (k = 13 ∨ k = 14) ∨ a = 1 ∧ k = 1) s s2 := (f1.mo (fun a k q => Or.inl q)).tr (f2.mo (fun a k q => Or.inr q))
    have x2 : XM s2 T w := hx.fr2 f12 (fun a k q => by unfold PXq at q; omega)
    have c2 : XC s2 4 x.2 := c1.fr f2 (fun i => ⟨by omega, by omega⟩)
    have v2 : rI s2 3 2 = 27 + x.1 := (f2.i (by omega)).trans v1
    have done : ∀ {X : Rs} (v : Int), (∃ s3, X = some (v, s3) ∧ Fr (PX 28) s2 s3) → ∃ s3, (X.bind fun p5 => some (p5.1, p5.2)) = some (v, s3) ∧ Fr PXk s s3 ∧ (rI s3 0 13 = 0 ∧ rI s3 0 14 = -1) ∧ rI s3 1 1 = 0 := fun {X} v ⟨s3, e3, f3⟩ => by
      rw [e3, Option.bind_some]
      exact ⟨s3, rfl, (f12.mo (fun a k q => by unfold PXq at q; unfold PXk; omega)).tr (f3.mo (fun a k q => by unfold PX at q; unfold PXk; omega)), ⟨(f3.i (by unfold PX; omega)).trans w13, (f3.i (by unfold PX; omega)).trans w14⟩, (f3.i (by unfold PX; omega)).trans w11⟩
    rw [e_Rd_asksByTest, v2]
    unfold sAsk
    by_cases c3 : x.1 < 3
    · rw [decide_eq_true c3] at hok
      have h1 : (if 27 + x.1 = 27 then some ((1 : Int), s2) else if 27 + x.1 = 28 then some (1, s2) else if 27 + x.1 = 29 then some (1, s2) else some (0, s2)) = some (1, s2) := by
        by_cases a1 : 27 + x.1 = 27
        · rw [if_pos a1]
        · rw [if_neg a1]
          by_cases a2 : 27 + x.1 = 28
          · rw [if_pos a2]
          · rw [if_neg a2, if_pos (by omega)]
      have key := x_ansT (D + 32) (kind := x.1) (by omega) ht hw hok (tG T) 0 (-1) (-1) 0 s2 (by omega) x2 c2 v2 (by omega) (by omega)
      have ev : (if x.1 = 0 then askF T w x.2 0 (tG T) 0 (-1) else if x.1 = 1 then askF T w x.2 1 (tG T) 0 (-1) else askF T w x.2 2 (tG T) 0 0) = askF T w x.2 x.1 (tG T) 0 (if x.1 < 2 then -1 else 0) := by
        have h3 : x.1 = 0 ∨ x.1 = 1 ∨ x.1 = 2 := by omega
        rcases h3 with e | e | e <;> rw [e] <;> rfl
      rw [ev] at key
      rw [h1, Option.bind_some]
      simp only []
      rw [if_neg one_nz, e_X_answerTest]
      exact done _ key
    · rw [decide_eq_false c3] at hok
      have key := x_ansS (D + 32) (kind := x.1) (by omega) ht hw hok (tG T) 0 0 0 0 s2 (by omega) x2 c2 v2 (by omega)
      have ev : (if x.1 = 3 then askF T w x.2 3 (tG T) 0 0 else if x.1 = 4 then askF T w x.2 4 (tG T) 0 0 else askF T w x.2 5 (tG T) 0 0) = askF T w x.2 x.1 (tG T) 0 (if x.1 < 2 then -1 else 0) := by
        have h3 : x.1 = 3 ∨ x.1 = 4 ∨ x.1 = 5 := by omega
        rcases h3 with e | e | e <;> rw [e] <;> rfl
      rw [ev] at key
      rw [if_neg (by omega), if_neg (by omega), if_neg (by omega), Option.bind_some]
      simp only []
      rw [if_pos trivial, e_X_answerSum]
      exact done _ key
end XASK
