/-! the reference's sums, step by step: what is still to come as a function of where it stands -/
section MSUM
variable {tp : List Int}
theorem nz1 : (1 : Int) ≠ 0 := by decide
theorem nz4 : (4 : Int) ≠ 0 := by decide
theorem Fr.m2 {s s' : Mem} (h : Fr PM2 s s') : Fr PQp s s' := h.mo (fun a i q => by unfold PQp; omega)
theorem Fr.m4 {s s' : Mem} (h : Fr PM4 s s') : Fr PQp s s' := h.mo (fun a i q => by unfold PQp; omega)
theorem Fr.mn {s s' : Mem} (h : Fr PMn s s') : Fr PQp s s' := h.mo (fun a i q => by unfold PQp; omega)
theorem Fr.mk {s s' : Mem} (h : Fr PQk s s') : Fr PQp s s' := h.mo (fun a i q => PK_p q)
noncomputable def mGO (D : Nat) (was : Int) (s : Mem) : Rs := (L_M_qGoesOn_0 D s).bind fun p2 => if p2.1 = 0 then (L_M_qSums_15 (D + 1) was 0 p2.2) else L_M_qSums_15 (D + 1) was 1 p2.2
noncomputable def mKB (D : Nat) (was : Int) (s : Mem) : Rs := (f_M_qEndsPart D s).bind fun p => mGO D was p.2
noncomputable def mKA (D : Nat) (was : Int) (s : Mem) : Rs := (L_M_qPartTold_2 D 1 s).bind fun p1 => if rI p1.2 84 5 = 0 then mGO D was p1.2 else L_M_qSums_15 (D + 1) was 0 p1.2
def MFlt (s : Mem) (e : Int × Nat) : Prop := (rI s 84 5 = e.1 ∧ e.1 ≠ 0) ∧ rI s 84 6 = (e.2 : Int) ∧ 0 ≤ rI s 84 99 ∧ rI s 84 99 ≤ 1620
variable {s : Mem} {k o b : Nat} {W C : List Int} {was : Int}
theorem MFlt.fr {s' : Mem} {e : Int × Nat} {P : Nat → Nat → Prop} (h : MFlt s e) (hf : Fr P s s') (hp : ∀ a i, P a i → a ≠ 84 ∨ (i ≠ 5 ∧ i ≠ 6 ∧ i ≠ 99)) : MFlt s' e := by
  obtain ⟨⟨h1, h2⟩, h3, h4⟩ := h
  refine ⟨⟨(hf.i (fun q => ?_)).trans h1, h2⟩, (hf.i (fun q => ?_)).trans h3, ?_⟩
  · have := hp _ _ q; omega
  · have := hp _ _ q; omega
  · rw [hf.i (fun q => by have := hp _ _ q; omega)]; exact h4
theorem mKA_15 (D : Nat) (h5 : rI s 84 5 = 0) : L_M_qSums_15 (D + 1) was 1 s = mKA D was s := by
  unfold mKA mGO
  rw [e_M_qSums_15, if_neg (by decide), h5, if_pos rfl, e_M_qPartTold]
  simp only [e_M_qGoesOn]
theorem fin_bad (D : Nat) (h5 : rI s 84 5 ≠ 0) : L_M_qSums_15 D was 0 s = some (0, wI s 84 103 was) := by
  rw [e_M_qSums_15, if_pos rfl, e_M_qSums_53, if_neg h5]
theorem ka_bad (D : Nat) (h5 : rI s 84 5 ≠ 0) : mKA D was s = some (0, wI s 84 103 was) := by
  unfold mKA
  rw [e_M_qPartTold_2, if_neg (by decide), if_neg h5, e_M_qPartTold_186, if_neg h5, Option.bind_some]
  simp only []
  rw [if_neg h5]
  exact fin_bad _ h5
theorem mkb_go (E : Nat) (h : QK s k W C o b) (h5 : rI s 84 5 = 0) (hw : W.length < 1650) (hh : W.headD 0 < 60) : mKB (E + 6) was s = mGO (E + 6) was s := by
  unfold mKB
  rw [e_M_qEndsPart, m_ends0 (E + 5) h h5 hw hh, Option.bind_some]
theorem m_opens (D : Nat) (h : QK s k W C o b) (h5 : rI s 84 5 = 0) (hw : W.length < 1650) (v p : Int) : (o < 6 → ∃ s1, f_M_qOpens (D + 2) v p s = some (0, s1) ∧ Fr PQk s s1 ∧ QK s1 k (v :: W) C (o + 1) b) ∧ (o = 6 → f_M_qOpens (D + 2) v p s = some (0, wI (wI s 84 5 4) 84 6 p)) := by
  rw [e_M_qOpens, h5, if_pos rfl, h.2.2.2.1, h.2.2.1.1]
  constructor
  · intro e
    rw [if_neg (by omega), inB_n (by omega), Int.toNat_natCast, w32_s (by omega), w32_s (by omega)]
    exact ⟨_, rfl, ((Fr.rf.w (by unfold PQk; omega)).w (by unfold PQk; omega)).w (by unfold PQk; omega), (h.op (o' := o + 1)).push v⟩
  · intro e
    rw [if_pos (by omega), m_fail D h5, Option.bind_some]
theorem MFlt.mk {a : Int} {p : Nat} (h : QK s k W C o b) (hc : C.length ≤ 1600) (ha : a ≠ 0) : MFlt (wI (wI s 84 5 a) 84 6 (p : Int)) (a, p) := by
  refine ⟨⟨by rw [rI_other _ _ _ _ (by omega), rI_same], ha⟩, rI_same _ _ _ _, ?_⟩
  rw [rI_other _ _ _ _ (by omega), rI_other _ _ _ _ (by omega), h.2.1.1]; omega
/-- where a part is asked -/
theorem ka_hd (E : Nat) {q : Nat} (h : QA s tp q) (hk : k ≤ 3) (hK : QK s k W C o b) : ∃ s1, Fr PM2 s s1 ∧ QE s1 tp q ∧ QK s1 k W C o b ∧ L_M_qPartTold_2 (E + 6) 1 s = if ch tp q = 40 then ((f_M_qOpens (E + 6) 20 (q : Int) s1).bind fun p3 => L_M_qPartTold_2 (E + 6) 1 (wI p3.2 84 2 (w32 ((rI p3.2 84 2) + 1)))) else if wd tp q = 25 ∨ wd tp q = 26 then L_M_qPartTold_78 (E + 6) 1 s1 else if k = 3 ∧ (wd tp q = 19 ∨ wd tp q = 20) then ((f_M_qOpens (E + 6) (w32 ((w32 (60 + qw (wd tp q))) - 11)) (q : Int) s1).bind fun p5 => (f_M_qAsksWord (E + 6) (qw (wd tp q)) p5.2).bind fun p6 => L_M_qPartTold_2 (E + 6) 1 p6.2) else L_M_qPartTold_186 (E + 6) s1 := by
  obtain ⟨s1, e1, f1, g1⟩ := m_look (E + 5) h
  have K1 := hK.fr f1 (fun a i q => by omega)
  refine ⟨s1, f1, g1, K1, ?_⟩
  have h140 : f_M_isHere (E + 6) 3 140 s1 = some (if wd tp q = 25 then 1 else 0, s1) := m_isH (E + 4) g1 (o := 140) rfl
  have h141 : f_M_isHere (E + 6) 3 141 s1 = some (if wd tp q = 26 then 1 else 0, s1) := m_isH (E + 4) g1 (o := 141) rfl
  rw [e_M_qPartTold_2, if_neg (by decide), h.2.2.1, if_pos rfl, e1, Option.bind_some]
  simp only []
  rw [(m_qWordOf (E + 2) g1 hk K1.1).1, Option.bind_some]
  simp only []
  rw [g1.2]
  by_cases c : ch tp q = 40
  · rw [if_pos c, if_pos c]
  · rw [if_neg c, if_neg c, h140, Option.bind_some]
    simp only []
    by_cases c25 : wd tp q = 25
    · rw [if_pos c25, if_neg (by decide), if_pos (Or.inl c25)]
    · rw [if_neg c25, if_pos rfl, h141, Option.bind_some]
      simp only []
      by_cases c26 : wd tp q = 26
      · rw [if_pos c26, if_neg (by decide), if_pos (Or.inr c26)]
      · rw [if_neg c26, if_pos rfl, if_neg (show ¬ (wd tp q = 25 ∨ wd tp q = 26) from fun e => e.elim c25 c26)]
        by_cases c3 : k = 3 ∧ (wd tp q = 19 ∨ wd tp q = 20)
        · have hv := @qw_v (wd tp q)
          have hq1 : ¬ qw (wd tp q) = -1 := by omega
          rw [if_pos c3, if_pos c3, if_neg hq1, g1.2]
        · rw [if_neg c3, if_neg c3, if_pos rfl, e_M_qPartTold_2, if_pos rfl]
/-- ( stands here -/
theorem ka_par (E : Nat) {q : Nat} (h : QA s tp q) (hk : k ≤ 3) (hK : QK s k W C o b) (hl : C.length + W.length ≤ q) (hc : sg tp q = 40) : (o < 6 → ∃ s1, mKA (E + 6) was s = mKA (E + 6) was s1 ∧ Fr PQp s s1 ∧ QA s1 tp (nx tp q) ∧ QK s1 k (20 :: W) C (o + 1) b) ∧ (o = 6 → ∃ s1, mKA (E + 6) was s = some (0, s1) ∧ Fr PQp s s1 ∧ MFlt s1 (4, q)) := by
  obtain ⟨s1, f1, g1, K1, e1⟩ := ka_hd E h hk hK
  have hq := h.lq
  have h16 := h.1.2.1
  have hch : ch tp q = 40 := (sg_ch (by decide)).mp hc
  have k3 : kd tp q = 3 := (sg_3 hc (by decide)).1
  have hop := m_opens (E + 4) K1 g1.1.2.2.1 (by omega) 20 (q : Int)
  rw [if_pos hch] at e1
  constructor
  · intro ho
    obtain ⟨s2, e2, f2, K2⟩ := hop.1 ho
    rw [e2, Option.bind_some] at e1
    have g2 := g1.kk f2
    have f3 : Fr PM2 s2 (wI s2 84 2 ((q + 1 : Nat) : Int)) := Fr.rf.w ⟨rfl, rfl⟩
    refine ⟨wI s2 84 2 ((q + 1 : Nat) : Int), ?_, (f1.m2.tr f2.mk).tr f3.m2, QA.sig g2 k3 f3 (rI_same _ _ _ _), K2.fr f3 (fun a i q => by omega)⟩
    unfold mKA
    rw [e1]
    simp only []
    rw [g2.2, w32_s (by omega)]
  · intro ho
    rw [hop.2 ho, Option.bind_some] at e1
    have hF : MFlt (wI (wI s1 84 5 4) 84 6 (q : Int)) (4, q) := MFlt.mk K1 (by omega) (by decide)
    have hF2 := hF.fr (P := fun a i => a = 84 ∧ i = 2) (s' := wI (wI (wI s1 84 5 4) 84 6 (q : Int)) 84 2 (w32 ((rI (wI (wI s1 84 5 4) 84 6 (q : Int)) 84 2) + 1))) (Fr.rf.w ⟨rfl, rfl⟩) (fun a i q => by omega)
    refine ⟨wI (wI (wI (wI s1 84 5 4) 84 6 (q : Int)) 84 2 (w32 ((rI (wI (wI s1 84 5 4) 84 6 (q : Int)) 84 2) + 1))) 84 103 was, ?_, ((((f1.m2.w (by unfold PQp; omega)).w (by unfold PQp; omega)).w (by unfold PQp; omega)).w (by unfold PQp; omega)), hF2.fr (P := fun a i => a = 84 ∧ i = 103) (Fr.rf.w ⟨rfl, rfl⟩) (fun a i q => by omega)⟩
    have hb := ka_bad (was := was) (E + 6) (s := wI (wI (wI s1 84 5 4) 84 6 (q : Int)) 84 2 (w32 ((rI (wI (wI s1 84 5 4) 84 6 (q : Int)) 84 2) + 1))) (by rw [hF2.1.1]; exact hF2.1.2)
    rw [← hb]
    unfold mKA
    rw [e1]
/-- min, max stand here -/
theorem ka_mm (E : Nat) {q : Nat} (h : QA s tp q) (hk : k ≤ 3) (hK : QK s k W C o b) (hl : C.length + W.length ≤ q) (hc : wd tp q = 25 ∨ wd tp q = 26) : (sg tp (nx tp q) = 40 → o < 6 → ∃ s1, mKA (E + 6) was s = mKA (E + 6) was s1 ∧ Fr PQp s s1 ∧ QA s1 tp (nx tp (nx tp q)) ∧ QK s1 k ((if wd tp q = 25 then 21 else 22) :: W) C (o + 1) b) ∧ (sg tp (nx tp q) = 40 → o = 6 → ∃ s1, mKA (E + 6) was s = some (0, s1) ∧ Fr PQp s s1 ∧ MFlt s1 (4, nx tp q)) ∧ (sg tp (nx tp q) ≠ 40 → ∃ s1, mKA (E + 6) was s = some (0, s1) ∧ Fr PQp s s1 ∧ MFlt s1 (1, nx tp q)) := by
  obtain ⟨s1, f1, g1, K1, e1⟩ := ka_hd E h hk hK
  have hq := h.lq
  have h16 := h.1.2.1
  have hch : ¬ ch tp q = 40 := by
    intro e
    have k1 : kd tp q = 1 := hc.elim (fun e => wd_1 (by omega)) (fun e => wd_1 (by omega))
    have k3 := (sg_3 ((sg_ch (tp := tp) (q := q) (v := 40) (by decide)).mpr e) (by decide)).1
    omega
  rw [if_neg hch, if_pos hc] at e1
  have hq1 : nx tp q ≤ tp.length := (nx_p hq).2.1
  /- the word is taken -/
  have h78 : ∃ s2, Fr PM4 s1 s2 ∧ QA s2 tp (nx tp q) ∧ L_M_qPartTold_78 (E + 6) 1 s1 = L_M_qPartTold_101 (E + 6) 1 (if wd tp q = 25 then 1 else 0) s2 := by
    have t140 := m_takes (E + 3) g1.1 (o := 140) rfl
    rw [e_M_qPartTold_78]
    by_cases c25 : wd tp q = 25
    · obtain ⟨s2, e2, f2, g2⟩ := t140.1 c25
      have e2' : f_M_takes (E + 6) 3 140 s1 = some (1, s2) := e2
      rw [e2', Option.bind_some, if_pos c25]
      exact ⟨s2, f2, g2, if_neg one_nz⟩
    · have c26 : wd tp q = 26 := hc.elim (fun e => absurd e c25) id
      obtain ⟨s2, e2, f2, g2⟩ := t140.2 c25
      have e2' : f_M_takes (E + 6) 3 140 s1 = some (0, s2) := e2
      obtain ⟨s3, e3, f3, g3⟩ := (m_asks (E + 2) g2.1 (o := 141) rfl).1 c26
      have e3' : f_M_asks (E + 6) 3 141 s2 = some (0, s3) := e3
      rw [e2', Option.bind_some, if_neg c25]
      simp only []
      rw [if_pos trivial, e3', Option.bind_some]
      exact ⟨s3, (f2.mo (fun a i q => by omega)).tr f3, g3, rfl⟩
  obtain ⟨s2, f2, g2, e2⟩ := h78
  have K2 := K1.fr f2 (fun a i q => by omega)
  obtain ⟨s3, e3, f3, g3⟩ := m_look (E + 5) g2
  have K3 := K2.fr f3 (fun a i q => by omega)
  have f03 : Fr PQp s s3 := (f1.m2.tr f2.m4).tr f3.m2
  rw [e2, e_M_qPartTold_101, e3, Option.bind_some] at e1
  simp only [] at e1
  rw [g3.2] at e1
  have hsc := sg_ch (tp := tp) (q := nx tp q) (v := 40) (by decide)
  have hlast : ∀ (v : Int) (s4 : Mem), L_M_qPartTold_2 (E + 6) 1 s = L_M_qPartTold_2 (E + 6) 1 s4 → mKA (E + 6) was s = mKA (E + 6) was s4 := fun v s4 e => by unfold mKA; rw [e]
  refine ⟨fun c40 ho => ?_, fun c40 ho => ?_, fun c40 => ?_⟩
  · rw [if_pos (hsc.mp c40), e_M_qPartTold_118, if_neg (by omega)] at e1
    have fin : ∀ v : Int, ∃ s1, ((f_M_qOpens (E + 6) v (nx tp q : Int) s3).bind fun p1 => (f_M_asksSign (E + 6) 40 p1.2).bind fun p2 => L_M_qPartTold_2 (E + 6) 1 p2.2) = L_M_qPartTold_2 (E + 6) 1 s1 ∧ Fr PQp s s1 ∧ QA s1 tp (nx tp (nx tp q)) ∧ QK s1 k (v :: W) C (o + 1) b := fun v => by
      obtain ⟨s4, e4, f4, K4⟩ := (m_opens (E + 4) K3 g3.1.2.2.1 (by omega) v (nx tp q : Int)).1 ho
      have g4 := g3.kk f4
      obtain ⟨s5, e5, f5, g5⟩ := (m_asksSign (E + 3) g4.1 (v := 40) (by decide)).1 c40
      rw [e4, Option.bind_some]
      simp only []
      rw [e5, Option.bind_some]
      exact ⟨s5, rfl, (f03.tr f4.mk).tr f5.m2, g5, K4.fr f5 (fun a i q => by omega)⟩
    by_cases c25 : wd tp q = 25
    · rw [if_pos c25, if_neg (by decide)] at e1
      obtain ⟨s5, e5, f5, g5, K5⟩ := fin 21
      rw [if_pos c25]
      exact ⟨s5, hlast 0 s5 (e1.trans e5), f5, g5, K5⟩
    · rw [if_neg c25, if_pos rfl] at e1
      obtain ⟨s5, e5, f5, g5, K5⟩ := fin 22
      rw [if_neg c25]
      exact ⟨s5, hlast 0 s5 (e1.trans e5), f5, g5, K5⟩
  · rw [if_pos (hsc.mp c40), e_M_qPartTold_118, if_neg (by omega)] at e1
    have fin : ∀ v : Int, ((f_M_qOpens (E + 6) v (nx tp q : Int) s3).bind fun p1 => (f_M_asksSign (E + 6) 40 p1.2).bind fun p2 => L_M_qPartTold_2 (E + 6) 1 p2.2) = L_M_qPartTold_2 (E + 6) 1 (wI (wI s3 84 5 4) 84 6 (nx tp q : Int)) := fun v => by
      rw [(m_opens (E + 4) K3 g3.1.2.2.1 (by omega) v (nx tp q : Int)).2 ho, Option.bind_some]
      simp only []
      rw [e_M_asksSign, if_neg (by rw [rI_other _ _ _ _ (by omega), rI_same]; decide), Option.bind_some]
    have e5 : L_M_qPartTold_2 (E + 6) 1 s = L_M_qPartTold_2 (E + 6) 1 (wI (wI s3 84 5 4) 84 6 (nx tp q : Int)) := by
      by_cases c25 : wd tp q = 25
      · rw [if_pos c25, if_neg (by decide)] at e1
        exact e1.trans (fin 21)
      · rw [if_neg c25, if_pos rfl] at e1
        exact e1.trans (fin 22)
    have hF : MFlt (wI (wI s3 84 5 4) 84 6 (nx tp q : Int)) (4, nx tp q) := MFlt.mk K3 (by omega) (by decide)
    refine ⟨_, (hlast 0 _ e5).trans (ka_bad _ (by rw [hF.1.1]; exact hF.1.2)), ((f03.w (by unfold PQp; omega)).w (by unfold PQp; omega)).w (by unfold PQp; omega), hF.fr (P := fun a i => a = 84 ∧ i = 103) (Fr.rf.w ⟨rfl, rfl⟩) (fun a i q => by omega)⟩
  · rw [if_neg (fun e => c40 (hsc.mpr e)), e_M_qPartTold_118, if_pos rfl] at e1
    obtain ⟨s4, e4, f4, g4, g5⟩ := (m_asksSign (E + 3) g3.1 (v := 40) (by decide)).2 c40
    rw [e4, Option.bind_some] at e1
    have h99 : rI s4 84 99 = (C.length : Int) := (f4.i (by omega)).trans K3.2.1.1
    have hF : MFlt s4 (1, nx tp q) := ⟨⟨g4, nz1⟩, g5, by rw [h99]; omega, by rw [h99]; omega⟩
    refine ⟨_, (hlast 0 _ e1).trans (ka_bad _ (by rw [hF.1.1]; exact hF.1.2)), (f03.tr (f4.mo (fun a i q => by unfold PQp; omega))).w (by unfold PQp; omega), hF.fr (P := fun a i => a = 84 ∧ i = 103) (Fr.rf.w ⟨rfl, rfl⟩) (fun a i q => by omega)⟩
/-- beside, far stand here -/
theorem ka_of (E : Nat) {q : Nat} (h : QA s tp q) (hk : k ≤ 3) (hK : QK s k W C o b) (hl : C.length + W.length ≤ q) (hc : k = 3 ∧ (wd tp q = 19 ∨ wd tp q = 20)) : (o < 6 → ∃ s1, mKA (E + 6) was s = mKA (E + 6) was s1 ∧ Fr PQp s s1 ∧ QA s1 tp (nx tp q) ∧ QK s1 k ((if wd tp q = 19 then 60 else 61) :: W) C (o + 1) b) ∧ (o = 6 → ∃ s1, mKA (E + 6) was s = some (0, s1) ∧ Fr PQp s s1 ∧ MFlt s1 (4, q)) := by
  obtain ⟨s1, f1, g1, K1, e1⟩ := ka_hd E h hk hK
  have hq := h.lq
  have h16 := h.1.2.1
  have hch : ¬ ch tp q = 40 := by
    intro e
    have k1 : kd tp q = 1 := hc.2.elim (fun e => wd_1 (by omega)) (fun e => wd_1 (by omega))
    have k3 := (sg_3 ((sg_ch (tp := tp) (q := q) (v := 40) (by decide)).mpr e) (by decide)).1
    omega
  have hv : w32 ((w32 (60 + qw (wd tp q))) - 11) = if wd tp q = 19 then 60 else 61 := by rcases hc.2 with e | e <;> rw [e] <;> decide
  rw [if_neg hch, if_neg (by omega), if_pos hc, hv] at e1
  have hop := m_opens (E + 4) K1 g1.1.2.2.1 (by omega) (if wd tp q = 19 then 60 else 61) (q : Int)
  constructor
  · intro ho
    obtain ⟨s2, e2, f2, K2⟩ := hop.1 ho
    obtain ⟨s3, e3, f3, g3⟩ := m_qAsksWord (E + 1) (g1.kk f2).1 (by omega)
    rw [e2, Option.bind_some] at e1
    simp only [] at e1
    rw [e3, Option.bind_some] at e1
    refine ⟨s3, by unfold mKA; rw [e1], (f1.m2.tr f2.mk).tr f3.m4, g3, K2.fr f3 (fun a i q => by omega)⟩
  · intro ho
    have hF : MFlt (wI (wI s1 84 5 4) 84 6 (q : Int)) (4, q) := MFlt.mk K1 (by omega) (by decide)
    have h5n : rI (wI (wI s1 84 5 4) 84 6 (q : Int)) 84 5 ≠ 0 := by rw [hF.1.1]; exact hF.1.2
    have ha : ∀ n o, f_M_asks (E + 5) n o (wI (wI s1 84 5 4) 84 6 (q : Int)) = some (0, wI (wI s1 84 5 4) 84 6 (q : Int)) := fun n o => by rw [e_M_asks, if_neg h5n]
    have hw : f_M_qAsksWord (E + 6) (qw (wd tp q)) (wI (wI s1 84 5 4) 84 6 (q : Int)) = some (0, wI (wI s1 84 5 4) 84 6 (q : Int)) := by
      rw [e_M_qAsksWord]
      simp only [ha, Option.bind_some, ite_self]
    rw [hop.2 ho, Option.bind_some] at e1
    simp only [] at e1
    rw [hw, Option.bind_some] at e1
    refine ⟨wI (wI (wI s1 84 5 4) 84 6 (q : Int)) 84 103 was, ?_, ((f1.m2.w (by unfold PQp; omega)).w (by unfold PQp; omega)).w (by unfold PQp; omega), hF.fr (P := fun a i => a = 84 ∧ i = 103) (Fr.rf.w ⟨rfl, rfl⟩) (fun a i q => by omega)⟩
    rw [← ka_bad (E + 6) h5n]
    unfold mKA
    rw [e1]
/-- a word or a number is asked here -/
theorem ka_leaf (E : Nat) {q : Nat} (h : QA s tp q) (hk : k ≤ 3) (hK : QK s k W C o b) (hl : C.length + W.length ≤ q) (h40 : ¬ sg tp q = 40) (h25 : ¬ (wd tp q = 25 ∨ wd tp q = 26)) (h19 : ¬ (k = 3 ∧ (wd tp q = 19 ∨ wd tp q = 20))) : (alw k (wd tp q) = true → ∃ s1, mKA (E + 6) was s = mKB (E + 6) was s1 ∧ Fr PQp s s1 ∧ QA s1 tp (nx tp q) ∧ QK s1 k W (C ++ [ptc (wd tp q)]) o b) ∧ (kd tp q = 2 → de tp q - q ≤ 4 → ∃ s1, mKA (E + 6) was s = mKB (E + 6) was s1 ∧ Fr PQp s s1 ∧ QA s1 tp (nx tp q) ∧ QK s1 k W (C ++ [1000 + nu tp q]) o b) ∧ (kd tp q = 2 → 4 < de tp q - q → ∃ s1, mKA (E + 6) was s = some (0, s1) ∧ Fr PQp s s1 ∧ MFlt s1 (1, q + 4)) ∧ (kd tp q ≠ 2 → alw k (wd tp q) = false → ∃ s1, mKA (E + 6) was s = some (0, s1) ∧ Fr PQp s s1 ∧ MFlt s1 (1, q)) := by
  obtain ⟨s1, f1, g1, K1, e1⟩ := ka_hd E h hk hK
  have hq := h.lq
  have h16 := h.1.2.1
  rw [if_neg (fun e => h40 ((sg_ch (by decide)).mpr e)), if_neg h25, if_neg h19, e_M_qPartTold_186, g1.1.2.2.1, if_pos rfl, (m_qWordOf (E + 2) g1 hk K1.1).2, Option.bind_some] at e1
  simp only [] at e1
  /- behind the code -/
  have fin : ∀ (q2 : Nat) (c : Int) (s2 : Mem), Fr PQp s s2 → QA s2 tp q2 → QK s2 k W C o b → L_M_qPartTold_2 (E + 6) 1 s = ((f_M_qCode (E + 6) c s2).bind fun p1 => (f_M_qEndsPart (E + 6) p1.2).bind fun p2 => some (0, p2.2)) → ∃ s1, mKA (E + 6) was s = mKB (E + 6) was s1 ∧ Fr PQp s s1 ∧ QA s1 tp q2 ∧ QK s1 k W (C ++ [c]) o b := fun q2 c s2 f2 g2 K2 e => by
    obtain ⟨s3, e3, f3, K3⟩ := m_code (E + 5) K2 (by omega) c
    have g3 := g2.kk f3
    rw [e3, Option.bind_some] at e
    simp only [] at e
    obtain ⟨s4, e4, h4⟩ := m_endsB (E + 3) W.length (C ++ [c]).length s3 g3.2.2.1 K3.2.2.1.1 K3.2.2.2.2 K3.2.1.1 (by rw [List.length_append, List.length_singleton]; omega)
    rw [e_M_qEndsPart, e4, Option.bind_some] at e
    refine ⟨s3, ?_, f2.tr f3.mk, g3, K3⟩
    unfold mKA mKB
    rw [e, Option.bind_some, e_M_qEndsPart, e4, Option.bind_some]
    simp only []
    rw [if_pos h4]
  have hnum := m_number (E + 4) g1.1 0 9999
  have hbad : ∀ (x : Int) (s2 : Mem) (p : Nat), f_M_number (E + 6) 0 9999 s1 = some (x, s2) → Fr PMn s1 s2 → rI s2 84 5 = 1 → rI s2 84 6 = (p : Int) → (0 ≤ x ∧ x ≤ 9999) → alw k (wd tp q) = false → ∃ s1, mKA (E + 6) was s = some (0, s1) ∧ Fr PQp s s1 ∧ MFlt s1 (1, p) := fun x s2 p e2 f2 h5 h6 hx ha => by
    have K2 := K1.fr f2 (fun a i q => by omega)
    obtain ⟨s3, e3, f3, K3⟩ := m_code (E + 5) K2 (by omega) (w32 (1000 + x))
    rw [ha, if_neg (show ¬ (false = true) by decide), if_pos rfl, e_M_qPartTold_212, if_pos rfl, e2, Option.bind_some] at e1
    simp only [] at e1
    rw [e3, Option.bind_some] at e1
    simp only [] at e1
    have h53 : rI s3 84 5 = 1 := (f3.i (by unfold PQk; omega)).trans h5
    rw [e_M_qEndsPart, e_M_qEndsPart_0, if_neg (by rw [h53]; decide), Option.bind_some] at e1
    have hF : MFlt s3 (1, p) := ⟨⟨h53, nz1⟩, (f3.i (by unfold PQk; omega)).trans h6, by rw [K3.2.1.1]; omega, by rw [K3.2.1.1, List.length_append, List.length_singleton]; omega⟩
    refine ⟨_, ?_, ((f1.m2.tr f2.mn).tr f3.mk).w (by unfold PQp; omega), hF.fr (P := fun a i => a = 84 ∧ i = 103) (s' := wI s3 84 103 was) (Fr.rf.w ⟨rfl, rfl⟩) (fun a i q => by omega)⟩
    unfold mKA
    rw [e1, Option.bind_some]
    simp only []
    rw [if_neg (by rw [h53]; decide)]
    exact fin_bad _ (by rw [h53]; decide)
  have hnw : kd tp q = 2 → alw k (wd tp q) = false := fun k2 => by
    have : wd tp q = -1 := by unfold wd; rw [if_neg (by omega)]
    rw [this]
    unfold alw
    rfl
  refine ⟨fun ha => ?_, fun k2 h4 => ?_, fun k2 h4 => ?_, fun k2 ha => ?_⟩
  · have hn := alw_n ha
    have hv := @qw_v (wd tp q)
    obtain ⟨s2, e2, f2, g2⟩ := m_qAsksWord (E + 1) g1.1 (by omega)
    rw [if_pos ha, if_neg (by omega), e2, Option.bind_some, e_M_qPartTold_212, if_neg (by omega)] at e1
    have hp : w32 (40 + qw (wd tp q)) = ptc (wd tp q) := by
      rw [w32_i (by omega) (by omega)]
      unfold ptc
      by_cases c3 : wd tp q = 3
      · rw [if_pos c3]; omega
      · rw [if_neg c3]
        by_cases c4 : wd tp q = 4
        · rw [if_pos c4]; omega
        · rw [if_neg c4]; omega
    rw [hp] at e1
    exact fin (nx tp q) (ptc (wd tp q)) s2 (f1.m2.tr f2.m4) g2 (K1.fr f2 (fun a i q => by omega)) e1
  · have hr := nu_r (tp := tp) hq
    obtain ⟨s2, e2, f2, g2, -⟩ := hnum.1 k2 h4 hr
    rw [hnw k2, if_neg (show ¬ (false = true) by decide), if_pos rfl, e_M_qPartTold_212, if_pos rfl, e2, Option.bind_some] at e1
    simp only [] at e1
    rw [w32_i (by omega) (by omega)] at e1
    exact fin (nx tp q) (1000 + nu tp q) s2 (f1.m2.tr f2.mn) g2 (K1.fr f2 (fun a i q => by omega)) e1
  · obtain ⟨s2, x, e2, f2, g2, g3, hx⟩ := hnum.2.2.1 k2 h4
    exact hbad x s2 (q + 4) e2 f2 g2 g3 hx (hnw k2)
  · obtain ⟨s2, x, e2, f2, g2, g3, hx⟩ := hnum.2.2.2 k2
    exact hbad x s2 q e2 f2 g2 g3 hx ha
end MSUM
