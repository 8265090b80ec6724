/-! the reference's facts and tests are their spec -/
section MTEST
variable {tp : List Int}
noncomputable def mGT (D : Nat) (s : Mem) : Rs := (L_M_qGoesOnTest_0 D s).bind fun p5 => if p5.1 = 0 then (L_M_qTest_2 (D + 1) 0 p5.2) else L_M_qTest_2 (D + 1) 1 p5.2
noncomputable def mTB (D : Nat) (s : Mem) : Rs := (f_M_qDropsNots D s).bind fun p => mGT D p.2
def MFl (s : Mem) (e : Int × Nat) : Prop := (rI s 84 5 = e.1 ∧ e.1 ≠ 0) ∧ rI s 84 6 = (e.2 : Int)
theorem MFlt.l {s : Mem} {e : Int × Nat} (h : MFlt s e) : MFl s e := ⟨h.1, h.2.1⟩
def TPr (tp : List Int) (X : Rs) (Y : Mem → Rs) (res : Res) (s : Mem) (k : Nat) (W C : List Int) (o b : Nat) : Prop := match res with
  | .inl e => ∃ s1, X = some (0, s1) ∧ Fr PQp s s1 ∧ MFl s1 e
  | .inr x => ∃ s1, X = Y s1 ∧ Fr PQp s s1 ∧ QA s1 tp x.1 ∧ QK s1 k W (C ++ x.2) o b
def TOp (tp : List Int) (l : Int) (X : Rs) (Y : Mem → Rs) (res : Res) (s : Mem) (k : Nat) (W C : List Int) (o b : Nat) : Prop := match res with
  | .inl e => ∃ s1, X = some (0, s1) ∧ Fr PQp s s1 ∧ MFl s1 e
  | .inr x => ∃ s1 ms C1, X = Y s1 ∧ Fr PQp s s1 ∧ QA s1 tp x.1 ∧ QK s1 k (ms ++ W) C1 o b ∧ C1 ++ ms = C ++ x.2 ∧ (∀ v ∈ ms, 10 ≤ v ∧ v ≤ l) ∧ oB tp x.1 = 0 ∧ (l = 11 → oT tp x.1 = 0)
theorem TPr.cs {X : Rs} {Y : Mem → Rs} {res : Res} {s : Mem} {k : Nat} {W C : List Int} {o b : Nat} (h : TPr tp X Y res s k W C o b) : (∃ e s1, res = .inl e ∧ X = some (0, s1) ∧ Fr PQp s s1 ∧ MFl s1 e) ∨ ∃ q c s1, res = .inr (q, c) ∧ X = Y s1 ∧ Fr PQp s s1 ∧ QA s1 tp q ∧ QK s1 k W (C ++ c) o b := by
  match res, h with
  | .inl e, ⟨s1, h1, h2, h3⟩ => exact Or.inl ⟨e, s1, rfl, h1, h2, h3⟩
  | .inr (q, c), ⟨s1, h1, h2, h3, h4⟩ => exact Or.inr ⟨q, c, s1, rfl, h1, h2, h3, h4⟩
theorem TPr.tr {X X0 : Rs} {Y : Mem → Rs} {res : Res} {s s0 : Mem} {k : Nat} {W C : List Int} {o b : Nat} (h : TPr tp X Y res s k W C o b) (he : X0 = X) (hf : Fr PQp s0 s) : TPr tp X0 Y res s0 k W C o b := by
  match res, h with
  | .inl e, ⟨s1, h1, h2, h3⟩ => exact ⟨s1, he.trans h1, hf.tr h2, h3⟩
  | .inr (q, c), ⟨s1, h1, h2, h3, h4⟩ => exact ⟨s1, he.trans h1, hf.tr h2, h3, h4⟩
theorem TOp.cs {l : Int} {X : Rs} {Y : Mem → Rs} {res : Res} {s : Mem} {k : Nat} {W C : List Int} {o b : Nat} (h : TOp tp l X Y res s k W C o b) : (∃ e s1, res = .inl e ∧ X = some (0, s1) ∧ Fr PQp s s1 ∧ MFl s1 e) ∨ ∃ q c s1 ms C1, res = .inr (q, c) ∧ X = Y s1 ∧ Fr PQp s s1 ∧ QA s1 tp q ∧ QK s1 k (ms ++ W) C1 o b ∧ C1 ++ ms = C ++ c ∧ (∀ v ∈ ms, 10 ≤ v ∧ v ≤ l) ∧ oB tp q = 0 ∧ (l = 11 → oT tp q = 0) := by
  match res, h with
  | .inl e, ⟨s1, h1, h2, h3⟩ => exact Or.inl ⟨e, s1, rfl, h1, h2, h3⟩
  | .inr (q, c), ⟨s1, ms, C1, h1, h2, h3, h4, h5, h6, h7, h8⟩ => exact Or.inr ⟨q, c, s1, ms, C1, rfl, h1, h2, h3, h4, h5, h6, h7, h8⟩
theorem TOp.tr {l : Int} {X X0 : Rs} {Y : Mem → Rs} {res : Res} {s s0 : Mem} {k : Nat} {W C : List Int} {o b : Nat} (h : TOp tp l X Y res s k W C o b) (he : X0 = X) (hf : Fr PQp s0 s) : TOp tp l X0 Y res s0 k W C o b := by
  match res, h with
  | .inl e, ⟨s1, h1, h2, h3⟩ => exact ⟨s1, he.trans h1, hf.tr h2, h3⟩
  | .inr (q, c), ⟨s1, ms, C1, h1, h2, h3⟩ => exact ⟨s1, ms, C1, he.trans h1, hf.tr h2, h3⟩
variable {s : Mem} {k o b : Nat} {W C : List Int}
theorem ta_bad (D : Nat) (v : Int) (h5 : rI s 84 5 ≠ 0) : L_M_qTest_2 D v s = some (0, s) := by
  rw [e_M_qTest_2]
  by_cases c : v = 0
  · rw [if_pos c, e_M_qTest_110, if_neg h5]
  · rw [if_neg c, if_neg h5, e_M_qTest_110, if_neg h5]
theorem m_notsB : ∀ (n c : Nat) (s : Mem), rI s 84 5 = 0 → rI s 84 101 = (n : Int) → rI s 84 99 = (c : Int) → n + c < 1650 → ∃ s1, (∀ D, L_M_qDropsNots_0 (D + 2) s = some (0, s1)) ∧ rI s1 84 5 = 0
  | 0, c, s, h5, h1, h9, hn => by
    refine ⟨s, fun D => ?_, h5⟩
    rw [e_M_qDropsNots_0, h5, if_pos rfl, e_M_qIsOn, h1, if_neg (by omega), Option.bind_some]
    exact if_pos rfl
  | n + 1, c, s, h5, h1, h9, hn => by
    have hw : w32 (((n + 1 : Nat) : Int) - 1) = (n : Int) := by rw [w32_i (by omega) (by omega)]; omega
    by_cases c2 : rI s 156 n = 12
    · obtain ⟨s1, e1, g1⟩ := m_notsB n (c + 1) (wI (wI (wI (wI s 84 102 (w32 ((rI s 84 102) - 1))) 84 101 (n : Int)) 155 c 12) 84 99 ((c + 1 : Nat) : Int)) (by rw [rI_other _ _ _ _ (by omega), rI_other _ _ _ _ (by omega), rI_other _ _ _ _ (by omega), rI_other _ _ _ _ (by omega)]; exact h5) (by rw [rI_other _ _ _ _ (by omega), rI_other _ _ _ _ (by omega), rI_same]) (rI_same _ _ _ _) (by omega)
      refine ⟨s1, fun D => ?_, g1⟩
      rw [e_M_qDropsNots_0, h5, if_pos rfl, e_M_qIsOn, h1, if_pos (by omega), hw, inB_n (by omega), Int.toNat_natCast, if_pos c2, Option.bind_some]
      simp only []
      rw [if_neg (by decide), e_M_qDrops, rI_other _ _ _ _ (by omega), h1, hw, inB_n (by omega), Int.toNat_natCast, e_M_qCode, rI_other _ _ _ _ (by omega), rI_other _ _ _ _ (by omega), h9, inB_n (by omega), Int.toNat_natCast, w32_s (by omega), Option.bind_some]
      simp only []
      rw [Option.bind_some, show rI (wI s 84 102 (w32 ((rI s 84 102) - 1))) 156 n = 12 by rw [rI_other _ _ _ _ (by omega)]; exact c2]
      exact e1 D
    · refine ⟨s, fun D => ?_, h5⟩
      rw [e_M_qDropsNots_0, h5, if_pos rfl, e_M_qIsOn, h1, if_pos (by omega), hw, inB_n (by omega), Int.toNat_natCast, if_neg c2, Option.bind_some]
      exact if_pos rfl
theorem mTB_e (E : Nat) (hK : QK s k W C o b) (h5 : rI s 84 5 = 0) (hn : W.length + C.length < 1650) : ((f_M_qDropsNots (E + 10) s).bind fun p4 => if rI p4.2 84 5 = 0 then ((f_M_qGoesOnTest (E + 10) p4.2).bind fun p5 => if p5.1 = 0 then (L_M_qTest_2 (E + 10) 0 p5.2) else L_M_qTest_2 (E + 10) 1 p5.2) else L_M_qTest_2 (E + 10) 0 p4.2) = mTB (E + 9) s := by
  obtain ⟨s1, e1, g1⟩ := m_notsB W.length C.length s h5 hK.2.2.1.1 hK.2.1.1 hn
  unfold mTB mGT
  rw [e_M_qDropsNots, e_M_qDropsNots, e1, e1, Option.bind_some, Option.bind_some]
  simp only []
  rw [g1, if_pos rfl, e_M_qGoesOnTest]
theorem tb_gt (E : Nat) (hK : QK s k W C o b) (h5 : rI s 84 5 = 0) (hw : W.length < 1650) (hh : W.headD 0 ≠ 12) : mTB (E + 9) s = mGT (E + 9) s := by
  unfold mTB
  rw [e_M_qDropsNots, m_nots0 (E + 7) hK h5 hw hh, Option.bind_some]
theorem m_takesE (D : Nat) {o : Nat} {s : Mem} {q : Nat} (h : QE s tp q) (ho : woO o = true) (hn : wd tp q ≠ (woA o : Int)) : f_M_takes (D + 3) (WD.getD (woA o) []).length o s = some (0, s) := by
  rw [e_M_takes, m_isH D h ho, Option.bind_some, if_neg hn]
  exact if_pos rfl
/-- all, or two sums that a sign compares -/
def facB (tp : List Int) (k n q : Nat) : Res := if wd tp q = 24 then .inr (nx tp q, [13]) else bnd (sumL tp k n q) (fun q1 c1 => if oC tp q1 = 0 then .inl (1, q1) else bnd (sumL tp k n (nx tp q1)) (fun q2 c2 => .inr (q2, c1 ++ c2 ++ [oC tp q1])))
theorem m_qFact (E : Nat) {n q : Nat} (hk : k ≤ 3) (hn : n + o = 6) (h : QA s tp q) (hK : QK s k W C o b) (hl : C.length + W.length ≤ q) (hW : ¬ (1 ≤ W.headD 0 ∧ W.headD 0 ≤ 4)) (hW2 : W.headD 0 < 60) : TPr tp (f_M_qFact (E + 9) s) (fun s1 => some (0, s1)) (facB tp k n q) s k W C o b := by
  have hq := h.lq
  have h16 := h.1.2.1
  have ht := m_takes (E + 5) h (o := 139) rfl
  unfold facB
  rw [e_M_qFact]
  by_cases c24 : wd tp q = 24
  · obtain ⟨s1, e1, f1, g1⟩ := ht.1 c24
    have e1' : f_M_takes (E + 8) 3 139 s = some (1, s1) := e1
    have K1 := hK.fr f1 (fun a i q => by omega)
    obtain ⟨s2, e2, f2, K2⟩ := m_code (E + 7) K1 (by omega) 13
    rw [if_pos c24, e1', Option.bind_some]
    simp only []
    rw [if_neg (by decide), e2, Option.bind_some]
    exact ⟨s2, rfl, f1.m4.tr f2.mk, g1.kk f2, K2⟩
  · obtain ⟨s1, e1, f1, g1⟩ := ht.2 c24
    have e1' : f_M_takes (E + 8) 3 139 s = some (0, s1) := e1
    have K1 := hK.fr f1 (fun a i q => by omega)
    rw [if_neg c24, e1', Option.bind_some]
    simp only []
    rw [if_pos trivial]
    rcases (m_qSums E hk hn g1.1 K1 hl hW hW2).cs with ⟨er, s2, r1, r2, f2, g2⟩ | ⟨q1, c1, s2, r1, r2, f2, g2, K2⟩
    · rw [r1, r2, Option.bind_some]
      simp only []
      rw [if_neg (by rw [g2.1.1]; exact g2.1.2)]
      exact ⟨s2, rfl, f1.m2.tr f2, g2.l⟩
    · obtain ⟨a1, a2, a3⟩ := sumL_g k n _ _ _ hq r1
      have hq1 := g2.lq
      obtain ⟨s3, e3, f3, g3⟩ := m_look (E + 7) g2
      have K3 := K2.fr f3 (fun a i q => by omega)
      rw [r1, r2, Option.bind_some]
      simp only [bnd]
      rw [g2.2.2.1, if_pos rfl, e3, Option.bind_some]
      simp only []
      have s60 := sg_ch (tp := tp) (q := q1) (v := 60) (by decide)
      have s62 := sg_ch (tp := tp) (q := q1) (v := 62) (by decide)
      have s61 := sg_ch (tp := tp) (q := q1) (v := 61) (by decide)
      by_cases c0 : oC tp q1 = 0
      · obtain ⟨m1, m2, m3⟩ := oC_0 c0
        rw [if_pos c0, if_neg (fun e => m1 (s60.mpr e)), if_neg (fun e => m2 (s62.mpr e)), if_neg (fun e => m3 (s61.mpr e)), m_fail (E + 7) g3.1.2.2.1, Option.bind_some, g3.2]
        exact ⟨_, rfl, (((f1.m2.tr f2).tr f3.m2).w (by unfold PQp; omega)).w (by unfold PQp; omega), (MFlt.mk (p := q1) K3 (by rw [List.length_append]; omega) (by decide)).l⟩
      · rw [if_neg c0]
        obtain ⟨d1, d2, d3⟩ := Ops_C _ c0
        have k3 : kd tp q1 = 3 := by rcases oC_1 c0 with ⟨a, _⟩ | ⟨a, _⟩ | ⟨a, _⟩ <;> exact (sg_3 a (by decide)).1
        have f4 : Fr PM2 s3 (wI s3 84 2 ((q1 + 1 : Nat) : Int)) := Fr.rf.w ⟨rfl, rfl⟩
        have g4 := QA.sig g3 k3 f4 (rI_same _ _ _ _)
        have K4 := K3.fr f4 (fun a i q => by omega)
        have f04 := ((f1.m2.tr f2).tr f3.m2).tr f4.m2
        have key : ∀ z c : Int, (if z = 60 then (7 : Int) else if z = 62 then 8 else 9) = c → TPr tp (L_M_qFact_63 (E + 8) z s3) (fun s1 => some (0, s1)) (match sumL tp k n (nx tp q1) with
          | .inl e => .inl e
          | .inr x => .inr (x.1, c1 ++ x.2 ++ [c])) s k W C o b := fun z c hz => by
          have e63 : ∀ s5, (if z = 60 then ((f_M_qCode (E + 8) 7 s5).bind fun p2 => some ((0 : Int), p2.2)) else if z = 62 then ((f_M_qCode (E + 8) 8 s5).bind fun p2 => some (0, p2.2)) else (f_M_qCode (E + 8) 9 s5).bind fun p2 => some (0, p2.2)) = ((f_M_qCode (E + 8) c s5).bind fun p2 => some (0, p2.2)) := fun s5 => by
            rw [← hz]
            by_cases z1 : z = 60
            · rw [if_pos z1, if_pos z1]
            · rw [if_neg z1, if_neg z1]
              by_cases z2 : z = 62
              · rw [if_pos z2, if_pos z2]
              · rw [if_neg z2, if_neg z2]
          rw [e_M_qFact_63, g3.2, w32_s (by omega)]
          rcases (m_qSums E hk hn g4 K4 (by rw [List.length_append]; omega) hW hW2).cs with ⟨er, s5, r3, r4, f5, g5⟩ | ⟨q3, c3, s5, r3, r4, f5, g5, K5⟩
          · rw [r3, r4, Option.bind_some, e63, e_M_qCode]
            obtain ⟨n9, hn9⟩ := Int.eq_ofNat_of_zero_le g5.2.2.1
            have h9 := g5.2.2.2
            rw [hn9, inB_n (by omega), Option.bind_some]
            refine ⟨_, rfl, ((f04.tr f5).w (by unfold PQp; omega)).w (by unfold PQp; omega), ⟨?_, ?_⟩, ?_⟩
            · rw [rI_other _ _ _ _ (by omega), rI_other _ _ _ _ (by omega)]; exact g5.1.1
            · exact g5.1.2
            · rw [rI_other _ _ _ _ (by omega), rI_other _ _ _ _ (by omega)]; exact g5.2.1
          · obtain ⟨b1, b2, b3⟩ := sumL_g k n _ _ _ d2.1 r3
            have hq3 := g5.lq
            obtain ⟨s6, e6, f6, K6⟩ := m_code (E + 7) K5 (by rw [List.length_append, List.length_append]; omega) c
            rw [r3, r4, Option.bind_some, e63, e6, Option.bind_some]
            have hh : C ++ (c1 ++ c3 ++ [c]) = C ++ c1 ++ c3 ++ [c] := by simp only [List.append_assoc]
            exact ⟨s6, rfl, (f04.tr f5).tr f6.mk, g5.kk f6, by rw [hh]; exact K6⟩
        rcases oC_1 c0 with ⟨a, e⟩ | ⟨a, e⟩ | ⟨a, e⟩
        · rw [if_pos (s60.mp a), s60.mp a, e]
          exact key 60 7 rfl
        · rw [if_neg (fun q => by rw [s60.mpr q] at a; exact absurd a (by decide)), if_pos (s62.mp a), s62.mp a, e]
          exact key 62 8 rfl
        · rw [if_neg (fun q => by rw [s60.mpr q] at a; exact absurd a (by decide)), if_neg (fun q => by rw [s62.mpr q] at a; exact absurd a (by decide)), if_pos (s61.mp a), s61.mp a, e]
          exact key 61 9 rfl
/-- where a fact is asked -/
theorem ta_hd (E : Nat) {q : Nat} (h : QA s tp q) (hK : QK s k W C o b) : ∃ s1, Fr PM2 s s1 ∧ QE s1 tp q ∧ QK s1 k W C o b ∧ L_M_qTest_2 (E + 10) 1 s = if sg tp q = 91 then ((f_M_qOpens (E + 10) 25 (q : Int) s1).bind fun p2 => L_M_qTest_2 (E + 10) 1 (wI p2.2 84 2 (w32 ((rI p2.2 84 2) + 1)))) else if wd tp q = 23 then ((f_M_qOpens (E + 10) 12 (q : Int) s1).bind fun p3 => (f_M_asks (E + 10) 3 136 p3.2).bind fun p4 => L_M_qTest_2 (E + 10) 1 p4.2) else ((f_M_qFact (E + 10) s1).bind fun p3 => (f_M_qDropsNots (E + 10) p3.2).bind fun p4 => if rI p4.2 84 5 = 0 then ((f_M_qGoesOnTest (E + 10) p4.2).bind fun p5 => if p5.1 = 0 then (L_M_qTest_2 (E + 10) 0 p5.2) else L_M_qTest_2 (E + 10) 1 p5.2) else L_M_qTest_2 (E + 10) 0 p4.2) := by
  obtain ⟨s1, e1, f1, g1⟩ := m_look (E + 9) h
  have K1 := hK.fr f1 (fun a i q => by omega)
  refine ⟨s1, f1, g1, K1, ?_⟩
  have h136 : f_M_isHere (E + 10) 3 136 s1 = some (if wd tp q = 23 then 1 else 0, s1) := m_isH (E + 8) g1 (o := 136) rfl
  have s91 := sg_ch (tp := tp) (q := q) (v := 91) (by decide)
  rw [e_M_qTest_2, if_neg (by decide), h.2.2.1, if_pos rfl, e1, Option.bind_some]
  simp only []
  rw [g1.2]
  by_cases c : sg tp q = 91
  · rw [if_pos (s91.mp c), if_pos c]
  · rw [if_neg (fun e => c (s91.mpr e)), if_neg c, h136, Option.bind_some]
    simp only []
    rw [g1.2]
    by_cases c23 : wd tp q = 23
    · rw [if_pos c23, if_neg (by decide), if_pos c23]
    · rw [if_neg c23, if_pos rfl, if_neg c23]
theorem ta_sq (E : Nat) {q : Nat} (h : QA s tp q) (hK : QK s k W C o b) (hl : C.length + W.length ≤ q) (hc : sg tp q = 91) : (o < 6 → ∃ s1, L_M_qTest_2 (E + 10) 1 s = L_M_qTest_2 (E + 10) 1 s1 ∧ Fr PQp s s1 ∧ QA s1 tp (nx tp q) ∧ QK s1 k (25 :: W) C (o + 1) b) ∧ (o = 6 → ∃ s1, L_M_qTest_2 (E + 10) 1 s = some (0, s1) ∧ Fr PQp s s1 ∧ MFl s1 (4, q)) := by
  obtain ⟨s1, f1, g1, K1, e1⟩ := ta_hd E h hK
  have hq := h.lq
  have h16 := h.1.2.1
  have k3 : kd tp q = 3 := (sg_3 hc (by decide)).1
  have hop := m_opens (E + 8) K1 g1.1.2.2.1 (by omega) 25 (q : Int)
  rw [if_pos hc] at e1
  constructor
  · intro ho
    obtain ⟨s2, e2, f2, K2⟩ := hop.1 ho
    have g2 := g1.kk f2
    have f3 : Fr PM2 s2 (wI s2 84 2 ((q + 1 : Nat) : Int)) := Fr.rf.w ⟨rfl, rfl⟩
    rw [e2, Option.bind_some] at e1
    simp only [] at e1
    rw [g2.2, w32_s (by omega)] at e1
    exact ⟨_, e1, (f1.m2.tr f2.mk).tr f3.m2, QA.sig g2 k3 f3 (rI_same _ _ _ _), K2.fr f3 (fun a i q => by omega)⟩
  · intro ho
    rw [hop.2 ho, Option.bind_some] at e1
    have hF : MFlt (wI (wI s1 84 5 4) 84 6 (q : Int)) (4, q) := MFlt.mk K1 (by omega) (by decide)
    have hF2 := hF.fr (P := fun a i => a = 84 ∧ i = 2) (s' := wI (wI (wI s1 84 5 4) 84 6 (q : Int)) 84 2 (w32 ((rI (wI (wI s1 84 5 4) 84 6 (q : Int)) 84 2) + 1))) (Fr.rf.w ⟨rfl, rfl⟩) (fun a i q => by omega)
    exact ⟨_, e1.trans (ta_bad _ _ (by rw [hF2.1.1]; exact hF2.1.2)), ((f1.m2.w (by unfold PQp; omega)).w (by unfold PQp; omega)).w (by unfold PQp; omega), hF2.l⟩
theorem ta_not (E : Nat) {q : Nat} (h : QA s tp q) (hK : QK s k W C o b) (hl : C.length + W.length ≤ q) (hc : wd tp q = 23) : (o < 6 → ∃ s1, L_M_qTest_2 (E + 10) 1 s = L_M_qTest_2 (E + 10) 1 s1 ∧ Fr PQp s s1 ∧ QA s1 tp (nx tp q) ∧ QK s1 k (12 :: W) C (o + 1) b) ∧ (o = 6 → ∃ s1, L_M_qTest_2 (E + 10) 1 s = some (0, s1) ∧ Fr PQp s s1 ∧ MFl s1 (4, q)) := by
  obtain ⟨s1, f1, g1, K1, e1⟩ := ta_hd E h hK
  have hq := h.lq
  have h16 := h.1.2.1
  have n91 : ¬ sg tp q = 91 := fun e => by
    have k1 := wd_1 (tp := tp) (q := q) (by omega)
    have := (sg_3 e (by decide)).1
    omega
  have hop := m_opens (E + 8) K1 g1.1.2.2.1 (by omega) 12 (q : Int)
  rw [if_neg n91, if_pos hc] at e1
  constructor
  · intro ho
    obtain ⟨s2, e2, f2, K2⟩ := hop.1 ho
    obtain ⟨s3, e3, f3, g3⟩ := (m_asks (E + 6) (g1.kk f2).1 (o := 136) rfl).1 hc
    have e3' : f_M_asks (E + 10) 3 136 s2 = some (0, s3) := e3
    rw [e2, Option.bind_some] at e1
    simp only [] at e1
    rw [e3', Option.bind_some] at e1
    exact ⟨s3, e1, (f1.m2.tr f2.mk).tr f3.m4, g3, K2.fr f3 (fun a i q => by omega)⟩
  · intro ho
    have hF : MFlt (wI (wI s1 84 5 4) 84 6 (q : Int)) (4, q) := MFlt.mk K1 (by omega) (by decide)
    have h5n : rI (wI (wI s1 84 5 4) 84 6 (q : Int)) 84 5 ≠ 0 := by rw [hF.1.1]; exact hF.1.2
    rw [hop.2 ho, Option.bind_some] at e1
    simp only [] at e1
    rw [e_M_asks, if_neg h5n, Option.bind_some] at e1
    exact ⟨_, e1.trans (ta_bad _ _ h5n), (f1.m2.w (by unfold PQp; omega)).w (by unfold PQp; omega), hF.l⟩
theorem ta_fact (E : Nat) {n q : Nat} (hk : k ≤ 3) (hn : n + o = 6) (h : QA s tp q) (hK : QK s k W C o b) (hl : C.length + W.length ≤ q) (hW : ¬ (1 ≤ W.headD 0 ∧ W.headD 0 ≤ 4)) (hW2 : W.headD 0 < 60) (h91 : ¬ sg tp q = 91) (h23 : ¬ wd tp q = 23) : TPr tp (L_M_qTest_2 (E + 10) 1 s) (mTB (E + 9)) (facB tp k n q) s k W C o b := by
  obtain ⟨s1, f1, g1, K1, e1⟩ := ta_hd E h hK
  have hq := h.lq
  have h16 := h.1.2.1
  rw [if_neg h91, if_neg h23] at e1
  rcases (m_qFact (E + 1) hk hn g1.1 K1 hl hW hW2).cs with ⟨er, s2, r1, r2, f2, g2⟩ | ⟨q1, c1, s2, r1, r2, f2, g2, K2⟩
  · rw [r1]
    have h5n : rI s2 84 5 ≠ 0 := by rw [g2.1.1]; exact g2.1.2
    rw [r2, Option.bind_some] at e1
    simp only [] at e1
    rw [e_M_qDropsNots, e_M_qDropsNots_0, if_neg h5n, Option.bind_some] at e1
    simp only [] at e1
    rw [if_neg h5n] at e1
    exact ⟨s2, e1.trans (ta_bad _ _ h5n), f1.m2.tr f2, g2⟩
  · rw [r1]
    have hq1 := g2.lq
    have hlc : q + c1.length ≤ q1 := by
      unfold facB at r1
      by_cases c24 : wd tp q = 24
      · rw [if_pos c24] at r1
        cases r1
        have := (nx_w c24 (by decide)).1
        simp only [List.length_singleton]; omega
      · rw [if_neg c24] at r1
        obtain ⟨q2, c2, r3, r4⟩ := bnd_i r1
        obtain ⟨a1, a2, a3⟩ := sumL_g k n _ _ _ hq r3
        by_cases c0 : oC tp q2 = 0
        · rw [if_pos c0] at r4; cases r4
        · rw [if_neg c0] at r4
          obtain ⟨d1, d2, d3⟩ := Ops_C _ c0
          obtain ⟨q3, c3, r5, r6⟩ := bnd_i r4
          cases r6
          obtain ⟨b1, b2, b3⟩ := sumL_g k n _ _ _ d2.1 r5
          simp only [List.length_append, List.length_singleton]
          omega
    rw [r2, Option.bind_some] at e1
    exact ⟨s2, e1.trans (mTB_e E K2 g2.2.2.1 (by rw [List.length_append]; omega)), f1.m2.tr f2, g2, K2⟩
end MTEST
