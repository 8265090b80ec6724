/-! the reference's tests: and, or, ] -/
section MTEST2
variable {tp : List Int}
theorem oB_0 {q : Nat} (h : oB tp q = 0) : wd tp q ≠ 22 := by
  unfold oB at h
  split at h
  · cases h
  · next n1 => exact n1
theorem oB_1 {q : Nat} (h : oB tp q ≠ 0) : wd tp q = 22 ∧ oB tp q = 10 := by
  unfold oB at h ⊢
  split at h
  · next n1 => rw [if_pos n1]; exact ⟨n1, rfl⟩
  · exact absurd rfl h
theorem oT_0 {q : Nat} (h : oT tp q = 0) : wd tp q ≠ 21 := by
  unfold oT at h
  split at h
  · cases h
  · next n1 => exact n1
theorem oT_1 {q : Nat} (h : oT tp q ≠ 0) : wd tp q = 21 ∧ oT tp q = 11 := by
  unfold oT at h ⊢
  split at h
  · next n1 => rw [if_pos n1]; exact ⟨n1, rfl⟩
  · exact absurd rfl h
variable {s : Mem} {k o b : Nat} {W C : List Int}
theorem m_87 (D : Nat) (hW : W.headD 0 ≠ 10) : ∀ (ms C : List Int) (s : Mem), (∀ x ∈ ms, x = 10) → QK s k (ms ++ W) C o b → C.length + ms.length + W.length < 1650 → ∃ s1, L_M_qGoesOnTest_87 (D + 2) s = some (1, s1) ∧ Fr PQk s s1 ∧ QK s1 k (10 :: W) (C ++ ms) o b
  | [], C, s, _, h, hn => by
    have h0 : QK s k W C o b := h
    have hn0 : C.length + W.length < 1650 := by simpa using hn
    rw [e_M_qGoesOnTest_87, m_isOn (D + 1) h0 (by omega) (by decide), Option.bind_some, if_neg hW]
    simp only []
    rw [if_pos trivial, h0.2.2.1.1, inB_n (by omega), Int.toNat_natCast, w32_s (by omega), List.append_nil]
    exact ⟨_, rfl, (Fr.rf.w (by unfold PQk; omega)).w (by unfold PQk; omega), h0.push 10⟩
  | x :: ms, C, s, hx, h, hn => by
    have h0 : QK s k (x :: (ms ++ W)) C o b := h
    have hn0 : C.length + (ms.length + 1) + W.length < 1650 := hn
    have hln : (ms ++ W).length = ms.length + W.length := List.length_append
    have hx0 := hx x List.mem_cons_self
    obtain ⟨s1, e1, f1, g1⟩ := m_drops D h0 (by omega) (by omega)
    obtain ⟨s2, e2, f2, g2⟩ := m_87 D hW ms (C ++ [x]) s1 (fun y hy => hx y (List.mem_cons_of_mem _ hy)) g1 (by rw [List.length_append, List.length_singleton]; omega)
    rw [List.append_assoc] at g2
    refine ⟨s2, ?_, f1.tr f2, g2⟩
    have hd : (x :: (ms ++ W)).headD 0 = x := rfl
    rw [e_M_qGoesOnTest_87, m_isOn (D + 1) h0 (by rw [List.length_cons]; omega) (by decide), Option.bind_some, hd, if_pos hx0]
    simp only []
    rw [if_neg (by decide), e1, Option.bind_some]
    exact e2
theorem m_137 (D : Nat) (hW : W.headD 0 ≠ 10 ∧ W.headD 0 ≠ 11) : ∀ (ms C : List Int) (s : Mem), (∀ x ∈ ms, 10 ≤ x ∧ x ≤ 11) → QK s k (ms ++ W) C o b → C.length + ms.length + W.length < 1650 → ∃ s1, L_M_qGoesOnTest_137 (D + 2) s = some (1, s1) ∧ Fr PQk s s1 ∧ QK s1 k (11 :: W) (C ++ ms) o b
  | [], C, s, _, h, hn => by
    have h0 : QK s k W C o b := h
    have hn0 : C.length + W.length < 1650 := by simpa using hn
    rw [e_M_qGoesOnTest_137, m_isOn (D + 1) h0 (by omega) (by decide), Option.bind_some, if_neg hW.1]
    simp only []
    rw [if_pos trivial, m_isOn (D + 1) h0 (by omega) (by decide), Option.bind_some, if_neg hW.2]
    simp only []
    rw [if_pos trivial, h0.2.2.1.1, inB_n (by omega), Int.toNat_natCast, w32_s (by omega), List.append_nil]
    exact ⟨_, rfl, (Fr.rf.w (by unfold PQk; omega)).w (by unfold PQk; omega), h0.push 11⟩
  | x :: ms, C, s, hx, h, hn => by
    have h0 : QK s k (x :: (ms ++ W)) C o b := h
    have hn0 : C.length + (ms.length + 1) + W.length < 1650 := hn
    have hln : (ms ++ W).length = ms.length + W.length := List.length_append
    have hx0 := hx x List.mem_cons_self
    obtain ⟨s1, e1, f1, g1⟩ := m_drops D h0 (by omega) (by omega)
    obtain ⟨s2, e2, f2, g2⟩ := m_137 D hW ms (C ++ [x]) s1 (fun y hy => hx y (List.mem_cons_of_mem _ hy)) g1 (by rw [List.length_append, List.length_singleton]; omega)
    rw [List.append_assoc] at g2
    refine ⟨s2, ?_, f1.tr f2, g2⟩
    have hd : (x :: (ms ++ W)).headD 0 = x := rfl
    rw [e_M_qGoesOnTest_137, m_isOn (D + 1) h0 (by rw [List.length_cons]; omega) (by decide), Option.bind_some, hd]
    by_cases c : x = 10
    · rw [if_pos c]
      simp only []
      rw [if_neg (by decide), e1, Option.bind_some]
      exact e2
    · rw [if_neg c]
      simp only []
      rw [if_pos trivial, m_isOn (D + 1) h0 (by rw [List.length_cons]; omega) (by decide), Option.bind_some, hd, if_pos (show x = 11 by omega)]
      simp only []
      rw [if_neg (by decide), e1, Option.bind_some]
      exact e2
theorem m_33 (D : Nat) : ∀ (ms C : List Int) (s : Mem), (∀ x ∈ ms, 10 ≤ x ∧ x ≤ 11) → QK s k (ms ++ 25 :: W) C (o + 1) b → C.length + ms.length + W.length < 1640 → o < 6 → ∃ s1, L_M_qGoesOnTest_33 (D + 2) s = ((f_M_qDropsNots (D + 2) s1).bind fun p2 => L_M_qGoesOnTest_0 (D + 2) p2.2) ∧ Fr PQk s s1 ∧ QK s1 k W (C ++ ms) o b
  | [], C, s, _, h, hn, ho => by
    have h0 : QK s k (25 :: W) C (o + 1) b := h
    have hn0 : C.length + W.length < 1640 := by simpa using hn
    have hd : (25 :: W).headD 0 = 25 := rfl
    rw [e_M_qGoesOnTest_33, m_isOn (D + 1) h0 (by rw [List.length_cons]; omega) (by decide), Option.bind_some, hd, if_pos (show (25 : Int) = 25 from rfl)]
    simp only []
    obtain ⟨t1, -⟩ := h0.top (by omega)
    rw [if_neg (by decide), t1, h0.2.2.2.1, w32_i (z := ((o + 1 : Nat) : Int) - 1) (by omega) (by omega), show ((o + 1 : Nat) : Int) - 1 = (o : Int) by omega, List.append_nil]
    exact ⟨_, rfl, (Fr.rf.w (by unfold PQk; omega)).w (by unfold PQk; omega), h0.pop.op⟩
  | x :: ms, C, s, hx, h, hn, ho => by
    have h0 : QK s k (x :: (ms ++ 25 :: W)) C (o + 1) b := h
    have hn0 : C.length + (ms.length + 1) + W.length < 1640 := hn
    have hln : (ms ++ 25 :: W).length = ms.length + (W.length + 1) := by rw [List.length_append, List.length_cons]
    have hx0 := hx x List.mem_cons_self
    obtain ⟨s1, e1, f1, g1⟩ := m_drops D h0 (by omega) (by omega)
    obtain ⟨s2, e2, f2, g2⟩ := m_33 D ms (C ++ [x]) s1 (fun y hy => hx y (List.mem_cons_of_mem _ hy)) g1 (by rw [List.length_append, List.length_singleton]; omega) ho
    rw [List.append_assoc] at g2
    refine ⟨s2, ?_, f1.tr f2, g2⟩
    have hd : (x :: (ms ++ 25 :: W)).headD 0 = x := rfl
    rw [e_M_qGoesOnTest_33, m_isOn (D + 1) h0 (by rw [List.length_cons]; omega) (by decide), Option.bind_some, hd, if_neg (show ¬ x = 25 by omega)]
    simp only []
    rw [if_pos trivial, e1, Option.bind_some]
    exact e2
theorem m_110 (D : Nat) : ∀ (ms C : List Int) (s : Mem), QK s k ms C o b → rI s 84 5 = 0 → C.length + ms.length < 1640 → ∃ s1, L_M_qTest_110 (D + 2) s = some (0, s1) ∧ Fr PQk s s1 ∧ QK s1 k [] (C ++ ms) o b
  | [], C, s, h, h5, hn => by
    rw [e_M_qTest_110, h5, if_pos rfl, h.2.2.1.1, if_neg (by decide), List.append_nil]
    exact ⟨s, rfl, Fr.rf, h⟩
  | x :: ms, C, s, h, h5, hn => by
    have hn0 : C.length + (ms.length + 1) < 1640 := hn
    obtain ⟨s1, e1, f1, g1⟩ := m_drops D h (by omega) (by omega)
    obtain ⟨s2, e2, f2, g2⟩ := m_110 D ms (C ++ [x]) s1 g1 ((f1.i (by unfold PQk; omega)).trans h5) (by rw [List.length_append, List.length_singleton]; omega)
    rw [List.append_assoc] at g2
    refine ⟨s2, ?_, f1.tr f2, g2⟩
    rw [e_M_qTest_110, h5, if_pos rfl, h.2.2.1.1, if_pos (by rw [List.length_cons]; omega), e1, Option.bind_some]
    exact e2
theorem gt_0 (E : Nat) {q : Nat} (h : QA s tp q) (hK : QK s k W C o b) (hw : W.length < 1650) (hc : sg tp q ≠ 93 ∨ ¬ 25 ∈ W) : ∃ s1, Fr PM2 s s1 ∧ QE s1 tp q ∧ QK s1 k W C o b ∧ L_M_qGoesOnTest_0 (E + 9) s = L_M_qGoesOnTest_76 (E + 9) s1 := by
  obtain ⟨s1, e1, f1, g1⟩ := m_look (E + 8) h
  have K1 := hK.fr f1 (fun a i q => by omega)
  refine ⟨s1, f1, g1, K1, ?_⟩
  have s93 := sg_ch (tp := tp) (q := q) (v := 93) (by decide)
  rw [e_M_qGoesOnTest_0, h.2.2.1, if_pos rfl, e1, Option.bind_some]
  simp only []
  by_cases c : sg tp q = 93
  · have h25 := hc.elim (fun e => absurd c e) id
    rw [if_pos (s93.mp c), m_hasSq (E + 8) K1 hw, Option.bind_some, if_neg h25]
    exact if_pos rfl
  · rw [if_neg (fun e => c (s93.mpr e))]
theorem wd_sg {q : Nat} {v w : Int} (h : wd tp q = w) (hw : w ≠ -1) (hv : v ≠ -1) : sg tp q ≠ v := fun e => by
  have k1 := wd_1 (tp := tp) (q := q) (by rw [h]; exact hw)
  have := (sg_3 e hv).1
  omega
/-- and -/
theorem gt_and (E : Nat) {q : Nat} {ms : List Int} (h : QA s tp q) (hK : QK s k (ms ++ W) C o b) (hm : ∀ x ∈ ms, x = 10) (hW : W.headD 0 ≠ 10) (hn : C.length + ms.length + W.length < 1640) (hB : oB tp q ≠ 0) : ∃ s1, mGT (E + 9) s = L_M_qTest_2 (E + 10) 1 s1 ∧ Fr PQp s s1 ∧ QA s1 tp (nx tp q) ∧ QK s1 k (10 :: W) (C ++ ms) o b := by
  have hw := (oB_1 hB).1
  have hlm : (ms ++ W).length = ms.length + W.length := List.length_append
  obtain ⟨s1, f1, g1, K1, e1⟩ := gt_0 E h hK (by omega) (Or.inl (wd_sg hw (by decide) (by decide)))
  obtain ⟨s2, e2, f2, g2⟩ := (m_takes (E + 6) g1.1 (o := 137) rfl).1 hw
  have e2' : f_M_takes (E + 9) 3 137 s1 = some (1, s2) := e2
  obtain ⟨s3, e3, f3, K3⟩ := m_87 (E + 7) hW ms C s2 hm (K1.fr f2 (fun a i q => by omega)) (by omega)
  refine ⟨s3, ?_, (f1.m2.tr f2.m4).tr f3.mk, g2.kk f3, K3⟩
  unfold mGT
  rw [e1, e_M_qGoesOnTest_76, e2', Option.bind_some]
  simp only []
  rw [if_neg (by decide), e3, Option.bind_some]
  exact if_neg one_nz
/-- or -/
theorem gt_or (E : Nat) {q : Nat} {ms : List Int} (h : QA s tp q) (hK : QK s k (ms ++ W) C o b) (hm : ∀ x ∈ ms, 10 ≤ x ∧ x ≤ 11) (hW : W.headD 0 ≠ 10 ∧ W.headD 0 ≠ 11) (hn : C.length + ms.length + W.length < 1640) (hT : oT tp q ≠ 0) : ∃ s1, mGT (E + 9) s = L_M_qTest_2 (E + 10) 1 s1 ∧ Fr PQp s s1 ∧ QA s1 tp (nx tp q) ∧ QK s1 k (11 :: W) (C ++ ms) o b := by
  have hw := (oT_1 hT).1
  have hlm : (ms ++ W).length = ms.length + W.length := List.length_append
  obtain ⟨s1, f1, g1, K1, e1⟩ := gt_0 E h hK (by omega) (Or.inl (wd_sg hw (by decide) (by decide)))
  have e137 : f_M_takes (E + 9) 3 137 s1 = some (0, s1) := m_takesE (E + 6) g1 (o := 137) rfl (by rw [hw]; decide)
  obtain ⟨s2, e2, f2, g2⟩ := (m_takes (E + 6) g1.1 (o := 138) rfl).1 hw
  have e2' : f_M_takes (E + 9) 2 138 s1 = some (1, s2) := e2
  obtain ⟨s3, e3, f3, K3⟩ := m_137 (E + 7) hW ms C s2 hm (K1.fr f2 (fun a i q => by omega)) (by omega)
  refine ⟨s3, ?_, (f1.m2.tr f2.m4).tr f3.mk, g2.kk f3, K3⟩
  unfold mGT
  rw [e1, e_M_qGoesOnTest_76, e137, Option.bind_some]
  simp only []
  rw [if_pos trivial, e2', Option.bind_some]
  simp only []
  rw [if_neg (by decide), e3, Option.bind_some]
  exact if_neg one_nz
theorem gt_76 (E : Nat) {q : Nat} (g : QE s tp q) (hK : QK s k W C o b) (hw : W.length < 1650) (hB : oB tp q = 0) (hT : oT tp q = 0) : L_M_qGoesOnTest_76 (E + 9) s = if 25 ∈ W then (f_M_fail (E + 9) 1 (q : Int) s).bind fun p4 => some (0, p4.2) else some (0, s) := by
  have e137 : f_M_takes (E + 9) 3 137 s = some (0, s) := m_takesE (E + 6) g (o := 137) rfl (oB_0 hB)
  have e138 : f_M_takes (E + 9) 2 138 s = some (0, s) := m_takesE (E + 6) g (o := 138) rfl (oT_0 hT)
  rw [e_M_qGoesOnTest_76, e137, Option.bind_some]
  simp only []
  rw [if_pos trivial, e138, Option.bind_some]
  simp only []
  rw [if_pos trivial, g.1.2.2.1, if_pos rfl, m_hasSq (E + 8) hK hw, Option.bind_some]
  simp only []
  rw [g.2]
  by_cases c : 25 ∈ W
  · rw [if_pos c, if_neg (by decide), if_pos c]
  · rw [if_neg c, if_pos rfl, if_neg c]
/-- ] closes -/
theorem gt_close (E : Nat) {q : Nat} {ms : List Int} (h : QA s tp q) (hK : QK s k (ms ++ 25 :: W) C (o + 1) b) (hm : ∀ x ∈ ms, 10 ≤ x ∧ x ≤ 11) (hn : C.length + ms.length + W.length < 1630) (ho : o < 6) (hc : sg tp q = 93) : ∃ s1, mGT (E + 9) s = mTB (E + 9) s1 ∧ Fr PQp s s1 ∧ QA s1 tp (nx tp q) ∧ QK s1 k W (C ++ ms) o b := by
  obtain ⟨s1, e1, f1, g1⟩ := m_look (E + 8) h
  have K1 := hK.fr f1 (fun a i q => by omega)
  have hq := h.lq
  have h16 := h.1.2.1
  have hlm : (ms ++ 25 :: W).length = ms.length + (W.length + 1) := by rw [List.length_append, List.length_cons]
  have k3 : kd tp q = 3 := (sg_3 hc (by decide)).1
  have s93 := sg_ch (tp := tp) (q := q) (v := 93) (by decide)
  have f2 : Fr PM2 s1 (wI s1 84 2 ((q + 1 : Nat) : Int)) := Fr.rf.w ⟨rfl, rfl⟩
  have g2 := QA.sig g1 k3 f2 (rI_same _ _ _ _)
  have K2 := K1.fr f2 (fun a i q => by omega)
  obtain ⟨s3, e3, f3, K3⟩ := m_33 (E + 7) ms C _ hm K2 (by omega) ho
  refine ⟨s3, ?_, (f1.m2.tr f2.m2).tr f3.mk, g2.kk f3, K3⟩
  have hin : 25 ∈ ms ++ 25 :: W := List.mem_append.mpr (Or.inr List.mem_cons_self)
  unfold mGT mTB mGT
  rw [e_M_qGoesOnTest_0, h.2.2.1, if_pos rfl, e1, Option.bind_some]
  simp only []
  rw [if_pos (s93.mp hc), m_hasSq (E + 8) K1 (by omega), Option.bind_some, if_pos hin]
  simp only []
  rw [if_neg (by decide), g1.2, w32_s (by omega), e3, Option.bind_assoc]
/-- a ] is asked and isn't here -/
theorem gt_shut (E : Nat) {q : Nat} (h : QA s tp q) (hK : QK s k W C o b) (hn : C.length ≤ 1600) (hw : W.length < 1650) (h25 : 25 ∈ W) (hc : sg tp q ≠ 93) (hB : oB tp q = 0) (hT : oT tp q = 0) : ∃ s1, mGT (E + 9) s = some (0, s1) ∧ Fr PQp s s1 ∧ MFl s1 (1, q) := by
  obtain ⟨s1, f1, g1, K1, e1⟩ := gt_0 E h hK hw (Or.inl hc)
  have hF : MFlt (wI (wI s1 84 5 1) 84 6 (q : Int)) (1, q) := MFlt.mk K1 hn (by decide)
  rw [gt_76 E g1 K1 hw hB hT, if_pos h25, m_fail (E + 8) g1.1.2.2.1, Option.bind_some] at e1
  refine ⟨_, ?_, (f1.m2.w (by unfold PQp; omega)).w (by unfold PQp; omega), hF.l⟩
  unfold mGT
  rw [e1, Option.bind_some]
  exact (if_pos rfl).trans (ta_bad _ _ (by rw [hF.1.1]; exact hF.1.2))
/-- the test ends here -/
theorem gt_end (E : Nat) {q : Nat} (h : QA s tp q) (hK : QK s k W C o b) (hn : C.length + W.length < 1640) (h25 : ¬ 25 ∈ W) (hB : oB tp q = 0) (hT : oT tp q = 0) : ∃ s1, mGT (E + 9) s = some (0, s1) ∧ Fr PQp s s1 ∧ QA s1 tp q ∧ QK s1 k [] (C ++ W) o b := by
  obtain ⟨s1, f1, g1, K1, e1⟩ := gt_0 E h hK (by omega) (Or.inr h25)
  obtain ⟨s2, e2, f2, K2⟩ := m_110 (E + 8) W C s1 K1 g1.1.2.2.1 hn
  rw [gt_76 E g1 K1 (by omega) hB hT, if_neg h25] at e1
  refine ⟨s2, ?_, f1.m2.tr f2.mk, g1.1.kk f2, K2⟩
  unfold mGT
  rw [e1, Option.bind_some]
  simp only []
  rw [if_pos trivial, e_M_qTest_2, if_pos rfl]
  exact e2
/-! the rows of facts -/
def TFact (tp : List Int) (k E b : Nat) (fa : Nat → Res) (o : Nat) : Prop := ∀ (q : Nat) (W C : List Int) (s : Mem), QA s tp q → QK s k W C o b → C.length + W.length ≤ q → (∀ v ∈ W, 10 ≤ v ∧ v < 60) → TPr tp (L_M_qTest_2 (E + 10) 1 s) (mTB (E + 9)) (fa q) s k W C o b
theorem hd_W {W : List Int} (h : ∀ v ∈ W, 10 ≤ v ∧ v < 60) : ¬ (1 ≤ W.headD 0 ∧ W.headD 0 ≤ 4) ∧ W.headD 0 < 60 := by
  match W, h with
  | [], _ => exact ⟨by decide, by decide⟩
  | x :: W, h =>
    have := h x List.mem_cons_self
    have e : (x :: W).headD 0 = x := rfl
    rw [e]
    omega
theorem hd_12 {ms W : List Int} (h : ∀ v ∈ ms, 10 ≤ v ∧ v ≤ 11) (hW : W.headD 0 ≠ 12) : (ms ++ W).headD 0 ≠ 12 := by
  match ms, h with
  | [], _ => exact hW
  | x :: ms, h =>
    have := h x List.mem_cons_self
    show x ≠ 12
    omega
theorem t_bothW (E : Nat) {b : Nat} {fa : Nat → Res} (hg : Good tp fa) (hp : TFact tp k E b fa o) {W : List Int} (hW : W.headD 0 ≠ 10 ∧ W.headD 0 ≠ 12) (hWa : ∀ v ∈ W, 10 ≤ v ∧ v < 60) : ∀ (f q : Nat) (ms C1 c1 C : List Int) (s : Mem), QA s tp q → QK s k (ms ++ W) C1 o b → C1 ++ ms = C ++ c1 → (∀ v ∈ ms, v = 10) → C.length + c1.length + W.length ≤ q → tp.length ≤ f + q → TOp tp 10 (mTB (E + 9) s) (mTB (E + 9)) (lpW tp (oB tp) fa f q c1) s k W C o b
  | 0, q, ms, C1, c1, C, s, h, hK, he, hm, hl, hf => by
    have e : oB tp q = 0 := by
      rcases Classical.em (oB tp q = 0) with e | e
      · exact e
      · have := (Ops_B q e).2.2; omega
    exact ⟨s, ms, C1, rfl, Fr.rf, h, hK, he, fun v hv => by rw [hm v hv]; decide, e, fun q => absurd q (by decide)⟩
  | f + 1, q, ms, C1, c1, C, s, h, hK, he, hm, hl, hf => by
    have h16 := h.1.2.1
    have hq := h.lq
    unfold lpW
    by_cases e : oB tp q = 0
    · rw [if_pos e]
      exact ⟨s, ms, C1, rfl, Fr.rf, h, hK, he, fun v hv => by rw [hm v hv]; decide, e, fun q => absurd q (by decide)⟩
    · rw [if_neg e]
      obtain ⟨n1, n2, n3⟩ := Ops_B q e
      have hlen := congrArg List.length he
      rw [List.length_append, List.length_append] at hlen
      have hlm : (ms ++ W).length = ms.length + W.length := List.length_append
      have e0 := tb_gt E hK h.2.2.1 (by omega) (hd_12 (fun v hv => by rw [hm v hv]; decide) hW.2)
      obtain ⟨s1, e1, f1, g1, K1⟩ := gt_and E h hK hm hW.1 (by omega) e
      have hl1 : (C1 ++ ms).length + (10 :: W).length ≤ nx tp q := by rw [List.length_append, List.length_cons]; omega
      have hop : oB tp q = 10 := (oB_1 e).2
      rcases (hp (nx tp q) (10 :: W) (C1 ++ ms) s1 g1 K1 hl1 (fun v hv => by
        rcases List.mem_cons.mp hv with rfl | hv
        · decide
        · exact hWa v hv)).cs with ⟨er, s2, r1, r2, f2, g2⟩ | ⟨q1, c2, s2, r1, r2, f2, g2, K2⟩
      · rw [r1]
        exact ⟨s2, e0.trans (e1.trans r2), f1.tr f2, g2⟩
      · obtain ⟨a1, a2, a3⟩ := hg _ _ _ n2.1 r1
        rw [r1, hop]
        refine (t_bothW E hg hp hW hWa f q1 [10] (C1 ++ ms ++ c2) (c1 ++ c2 ++ [10]) C s2 g2 K2 ?_ (fun v hv => List.mem_singleton.mp hv) ?_ (by omega)).tr (e0.trans (e1.trans r2)) (f1.tr f2)
        · rw [he]; simp only [List.append_assoc]
        · rw [List.length_append, List.length_append, List.length_singleton]; omega
theorem t_both (E : Nat) {b : Nat} {fa : Nat → Res} (hg : Good tp fa) (hp : TFact tp k E b fa o) {W : List Int} (hW : W.headD 0 ≠ 10 ∧ W.headD 0 ≠ 12) (hWa : ∀ v ∈ W, 10 ≤ v ∧ v < 60) {q : Nat} {C : List Int} {s : Mem} (h : QA s tp q) (hK : QK s k W C o b) (hl : C.length + W.length ≤ q) : TOp tp 10 (L_M_qTest_2 (E + 10) 1 s) (mTB (E + 9)) (lpL tp (oB tp) fa q) s k W C o b := by
  have hq := h.lq
  unfold lpL
  rcases (hp q W C s h hK hl hWa).cs with ⟨er, s2, r1, r2, f2, g2⟩ | ⟨q1, c2, s2, r1, r2, f2, g2, K2⟩
  · rw [r1]
    exact ⟨s2, r2, f2, g2⟩
  · obtain ⟨a1, a2, a3⟩ := hg _ _ _ hq r1
    rw [r1]
    refine (t_bothW E hg hp hW hWa tp.length q1 [] (C ++ c2) c2 C s2 g2 K2 (List.append_nil _) (fun v hv => by cases hv) (by omega) (by omega)).tr r2 f2
theorem t_testW (E : Nat) {b : Nat} {fa : Nat → Res} (hg : Good tp fa) (hp : TFact tp k E b fa o) {W : List Int} (hW : W.headD 0 ≠ 10 ∧ W.headD 0 ≠ 11 ∧ W.headD 0 ≠ 12) (hWa : ∀ v ∈ W, 10 ≤ v ∧ v < 60) : ∀ (f q : Nat) (ms C1 c1 C : List Int) (s : Mem), QA s tp q → QK s k (ms ++ W) C1 o b → C1 ++ ms = C ++ c1 → (∀ v ∈ ms, 10 ≤ v ∧ v ≤ 11) → oB tp q = 0 → C.length + c1.length + W.length ≤ q → tp.length ≤ f + q → TOp tp 11 (mTB (E + 9) s) (mTB (E + 9)) (lpW tp (oT tp) (lpL tp (oB tp) fa) f q c1) s k W C o b
  | 0, q, ms, C1, c1, C, s, h, hK, he, hm, hB, hl, hf => by
    have e : oT tp q = 0 := by
      rcases Classical.em (oT tp q = 0) with e | e
      · exact e
      · have := (Ops_T q e).2.2; omega
    exact ⟨s, ms, C1, rfl, Fr.rf, h, hK, he, hm, hB, fun _ => e⟩
  | f + 1, q, ms, C1, c1, C, s, h, hK, he, hm, hB, hl, hf => by
    have h16 := h.1.2.1
    have hq := h.lq
    unfold lpW
    by_cases e : oT tp q = 0
    · rw [if_pos e]
      exact ⟨s, ms, C1, rfl, Fr.rf, h, hK, he, hm, hB, fun _ => e⟩
    · rw [if_neg e]
      obtain ⟨n1, n2, n3⟩ := Ops_T q e
      have hlen := congrArg List.length he
      rw [List.length_append, List.length_append] at hlen
      have hlm : (ms ++ W).length = ms.length + W.length := List.length_append
      have e0 := tb_gt E hK h.2.2.1 (by omega) (hd_12 hm hW.2.2)
      obtain ⟨s1, e1, f1, g1, K1⟩ := gt_or E h hK hm ⟨hW.1, hW.2.1⟩ (by omega) e
      have hl1 : (C1 ++ ms).length + (11 :: W).length ≤ nx tp q := by rw [List.length_append, List.length_cons]; omega
      have hop : oT tp q = 11 := (oT_1 e).2
      have hd : (11 :: W).headD 0 = 11 := rfl
      rcases (t_both E hg hp (W := 11 :: W) (by rw [hd]; decide) (fun v hv => by
        rcases List.mem_cons.mp hv with rfl | hv
        · decide
        · exact hWa v hv) g1 K1 hl1).cs with ⟨er, s2, r1, r2, f2, g2⟩ | ⟨q1, c2, s2, ms2, C2, r1, r2, f2, g2, K2, he2, hm2, hB2, -⟩
      · rw [r1]
        exact ⟨s2, e0.trans (e1.trans r2), f1.tr f2, g2⟩
      · obtain ⟨a1, a2, a3⟩ := lpL_g Ops_B hg _ _ _ n2.1 r1
        rw [r1, hop]
        have hK2 : QK s2 k ((ms2 ++ [11]) ++ W) C2 o b := by rw [List.append_assoc]; exact K2
        refine (t_testW E hg hp hW hWa f q1 (ms2 ++ [11]) C2 (c1 ++ c2 ++ [11]) C s2 g2 hK2 ?_ (fun v hv => ?_) hB2 ?_ (by omega)).tr (e0.trans (e1.trans r2)) (f1.tr f2)
        · rw [← List.append_assoc, he2, he]; simp only [List.append_assoc]
        · rcases List.mem_append.mp hv with hv | hv
          · have := hm2 v hv; omega
          · rw [List.mem_singleton.mp hv]; decide
        · rw [List.length_append, List.length_append, List.length_singleton]; omega
theorem t_test (E : Nat) {b : Nat} {fa : Nat → Res} (hg : Good tp fa) (hp : TFact tp k E b fa o) {W : List Int} (hW : W.headD 0 ≠ 10 ∧ W.headD 0 ≠ 11 ∧ W.headD 0 ≠ 12) (hWa : ∀ v ∈ W, 10 ≤ v ∧ v < 60) {q : Nat} {C : List Int} {s : Mem} (h : QA s tp q) (hK : QK s k W C o b) (hl : C.length + W.length ≤ q) : TOp tp 11 (L_M_qTest_2 (E + 10) 1 s) (mTB (E + 9)) (tesP tp fa q) s k W C o b := by
  have hq := h.lq
  have := t_both E hg hp (W := W) ⟨hW.1, hW.2.2⟩ hWa h hK hl
  show TOp tp 11 (L_M_qTest_2 (E + 10) 1 s) (mTB (E + 9)) (bnd (lpL tp (oB tp) fa q) (fun q1 c1 => lpW tp (oT tp) (lpL tp (oB tp) fa) tp.length q1 c1)) s k W C o b
  rcases this.cs with ⟨er, s2, r1, r2, f2, g2⟩ | ⟨q1, c2, s2, ms2, C2, r1, r2, f2, g2, K2, he2, hm2, hB2, -⟩
  · rw [r1]
    exact ⟨s2, r2, f2, g2⟩
  · obtain ⟨a1, a2, a3⟩ := lpL_g Ops_B hg _ _ _ hq r1
    rw [r1]
    exact (t_testW E hg hp hW hWa tp.length q1 ms2 C2 c2 C s2 g2 K2 he2 (fun v hv => by have := hm2 v hv; omega) hB2 (by omega) (by omega)).tr r2 f2
def TSub (tp : List Int) (k E b o : Nat) : Option (Nat → Res) → Prop
  | none => o = 6
  | some fa => o < 6 ∧ Good tp fa ∧ TFact tp k E b fa (o + 1)
theorem facS_B {n q : Nat} {sub : Option (Nat → Res)} (h23 : ¬ wd tp q = 23) (h91 : ¬ sg tp q = 91) : facS tp k n sub q = facB tp k n q := by
  unfold facS facB
  rw [if_neg h23]
  by_cases c : wd tp q = 24
  · rw [if_pos c, if_pos c]
  · rw [if_neg c, if_neg c, if_neg h91]
theorem t_facS (E : Nat) {b n : Nat} {sub : Option (Nat → Res)} (hk : k ≤ 3) (hn : n + o = 6) (hsub : TSub tp k E b o sub) : TFact tp k E b (facS tp k n sub) o := fun q W C s h hK hl hWa => by
  have h16 := h.1.2.1
  have hq := h.lq
  by_cases c23 : wd tp q = 23
  · unfold facS
    rw [if_pos c23]
    have hnt := ta_not E h hK hl c23
    obtain ⟨n1, n2, n3⟩ := nx_w c23 (by decide)
    match sub, hsub with
    | none, hsub =>
      obtain ⟨s1, e1, f1, g1⟩ := hnt.2 hsub
      exact ⟨s1, e1, f1, g1⟩
    | some fa, ⟨ho6, hg, hp⟩ =>
      dsimp only
      obtain ⟨s1, e1, f1, g1, K1⟩ := hnt.1 ho6
      rcases (hp (nx tp q) (12 :: W) C s1 g1 K1 (by rw [List.length_cons]; omega) (fun v hv => by
        rcases List.mem_cons.mp hv with rfl | hv
        · decide
        · exact hWa v hv)).cs with ⟨er, s2, r1, r2, f2, g2⟩ | ⟨q1, c1, s2, r1, r2, f2, g2, K2⟩
      · rw [r1]
        exact ⟨s2, e1.trans r2, f1.tr f2, g2⟩
      · obtain ⟨a1, a2, a3⟩ := hg _ _ _ n2.1 r1
        have hq1 := g2.lq
        have hlc : (C ++ c1).length = C.length + c1.length := List.length_append
        obtain ⟨s3, e3, f3, K3⟩ := m_nots1 (E + 6) K2 g2.2.2.1 (by omega) (by omega) (by omega)
        have e4 : mTB (E + 9) s2 = mTB (E + 9) s3 := by
          unfold mTB
          rw [e_M_qDropsNots, e3, e_M_qDropsNots]
        rw [r1]
        refine ⟨s3, e1.trans (r2.trans e4), (f1.tr f2).tr f3.mk, g2.kk f3, ?_⟩
        rw [List.append_assoc] at K3
        exact K3
  · by_cases c91 : sg tp q = 91
    · unfold facS
      have c24 : ¬ wd tp q = 24 := fun e => wd_sg e (by decide) (by decide) c91
      rw [if_neg c23, if_neg c24, if_pos c91]
      have hsq := ta_sq E h hK hl c91
      obtain ⟨n1, n2, n3⟩ := nx_s c91 (by decide)
      match sub, hsub with
      | none, hsub =>
        obtain ⟨s1, e1, f1, g1⟩ := hsq.2 hsub
        exact ⟨s1, e1, f1, g1⟩
      | some fa, ⟨ho6, hg, hp⟩ =>
        dsimp only
        obtain ⟨s1, e1, f1, g1, K1⟩ := hsq.1 ho6
        have hd : (25 :: W).headD 0 = 25 := rfl
        rcases (t_test E hg hp (W := 25 :: W) (by rw [hd]; decide) (fun v hv => by
          rcases List.mem_cons.mp hv with rfl | hv
          · decide
          · exact hWa v hv) g1 K1 (by rw [List.length_cons]; omega)).cs with ⟨er, s2, r1, r2, f2, g2⟩ | ⟨q1, c1, s2, ms, C2, r1, r2, f2, g2, K2, he, hm, hB, hT⟩
        · rw [r1]
          exact ⟨s2, e1.trans r2, f1.tr f2, g2⟩
        · obtain ⟨a1, a2, a3⟩ := tesP_g hg _ _ _ n2.1 r1
          have hq1 := g2.lq
          have hlen := congrArg List.length he
          rw [List.length_append, List.length_append] at hlen
          have hlm : (ms ++ 25 :: W).length = ms.length + (W.length + 1) := by rw [List.length_append, List.length_cons]
          have e0 := tb_gt E K2 g2.2.2.1 (by omega) (hd_12 hm (by rw [hd]; decide))
          rw [r1]
          simp only [bnd]
          unfold asg
          by_cases c93 : sg tp q1 = 93
          · obtain ⟨s3, e3, f3, g3, K3⟩ := gt_close E g2 K2 hm (by omega) ho6 c93
            rw [if_pos c93]
            refine ⟨s3, e1.trans (r2.trans (e0.trans e3)), (f1.tr f2).tr f3, g3, ?_⟩
            rw [he] at K3
            exact K3
          · obtain ⟨s3, e3, f3, g3⟩ := gt_shut E g2 K2 (by omega) (by omega) (List.mem_append.mpr (Or.inr List.mem_cons_self)) c93 hB (hT rfl)
            rw [if_neg c93]
            exact ⟨s3, e1.trans (r2.trans (e0.trans e3)), (f1.tr f2).tr f3, g3⟩
    · rw [facS_B c23 c91]
      exact ta_fact E hk hn h hK hl (hd_W hWa).1 (hd_W hWa).2 c91 c23
theorem t_fact (E b : Nat) (hk : k ≤ 3) : ∀ n o : Nat, n + o = 6 → TFact tp k E b (facL tp k n) o
  | 0, o, hn => t_facS E (sub := none) hk hn (show o = 6 by omega)
  | n + 1, o, hn => t_facS E (sub := some (facL tp k n)) hk hn ⟨by omega, facL_g k n, t_fact E b hk n (o + 1) (by omega)⟩
/-- a whole test -/
theorem m_qTest (E : Nat) {n q : Nat} (hk : k ≤ 3) (hn : n + o = 6) (h : QA s tp q) (hK : QK s k [] C o b) (hl : C.length ≤ q) : TPr tp (f_M_qTest (E + 11) s) (fun s1 => some (0, s1)) (tesL tp k n q) s k [] C o b := by
  have hq := h.lq
  have h16 := h.1.2.1
  unfold tesL
  rw [e_M_qTest]
  rcases (t_test E (facL_g k n) (t_fact E b hk n o hn) (W := []) ⟨by decide, by decide, by decide⟩ (fun v hv => by cases hv) h hK hl).cs with ⟨er, s2, r1, r2, f2, g2⟩ | ⟨q1, c1, s2, ms, C2, r1, r2, f2, g2, K2, he, hm, hB, hT⟩
  · rw [r1]
    exact ⟨s2, r2, f2, g2⟩
  · obtain ⟨a1, a2, a3⟩ := tesP_g (facL_g k n) _ _ _ hq r1
    have hq1 := g2.lq
    have hlen := congrArg List.length he
    rw [List.length_append, List.length_append] at hlen
    rw [List.append_nil] at K2
    have h0 : (ms ++ []).headD 0 ≠ 12 := hd_12 hm (by decide)
    rw [List.append_nil] at h0
    have e0 := tb_gt E K2 g2.2.2.1 (by omega) h0
    obtain ⟨s3, e3, f3, g3, K3⟩ := gt_end E g2 K2 (by omega) (fun q => by have := hm 25 q; omega) hB (hT rfl)
    rw [r1]
    refine ⟨s3, r2.trans (e0.trans e3), f2.tr f3, g3, ?_⟩
    rw [he] at K3
    exact K3
end MTEST2
