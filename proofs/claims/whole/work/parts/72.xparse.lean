/-! the class reads sums and tests -/
abbrev PXp (cp : Nat) : Nat → Nat → Prop := fun a k => (a = 3 ∧ 3 ≤ k ∧ k ≤ 15 ∧ k ≠ 5 ∧ k ≠ 6) ∨ (a = cp ∧ k = 1) ∨ a = cp + 1
def wi (k : Nat) : Int := if k = 0 then 6 else if k = 1 then 7 else if k = 2 then 8 else -1
/-- no fault yet -/
def OkF (s : Mem) : Prop := rI s 3 3 = 0 ∧ rI s 3 4 = -1
theorem OkF.fr {s s' : Mem} {P : Nat → Nat → Prop} (h : OkF s) (hf : Fr P s s') (hp : ∀ k, k = 3 ∨ k = 4 → ¬ P 3 k) : OkF s' := ⟨(hf.i (hp 3 (Or.inl rfl))).trans h.1, (hf.i (hp 4 (Or.inr rfl))).trans h.2⟩
/-- the reader at the token at q, its code so far, how many are open -/
def XPs (tp : List Int) (cp k : Nat) (s : Mem) (q : Nat) (C : List Int) (o : Nat) : Prop := (XTp s tp ∧ XRd s tp q) ∧ (rQ s 3 5 = cp ∧ rI s 3 6 = wi k ∧ rI s 3 7 = (o : Int) ∧ OkF s) ∧ XC s cp C ∧ q ≤ tp.length
def XRes (tp : List Int) (cp k : Nat) (r : Rs) (res : Res) (s : Mem) (C : List Int) (o : Nat) : Prop := match res with
  | .inl e => ∃ s1, r = some (0, s1) ∧ Fr (PXp cp) s s1 ∧ rI s1 3 3 = e.1 ∧ rI s1 3 4 = (e.2 : Int)
  | .inr x => ∃ s1, r = some (1, s1) ∧ Fr (PXp cp) s s1 ∧ XPs tp cp k s1 x.1 (C ++ x.2) o
section XPARSE
variable {tp : List Int} {cp k : Nat}
theorem XRes.cs {r : Rs} {res : Res} {s : Mem} {C : List Int} {o : Nat} (h : XRes tp cp k r res s C o) : (∃ e s1, res = .inl e ∧ r = some (0, s1) ∧ Fr (PXp cp) s s1 ∧ rI s1 3 3 = e.1 ∧ rI s1 3 4 = (e.2 : Int)) ∨ ∃ q1 c1 s1, res = .inr (q1, c1) ∧ r = some (1, s1) ∧ Fr (PXp cp) s s1 ∧ XPs tp cp k s1 q1 (C ++ c1) o := by
  match res, h with
  | .inl e, ⟨s1, h1, h2, h3, h4⟩ => exact Or.inl ⟨e, s1, rfl, h1, h2, h3, h4⟩
  | .inr (q1, c1), ⟨s1, h1, h2, h3⟩ => exact Or.inr ⟨q1, c1, s1, rfl, h1, h2, h3⟩
theorem XRes.tr {r : Rs} {res : Res} {s s0 : Mem} {C : List Int} {o : Nat} (h : XRes tp cp k r res s C o) (hf : Fr (PXp cp) s0 s) : XRes tp cp k r res s0 C o := by
  match res, h with
  | .inl e, ⟨s1, h1, h2, h3, h4⟩ => exact ⟨s1, h1, hf.tr h2, h3, h4⟩
  | .inr (q1, c1), ⟨s1, h1, h2, h3⟩ => exact ⟨s1, h1, hf.tr h2, h3⟩
theorem XRes.wr {r : Rs} {res : Res} {s : Mem} {C : List Int} {o : Nat} (h : XRes tp cp k r res s C o) : XRes tp cp k (r.bind fun p1 => if p1.1 = 0 ∨ p1.1 = 1 then some (p1.1, p1.2) else none) res s C o := by
  match res, h with
  | .inl e, ⟨s1, h1, h2, h3, h4⟩ => exact ⟨s1, by rw [h1, Option.bind_some]; exact if_pos (Or.inl rfl), h2, h3, h4⟩
  | .inr (q1, c1), ⟨s1, h1, h2, h3⟩ => exact ⟨s1, by rw [h1, Option.bind_some]; exact if_pos (Or.inr rfl), h2, h3⟩
theorem XRes.fl (D : Nat) {s : Mem} {a : Int} {q : Nat} {b : Int} (hb : b = (q : Int)) (C : List Int) (o : Nat) : XRes tp cp k (f_Rd_fail (D + 1) a b s) (.inl (a, q)) s C o := ⟨_, e_Rd_fail D a b s, (Fr.rf.w (by unfold PXp; omega)).w (by unfold PXp; omega), by rw [rI_other _ _ _ _ (by omega), rI_same], by rw [rI_same, hb]⟩
theorem XPs.fr {s s' : Mem} {q : Nat} {C : List Int} {o : Nat} {P : Nat → Nat → Prop} (h : XPs tp cp k s q C o) (hc : 4 ≤ cp) (hf : Fr P s s') (hp : ∀ a i, P a i → a = 3 ∧ (i = 14 ∨ i = 15)) : XPs tp cp k s' q C o := by
  obtain ⟨⟨h1, h2⟩, ⟨h3, h4, h5, h6⟩, h7, h8⟩ := h
  refine ⟨⟨h1.fr hf (fun a i q => ?_), h2.fr hf (fun a i q => ?_)⟩, ⟨(hf.q (fun q => ?_)).trans h3, (hf.i (fun q => ?_)).trans h4, (hf.i (fun q => ?_)).trans h5, h6.fr hf (fun k hk q => ?_)⟩, h7.fr hf (fun i => ⟨fun q => ?_, fun q => ?_⟩), h8⟩
  all_goals (have := hp _ _ q; omega)
theorem XPs.op {s : Mem} {q : Nat} {C : List Int} {o o' : Nat} (h : XPs tp cp k s q C o) (hc : 4 ≤ cp) : XPs tp cp k (wI s 3 7 (o' : Int)) q C o' := by
  have hf : Fr (fun a i => a = 3 ∧ i = 7) s (wI s 3 7 (o' : Int)) := Fr.rf.w ⟨rfl, rfl⟩
  obtain ⟨⟨h1, h2⟩, ⟨h3, h4, h5, h6⟩, h7, h8⟩ := h
  exact ⟨⟨h1.fr hf (fun a i q => by omega), h2.fr hf (fun a i q => by omega)⟩, ⟨h3, (hf.i (by omega)).trans h4, rI_same _ _ _ _, h6.fr hf (fun k hk q => by omega)⟩, h7.fr hf (fun i => ⟨by omega, by omega⟩), h8⟩
theorem x_nxp (D : Nat) {s : Mem} {q : Nat} {C : List Int} {o : Nat} (h : XPs tp cp k s q C o) (hb : Bys tp) (hc : 4 ≤ cp) : ∃ s1, f_Rd_next (D + 3) s = some (0, s1) ∧ Fr (PXp cp) s s1 ∧ XPs tp cp k s1 (nx tp q) C o := by
  obtain ⟨⟨h1, h2⟩, ⟨h3, h4, h5, h6⟩, h7, h8⟩ := h
  obtain ⟨s1, e1, hf, g1⟩ := x_nx D h1 hb h8 h2
  refine ⟨s1, e1, hf.mo (fun a i q => by unfold PXp; unfold PRd at q; omega), ⟨h1.fr hf (fun a i q => by unfold PRd at q; omega), g1⟩, ⟨(hf.q (fun q => ?_)).trans h3, (hf.i (fun q => ?_)).trans h4, (hf.i (fun q => ?_)).trans h5, h6.fr hf (fun k hk q => ?_)⟩, h7.fr hf (fun i => ⟨fun q => ?_, fun q => ?_⟩), (nx_p h8).2.1⟩
  all_goals (unfold PRd at q; omega)
theorem x_addp (D : Nat) {s : Mem} {q : Nat} {C : List Int} {o : Nat} {c z : Int} (h : XPs tp cp k s q C o) (hc : 4 ≤ cp) (hl : C.length < 1600) (hz : z = enX c) : ∃ s1, f_Cd_add (D + 1) (rQ s 3 5) z s = some (0, s1) ∧ Fr (PXp cp) s s1 ∧ XPs tp cp k s1 q (C ++ [c]) o := by
  obtain ⟨⟨h1, h2⟩, ⟨h3, h4, h5, h6⟩, h7, h8⟩ := h
  have hl7 := h7.1
  rw [e_Cd_add, h3, hl7, if_pos (by omega), inB_n (by omega), Int.toNat_natCast, rI_other _ _ _ _ (by omega), hl7, w32_s (by omega)]
  have hf : Fr (fun a i => a = cp ∧ i = 1 ∨ a = cp + 1) s (wI (wI s (cp + 1) C.length z) cp 1 ((C.length + 1 : Nat) : Int)) := (Fr.rf.w (Or.inr rfl)).w (Or.inl ⟨rfl, rfl⟩)
  refine ⟨_, rfl, hf.mo (fun a i q => by unfold PXp; omega), ⟨h1.fr hf (fun a i q => by omega), h2.fr hf (fun a i q => by omega)⟩, ⟨(hf.q (by omega)).trans h3, (hf.i (by omega)).trans h4, (hf.i (by omega)).trans h5, h6.fr hf (fun k hk q => by omega)⟩, ⟨?_, ?_, fun i hi => ?_⟩, h8⟩
  · rw [rI_same, List.length_append]; rfl
  · rw [List.length_append]; exact hl
  · rw [rI_other _ _ _ _ (by omega)]
    rw [List.length_append] at hi
    by_cases e : i = C.length
    · rw [e, rI_same, getD_e, hz]
    · have h2 : i < C.length := by simp only [List.length_singleton] at hi; omega
      rw [rI_other _ _ _ _ (by omega), getD_l h2]
      exact h7.2.2 i h2
theorem x_sgn (D : Nat) {s : Mem} {q : Nat} {C : List Int} {o : Nat} (h : XPs tp cp k s q C o) (hb : Bys tp) (hc : 4 ≤ cp) (v : Int) : (sg tp q = v → ∃ s1, f_Rd_takeSign (D + 4) v s = some (1, s1) ∧ Fr (PXp cp) s s1 ∧ XPs tp cp k s1 (nx tp q) C o) ∧ (sg tp q ≠ v → ∃ s1, f_Rd_takeSign (D + 4) v s = some (0, s1) ∧ Fr (PXp cp) s s1 ∧ rI s1 3 3 = 1 ∧ rI s1 3 4 = (q : Int)) := by
  rw [e_Rd_takeSign, h.1.2.2.2.2.2.1]
  constructor
  · intro e
    obtain ⟨s1, e1, f1, g1⟩ := x_nxp D h hb hc
    rw [if_pos e, e1, Option.bind_some]
    exact ⟨s1, rfl, f1, g1⟩
  · intro e
    rw [if_neg e]
    obtain ⟨s1, e1, f1, g1, g2⟩ := (XRes.fl (tp := tp) (cp := cp) (k := k) (s := s) (a := 1) (D + 2) h.1.2.1 C o).wr
    exact ⟨s1, e1, f1, g1, g2⟩
theorem x_opn (D : Nat) {s : Mem} {q : Nat} {C : List Int} {o : Nat} (h : XPs tp cp k s q C o) (hb : Bys tp) (hc : 4 ≤ cp) (ho : o ≤ 6) : (o < 6 → ∃ s1, f_Rd_openHere (D + 4) s = some (1, s1) ∧ Fr (PXp cp) s s1 ∧ XPs tp cp k s1 (nx tp q) C (o + 1)) ∧ (o = 6 → ∃ s1, f_Rd_openHere (D + 4) s = some (0, s1) ∧ Fr (PXp cp) s s1 ∧ rI s1 3 3 = 4 ∧ rI s1 3 4 = (q : Int)) := by
  rw [e_Rd_openHere, h.2.1.2.2.1]
  constructor
  · intro e
    rw [if_pos (by omega), w32_s (by omega)]
    obtain ⟨s1, e1, f1, g1⟩ := x_nxp D (h.op (o' := o + 1) hc) hb hc
    rw [e1, Option.bind_some]
    exact ⟨s1, rfl, (Fr.rf.w (by unfold PXp; omega)).tr f1, g1⟩
  · intro e
    rw [if_neg (by omega)]
    obtain ⟨s1, e1, f1, g1, g2⟩ := (XRes.fl (tp := tp) (cp := cp) (k := k) (s := s) (a := 4) (D + 2) h.1.2.1 C o).wr
    exact ⟨s1, e1, f1, g1, g2⟩
/-- a row of parts that signs join -/
theorem x_lpW (D : Nat) {op : Nat → Int} {sub : Nat → Res} {LP : Int → Mem → Rs} {SUB : Mem → Rs} {o : Nat} (hb : Bys tp) (hc : 4 ≤ cp) (ho : Ops tp op) (hg : Good tp sub) (hS : ∀ s q C, XPs tp cp k s q C o → C.length ≤ q → XRes tp cp k (SUB s) (sub q) s C o) (h0 : ∀ (b : Nat) s q C, XPs tp cp k s q C o → op q = 0 → LP (b : Int) s = some (1, s)) (h1 : ∀ (b : Nat) s q C, XPs tp cp k s q C o → op q ≠ 0 → b < 1600 → LP (b : Int) s = (f_Rd_next (D + 3) s).bind fun p1 => (SUB p1.2).bind fun p2 => if p2.1 = 0 then some (0, p2.2) else (f_Cd_add (D + 3) (rQ p2.2 3 5) (enX (op q)) p2.2).bind fun p3 => LP ((b + 1 : Nat) : Int) p3.2) : ∀ (f b q : Nat) (c1 : List Int) (s : Mem) (C : List Int), XPs tp cp k s q (C ++ c1) o → (C ++ c1).length ≤ q → b + f = tp.length → tp.length ≤ f + q → XRes tp cp k (LP (b : Int) s) (lpW tp op sub f q c1) s C o
  | 0, b, q, c1, s, C, h, hl, hbf, hfq => by
    have e : op q = 0 := by
      rcases Classical.em (op q = 0) with e | e
      · exact e
      · have := (ho q e).2.2; omega
    exact ⟨s, h0 b s q _ h e, Fr.rf, h⟩
  | f + 1, b, q, c1, s, C, h, hl, hbf, hfq => by
    have hl16 := h.1.1.2.1
    unfold lpW
    by_cases e : op q = 0
    · rw [if_pos e]
      exact ⟨s, h0 b s q _ h e, Fr.rf, h⟩
    · rw [if_neg e, h1 b s q _ h e (by omega)]
      obtain ⟨n1, n2, n3⟩ := ho q e
      obtain ⟨s1, e1, f1, g1⟩ := x_nxp D h hb hc
      rw [e1, Option.bind_some]
      simp only []
      rcases (hS s1 _ _ g1 (by omega)).cs with ⟨er, s2, r1, r2, f2, g2, g3⟩ | ⟨q1, c2, s2, r1, r2, f2, g2⟩
      · rw [r1, r2, Option.bind_some]
        simp only []
        rw [if_pos trivial]
        exact ⟨s2, rfl, f1.tr f2, g2, g3⟩
      · obtain ⟨a1, a2, a3⟩ := hg _ _ _ n2.1 r1
        have hq1 := g2.2.2.2
        have hlen : (C ++ c1 ++ c2).length + 1 ≤ q1 := by rw [List.length_append]; omega
        obtain ⟨s3, e3, f3, g3⟩ := x_addp (D + 2) (c := op q) g2 hc (by omega) rfl
        rw [r1, r2, Option.bind_some]
        simp only []
        rw [if_neg (by decide), e3, Option.bind_some]
        simp only [bnd]
        have hh : C ++ (c1 ++ c2 ++ [op q]) = C ++ c1 ++ c2 ++ [op q] := by simp only [List.append_assoc]
        refine (x_lpW D hb hc ho hg hS h0 h1 f (b + 1) q1 (c1 ++ c2 ++ [op q]) s3 C (by rw [hh]; exact g3) (by rw [hh, List.length_append]; exact hlen) (by omega) (by omega)).tr ((f1.tr f2).tr f3)
theorem x_lpL (D : Nat) {op : Nat → Int} {sub : Nat → Res} {LP : Int → Mem → Rs} {SUB : Mem → Rs} {o : Nat} (hb : Bys tp) (hc : 4 ≤ cp) (ho : Ops tp op) (hg : Good tp sub) (hS : ∀ s q C, XPs tp cp k s q C o → C.length ≤ q → XRes tp cp k (SUB s) (sub q) s C o) (h0 : ∀ (b : Nat) s q C, XPs tp cp k s q C o → op q = 0 → LP (b : Int) s = some (1, s)) (h1 : ∀ (b : Nat) s q C, XPs tp cp k s q C o → op q ≠ 0 → b < 1600 → LP (b : Int) s = (f_Rd_next (D + 3) s).bind fun p1 => (SUB p1.2).bind fun p2 => if p2.1 = 0 then some (0, p2.2) else (f_Cd_add (D + 3) (rQ p2.2 3 5) (enX (op q)) p2.2).bind fun p3 => LP ((b + 1 : Nat) : Int) p3.2) {F : Mem → Rs} (hF : ∀ s, F s = (SUB s).bind fun p1 => if p1.1 = 0 then (some (0, p1.2)) else LP 0 p1.2) {s : Mem} {q : Nat} {C : List Int} (h : XPs tp cp k s q C o) (hl : C.length ≤ q) : XRes tp cp k (F s) (lpL tp op sub q) s C o := by
  unfold lpL
  rw [hF]
  rcases (hS s _ _ h hl).cs with ⟨er, s2, r1, r2, f2, g2, g3⟩ | ⟨q1, c2, s2, r1, r2, f2, g2⟩
  · rw [r1, r2, Option.bind_some]
    simp only []
    rw [if_pos trivial]
    exact ⟨s2, rfl, f2, g2, g3⟩
  · obtain ⟨a1, a2, a3⟩ := hg _ _ _ h.2.2.2 r1
    rw [r1, r2, Option.bind_some]
    simp only []
    rw [if_neg (by decide)]
    simp only [bnd]
    exact (x_lpW D hb hc ho hg hS h0 h1 tp.length 0 q1 c2 s2 C g2 (by rw [List.length_append]; omega) (by omega) (by omega)).tr f2
theorem x_sumP (D : Nat) {pt : Nat → Res} {o : Nat} (hb : Bys tp) (hc : 4 ≤ cp) (hg : Good tp pt) (hS : ∀ s q C, XPs tp cp k s q C o → C.length ≤ q → XRes tp cp k (f_Rd_readPart (D + 3) s) (pt q) s C o) {s : Mem} {q : Nat} {C : List Int} (h : XPs tp cp k s q C o) (hl : C.length ≤ q) : XRes tp cp k (f_Rd_readSum (D + 5) s) (sumP tp pt q) s C o := by
  refine x_lpL (D + 1) (LP := L_Rd_readSum_11 (D + 4)) (SUB := f_Rd_readProduct (D + 4)) hb hc Ops_S (lpL_g Ops_P hg) (fun s q C h hl => ?_) (fun b s q C h e => ?_) (fun b s q C h e hb2 => ?_) (fun s => e_Rd_readSum (D + 4) s) h hl
  · refine x_lpL D (LP := L_Rd_readProduct_11 (D + 3)) (SUB := f_Rd_readPart (D + 3)) hb hc Ops_P hg hS (fun b s q C h e => ?_) (fun b s q C h e hb2 => ?_) (fun s => e_Rd_readProduct (D + 3) s) h hl
    · rw [e_Rd_readProduct_11, h.1.2.2.2.2.2.1]
      unfold oP at e
      split at e
      · cases e
      · next n1 =>
        split at e
        · cases e
        · next n2 => rw [if_neg n1, if_neg n2]; exact ite_self _
    · rw [e_Rd_readProduct_11, h.1.2.2.2.2.2.1, if_pos (by omega), e_Rd_readProduct_36, h.1.2.2.2.2.2.1, w32_s (by omega)]
      unfold oP at e ⊢
      split at e
      · next n1 => rw [if_pos n1, if_pos n1, n1]; rfl
      · next n1 =>
        split at e
        · next n2 => rw [if_neg n1, if_pos n2, if_neg n1, if_pos n2, n2]; rfl
        · exact absurd rfl e
  · rw [e_Rd_readSum_11, h.1.2.2.2.2.2.1]
    unfold oS at e
    split at e
    · cases e
    · next n1 =>
      split at e
      · cases e
      · next n2 => rw [if_neg n1, if_neg n2]; exact ite_self _
  · rw [e_Rd_readSum_11, h.1.2.2.2.2.2.1, if_pos (by omega), e_Rd_readSum_36, h.1.2.2.2.2.2.1, w32_s (by omega)]
    unfold oS at e ⊢
    split at e
    · next n1 => rw [if_pos n1, if_pos n1, n1]; rfl
    · next n1 =>
      split at e
      · next n2 => rw [if_neg n1, if_pos n2, if_neg n1, if_pos n2, n2]; rfl
      · exact absurd rfl e
theorem x_tesP (D : Nat) {fa : Nat → Res} {o : Nat} (hb : Bys tp) (hc : 4 ≤ cp) (hg : Good tp fa) (hS : ∀ s q C, XPs tp cp k s q C o → C.length ≤ q → XRes tp cp k (f_Rd_readFact (D + 3) s) (fa q) s C o) {s : Mem} {q : Nat} {C : List Int} (h : XPs tp cp k s q C o) (hl : C.length ≤ q) : XRes tp cp k (f_Rd_readTest (D + 5) s) (tesP tp fa q) s C o := by
  refine x_lpL (D + 1) (LP := L_Rd_readTest_11 (D + 4)) (SUB := f_Rd_readBoth (D + 4)) hb hc Ops_T (lpL_g Ops_B hg) (fun s q C h hl => ?_) (fun b s q C h e => ?_) (fun b s q C h e hb2 => ?_) (fun s => e_Rd_readTest (D + 4) s) h hl
  · refine x_lpL D (LP := L_Rd_readBoth_11 (D + 3)) (SUB := f_Rd_readFact (D + 3)) hb hc Ops_B hg hS (fun b s q C h e => ?_) (fun b s q C h e hb2 => ?_) (fun s => e_Rd_readBoth (D + 3) s) h hl
    · rw [e_Rd_readBoth_11, h.1.2.2.2.2.1]
      unfold oB at e
      split at e
      · cases e
      · next n1 => rw [if_neg n1]; exact ite_self _
    · rw [e_Rd_readBoth_11, h.1.2.2.2.2.1, if_pos (by omega), w32_s (by omega)]
      unfold oB at e ⊢
      split at e
      · next n1 => rw [if_pos n1, if_pos n1]; rfl
      · exact absurd rfl e
  · rw [e_Rd_readTest_11, h.1.2.2.2.2.1]
    unfold oT at e
    split at e
    · cases e
    · next n1 => rw [if_neg n1]; exact ite_self _
  · rw [e_Rd_readTest_11, h.1.2.2.2.2.1, if_pos (by omega), w32_s (by omega)]
    unfold oT at e ⊢
    split at e
    · next n1 => rw [if_pos n1, if_pos n1]; rfl
    · exact absurd rfl e
theorem x_known_w (D : Nat) {s : Mem} (hk : k ≤ 3) (h6 : rI s 3 6 = wi k) : f_Rd_isKnownHere (D + 1) s = some (if alw k (rI s 3 11) then 1 else 0, s) := by
  rw [e_Rd_isKnownHere, h6]
  generalize rI s 3 11 = w
  by_cases hw : 3 ≤ w ∧ w ≤ 18
  · have h16 : w = 3 ∨ w = 4 ∨ w = 5 ∨ w = 6 ∨ w = 7 ∨ w = 8 ∨ w = 9 ∨ w = 10 ∨ w = 11 ∨ w = 12 ∨ w = 13 ∨ w = 14 ∨ w = 15 ∨ w = 16 ∨ w = 17 ∨ w = 18 := by omega
    have h4 : k = 0 ∨ k = 1 ∨ k = 2 ∨ k = 3 := by omega
    rcases h4 with rfl | rfl | rfl | rfl <;> rcases h16 with rfl | rfl | rfl | rfl | rfl | rfl | rfl | rfl | rfl | rfl | rfl | rfl | rfl | rfl | rfl | rfl <;> rfl
  · have ha : alw k w = false := by
      cases e : alw k w
      · rfl
      · have := alw_n e; omega
    rw [ha, if_neg (by omega), if_neg (by omega), if_neg (by omega), if_neg (by omega), if_neg (by omega), if_neg (by omega), if_neg (by omega), if_neg (by omega), if_neg (by omega), if_neg (by omega), if_neg (by omega), if_neg (by omega), if_neg (by omega), if_neg (by omega), if_neg (by omega), if_neg (by omega)]
    rfl
theorem enX_ptc {w : Int} (h : alw k w = true) : enX (ptc w) = 10000 + w ∧ 3 ≤ w ∧ w ≤ 18 := by
  have hn := alw_n h
  have h11 : w = 3 ∨ w = 4 ∨ w = 10 ∨ w = 11 ∨ w = 12 ∨ w = 13 ∨ w = 14 ∨ w = 15 ∨ w = 16 ∨ w = 17 ∨ w = 18 := by omega
  rcases h11 with rfl | rfl | rfl | rfl | rfl | rfl | rfl | rfl | rfl | rfl | rfl <;> decide
theorem wi_m {k : Nat} : wi k = -1 ↔ ¬ (k = 0 ∨ k = 1 ∨ k = 2) := by
  unfold wi
  constructor
  · intro h
    split at h
    · cases h
    · split at h
      · cases h
      · split at h
        · cases h
        · omega
  · intro h
    rw [if_neg (by omega), if_neg (by omega), if_neg (by omega)]
theorem x_num (D : Nat) {s : Mem} {q : Nat} {C : List Int} {o : Nat} (h : XPs tp cp k s q C o) (hb : Bys tp) (hc : 4 ≤ cp) : (kd tp q = 2 → ¬ 4 < de tp q - q → ∃ s1, f_Rd_takeNumber (D + 4) s = some (1, s1) ∧ Fr (PXp cp) s s1 ∧ XPs tp cp k s1 (nx tp q) C o ∧ rI s1 3 14 = nu tp q ∧ rI s1 3 15 = (q : Int)) ∧ (kd tp q = 2 → 4 < de tp q - q → ∃ s1, f_Rd_takeNumber (D + 4) s = some (0, s1) ∧ Fr (PXp cp) s s1 ∧ rI s1 3 3 = 1 ∧ rI s1 3 4 = ((q + 4 : Nat) : Int)) ∧ (kd tp q ≠ 2 → ∃ s1, f_Rd_takeNumber (D + 4) s = some (0, s1) ∧ Fr (PXp cp) s s1 ∧ rI s1 3 3 = 1 ∧ rI s1 3 4 = (q : Int)) := by
  have hl := h.1.1.2.1
  have hq := h.2.2.2
  have hd : de tp q ≤ tp.length := (ru_p hq).2.1
  have hdq : q ≤ de tp q := (ru_p hq).1
  rw [e_Rd_takeNumber, h.1.2.2.2.1, h.1.2.1, h.1.2.2.1]
  refine ⟨fun k2 hn => ?_, fun k2 hn => ?_, fun k2 => ?_⟩
  · have hen : en tp q = de tp q := by unfold en; rw [k2]; rfl
    rw [if_pos (by omega), hen, w32_i (by omega) (by omega), if_neg (by omega), h.1.2.2.2.2.2.2 k2]
    have f0 : Fr (fun a i => a = 3 ∧ (i = 14 ∨ i = 15)) s (wI (wI s 3 14 (nu tp q)) 3 15 (q : Int)) := (Fr.rf.w ⟨rfl, Or.inl rfl⟩).w ⟨rfl, Or.inr rfl⟩
    have h0 := h.fr hc f0 (fun a i q => by omega)
    obtain ⟨⟨t1, t2⟩, t3⟩ := h0
    obtain ⟨s1, e1, f1, g1⟩ := x_nx D t1 hb hq t2
    rw [e1, Option.bind_some]
    obtain ⟨s2, e2, f2, g2⟩ := x_nxp D (s := (wI (wI s 3 14 (nu tp q)) 3 15 (q : Int))) ⟨⟨t1, t2⟩, t3⟩ hb hc
    rw [e1] at e2
    cases e2
    exact ⟨s1, rfl, (f0.mo (fun a i q => by unfold PXp; omega)).tr f2, g2, by rw [f1.i (by unfold PRd; omega), rI_other _ _ _ _ (by omega), rI_same], by rw [f1.i (by unfold PRd; omega), rI_same]⟩
  · have hen : en tp q = de tp q := by unfold en; rw [k2]; rfl
    rw [if_pos (by omega), hen, w32_i (by omega) (by omega), if_pos (by omega), w32_i (by omega) (by omega)]
    obtain ⟨s1, e1, f1, g1, g2⟩ := (XRes.fl (tp := tp) (cp := cp) (k := k) (s := s) (a := 1) (q := q + 4) (b := (q : Int) + 4) (D + 2) (by omega) C o).wr
    exact ⟨s1, e1, f1, g1, g2⟩
  · rw [if_neg (by omega)]
    obtain ⟨s1, e1, f1, g1, g2⟩ := (XRes.fl (tp := tp) (cp := cp) (k := k) (s := s) (a := 1) (q := q) (b := (q : Int)) (D + 2) rfl C o).wr
    exact ⟨s1, e1, f1, g1, g2⟩
/-- a part, by what may be opened yet -/
def XSub (tp : List Int) (cp k : Nat) (E o : Nat) : Option (Nat → Res) → Prop
  | none => o = 6
  | some pt => o < 6 ∧ Good tp pt ∧ (∀ s q C, XPs tp cp k s q C (o + 1) → C.length ≤ q → XRes tp cp k (f_Rd_readSum (E + 4) s) (sumP tp pt q) s C (o + 1)) ∧ ∀ s q C, XPs tp cp k s q C (o + 1) → C.length ≤ q → XRes tp cp k (f_Rd_readPart (E + 4) s) (pt q) s C (o + 1)
theorem x_close (D : Nat) {s : Mem} {q : Nat} {C : List Int} {o : Nat} {v : Int} (h : XPs tp cp k s q C (o + 1)) (hb : Bys tp) (hc : 4 ≤ cp) (ho : o < 6) (K : Mem → Rs) {res : Nat → Res} {s0 : Mem} {C0 : List Int} (hf : Fr (PXp cp) s0 s) (hk : sg tp q = v → ∀ s1, XPs tp cp k s1 (nx tp q) C o → XRes tp cp k (K s1) (res (nx tp q)) s1 C0 o) : XRes tp cp k ((f_Rd_takeSign (D + 4) v s).bind fun p3 => if p3.1 = 0 then (some (0, p3.2)) else K (wI p3.2 3 7 (w32 ((rI p3.2 3 7) - 1)))) (asg tp v q res) s0 C0 o := by
  have hs := x_sgn D h hb hc v
  unfold asg
  by_cases e : sg tp q = v
  · obtain ⟨s1, e1, f1, g1⟩ := hs.1 e
    rw [if_pos e, e1, Option.bind_some]
    simp only []
    rw [if_neg (by decide), g1.2.1.2.2.1, w32_i (by omega) (by omega), show ((o + 1 : Nat) : Int) - 1 = (o : Int) by omega]
    exact (hk e _ (g1.op (o' := o) hc)).tr ((hf.tr f1).w (by unfold PXp; omega))
  · obtain ⟨s1, e1, f1, g1, g2⟩ := hs.2 e
    rw [if_neg e, e1, Option.bind_some]
    simp only []
    rw [if_pos trivial]
    exact ⟨s1, rfl, hf.tr f1, g1, g2⟩
theorem x_parS (E : Nat) {o : Nat} {sub : Option (Nat → Res)} (hb : Bys tp) (hc : 4 ≤ cp) (hk : k ≤ 3) (ho : o ≤ 6) (hsub : XSub tp cp k E o sub) {s : Mem} {q : Nat} {C : List Int} (h : XPs tp cp k s q C o) (hl : C.length ≤ q) : XRes tp cp k (f_Rd_readPart (E + 6) s) (parS tp k sub q) s C o := by
  have hl16 := h.1.1.2.1
  have hq := h.2.2.2
  have r8 := h.1.2.2.2.1
  have r11 := h.1.2.2.2.2.1
  have r12 := h.1.2.2.2.2.2.1
  rw [e_Rd_readPart, r8, r11, r12, h.2.1.2.1]
  unfold parS
  by_cases k2 : kd tp q = 2
  · have hq2 := kd_lt (tp := tp) (q := q) (by omega)
    obtain ⟨s1, e1, f1, g1⟩ := x_addp (E + 4) (c := 1000 + nu tp q) (z := rI s 3 13) h hc (by omega) (by rw [h.1.2.2.2.2.2.2 k2, enX_num (by have := (nu_r (tp := tp) hq).1; omega)]; omega)
    rw [if_pos (by omega), if_pos k2, e1, Option.bind_some]
    simp only []
    have hn := x_num (E + 1) g1 hb hc
    by_cases c4 : 4 < de tp q - q
    · obtain ⟨s2, e2, f2, g2, g3⟩ := hn.2.1 k2 c4
      rw [if_pos c4, e2, Option.bind_some]
      simp only []
      rw [if_pos (Or.inl trivial)]
      exact ⟨s2, rfl, f1.tr f2, g2, g3⟩
    · obtain ⟨s2, e2, f2, g2, -, -⟩ := hn.1 k2 c4
      rw [if_neg c4, e2, Option.bind_some]
      simp only []
      rw [if_pos (Or.inr trivial)]
      exact ⟨s2, rfl, f1.tr f2, g2⟩
  · rw [if_neg (by omega), if_neg k2]
    by_cases c40 : sg tp q = 40
    · rw [if_pos c40, if_pos c40]
      apply XRes.wr
      rw [e_Rd_readBracketed]
      have hop := x_opn E h hb hc ho
      match sub, hsub with
      | none, hsub =>
        obtain ⟨s1, e1, f1, g1, g2⟩ := hop.2 hsub
        rw [e1, Option.bind_some]
        simp only []
        rw [if_pos trivial]
        exact ⟨s1, rfl, f1, g1, g2⟩
      | some pt, ⟨ho6, hg, hS, hP⟩ =>
        obtain ⟨s1, e1, f1, g1⟩ := hop.1 ho6
        obtain ⟨n1, n2, n3⟩ := nx_s c40 (by decide)
        rw [e1, Option.bind_some]
        simp only []
        rw [if_neg (by decide)]
        rcases (hS s1 _ _ g1 (by omega)).cs with ⟨er, s2, r1, r2, f2, g2, g3⟩ | ⟨q1, c1, s2, r1, r2, f2, g2⟩
        · rw [r1, r2, Option.bind_some]
          simp only []
          rw [if_pos trivial]
          exact ⟨s2, rfl, f1.tr f2, g2, g3⟩
        · rw [r1, r2, Option.bind_some]
          simp only [bnd]
          rw [if_neg (by decide)]
          exact x_close E g2 hb hc ho6 (fun s => some (1, s)) (f1.tr f2) (fun _ s3 g3 => ⟨s3, rfl, Fr.rf, g3⟩)
    · rw [if_neg c40, if_neg c40]
      by_cases c25 : wd tp q = 25 ∨ wd tp q = 26
      · rw [if_pos c25]
        have hpair : XRes tp cp k ((f_Rd_readPair (E + 5) s).bind fun p1 => if p1.1 = 0 ∨ p1.1 = 1 then some (p1.1, p1.2) else none) (if sg tp (nx tp q) = 40 then (match (generalizing := false) sub with
    | none => .inl (4, nx tp q)
    | some pt => bnd (sumP tp pt (nx tp (nx tp q))) (fun q1 c1 => asg tp 44 q1 (fun q2 => bnd (sumP tp pt q2) (fun q3 c3 => asg tp 41 q3 (fun q4 => .inr (q4, c1 ++ c3 ++ [if wd tp q = 25 then 5 else 6])))))) else .inl (1, nx tp q)) s C o := by
          apply XRes.wr
          obtain ⟨n1, n2, n3⟩ : q < nx tp q ∧ St tp (nx tp q) ∧ q < tp.length := c25.elim (fun e => nx_w e (by decide)) (fun e => nx_w e (by decide))
          obtain ⟨s1, e1, f1, g1⟩ := x_nxp (E + 1) h hb hc
          rw [e_Rd_readPair, e1, Option.bind_some]
          simp only []
          rw [g1.1.2.2.2.2.2.1, g1.1.2.1, r11]
          by_cases c2 : sg tp (nx tp q) = 40
          · rw [if_pos c2, if_pos c2]
            have hop := x_opn E g1 hb hc ho
            obtain ⟨l1, l2, l3⟩ := nx_s c2 (by decide)
            match sub, hsub with
            | none, hsub =>
              obtain ⟨s2, e2, f2, g2, g3⟩ := hop.2 hsub
              rw [e2, Option.bind_some]
              simp only []
              rw [if_pos trivial]
              exact ⟨s2, rfl, f1.tr f2, g2, g3⟩
            | some pt, ⟨ho6, hg, hS, hP⟩ =>
              obtain ⟨s2, e2, f2, g2⟩ := hop.1 ho6
              rw [e2, Option.bind_some]
              simp only []
              rw [if_neg (by decide)]
              rcases (hS s2 _ _ g2 (by omega)).cs with ⟨er, s3, r1, r2, f3, g3, g4⟩ | ⟨q1, c1, s3, r1, r2, f3, g3⟩
              · rw [r1, r2, Option.bind_some]
                simp only []
                rw [if_pos trivial]
                exact ⟨s3, rfl, (f1.tr f2).tr f3, g3, g4⟩
              · obtain ⟨b1, b2, b3⟩ := sumP_g hg _ _ _ l2.1 r1
                rw [r1, r2, Option.bind_some]
                simp only [bnd]
                rw [if_neg (by decide)]
                have hs := x_sgn E g3 hb hc 44
                unfold asg
                by_cases c44 : sg tp q1 = 44
                · obtain ⟨s4, e4, f4, g4⟩ := hs.1 c44
                  obtain ⟨m1, m2, m3⟩ := nx_s c44 (by decide)
                  have hl1 : (C ++ c1).length ≤ nx tp q1 := by rw [List.length_append]; omega
                  rw [if_pos c44, e4, Option.bind_some]
                  simp only []
                  rw [if_neg (by decide)]
                  rcases (hS s4 _ _ g4 hl1).cs with ⟨er, s5, r3, r4, f5, g5, g6⟩ | ⟨q3, c3, s5, r3, r4, f5, g5⟩
                  · rw [r3, r4, Option.bind_some]
                    simp only []
                    rw [if_pos trivial]
                    exact ⟨s5, rfl, (((f1.tr f2).tr f3).tr f4).tr f5, g5, g6⟩
                  · obtain ⟨b4, b5, b6⟩ := sumP_g hg _ _ _ m2.1 r3
                    rw [r3, r4, Option.bind_some]
                    simp only []
                    rw [if_neg (by decide)]
                    have hl3 : (C ++ c1 ++ c3).length < 1600 := by
                      have := g5.2.2.2
                      rw [List.length_append, List.length_append]; omega
                    refine x_close E g5 hb hc ho6 (res := fun q4 => .inr (q4, c1 ++ c3 ++ [if wd tp q = 25 then 5 else 6])) (fun s => (f_Cd_add (E + 4) (rQ s 3 5) (w32 (10000 + wd tp q)) s).bind fun p7 => some (1, p7.2)) ((((f1.tr f2).tr f3).tr f4).tr f5) (fun _ s6 g6 => ?_)
                    obtain ⟨s7, e7, f7, g7⟩ := x_addp (E + 3) (c := if wd tp q = 25 then 5 else 6) (z := w32 (10000 + wd tp q)) g6 hc hl3 (by rcases c25 with e | e <;> rw [e] <;> decide)
                    rw [e7, Option.bind_some]
                    have hh : C ++ (c1 ++ c3 ++ [if wd tp q = 25 then 5 else 6]) = C ++ c1 ++ c3 ++ [if wd tp q = 25 then 5 else 6] := by simp only [List.append_assoc]
                    exact ⟨s7, rfl, f7, by rw [hh]; exact g7⟩
                · obtain ⟨s4, e4, f4, g4, g5⟩ := hs.2 c44
                  rw [if_neg c44, e4, Option.bind_some]
                  simp only []
                  rw [if_pos trivial]
                  exact ⟨s4, rfl, ((f1.tr f2).tr f3).tr f4, g4, g5⟩
          · rw [if_neg c2, if_neg c2]
            exact ((XRes.fl (E + 3) rfl C o).wr).tr f1
        rcases c25 with e | e
        · rw [if_pos e]; exact hpair
        · rw [if_neg (by omega), if_pos e]; exact hpair
      · rw [if_neg c25, if_neg (fun e => c25 (Or.inl e)), if_neg (fun e => c25 (Or.inr e))]
        by_cases cf : k = 3 ∧ (wd tp q = 19 ∨ wd tp q = 20)
        · rw [if_pos cf, if_pos (wi_m.mpr (by omega))]
          have hfrom : XRes tp cp k ((f_Rd_readFrom (E + 5) s).bind fun p1 => if p1.1 = 0 ∨ p1.1 = 1 then some (p1.1, p1.2) else none) (match (generalizing := false) sub with
    | none => .inl (4, q)
    | some pt => bnd (pt (nx tp q)) (fun q1 c1 => .inr (q1, c1 ++ [if wd tp q = 19 then 60 else 61]))) s C o := by
            apply XRes.wr
            obtain ⟨n1, n2, n3⟩ : q < nx tp q ∧ St tp (nx tp q) ∧ q < tp.length := cf.2.elim (fun e => nx_w e (by decide)) (fun e => nx_w e (by decide))
            rw [e_Rd_readFrom, r11]
            have hop := x_opn E h hb hc ho
            match sub, hsub with
            | none, hsub =>
              obtain ⟨s1, e1, f1, g1, g2⟩ := hop.2 hsub
              rw [e1, Option.bind_some]
              simp only []
              rw [if_pos trivial]
              exact ⟨s1, rfl, f1, g1, g2⟩
            | some pt, ⟨ho6, hg, hS, hP⟩ =>
              obtain ⟨s1, e1, f1, g1⟩ := hop.1 ho6
              rw [e1, Option.bind_some]
              simp only []
              rw [if_neg (by decide)]
              rcases (hP s1 _ _ g1 (by omega)).cs with ⟨er, s2, r1, r2, f2, g2, g3⟩ | ⟨q1, c1, s2, r1, r2, f2, g2⟩
              · rw [r1, r2, Option.bind_some]
                simp only []
                rw [if_pos trivial]
                exact ⟨s2, rfl, f1.tr f2, g2, g3⟩
              · obtain ⟨b1, b2, b3⟩ := hg _ _ _ n2.1 r1
                have hl3 : (C ++ c1).length < 1600 := by
                  have := g2.2.2.2
                  rw [List.length_append]; omega
                rw [r1, r2, Option.bind_some]
                simp only [bnd]
                rw [if_neg (by decide), g2.2.1.2.2.1, show ((o + 1 : Nat) : Int) - 1 = (o : Int) by omega, w32_i (z := (o : Int)) (by omega) (by omega)]
                have g3 := g2.op (o' := o) hc
                obtain ⟨s7, e7, f7, g7⟩ := x_addp (E + 3) (c := if wd tp q = 19 then 60 else 61) (z := w32 (10000 + wd tp q)) g3 hc hl3 (by rcases cf.2 with e | e <;> rw [e] <;> decide)
                rw [rQ_wI] at e7
                rw [e7, Option.bind_some]
                have hh : C ++ (c1 ++ [if wd tp q = 19 then 60 else 61]) = C ++ c1 ++ [if wd tp q = 19 then 60 else 61] := by simp only [List.append_assoc]
                exact ⟨s7, rfl, ((f1.tr f2).w (by unfold PXp; omega)).tr f7, by rw [hh]; exact g7⟩
          rcases cf.2 with e | e
          · rw [if_pos e]; exact hfrom
          · rw [if_neg (by omega), if_pos e]; exact hfrom
        · have hw : XRes tp cp k (L_Rd_readPart_92 (E + 5) s) (if alw k (wd tp q) then .inr (nx tp q, [ptc (wd tp q)]) else .inl (1, q)) s C o := by
            rw [e_Rd_readPart_92, x_known_w (E + 4) hk h.2.1.2.1, Option.bind_some, r11]
            simp only []
            rw [h.1.2.1]
            by_cases ca : alw k (wd tp q) = true
            · rw [if_pos ca, if_pos ca, if_neg (by decide)]
              have hp := enX_ptc ca
              obtain ⟨n1, n2, n3⟩ := nx_w (tp := tp) (q := q) (v := wd tp q) rfl (by omega)
              obtain ⟨s1, e1, f1, g1⟩ := x_addp (E + 4) (c := ptc (wd tp q)) (z := w32 (10000 + wd tp q)) h hc (by omega) (by rw [hp.1, w32_i (by omega) (by omega)])
              obtain ⟨s2, e2, f2, g2⟩ := x_nxp (E + 2) g1 hb hc
              rw [e1, Option.bind_some]
              simp only []
              rw [e2, Option.bind_some]
              exact ⟨s2, rfl, f1.tr f2, g2⟩
            · rw [if_neg ca, if_neg ca, if_pos rfl]
              exact (XRes.fl (E + 4) rfl C o).wr
          rw [if_neg cf]
          by_cases k3 : wi k = -1
          · have := wi_m.mp k3
            rw [if_pos k3, if_neg (fun e => cf ⟨by omega, Or.inl e⟩), if_neg (fun e => cf ⟨by omega, Or.inr e⟩)]
            exact hw
          · rw [if_neg k3]; exact hw
theorem x_part (hb : Bys tp) (hc : 4 ≤ cp) (hk : k ≤ 3) : ∀ (n o D : Nat) (s : Mem) (q : Nat) (C : List Int), n + o = 6 → XPs tp cp k s q C o → C.length ≤ q → XRes tp cp k (f_Rd_readPart (D + 4 * n + 6) s) (parL tp k n q) s C o
  | 0, o, D, s, q, C, hn, h, hl => x_parS D (sub := none) hb hc hk (by omega) (show o = 6 by omega) h hl
  | n + 1, o, D, s, q, C, hn, h, hl => by
    have hsub : XSub tp cp k (D + 4 * n + 4) o (some (parL tp k n)) := by
      refine ⟨by omega, parL_g k n, fun s q C h hl => ?_, fun s q C h hl => ?_⟩
      · have := x_sumP (D + 4 * n + 3) hb hc (parL_g k n) (fun s q C h hl => x_part hb hc hk n (o + 1) D s q C (by omega) h hl) h hl
        exact this
      · have := x_part hb hc hk n (o + 1) (D + 2) s q C (by omega) h hl
        rw [show D + 2 + 4 * n + 6 = D + 4 * n + 4 + 4 by omega] at this
        exact this
    have := x_parS (D + 4 * n + 4) hb hc hk (by omega) hsub h hl
    rw [show D + 4 * n + 4 + 6 = D + 4 * (n + 1) + 6 by omega] at this
    exact this
theorem x_sum (hb : Bys tp) (hc : 4 ≤ cp) (hk : k ≤ 3) (n o D : Nat) (s : Mem) (q : Nat) (C : List Int) (hn : n + o = 6) (h : XPs tp cp k s q C o) (hl : C.length ≤ q) : XRes tp cp k (f_Rd_readSum (D + 4 * n + 8) s) (sumL tp k n q) s C o :=
  x_sumP (D + 4 * n + 3) hb hc (parL_g k n) (fun s q C h hl => x_part hb hc hk n o D s q C hn h hl) h hl
end XPARSE
