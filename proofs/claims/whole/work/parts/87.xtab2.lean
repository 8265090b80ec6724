/-! the class takes a table -/
/-- the table of a draft, the ring as it begins -/
def dTab (d : Dr) : Tab := (dN d, (dG d).length, (fun k => (gg d k).2.2.1), (fun k => (gg d k).2.2.2), (fun k => (dC d k).getD (dfl k)))
def dW (d : Dr) : Nat → Int := fun i => if 1 ≤ i ∧ i < 10 then (if ((i - 1 : Nat) : Int) ∈ dH d then 1 else 0) else if 10 ≤ i ∧ i < 10 + 2 * (dG d).length ∧ i % 2 = 0 then (gg d ((i - 10) / 2)).2.1 else 0
section DTAB
variable {d : Dr}
theorem dW_0 : dW d 0 = 0 := by
  unfold dW
  rw [if_neg (by omega), if_neg (by omega)]
theorem dW_h {q : Nat} (hq : q < 9) : dW d (1 + q) = if (q : Int) ∈ dH d then 1 else 0 := by
  unfold dW
  rw [if_pos (by omega), show 1 + q - 1 = q by omega]
theorem dW_s {k : Nat} (hk : k < (dG d).length) : dW d (10 + 2 * k) = (gg d k).2.1 := by
  unfold dW
  rw [if_neg (by omega), if_pos (by omega), show (10 + 2 * k - 10) / 2 = k by omega]
theorem dW_w {k : Nat} : dW d (11 + 2 * k) = 0 := by
  unfold dW
  rw [if_neg (by omega), if_neg (by omega)]
theorem dfl_ok : Cok 0 (dfl 0) false ∧ Cok 1 (dfl 1) true ∧ Cok 2 (dfl 2) false := ⟨by show tys 0 (dfl 0) [] = some [false]; decide +kernel, by show tys 1 (dfl 1) [] = some [true]; decide +kernel, by show tys 2 (dfl 2) [] = some [false]; decide +kernel⟩
theorem dTab_ok (h : DOk d) : Tf (dTab d) := by
  obtain ⟨hN, ⟨hg7, hg, hgd⟩, hh, hc, ht⟩ := h
  refine ⟨hN.1, hN.2, hg7, fun k hk => ⟨(hg k hk).2.2.1, (hg k hk).2.2.2⟩, ?_, ?_, ?_⟩
  · show Cok 0 ((dC d 0).getD (dfl 0)) false
    cases e : dC d 0 with
    | none => exact dfl_ok.1
    | some cs => exact (hc 0 (by decide) cs e).1
  · show Cok 1 ((dC d 1).getD (dfl 1)) true
    cases e : dC d 1 with
    | none => exact dfl_ok.2.1
    | some cs => exact (hc 1 (by decide) cs e).1
  · show Cok 2 ((dC d 2).getD (dfl 2)) false
    cases e : dC d 2 with
    | none => exact dfl_ok.2.2
    | some cs => exact (hc 2 (by decide) cs e).1
theorem dW_ok (h : DOk d) : Wf (dTab d) (dW d) := by
  obtain ⟨hN, ⟨hg7, hg, hgd⟩, hh, hc, ht⟩ := h
  refine ⟨by rw [dW_0]; omega, fun q hq => ?_, fun k hk => ⟨?_, ?_⟩, fun j k hj hk e => ?_⟩
  · rw [dW_h hq]
    split
    · exact Or.inr rfl
    · exact Or.inl rfl
  · have hk2 : k < (dG d).length := hk
    rw [dW_s hk2]
    exact (hg k hk2).2.1
  · rw [dW_w]; omega
  · have hj2 : j < (dG d).length := hj
    have hk2 : k < (dG d).length := hk
    rw [dW_s hj2, dW_s hk2] at e
    exact hgd j k hj2 hk2 e
theorem dW_Wh (h : DOk d) : Wh (dTab d) (dW d) := fun q h1 h2 => by
  rw [dW_h h2, if_neg]
  intro hm
  have h3 := (h.2.2.1 _ hm).2
  have h4 : dN d ≤ q := h1
  omega
end DTAB
section XTAB2
variable {tp : List Int}
abbrev PSs : Nat → Nat → Prop := fun a _ => a = 29 ∨ a = 30 ∨ a = 31
theorem x_start23 (D : Nat) {o : Nat} {s0 : Mem} (ho : o = 6 ∨ o = 17) : ∀ (j b : Nat) (s : Mem), b + j = 7 → Fr PSs s0 s → rQ s 28 0 = o → (∀ k, k < b → rI s 29 k = rI s0 (o + 2) k ∧ rI s 31 k = rI s0 (o + 3) k ∧ rI s 30 k = 0) → ∃ s1, L_Rg_start_23 D 28 (b : Int) s = ((f_Rg_findGuests D 28 s1).bind fun p1 => some (0, p1.2)) ∧ Fr PSs s0 s1 ∧ ∀ k, k < 7 → rI s1 29 k = rI s0 (o + 2) k ∧ rI s1 31 k = rI s0 (o + 3) k ∧ rI s1 30 k = 0
  | 0, b, s, hb, hf, h28, hk => by
    rw [e_Rg_start_23, if_neg (by omega)]
    exact ⟨s, rfl, hf, fun k hk2 => hk k (by omega)⟩
  | j + 1, b, s, hb, hf, h28, hk => by
    rw [e_Rg_start_23, if_pos (by omega), inB_n (by omega), inB_n (by omega), inB_n (by omega), inB_n (by omega), inB_n (by omega), Int.toNat_natCast, w32_s (by omega), h28]
    simp only [Nat.reduceAdd]
    refine x_start23 D ho j (b + 1) _ (by omega) (((hf.w (Or.inl rfl)).w (Or.inr (Or.inr rfl))).w (Or.inr (Or.inl rfl))) h28 (fun k hk2 => ?_)
    by_cases c : k = b
    · rw [c]
      refine ⟨?_, ?_, rI_same _ _ _ _⟩
      · rw [rI_other _ _ _ _ (by omega), rI_other _ _ _ _ (by omega), rI_same, hf.i (by omega)]
      · rw [rI_other _ _ _ _ (by omega), rI_same, rI_other _ _ _ _ (by omega), hf.i (by omega)]
    · obtain ⟨a1, a2, a3⟩ := hk k (by omega)
      refine ⟨?_, ?_, ?_⟩
      · rw [rI_other _ _ _ _ (by omega), rI_other _ _ _ _ (by omega), rI_other _ _ _ _ (by omega)]; exact a1
      · rw [rI_other _ _ _ _ (by omega), rI_other _ _ _ _ (by omega), rI_other _ _ _ _ (by omega)]; exact a2
      · rw [rI_other _ _ _ _ (by omega), rI_other _ _ _ _ (by omega), rI_other _ _ _ _ (by omega)]; exact a3
abbrev PSt2 : Nat → Nat → Prop := fun a k => 29 ≤ a ∧ a ≤ 32 ∨ a = 28 ∧ k < 3
/-- the ring begins with a draft -/
theorem x_start (D : Nat) {o : Nat} {s : Mem} {d : Dr} (hd : DOk d) (hX : XD s o d) : ∃ s1, f_Rg_start (D + 2) 28 o s = some (0, s1) ∧ Fr PSt2 s s1 ∧ rQ s1 28 0 = o ∧ XR s1 28 (dTab d) (dW d) := by
  have ho := hX.1
  have hT := dTab_ok hd
  have hW := dW_ok hd
  have q0 : rQ (wQ s 28 0 o) 28 0 = o := by rw [rQ_wQ, if_pos ⟨rfl, rfl⟩]
  have b0 : rI (wI (wQ s 28 0 o) 28 1 0) o 3 = rI s o 3 := by rw [rI_other _ _ _ _ (by omega), rI_wQ']
  rw [e_Rg_start, q0, b0]
  have f0 : Fr (fun a k => a = 28 ∧ k < 3) s (wI (wI (wQ s 28 0 o) 28 1 0) 28 2 (rI s o 3)) := ((Fr.rf.wq (by omega)).w (by omega)).w (by omega)
  have v0 : rQ (wI (wI (wQ s 28 0 o) 28 1 0) 28 2 (rI s o 3)) 28 0 = o := by rw [rQ_wI, rQ_wI, q0]
  have v1 : rI (wI (wI (wQ s 28 0 o) 28 1 0) 28 2 (rI s o 3)) 28 1 = 0 := by rw [rI_other _ _ _ _ (by omega), rI_same]
  have v2 : rI (wI (wI (wQ s 28 0 o) 28 1 0) 28 2 (rI s o 3)) 28 2 = rI s o 3 := rI_same _ _ _ _
  generalize wI (wI (wQ s 28 0 o) 28 1 0) 28 2 (rI s o 3) = s0 at f0 v0 v1 v2 ⊢
  obtain ⟨s1, e1, f1, k1⟩ := x_start23 (D + 1) ho 7 0 s0 rfl Fr.rf v0 (fun k hk => absurd hk (Nat.not_lt_zero _))
  have f01 : Fr (fun a k => a = 29 ∨ a = 30 ∨ a = 31 ∨ a = 28 ∧ k < 3) s s1 := (f0.mo (fun a k q => by omega)).tr (f1.mo (fun a k q => by unfold PSs at q; omega))
  obtain ⟨-, ⟨y1, y2, y3, y4⟩, y5, y6, y7, y8, y9, y10⟩ := hX
  have h28 : rQ s1 28 0 = o := (f1.q (by unfold PSs; omega)).trans v0
  have hs : ∀ k, k < (dG d).length → rI s1 29 k = (gg d k).2.1 := fun k hk => by
    have := hd.2.1.1
    rw [(k1 k (by omega)).1, f0.i (by omega)]; exact (y7 k hk).2.1
  obtain ⟨s2, e2, f2, w2⟩ := x_find D (o := 28) (s := s1) (w := dW d) hT hW (Or.inl rfl) (by rw [h28]; exact ho) (by rw [h28, f01.i (by omega)]; exact y3) (fun k hk => by rw [dW_s hk]; exact hs k hk)
  have e1' : L_Rg_start_23 (D + 1) 28 0 s0 = ((f_Rg_findGuests (D + 1) 28 s1).bind fun p1 => some (0, p1.2)) := e1
  have ff : Fr PSt2 s s2 := (f01.mo (fun a k q => by unfold PSt2; omega)).tr (f2.mo (fun a k q => by unfold PSt2; omega))
  rw [e1', e2, Option.bind_some]
  have hq : rQ s2 28 0 = o := (f2.q (by omega)).trans h28
  refine ⟨s2, rfl, ff, hq, Or.inl rfl, ?_, ?_, ?_, fun k hk => ?_, fun k hk => ?_, fun k hk => ?_, w2⟩
  · rw [hq]
    refine ⟨ho, (ff.i (by unfold PSt2; omega)).trans y2, (ff.i (by unfold PSt2; omega)).trans y3, fun k hk => (ff.i (by unfold PSt2; omega)).trans (y7 k hk).2.2.2, ?_, ?_, ?_⟩
    · show XC s2 (o + 5) ((dC d 0).getD (dfl 0))
      cases e : dC d 0 with
      | none => rw [e] at y8; exact y8.2.fr ff (fun i => ⟨by unfold PSt2; omega, by unfold PSt2; omega⟩)
      | some cs => rw [e] at y8; exact y8.2.fr ff (fun i => ⟨by unfold PSt2; omega, by unfold PSt2; omega⟩)
    · show XC s2 (o + 7) ((dC d 1).getD (dfl 1))
      cases e : dC d 1 with
      | none => rw [e] at y9; exact y9.2.fr ff (fun i => ⟨by unfold PSt2; omega, by unfold PSt2; omega⟩)
      | some cs => rw [e] at y9; exact y9.2.fr ff (fun i => ⟨by unfold PSt2; omega, by unfold PSt2; omega⟩)
    · show XC s2 (o + 9) ((dC d 2).getD (dfl 2))
      cases e : dC d 2 with
      | none => rw [e] at y10; exact y10.2.fr ff (fun i => ⟨by unfold PSt2; omega, by unfold PSt2; omega⟩)
      | some cs => rw [e] at y10; exact y10.2.fr ff (fun i => ⟨by unfold PSt2; omega, by unfold PSt2; omega⟩)
  · rw [f2.i (by omega), f1.i (by unfold PSs; omega), v1, dW_0]
  · rw [f2.i (by omega), f1.i (by unfold PSs; omega), v2]
    obtain ⟨a, a1, a2, a3⟩ := y5
    refine ⟨a, a1, a2, fun q hq => ?_⟩
    rw [dW_h hq]
    have a4 := a3 q hq
    by_cases c : (q : Int) ∈ dH d
    · rw [if_pos c, a4.mpr c]; rfl
    · rw [if_neg c]
      have : ¬ a / 2 ^ q % 2 = 1 := fun e => c (a4.mp e)
      omega
  · exact (f2.i (by omega)).trans ((hs k hk).trans (dW_s hk).symm)
  · have := hd.2.1.1
    have hk2 : k < (dG d).length := hk
    exact (f2.i (by omega)).trans ((k1 k (by omega)).2.2.trans dW_w.symm)
  · have := hd.2.1.1
    have hk2 : k < (dG d).length := hk
    exact (f2.i (by omega)).trans ((k1 k (by omega)).2.1.trans ((f0.i (by omega)).trans (y7 k hk2).2.2.1))
abbrev PXf (o : Nat) : Nat → Nat → Prop := fun a k => a = 3 ∧ 3 ≤ k ∧ k ≤ 15 ∨ o ≤ a ∧ a ≤ o + 10 ∨ a = 0 ∧ (k = 13 ∨ k = 14) ∨ a = 1 ∧ k = 1 ∨ a = 83 ∧ k = 1
abbrev PXt (o : Nat) : Nat → Nat → Prop := fun a k => a = 3 ∧ 3 ≤ k ∧ k ≤ 15 ∨ o ≤ a ∧ a ≤ o + 10 ∨ a = 0 ∧ (k = 2 ∨ k = 3 ∨ k = 13 ∨ k = 14) ∨ a = 1 ∧ k = 1 ∨ 29 ≤ a ∧ a ≤ 32 ∨ a = 28 ∧ k < 3 ∨ a = 42 ∧ k = 1 ∨ a = 44 ∧ k = 2 ∨ a = 66 ∧ k = 2 ∨ a = 79 ∧ (k = 1 ∨ k = 2)
theorem PSo_f {o : Nat} : ∀ a k, PSo o a k → PXf o a k := fun a k q => by unfold PSo at q; unfold PXf; omega
theorem PSo_t {o : Nat} : ∀ a k, PSo o a k → PXt o a k := fun a k q => by unfold PSo at q; unfold PXt; omega
theorem P2_t {o : Nat} : ∀ a k, (a = 0 ∧ (k = 2 ∨ k = 3 ∨ k = 13 ∨ k = 14) ∨ a = 1 ∧ k = 1) → PXt o a k := fun a k q => by unfold PXt; omega
theorem P34_t {o : Nat} : ∀ a k, (PSt2 a k ∨ a = 66 ∧ k = 2 ∨ a = 42 ∧ k = 1 ∨ a = 44 ∧ k = 2 ∨ a = 79 ∧ (k = 1 ∨ k = 2)) → PXt o a k := fun a k q => by unfold PSt2 at q; unfold PXt; omega
theorem XTp_nil {s : Mem} (h : rI s 1 1 = 0) : XTp s [] := ⟨h, Nat.zero_le _, fun i hi => absurd hi (Nat.not_lt_zero _)⟩
theorem x_tableQ (D : Nat) {r o : Nat} {s : Mem} (hro : r = 6 ∧ o = 17 ∨ r = 17 ∧ o = 6) (h2 : rQ s 0 2 = r) (h3 : rQ s 0 3 = o) (h : XTp s tp) (hb : Bys tp) : (∀ e, tabP tp = .inl e → ∃ s1, f_X_table (D + 38) s = some (-1, s1) ∧ Fr (PXf o) s s1 ∧ rI s1 0 13 = e.1 ∧ rI s1 0 14 = (e.2 : Int) ∧ rI s1 1 1 = 0 ∧ rI s1 83 1 = w32 (rI s 83 1 + 1)) ∧ (∀ d, tabP tp = .inr d → ∃ s1, f_X_table (D + 38) s = some ((d.1 : Int), s1) ∧ Fr (PXt o) s s1 ∧ (rI s1 0 13 = 0 ∧ rI s1 0 14 = -1) ∧ rI s1 1 1 = 0 ∧ (rQ s1 0 2 = o ∧ rQ s1 0 3 = r) ∧ XD s1 o d ∧ XM s1 (dTab d) (dW d) ∧ KX s1 [] ∧ rI s1 66 2 = 0 ∧ rI s1 44 2 = 0 ∧ rI s1 79 1 = 0 ∧ rI s1 79 2 = 0) := by
  have ho : o = 6 ∨ o = 17 := by omega
  have hl := h.2.1
  have hT := x_readTable D ho h hb
  rw [e_X_table, h3]
  constructor
  · intro e he
    rw [he] at hT
    obtain ⟨s1, e1, f1, g1⟩ := hT
    rw [e1, Option.bind_some]
    simp only []
    rw [e_X_noteFault, Option.bind_some]
    simp only []
    rw [if_pos trivial]
    have href : f_X_refuse (D + 36 + 1) 1 (wI (wI (wI s1 0 13 (rI s1 3 3)) 0 14 (rI s1 3 4)) 1 1 0) = _ := x_ref (D + 36) _ (k := 1) (by omega)
    rw [href, Option.bind_some]
    refine ⟨_, rfl, ((((f1.mo PSo_f).w (by unfold PXf; omega)).w (by unfold PXf; omega)).w (by unfold PXf; omega)).w (by unfold PXf; omega), ?_, ?_, ?_, ?_⟩
    · rw [rI_other _ _ _ _ (by omega), rI_other _ _ _ _ (by omega), rI_other _ _ _ _ (by omega), rI_same]
      exact g1.1.1
    · rw [rI_other _ _ _ _ (by omega), rI_other _ _ _ _ (by omega), rI_same]
      exact g1.2
    · rw [rI_other _ _ _ _ (by omega), rI_same]
    · rw [rI_same, rI_other _ _ _ _ (by omega), rI_other _ _ _ _ (by omega), rI_other _ _ _ _ (by omega), f1.i (by unfold PSo; omega)]
  · intro d he
    have hd := tabP_ok h.2.1 he
    rw [he] at hT
    obtain ⟨s1, e1, f1, g1, X1⟩ := hT
    rw [e1, Option.bind_some]
    simp only []
    rw [e_X_noteFault, Option.bind_some]
    simp only []
    rw [if_neg one_nz]
    have q3 : rQ (wI (wI s1 0 13 (rI s1 3 3)) 0 14 (rI s1 3 4)) 0 3 = o := by rw [rQ_wI, rQ_wI, f1.q (by unfold PSo; omega)]; exact h3
    have q2 : rQ (wI (wI s1 0 13 (rI s1 3 3)) 0 14 (rI s1 3 4)) 0 2 = r := by rw [rQ_wI, rQ_wI, f1.q (by unfold PSo; omega)]; exact h2
    rw [q3, q2]
    have f2 : Fr (fun a k => a = 0 ∧ (k = 2 ∨ k = 3 ∨ k = 13 ∨ k = 14) ∨ a = 1 ∧ k = 1) s1 (wQ (wQ (wI (wI (wI s1 0 13 (rI s1 3 3)) 0 14 (rI s1 3 4)) 1 1 0) 0 2 o) 0 3 r) := ((((Fr.rf.w (by omega)).w (by omega)).w (by omega)).wq (by omega)).wq (by omega)
    have v13 : rI (wQ (wQ (wI (wI (wI s1 0 13 (rI s1 3 3)) 0 14 (rI s1 3 4)) 1 1 0) 0 2 o) 0 3 r) 0 13 = 0 := by
      rw [rI_wQ', rI_wQ', rI_other _ _ _ _ (by omega), rI_other _ _ _ _ (by omega), rI_same]; exact g1.1
    have v14 : rI (wQ (wQ (wI (wI (wI s1 0 13 (rI s1 3 3)) 0 14 (rI s1 3 4)) 1 1 0) 0 2 o) 0 3 r) 0 14 = -1 := by
      rw [rI_wQ', rI_wQ', rI_other _ _ _ _ (by omega), rI_same]; exact g1.2
    have v11 : rI (wQ (wQ (wI (wI (wI s1 0 13 (rI s1 3 3)) 0 14 (rI s1 3 4)) 1 1 0) 0 2 o) 0 3 r) 1 1 = 0 := by
      rw [rI_wQ', rI_wQ', rI_same]
    have p2 : rQ (wQ (wQ (wI (wI (wI s1 0 13 (rI s1 3 3)) 0 14 (rI s1 3 4)) 1 1 0) 0 2 o) 0 3 r) 0 2 = o := by
      rw [rQ_wQ, if_neg (by omega), rQ_wQ, if_pos ⟨rfl, rfl⟩]
    have p3 : rQ (wQ (wQ (wI (wI (wI s1 0 13 (rI s1 3 3)) 0 14 (rI s1 3 4)) 1 1 0) 0 2 o) 0 3 r) 0 3 = r := by
      rw [rQ_wQ, if_pos ⟨rfl, rfl⟩]
    generalize wQ (wQ (wI (wI (wI s1 0 13 (rI s1 3 3)) 0 14 (rI s1 3 4)) 1 1 0) 0 2 o) 0 3 r = s2 at f2 v13 v14 v11 p2 p3 ⊢
    have X2 := X1.fr f2 (fun a k q => by omega)
    obtain ⟨s3, e3, f3, h28, R3⟩ := x_start (D + 35) hd X2
    rw [e3, Option.bind_some]
    simp only []
    rw [e_X_forgetThePast, e_Pl_forget, Option.bind_some, Option.bind_some]
    simp only []
    have f4 : Fr (fun a k => a = 66 ∧ k = 2 ∨ a = 42 ∧ k = 1 ∨ a = 44 ∧ k = 2 ∨ a = 79 ∧ (k = 1 ∨ k = 2)) s3 (wI (wI (wI (wI (wI s3 66 2 0) 42 1 0) 44 2 0) 79 1 0) 79 2 0) := ((((Fr.rf.w (by omega)).w (by omega)).w (by omega)).w (by omega)).w (by omega)
    have w66 : rI (wI (wI (wI (wI (wI s3 66 2 0) 42 1 0) 44 2 0) 79 1 0) 79 2 0) 66 2 = 0 := by simp (disch := omega) only [rI_other, rI_same]
    have w42 : rI (wI (wI (wI (wI (wI s3 66 2 0) 42 1 0) 44 2 0) 79 1 0) 79 2 0) 42 1 = 0 := by simp (disch := omega) only [rI_other, rI_same]
    have w44 : rI (wI (wI (wI (wI (wI s3 66 2 0) 42 1 0) 44 2 0) 79 1 0) 79 2 0) 44 2 = 0 := by simp (disch := omega) only [rI_other, rI_same]
    have w791 : rI (wI (wI (wI (wI (wI s3 66 2 0) 42 1 0) 44 2 0) 79 1 0) 79 2 0) 79 1 = 0 := by simp (disch := omega) only [rI_other, rI_same]
    have w792 : rI (wI (wI (wI (wI (wI s3 66 2 0) 42 1 0) 44 2 0) 79 1 0) 79 2 0) 79 2 = 0 := rI_same _ _ _ _
    generalize wI (wI (wI (wI (wI s3 66 2 0) 42 1 0) 44 2 0) 79 1 0) 79 2 0 = s4 at f4 w66 w42 w44 w791 w792 ⊢
    have f34 : Fr (fun a k => PSt2 a k ∨ a = 66 ∧ k = 2 ∨ a = 42 ∧ k = 1 ∨ a = 44 ∧ k = 2 ∨ a = 79 ∧ (k = 1 ∨ k = 2)) s2 s4 := (f3.mo (fun a k q => Or.inl q)).tr (f4.mo (fun a k q => Or.inr q))
    have X4 : XD s4 o d := (X2.fr f3 (fun a k q => by unfold PSt2 at q; omega)).fr f4 (fun a k q => by omega)
    have z2 : rQ s4 0 2 = o := (f34.q (by unfold PSt2; omega)).trans p2
    refine ⟨s4, ?_, ?_, ⟨(f34.i (by unfold PSt2; omega)).trans v13, (f34.i (by unfold PSt2; omega)).trans v14⟩, (f34.i (by unfold PSt2; omega)).trans v11, ⟨z2, (f34.q (by unfold PSt2; omega)).trans p3⟩, X4, ⟨R3.fr f4 (fun a k q => by omega), ?_⟩, ⟨0, Nat.zero_le _, rfl, w42, fun i hi => absurd hi (Nat.not_lt_zero _)⟩, w66, w44, w791, w792⟩
    · rw [z2, X4.2.1.1]
    · exact ((f1.mo PSo_t).tr (f2.mo P2_t)).tr (f34.mo P34_t)
    · rw [z2]; exact (f4.q (by omega)).trans h28
end XTAB2
