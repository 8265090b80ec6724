/-! calls: the picture -/
section OPIMG
abbrev PXg : Nat → Nat → Prop := fun a k => a = 82 ∨ a = 0 ∧ k = 11
theorem PXg_l {a k : Nat} (q : PXg a k) : a < 84 := by unfold PXg at q; omega
theorem nPXg {a k : Nat} (h : a = 83 ∨ a = 1 ∨ a = 2 ∨ a = 0 ∧ k ≠ 11) : ¬ PXg a k := fun q => by unfold PXg at q; omega
theorem PXg_h {r a k : Nat} (hr : 6 ≤ r ∧ r ≤ 17) (q : PXg a k) : cHX r a k := by
  rcases q with rfl | ⟨rfl, rfl⟩
  · exact ⟨by decide, Or.inr (by omega), Or.inl (by decide), Or.inr (by decide), Or.inr (by decide), Or.inl (by decide), by decide, Or.inr (by decide)⟩
  · exact ⟨by decide, Or.inl (by omega), Or.inr (by decide), Or.inl (by decide), Or.inl (by decide), Or.inl (by decide), by decide, Or.inl (by decide)⟩
theorem PMi_l {a k : Nat} (q : PMi a k) : 84 ≤ a := by unfold PMi at q; omega
theorem nPMi {a k : Nat} (h : a = 86 ∨ a = 85 ∨ a = 84 ∧ k ≠ 109) : ¬ PMi a k := fun q => by unfold PMi at q; omega
theorem PMi_h {a k : Nat} (q : PMi a k) : cHM a k := by
  rcases q with rfl | ⟨rfl, rfl⟩
  · exact ⟨by decide, Or.inl (by decide), Or.inl (by decide), Or.inl (by decide), Or.inl (by decide), Or.inl (by decide), Or.inl (by decide), Or.inl (by decide), by decide, by decide, by decide⟩
  · exact ⟨by decide, Or.inr (by decide), Or.inl (by decide), Or.inl (by decide), Or.inl (by decide), Or.inl (by decide), Or.inl (by decide), Or.inl (by decide), by decide, by decide, by decide⟩
theorem PMi_w {a k : Nat} (q : PMi a k) : a < 87 ∨ 114 ≤ a ∧ a < 130 ∨ 155 ≤ a := by unfold PMi at q; omega
theorem op_pic {F G : Mem → Rs} {s s1 : Mem} {v : Int} {pc' : List Int} (h : Inv s) (hF : F s = some (v, s1)) (f1 : Fr PXg s s1) (x1 : XPi s1 pc') (hG : ∃ s2, G s1 = some (v, s2) ∧ Fr PMi s1 s2 ∧ MPi s2 pc') : ∃ v s1 s2, F s = some (v, s1) ∧ G s1 = some (v, s2) ∧ Inv s2 := by
  obtain ⟨⟨tp, pc, rf, fa, fb, z, hb, hz, hX, hM, hq⟩, hT⟩ := h
  obtain ⟨s2, e2, f2, x2⟩ := hG
  have hr := hX.r
  have X1 : XB s1 tp pc' rf fa fb z := by
    obtain ⟨a1, -, a3, a4, a5, a6⟩ := hX
    refine ⟨a1.fr3 f1 (nPXg (by decide)) (fun k => nPXg (by omega)), x1, kp a3 f1 (fun k => nPXg (by omega)), ⟨(f1.i (nPXg (by decide))).trans a4.1, (f1.i (nPXg (by decide))).trans a4.2⟩, (f1.i (nPXg (by decide))).trans a5, ?_⟩
    rw [f1.q (nPXg (by decide)), f1.q (nPXg (by decide))]
    exact a6
  have M1 := hM.lx f1 (fun a k q => PXg_l q)
  have M2 : MB s2 tp pc' rf fa fb z := by
    obtain ⟨a1, -, a3, a4, a5, a6⟩ := M1
    exact ⟨⟨(f2.i (nPMi (by decide))).trans a1.1, a1.2.1, a1.2.2.fr3 f2 (fun i => nPMi (by omega))⟩, x2, kp a3 f2 (fun k => nPMi (by omega)), ⟨(f2.i (nPMi (by decide))).trans a4.1, (f2.i (nPMi (by decide))).trans a4.2⟩, (f2.i (nPMi (by decide))).trans a5, a6.fr2 f2 (fun a k q => PMi_w q)⟩
  have q2 := (hq.lx f1 (fun a k q => PXg_l q)).fr f2 (nPMi (by decide)) (nPMi (by decide)) (nPMi (by decide))
  exact ⟨v, s1, s2, hF, e2, ⟨tp, pc', rf, fa, fb, z, hb, hz, X1.lm f2 (fun a k q => PMi_l q), M2, q2⟩, hlfM (hlfX hT hr f1 (fun a k q => PXg_h hr q)) X1.r f2 (fun a k q => PMi_h q)⟩
theorem m_wr (D : Nat) {s : Mem} {j : Nat} (h : rI s 84 109 = (j : Int)) (hj : j < 26) (v : Int) : f_M_writes (D + 1) v s = some (0, wI (wI s 158 j v) 84 109 ((j + 1 : Nat) : Int)) := by
  rw [e_M_writes, h, inB_n hj, Int.toNat_natCast, w32_s (by omega)]
theorem z3_B : Bys [0, 0] := fun i hi => by
  have : i = 0 ∨ i = 1 := by have : i < 2 := hi; omega
  rcases this with rfl | rfl
  all_goals decide
theorem ck3 : ckF 223 [0, 0] = 250 := by decide
theorem ag3 {s : Mem} {p : Nat} (h0 : rI s p 0 = 0) (h1 : rI s p 1 = 0) : Ag s p [0, 0] := fun i hi => by
  have : i = 0 ∨ i = 1 := by have : i < 2 := hi; omega
  rcases this with rfl | rfl
  · exact h0
  · exact h1
theorem ag4 {s : Mem} {p : Nat} (h0 : rI s p 0 = 0) (h1 : rI s p 1 = 0) (h2 : rI s p 2 = 250) : Ag s p [0, 0, 250] := fun i hi => by
  have : i = 0 ∨ i = 1 ∨ i = 2 := by have : i < 3 := hi; omega
  rcases this with rfl | rfl | rfl
  · exact h0
  · exact h1
  · exact h2
theorem x_ck3 (D : Nat) {s : Mem} (h : Ag s 82 [0, 0]) : f_X_checkByte_82 (D + 1) 2 s = some (250, s) := by
  have := x_ck82 D z3_B (by decide) h 2 0 rfl
  rw [ck3] at this
  exact (e_X_checkByte_82 D 2 s).trans this
theorem m_ck3 (D : Nat) {s : Mem} (h : Ag s 158 [0, 0]) : f_M_checked_158 (D + 1) 2 s = some (250, s) := by
  have := m_ck158 D z3_B (by decide) h 2 0 rfl
  rw [ck3] at this
  exact (e_M_checked_158 D 2 s).trans this
theorem x_img0 (D : Nat) {s : Mem} {nx : Nat} (h : XZ s nx) (hr : rQ s 0 2 < 82) : ∃ s1, f_X_image (D + 2) s = some (3, s1) ∧ Fr PXg s s1 ∧ XPi s1 [0, 0, 250] := by
  obtain ⟨⟨a1, a2⟩, ⟨a3, a4⟩, -⟩ := h
  have p1 : f_X_paint (D + 1) 0 0 s = some (1, wI s 82 0 0) := x_paint D s (j := 0) (by decide) 0
  have f1 : Fr PXg s (wI s 82 0 0) := Fr.rf.w (Or.inl rfl)
  have u1 : rI (wI s 82 0 0) 82 0 = 0 := rI_same _ _ _ _
  have z1 : iShr 0 8 = 0 := by decide
  have z2 : iAnd 0 255 = 0 := by decide
  rw [e_X_image, a3, z1, p1, Option.bind_some]
  simp only []
  generalize wI s 82 0 0 = s1 at f1 u1 ⊢
  have p2 : f_X_paint (D + 1) 1 0 s1 = some (2, wI s1 82 1 0) := x_paint D s1 (j := 1) (by decide) 0
  have f2 : Fr PXg s (wI s1 82 1 0) := f1.w (Or.inl rfl)
  have u2 : Ag (wI s1 82 1 0) 82 [0, 0] := ag3 ((rI_other _ _ _ _ (by decide)).trans u1) (rI_same _ _ _ _)
  rw [f1.i (by decide : ¬ PXg 28 1), a3, z2, p2, Option.bind_some]
  simp only []
  generalize wI s1 82 1 0 = s2 at f2 u2 ⊢
  have eq : rQ s2 0 2 = rQ s 0 2 := f2.q (by decide)
  have e1 : rI s2 (rQ s2 0 2) 1 = 0 := by rw [eq, f2.i (fun q => by unfold PXg at q; have : rQ s 0 2 ≠ 0 ∨ (1 : Nat) ≠ 11 := Or.inr (by decide); omega), a1]
  have e2 : rI s2 (rQ s2 0 2) 2 = 0 := by rw [eq, f2.i (fun q => by unfold PXg at q; omega), a2]
  rw [e_X_image_35, e1, if_neg (by decide), e_X_image_71, e2, if_neg (by decide), e_X_image_124, x_ck3 D u2, Option.bind_some]
  simp only []
  have p3 : f_X_paint (D + 1) 2 250 s2 = some (3, wI s2 82 2 250) := x_paint D s2 (j := 2) (by decide) 250
  rw [p3, Option.bind_some]
  refine ⟨_, rfl, (f2.w (Or.inl rfl)).w (Or.inr ⟨rfl, rfl⟩), rI_same _ _ _ _, by decide, ?_⟩
  refine ag4 ?_ ?_ ?_
  · rw [rI_other _ _ _ _ (by decide), rI_other _ _ _ _ (by decide)]
    exact u2 0 (by decide)
  · rw [rI_other _ _ _ _ (by decide), rI_other _ _ _ _ (by decide)]
    exact u2 1 (by decide)
  · rw [rI_other _ _ _ _ (by decide), rI_same]
theorem m_img0 (D : Nat) {s : Mem} {nx : Nat} (h : MZ s nx) : ∃ s1, f_M_image (D + 2) s = some (3, s1) ∧ Fr PMi s s1 ∧ MPi s1 [0, 0, 250] := by
  obtain ⟨⟨-, a1, a2⟩, a3, -⟩ := h
  have a4 := a3 0 (by decide)
  have z1 : iDiv 0 256 = 0 := by decide
  have z2 : iRem 0 256 = 0 := by decide
  have f0 : Fr PMi s (wI s 84 109 0) := Fr.rf.w (Or.inr ⟨rfl, rfl⟩)
  have u0 : rI (wI s 84 109 0) 84 109 = 0 := rI_same _ _ _ _
  rw [e_M_image, a4, z1]
  generalize wI s 84 109 0 = s0 at f0 u0 ⊢
  rw [m_wr D (j := 0) u0 (by decide), Option.bind_some]
  simp only []
  have f1 : Fr PMi s (wI (wI s0 158 0 0) 84 109 ((0 + 1 : Nat) : Int)) := (f0.w (Or.inl rfl)).w (Or.inr ⟨rfl, rfl⟩)
  have u1 : rI (wI (wI s0 158 0 0) 84 109 ((0 + 1 : Nat) : Int)) 84 109 = ((1 : Nat) : Int) := rI_same _ _ _ _
  have v1 : rI (wI (wI s0 158 0 0) 84 109 ((0 + 1 : Nat) : Int)) 158 0 = 0 := (rI_other _ _ _ _ (by decide)).trans (rI_same _ _ _ _)
  generalize wI (wI s0 158 0 0) 84 109 ((0 + 1 : Nat) : Int) = s1 at f1 u1 v1 ⊢
  rw [f1.i (by decide : ¬ PMi 122 0), a4, z2, m_wr D (j := 1) u1 (by decide), Option.bind_some]
  simp only []
  have f2 : Fr PMi s (wI (wI s1 158 1 0) 84 109 ((1 + 1 : Nat) : Int)) := (f1.w (Or.inl rfl)).w (Or.inr ⟨rfl, rfl⟩)
  have u2 : rI (wI (wI s1 158 1 0) 84 109 ((1 + 1 : Nat) : Int)) 84 109 = ((2 : Nat) : Int) := rI_same _ _ _ _
  have v2 : Ag (wI (wI s1 158 1 0) 84 109 ((1 + 1 : Nat) : Int)) 158 [0, 0] := ag3 ((rI_other _ _ _ _ (by decide)).trans ((rI_other _ _ _ _ (by decide)).trans v1)) ((rI_other _ _ _ _ (by decide)).trans (rI_same _ _ _ _))
  generalize wI (wI s1 158 1 0) 84 109 ((1 + 1 : Nat) : Int) = s2 at f2 u2 v2 ⊢
  have w20 : w32 (2 * 0) = 0 := by decide
  rw [e_M_image_35, e_M_seatMany, Option.bind_some]
  simp only []
  rw [f2.i (by decide : ¬ PMi 114 3), a1, if_neg (by decide), e_M_image_63, e_M_guestMany, Option.bind_some]
  simp only []
  have ck : f_M_checked_158 (D + 1) ((2 : Nat) : Int) s2 = some (250, s2) := m_ck3 D v2
  rw [f2.i (by decide : ¬ PMi 114 4), a2, w20, if_neg (by decide), u2, ck, Option.bind_some]
  simp only []
  rw [m_wr D (j := 2) u2 (by decide), Option.bind_some]
  simp only []
  rw [rI_same]
  refine ⟨_, rfl, (f2.w (Or.inl rfl)).w (Or.inr ⟨rfl, rfl⟩), rI_same _ _ _ _, by decide, ?_⟩
  refine ag4 ?_ ?_ ?_
  · rw [rI_other _ _ _ _ (by decide), rI_other _ _ _ _ (by decide)]
    exact v2 0 (by decide)
  · rw [rI_other _ _ _ _ (by decide), rI_other _ _ _ _ (by decide)]
    exact v2 1 (by decide)
  · rw [rI_other _ _ _ _ (by decide), rI_same]
theorem o_image (D : Nat) : Op (f_X_image (D + 2)) (f_M_image (D + 2)) := fun s h => by
  obtain ⟨hB, hT⟩ := id h
  rcases hT with ⟨nx, h1, h2⟩ | ⟨T, w, K, hc, hf, nx, U, nm, to, hp, h2, h3, h4⟩
  · obtain ⟨tp, pc, rf, fa, fb, z, -, -, hX, -⟩ := hB
    have hr := hX.r
    obtain ⟨s1, e1, f1, p1⟩ := x_img0 D h1 (by omega)
    exact op_pic h e1 f1 p1 (m_img0 D (h2.fr f1 (fun a k q => lx_mz (PXg_l q))))
  · obtain ⟨ht, hw, hh, h9⟩ := hp.1
    obtain ⟨s1, e1, f1, p1⟩ := x_image D h2.1 ht hw h9
    exact op_pic h e1 f1 p1 (m_image D (h3.lx f1 (fun a k q => PXg_l q)) ht hw h9)
end OPIMG
