/-! calls: questions, what is heard, images taken -/
section OPTAPE
theorem PXk_l : ∀ a k, PXk a k → a < 84 := fun a k q => by unfold PXk at q; omega
theorem PXk_u : ∀ a k, PXk a k → cUX a k := fun a k q => by
  rcases q with ⟨rfl, q⟩ | rfl | rfl | rfl | ⟨rfl, q⟩ | ⟨rfl, q⟩
  · exact ⟨Or.inl (by decide), by decide⟩
  · exact ⟨Or.inl (by decide), by decide⟩
  · exact ⟨Or.inl (by decide), by decide⟩
  · exact ⟨Or.inl (by decide), by decide⟩
  · exact ⟨Or.inr (by omega), by decide⟩
  · exact ⟨Or.inl (by decide), by decide⟩
theorem PXk_h {r : Nat} (hr : 6 ≤ r ∧ r ≤ 17) : ∀ a k, PXk a k → cHX r a k := fun a k q => by
  rcases q with ⟨rfl, q⟩ | rfl | rfl | rfl | ⟨rfl, q⟩ | ⟨rfl, q⟩
  · exact ⟨by decide, Or.inl (by omega), Or.inl (by decide), Or.inl (by decide), Or.inl (by decide), Or.inl (by decide), by decide, Or.inl (by decide)⟩
  · exact ⟨by decide, Or.inl (by omega), Or.inl (by decide), Or.inl (by decide), Or.inl (by decide), Or.inl (by decide), by decide, Or.inl (by decide)⟩
  · exact ⟨by decide, Or.inl (by omega), Or.inl (by decide), Or.inl (by decide), Or.inl (by decide), Or.inl (by decide), by decide, Or.inl (by decide)⟩
  · exact ⟨by decide, Or.inr (by omega), Or.inl (by decide), Or.inr (by decide), Or.inl (by decide), Or.inl (by decide), by decide, Or.inl (by decide)⟩
  · exact ⟨by decide, Or.inl (by omega), Or.inr (by omega), Or.inl (by decide), Or.inl (by decide), Or.inl (by decide), by decide, Or.inl (by decide)⟩
  · exact ⟨by decide, Or.inl (by omega), Or.inl (by decide), Or.inl (by decide), Or.inl (by decide), Or.inl (by decide), by decide, Or.inl (by decide)⟩
theorem nPXk {a k : Nat} (h : a = 83 ∨ a = 0 ∧ k = 15) : ¬ PXk a k := fun q => by unfold PXk at q; omega
theorem PMk_l : ∀ a k, PMk a k → 84 ≤ a := fun a k q => by unfold PMk at q; omega
theorem PMk_u : ∀ a k, PMk a k → cUM a k := fun a k q => by
  rcases q with ⟨rfl, q⟩ | rfl | rfl | rfl
  · exact ⟨Or.inr (by omega), by decide, Or.inl (by decide)⟩
  all_goals exact ⟨Or.inl (by decide), by decide, Or.inr (Or.inr (by decide))⟩
theorem PMk_h : ∀ a k, PMk a k → cHM a k := fun a k q => by
  rcases q with ⟨rfl, q⟩ | rfl | rfl | rfl
  · exact c84 (by omega)
  all_goals exact ⟨by decide, Or.inl (by decide), Or.inl (by decide), Or.inl (by decide), Or.inl (by decide), Or.inl (by decide), Or.inl (by decide), Or.inl (by decide), by decide, by decide, by decide⟩
theorem nPMk {a k : Nat} (h : a = 84 ∧ (k = 1 ∨ k = 72 ∨ k = 59 ∨ k = 53 ∨ k = 57) ∨ a = 86) : ¬ PMk a k := fun q => by unfold PMk at q; omega
theorem PMk1_l : ∀ a k, PMk1 a k → 84 ≤ a := fun a k q => q.elim (PMk_l a k) (fun q => by omega)
theorem PMk1_u : ∀ a k, PMk1 a k → cUM a k := fun a k q => q.elim (PMk_u a k) (fun q => PTq_u a k (Or.inl q))
theorem PMk1_h : ∀ a k, PMk1 a k → cHM a k := fun a k q => q.elim (PMk_h a k) (fun q => PTq_h a k (Or.inl q))
theorem nPMk1 {a k : Nat} (h : a = 84 ∧ (k = 72 ∨ k = 59 ∨ k = 53 ∨ k = 57) ∨ a = 86) : ¬ PMk1 a k := fun q => q.elim (nPMk (by omega)) (fun q => by omega)
theorem op_ask {F G : Mem → Rs} {s s1 s2 : Mem} {v fa' fb' : Int} (h : Inv s) (hF : F s = some (v, s1)) (f1 : Fr PXk s s1) (hG : G s1 = some (v, s2)) (f2 : Fr PMk1 s1 s2) (x1 : rI s1 0 13 = fa' ∧ rI s1 0 14 = fb') (x3 : rI s1 1 1 = 0) (y1 : rI s2 84 7 = fa' ∧ rI s2 84 8 = fb') (y3 : rI s2 84 1 = 0) : ∃ v s1 s2, F s = some (v, s1) ∧ G s1 = some (v, s2) ∧ Inv s2 := by
  obtain ⟨⟨tp, pc, rf, fa, fb, z, hb, hz, hX, hM, hq⟩, hT⟩ := h
  have hr := hX.r
  have X1 : XB s1 [] pc rf fa' fb' z := hX.up f1 PXk_u (XTp_nil x3) (kp hX.2.2.1 f1 (fun k => nPXk (Or.inl rfl))) x1 ((f1.i (nPXk (Or.inr ⟨rfl, rfl⟩))).trans hX.2.2.2.2.1)
  have M1 := hM.lx f1 PXk_l
  have M2 : MB s2 [] pc rf fa' fb' z := M1.up f2 PMk1_u (MTp_nil y3) (kp M1.2.2.1 f2 (fun k => nPMk1 (Or.inr rfl))) y1 ((f2.i (nPMk1 (by decide))).trans M1.2.2.2.2.1)
  have q2 := (hq.lx f1 PXk_l).fr f2 (nPMk1 (by decide)) (nPMk1 (by decide)) (nPMk1 (by decide))
  exact ⟨v, s1, s2, hF, hG, ⟨[], pc, rf, fa', fb', z, Bys_nil, hz, X1.lm f2 PMk1_l, M2, q2⟩, hlfM (hlfX hT hr f1 (PXk_h hr)) X1.r f2 PMk1_h⟩
theorem o_ask (D : Nat) : Op (f_X_ask (D + 37)) (f_M_ask (D + 37)) := fun s h => by
  obtain ⟨⟨tp, pc, rf, fa, fb, z, hb, hz, hX, hM, hq⟩, hT⟩ := id h
  rcases hT with ⟨nx, h1, h2⟩ | ⟨T, w, K, hc, hf, nx, U, nm, to, ⟨⟨ht, hw, hh, h9⟩, h1⟩, h2, h3, h4⟩
  · have e1 : f_X_ask (D + 37) s = some (-1000000000000000, wI s 1 1 0) := by
      have eh : f_X_hasTable (D + 36) s = some (0, s) := by
        rw [e_X_hasTable, h1.1.1, if_neg (by decide)]
      rw [e_X_ask, eh, Option.bind_some]
      exact if_pos rfl
    have f1 : Fr PXk s (wI s 1 1 0) := Fr.rf.w (Or.inr (Or.inr (Or.inr (Or.inr (Or.inr ⟨rfl, rfl⟩)))))
    have e2 : f_M_ask (D + 37) (wI s 1 1 0) = some (-1000000000000000, wI (wI s 1 1 0) 84 1 0) := by
      rw [e_M_ask, if_pos ((f1.i (fun q => by have := PXk_l _ _ q; omega)).trans h2.1.1)]
    have f2 : Fr PMk1 (wI s 1 1 0) (wI (wI s 1 1 0) 84 1 0) := Fr.rf.w (Or.inr ⟨rfl, rfl⟩)
    refine op_ask h e1 f1 e2 f2 (fa' := fa) (fb' := fb) ?_ (rI_same _ _ _ _) ?_ (rI_same _ _ _ _)
    · exact ⟨(rI_other _ _ _ _ (by decide)).trans hX.2.2.2.1.1, (rI_other _ _ _ _ (by decide)).trans hX.2.2.2.1.2⟩
    · exact ⟨((rI_other _ _ _ _ (by decide)).trans (rI_other _ _ _ _ (by decide))).trans hM.2.2.2.1.1, ((rI_other _ _ _ _ (by decide)).trans (rI_other _ _ _ _ (by decide))).trans hM.2.2.2.1.2⟩
  · have x := x_askQ D h2.1 ht hw hX.1 hb
    have mq : ∀ s1, Fr PXk s s1 → ∃ s0, rI s0 84 1 = 0 ∧ Fr PMk1 s1 s0 ∧ MQs T w (f_M_ask (D + 37) s1) (askP tp (sk tp 0)) s0 := fun s1 f1 => m_askQ (D + 22) (h3.lx f1 PXk_l) ht hw (hM.1.lx f1 PXk_l) hb (hM.2.2.2.2.2.fr2 f1 (fun a k q => Or.inl (Nat.lt_of_lt_of_le (PXk_l a k q) (by decide))))
    cases hP : askP tp (sk tp 0) with
    | inl e =>
      obtain ⟨s1, e1, f1, x1, x2, x3⟩ := x.1 e hP
      obtain ⟨s0, y0, f0, m⟩ := mq s1 f1
      rw [hP] at m
      obtain ⟨s2, e2, f2, y1, y2⟩ := m
      exact op_ask h e1 f1 e2 (f0.tr (f2.mo (fun a k q => Or.inl q))) ⟨x1, x2⟩ x3 ⟨y1, y2⟩ ((f2.i (nPMk (by decide))).trans y0)
    | inr q =>
      obtain ⟨s1, e1, f1, x1, x3⟩ := x.2 q hP
      obtain ⟨s0, y0, f0, m⟩ := mq s1 f1
      rw [hP] at m
      obtain ⟨s2, e2, f2, y1, y2⟩ := m
      exact op_ask h e1 f1 e2 (f0.tr (f2.mo (fun a k q => Or.inl q))) x1 x3 ⟨y1, y2⟩ ((f2.i (nPMk (by decide))).trans y0)
end OPTAPE
