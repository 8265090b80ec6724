/-! calls: tables, questions, what is heard, images taken -/
section OPTAB
/-- where both sides write their acts next -/
theorem get_nx {s : Mem} (h : TZ s ∨ TV s) : ∃ nx : Nat, nx < 20 ∧ rI s 44 1 = (nx : Int) ∧ rI s 84 71 = (nx : Int) := by
  rcases h with ⟨nx, h1, h2⟩ | ⟨T, w, K, hc, hf, nx, U, nm, to, h1, h2, h3, h4⟩
  · exact ⟨nx, h1.2.2.2.2.2.1, h1.2.2.2.2.1, h2.2.2.2.1⟩
  · exact ⟨nx, h2.2.2.2.1.2.1, h2.2.2.2.1.1, h4.2.2.1.1⟩
theorem PXf_l {o : Nat} (ho : o ≤ 17) : ∀ a k, PXf o a k → a < 84 := fun a k q => by unfold PXf at q; omega
theorem PXt_l {o : Nat} (ho : o ≤ 17) : ∀ a k, PXt o a k → a < 84 := fun a k q => by unfold PXt at q; omega
theorem PXf_u {o : Nat} (ho : 6 ≤ o ∧ o ≤ 17) : ∀ a k, PXf o a k → cUX a k := fun a k q => by
  rcases q with ⟨rfl, q⟩ | q | ⟨rfl, q⟩ | ⟨rfl, q⟩ | ⟨rfl, q⟩
  · exact ⟨Or.inl (by decide), by decide⟩
  · exact ⟨Or.inl (by omega), by omega⟩
  · exact ⟨Or.inr (by omega), by decide⟩
  · exact ⟨Or.inl (by decide), by decide⟩
  · exact ⟨Or.inl (by decide), by decide⟩
theorem PXf_h {r o : Nat} (h : r = 6 ∧ o = 17 ∨ r = 17 ∧ o = 6) : ∀ a k, PXf o a k → cHX r a k := fun a k q => by
  rcases q with ⟨rfl, q⟩ | q | ⟨rfl, q⟩ | ⟨rfl, q⟩ | ⟨rfl, q⟩
  · exact ⟨by decide, Or.inl (by omega), Or.inl (by decide), Or.inl (by decide), Or.inl (by decide), Or.inl (by decide), by decide, Or.inl (by decide)⟩
  · exact ⟨by omega, by omega, Or.inl (by omega), Or.inl (by omega), Or.inl (by omega), Or.inl (by omega), by omega, Or.inl (by omega)⟩
  · exact ⟨by decide, Or.inl (by omega), Or.inr (by omega), Or.inl (by decide), Or.inl (by decide), Or.inl (by decide), by decide, Or.inl (by decide)⟩
  · exact ⟨by decide, Or.inl (by omega), Or.inl (by decide), Or.inl (by decide), Or.inl (by decide), Or.inl (by decide), by decide, Or.inl (by decide)⟩
  · exact ⟨by decide, Or.inr (by omega), Or.inl (by decide), Or.inr (by decide), Or.inr (by decide), Or.inl (by decide), by decide, Or.inr (by decide)⟩
theorem nPXf {o a k : Nat} (ho : 6 ≤ o ∧ o ≤ 17) (h : a = 83 ∧ k ≠ 1 ∨ a = 0 ∧ k = 15) : ¬ PXf o a k := fun q => by unfold PXf at q; omega
theorem nPXt {o a k : Nat} (ho : 6 ≤ o ∧ o ≤ 17) (h : a = 83 ∨ a = 0 ∧ (k = 15 ∨ k = 11) ∨ a = 82 ∨ a = 44 ∧ k = 1) : ¬ PXt o a k := fun q => by unfold PXt at q; omega
theorem PMd_l : ∀ a k, PMd a k → 84 ≤ a := fun a k q => by unfold PMd at q; omega
theorem PMg_l : ∀ a k, PMg a k → 84 ≤ a := fun a k q => by
  rcases q with ((q | q) | q) | q
  · exact PMd_l a k q
  · omega
  · omega
  · omega
theorem PMs_l : ∀ a k, PMs a k → 84 ≤ a := fun a k q => by unfold PMs at q; omega
theorem PMd_u : ∀ a k, PMd a k → cUM a k := fun a k q => by
  rcases q with ⟨rfl, q⟩ | q | q | q | q | q | q | q | q | q | q
  · exact ⟨Or.inr (by omega), by decide, Or.inl (by decide)⟩
  all_goals exact ⟨Or.inl (by omega), by omega, by omega⟩
theorem PMg_u : ∀ a k, PMg a k → cUM a k := fun a k q => by
  rcases q with ((q | ⟨rfl, q⟩) | ⟨rfl, q⟩) | ⟨rfl, q⟩
  · exact PMd_u a k q
  all_goals exact ⟨Or.inr (by omega), by decide, Or.inl (by decide)⟩
theorem PMs_u : ∀ a k, PMs a k → cUM a k := fun a k q => by
  rcases q with ⟨rfl, q⟩ | q | q | q | q | q | q
  · exact ⟨Or.inr (by omega), by decide, Or.inl (by decide)⟩
  all_goals exact ⟨Or.inl (by omega), by omega, by omega⟩
theorem PMd_h : ∀ a k, PMd a k → cHM a k := fun a k q => by
  rcases q with ⟨rfl, q⟩ | rfl | rfl | ⟨rfl, q⟩ | ⟨rfl, q⟩ | ⟨rfl, q⟩ | rfl | rfl | ⟨rfl, q⟩ | ⟨rfl, q⟩ | ⟨rfl, q⟩
  · exact ⟨by decide, Or.inr (by omega), Or.inl (by decide), Or.inl (by decide), Or.inl (by decide), Or.inl (by decide), Or.inl (by decide), Or.inl (by decide), by decide, by decide, by decide⟩
  · exact ⟨by decide, Or.inl (by decide), Or.inl (by decide), Or.inl (by decide), Or.inl (by decide), Or.inl (by decide), Or.inl (by decide), Or.inl (by decide), by decide, by decide, by decide⟩
  · exact ⟨by decide, Or.inl (by decide), Or.inl (by decide), Or.inl (by decide), Or.inl (by decide), Or.inl (by decide), Or.inl (by decide), Or.inl (by decide), by decide, by decide, by decide⟩
  · exact ⟨by decide, Or.inl (by decide), Or.inr q, Or.inl (by decide), Or.inl (by decide), Or.inl (by decide), Or.inl (by decide), Or.inl (by decide), by decide, by decide, by decide⟩
  · exact ⟨by decide, Or.inl (by decide), Or.inl (by decide), Or.inr q, Or.inl (by decide), Or.inl (by decide), Or.inl (by decide), Or.inl (by decide), by decide, by decide, by decide⟩
  · exact ⟨by decide, Or.inl (by decide), Or.inl (by decide), Or.inl (by decide), Or.inr q, Or.inl (by decide), Or.inl (by decide), Or.inl (by decide), by decide, by decide, by decide⟩
  · exact ⟨by decide, Or.inl (by decide), Or.inl (by decide), Or.inl (by decide), Or.inl (by decide), Or.inl (by decide), Or.inl (by decide), Or.inl (by decide), by decide, by decide, by decide⟩
  · exact ⟨by decide, Or.inl (by decide), Or.inl (by decide), Or.inl (by decide), Or.inl (by decide), Or.inl (by decide), Or.inl (by decide), Or.inl (by decide), by decide, by decide, by decide⟩
  · exact ⟨by decide, Or.inl (by decide), Or.inl (by decide), Or.inl (by decide), Or.inl (by decide), Or.inr q, Or.inl (by decide), Or.inl (by decide), by decide, by decide, by decide⟩
  · exact ⟨by decide, Or.inl (by decide), Or.inl (by decide), Or.inl (by decide), Or.inl (by decide), Or.inl (by decide), Or.inr q, Or.inl (by decide), by decide, by decide, by decide⟩
  · exact ⟨by decide, Or.inl (by decide), Or.inl (by decide), Or.inl (by decide), Or.inl (by decide), Or.inl (by decide), Or.inl (by decide), Or.inr q, by decide, by decide, by decide⟩
theorem c84 {k : Nat} (h : k ≠ 49 ∧ k ≠ 53 ∧ k ≠ 54 ∧ k ≠ 57 ∧ k ≠ 66 ∧ k ≠ 70 ∧ k ≠ 71) : cHM 84 k := ⟨by decide, Or.inr h, Or.inl (by decide), Or.inl (by decide), Or.inl (by decide), Or.inl (by decide), Or.inl (by decide), Or.inl (by decide), by decide, by decide, by decide⟩
theorem PMg_h : ∀ a k, PMg a k → cHM a k := fun a k q => by
  rcases q with ((q | ⟨rfl, q⟩) | ⟨rfl, q⟩) | ⟨rfl, q⟩
  · exact PMd_h a k q
  all_goals exact c84 (by omega)
theorem nPMd {a k : Nat} (h : a = 84 ∧ (k = 7 ∨ k = 8 ∨ k = 72 ∨ k = 59 ∨ k = 53 ∨ k = 57 ∨ k = 71) ∨ a = 86) : ¬ PMd a k := fun q => by unfold PMd at q; omega
theorem nPMg {a k : Nat} (h : a = 84 ∧ (k = 72 ∨ k = 59 ∨ k = 53 ∨ k = 57 ∨ k = 71) ∨ a = 86) : ¬ PMg a k := fun q => by
  rcases q with ((q | q) | q) | q
  · exact nPMd (by omega) q
  all_goals omega
theorem nPMs {a k : Nat} (h : a = 84 ∧ (k = 72 ∨ k = 59 ∨ k = 53 ∨ k = 57 ∨ k = 71) ∨ a = 86) : ¬ PMs a k := fun q => by unfold PMs at q; omega
theorem MTp_nil {s : Mem} (h : rI s 84 1 = 0) : MTp s [] := ⟨h, Nat.zero_le _, fun i hi => absurd hi (Nat.not_lt_zero _)⟩
theorem Bys_nil : Bys [] := fun i hi => absurd hi (Nat.not_lt_zero _)
abbrev PMg1 : Nat → Nat → Prop := fun a i => PMg a i ∨ a = 86 ∧ i = 1
theorem PMt_l : ∀ a k, PMt a k → 84 ≤ a := fun a k q => q.elim (PMg_l a k) (PMs_l a k)
theorem o_table (D : Nat) : Op (f_X_table (D + 38)) (f_M_table (D + 38)) := fun s h => by
  obtain ⟨⟨tp, pc, rf, fa, fb, z, hb, hz, hX, hM, hq⟩, hT⟩ := h
  have hr := hX.r
  have hro := hX.2.2.2.2.2
  have ho : 6 ≤ rQ s 0 3 ∧ rQ s 0 3 ≤ 17 := by omega
  obtain ⟨nx, n1, n2, n3⟩ := get_nx hT
  have x := x_tableQ D hro rfl rfl hX.1 hb
  generalize rQ s 0 3 = o at hro ho x
  have mq : ∀ s1, Fr LX s s1 → MTp s1 tp ∧ MWs s1 ∧ rI s1 84 53 = -1 ∧ rI s1 84 57 = 0 := fun s1 f1 => ⟨hM.1.lx f1 (fun a k q => q), hM.2.2.2.2.2.fr2 f1 (fun a k q => Or.inl (Nat.lt_of_lt_of_le q (by decide))), (f1.i (by decide)).trans hq.2.1, (f1.i (by decide)).trans hq.2.2⟩
  cases hP : tabP tp with
  | inl e =>
    obtain ⟨s1, e1, f1, x1, x2, x3, x4⟩ := x.1 e hP
    obtain ⟨m1, m2, m3, m4⟩ := mq s1 (f1.mo (PXf_l ho.2))
    obtain ⟨s2, e2, f2, y1, y2, y3, y4⟩ := (m_tableQ (D + 23) m1 hb m2 m3 m4).1 e hP
    refine ⟨_, s1, s2, e1, e2, ?_⟩
    have X1 : XB s1 [] pc (fun j => if j = 1 then w32 (rf 1 + 1) else rf j) e.1 (e.2 : Int) z := hX.up f1 (PXf_u ho) (XTp_nil x3) (kr (by decide) hX.2.2.1 x4 (fun j hj => f1.i (nPXf ho (Or.inl ⟨rfl, hj⟩)))) ⟨x1, x2⟩ ((f1.i (nPXf ho (Or.inr ⟨rfl, rfl⟩))).trans hX.2.2.2.2.1)
    have M1 := hM.lx f1 (PXf_l ho.2)
    have f2l : ∀ a k, PMg1 a k → 84 ≤ a := fun a k q => q.elim (PMg_l a k) (fun q => by omega)
    have M2 : MB s2 [] pc (fun j => if j = 1 then w32 (rf 1 + 1) else rf j) e.1 (e.2 : Int) z := M1.up f2 (fun a k q => q.elim (PMg_u a k) (fun q => R86_u (k := 1) a k q)) (MTp_nil y3) (kr (by decide) M1.2.2.1 y4 (fun j hj => f2.i (fun q => q.elim (nPMg (Or.inr rfl)) (fun q => hj q.2)))) ⟨y1, y2⟩ ((f2.i (fun q => q.elim (nPMg (by omega)) (fun q => by omega))).trans M1.2.2.2.2.1)
    have q2 := (hq.lx f1 (PXf_l ho.2)).fr f2 (fun q => q.elim (nPMg (by omega)) (fun q => by omega)) (fun q => q.elim (nPMg (by omega)) (fun q => by omega)) (fun q => q.elim (nPMg (by omega)) (fun q => by omega))
    exact ⟨⟨[], pc, _, _, _, z, Bys_nil, hz, X1.lm f2 f2l, M2, q2⟩, hlfM (hlfX hT hr f1 (PXf_h hro)) X1.r f2 (fun a k q => q.elim (PMg_h a k) (fun q => R86_h (k := 1) a k q))⟩
  | inr d =>
    have hd := tabP_ok hX.1.2.1 hP
    obtain ⟨s1, e1, f1, ⟨x1, x2⟩, x3, ⟨p1, p2⟩, xd, xm, xk, x66, x44, x791, x792⟩ := x.2 d hP
    obtain ⟨m1, m2, m3, m4⟩ := mq s1 (f1.mo (PXt_l ho.2))
    obtain ⟨s2, e2, f2, ⟨y1, y2⟩, y3, mm, mn, m24, m70, m66⟩ := (m_tableQ (D + 23) m1 hb m2 m3 m4).2 d hP
    refine ⟨_, s1, s2, e1, e2, ?_⟩
    have X1 : XB s1 [] pc rf 0 (-1) z := ⟨XTp_nil x3, ⟨(f1.i (nPXt ho (by omega))).trans hX.2.1.1, hX.2.1.2.1, hX.2.1.2.2.fr3 f1 (fun k => nPXt ho (by omega))⟩, kp hX.2.2.1 f1 (fun k => nPXt ho (Or.inl rfl)), ⟨x1, x2⟩, (f1.i (nPXt ho (by omega))).trans hX.2.2.2.2.1, by rw [p1, p2]; omega⟩
    have M1 := hM.lx f1 (PXt_l ho.2)
    have M2 : MB s2 [] pc rf 0 (-1) z := M1.up f2 (fun a k q => q.elim (PMg_u a k) (PMs_u a k)) (MTp_nil y3) (kp M1.2.2.1 f2 (fun k q => q.elim (nPMg (Or.inr rfl)) (nPMs (Or.inr rfl)))) ⟨y1, y2⟩ ((f2.i (fun q => q.elim (nPMg (by omega)) (nPMs (by omega)))).trans M1.2.2.2.2.1)
    have q2 := (hq.lx f1 (PXt_l ho.2)).fr f2 (fun q => q.elim (nPMg (by omega)) (nPMs (by omega))) (fun q => q.elim (nPMg (by omega)) (nPMs (by omega))) (fun q => q.elim (nPMg (by omega)) (nPMs (by omega)))
    have V1 : XV s1 (dTab d) (dW d) [] 0 (fun _ => 0) nx [] (fun g => (gg d g).1) (dT d) := ⟨xm, xk, ⟨x66, fun i hi => absurd hi (Nat.not_lt_zero _)⟩, ⟨(f1.i (nPXt ho (by omega))).trans n2, n1, x44, Nat.zero_le _, fun i hi => absurd hi (Nat.not_lt_zero _)⟩, ⟨Or.inl x791, Or.inl x792⟩, fun g hg => by rw [p1]; exact (xd.2.2.2.2.1 g hg).1, by rw [p1]; exact xd.2.1.2.2.2⟩
    have r1 : rQ s1 0 2 ≤ 17 := by rw [p1]; exact ho.2
    have n3' : rI s1 84 71 = (nx : Int) := (f1.i (fun q => by have := PXt_l ho.2 _ _ q; omega)).trans n3
    have V2 : XV s2 (dTab d) (dW d) [] 0 (fun _ => 0) nx [] (fun g => (gg d g).1) (dT d) := V1.fr f2 (fun a k q => lm_xv r1 (PMt_l a k q))
    have W2 : MVr s2 (dTab d) [] 0 (fun _ => 0) nx [] (fun g => (gg d g).1) (dT d) := ⟨⟨0, Nat.zero_le _, rfl, m24, fun i hi => absurd hi (Nat.not_lt_zero _)⟩, ⟨m66, fun i hi => absurd hi (Nat.not_lt_zero _)⟩, ⟨(f2.i (fun q => q.elim (nPMg (by omega)) (nPMs (by omega)))).trans n3', n1, m70, Nat.zero_le _, fun i hi => absurd hi (Nat.not_lt_zero _)⟩, mn.1, mn.2⟩
    exact ⟨⟨[], pc, rf, 0, -1, z, Bys_nil, hz, X1.lm f2 PMt_l, M2, q2⟩, Or.inr ⟨_, _, _, _, _, _, _, _, _, ⟨⟨dTab_ok hd, dW_ok hd, dW_Wh hd, by rw [dW_0]; decide⟩, ⟨Nat.zero_le _, fun k hk => absurd hk (Nat.not_lt_zero _)⟩, fun i hi => absurd hi (Nat.not_lt_zero _), fun g hg => (hd.2.1.2.1 g hg).1⟩, V2, mm, W2⟩⟩
end OPTAB
