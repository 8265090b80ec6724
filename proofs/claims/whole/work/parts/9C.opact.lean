/-! calls: acts -/
section OPACT
abbrev PXc : Nat → Nat → Prop := fun a k => a = 0 ∧ k = 15 ∨ 28 ≤ a ∧ a ≤ 34 ∧ (a = 28 → 1 ≤ k) ∨ a = 42 ∧ k = 1 ∨ a = 43 ∨ a = 44 ∧ (k = 1 ∨ k = 2) ∨ 46 ≤ a ∧ a ≤ 65 ∨ a = 79
abbrev PMx : Nat → Nat → Prop := fun a i => PMa a i ∨ a = 84 ∧ i = 72
theorem PXc_l {a k : Nat} (q : PXc a k) : a < 84 := by unfold PXc at q; omega
theorem PXc_u {a k : Nat} (q : PXc a k) : cUX a k := by unfold PXc at q; unfold cUX; omega
theorem nPXc {a k : Nat} (h : a = 83 ∨ a = 1 ∨ a = 2 ∨ a = 66 ∨ a = 67 ∨ a = 0 ∧ k ≠ 15) : ¬ PXc a k := fun q => by unfold PXc at q; omega
theorem PXc_n {r a k : Nat} (hr : 6 ≤ r ∧ r ≤ 17) (q : PXc a k) : (a < r ∨ r + 10 < a) ∧ (a ≠ 0 ∨ k ≠ 2) := by unfold PXc at q; omega
theorem PXc_h {a k : Nat} (q : PXc a k) : (a ≠ 66 ∨ k ≠ 2) ∧ a ≠ 67 := by unfold PXc at q; omega
theorem PMx_l {a k : Nat} (q : PMx a k) : 84 ≤ a := by
  rcases q with q | q
  · unfold PMa at q; omega
  · omega
theorem PMx_u {a k : Nat} (q : PMx a k) : cUM a k := by
  rcases q with q | q
  · unfold PMa at q; unfold cUM; omega
  · unfold cUM; omega
theorem nPMx {a k : Nat} (h : a = 86 ∨ a = 85 ∨ a = 84 ∧ (k = 1 ∨ k = 7 ∨ k = 8 ∨ k = 66) ∨ a = 127 ∨ a = 115 ∨ a = 114) : ¬ PMx a k := fun q => by
  rcases q with q | q
  · unfold PMa at q; omega
  · omega
theorem op_act {F G : Mem → Rs} {s s1 s2 : Mem} {v z' : Int} {tp pc : List Int} {rf : Nat → Int} {fa fb z : Int} {T : Tab} {w w' : Nat → Int} {K K' : List Int} {hc : Nat} {hf : Nat → Int} {nx nx' : Nat} {U U' : UL} {nm : Nat → List Int} {to : Int} (hb : Bys tp) (hX : XB s tp pc rf fa fb z) (hM : MB s tp pc rf fa fb z) (hq : MQk s) (hp : PV T w' hc hf U' nm) (h2 : XV s T w K hc hf nx U nm to) (h4 : MVr s T K hc hf nx U nm to) (hF : F s = some (v, s1)) (f1 : Fr PXc s s1) (x1 : XM s1 T w') (x2 : KX s1 K') (x3 : XU s1 T nx' U') (x4 : rI s1 79 1 = 0 ∧ rI s1 79 2 = 0) (z1 : rI s1 0 15 = z') (hz : 0 ≤ z' ∧ z' < 2147483648) (hG : G s1 = some (v, s2)) (f2 : Fr PMx s1 s2) (m1 : MM s2 T w') (m2 : MK s2 K') (m3 : MU s2 nx' U') (m4 : bsOk s2) (z2 : rI s2 84 72 = z') : ∃ v s1 s2, F s = some (v, s1) ∧ G s1 = some (v, s2) ∧ Inv s2 := by
  obtain ⟨v1, v2, v3, v4, -, v7, v8⟩ := h2
  have hr := hX.r
  have X1 : XB s1 tp pc rf fa fb z' := hX.up f1 (fun a k q => PXc_u q) (hX.1.fr3 f1 (nPXc (by decide)) (fun k => nPXc (by omega))) (kp hX.2.2.1 f1 (fun k => nPXc (by omega))) ⟨(f1.i (nPXc (by decide))).trans hX.2.2.2.1.1, (f1.i (nPXc (by decide))).trans hX.2.2.2.1.2⟩ z1
  have M1 := hM.lx f1 (fun a k q => PXc_l q)
  have M2 : MB s2 tp pc rf fa fb z' := M1.up f2 (fun a k q => PMx_u q) ⟨(f2.i (nPMx (by decide))).trans M1.1.1, M1.1.2.1, M1.1.2.2.fr3 f2 (fun i => nPMx (by omega))⟩ (kp M1.2.2.1 f2 (fun k => nPMx (by omega))) ⟨(f2.i (nPMx (by decide))).trans M1.2.2.2.1.1, (f2.i (nPMx (by decide))).trans M1.2.2.2.1.2⟩ z2
  obtain ⟨g7, g8⟩ := XNm.fr3 rfl v7 v8 f1 (fun a k q => PXc_n hr q)
  have V1 : XV s1 T w' K' hc hf nx' U' nm to := ⟨x1, x2, v3.fr f1 (fun a k q => PXc_h q), x3, ⟨Or.inl x4.1, Or.inl x4.2⟩, g7, g8⟩
  obtain ⟨c1, c2, c3, c4, c5⟩ := h4.fr f1 (fun a k q => lx_mv (PXc_l q))
  have W2 : MVr s2 T K' hc hf nx' U' nm to := ⟨m2, c2.fr f2 (fun a i q => ⟨by
    rcases Classical.em (a = 84 ∧ i = 66) with ⟨e1, e2⟩ | e
    · rw [e1, e2] at q; exact absurd q (nPMx (by decide))
    · omega, fun e => nPMx (by omega) q⟩), m3, fun g hg => (f2.i (nPMx (by omega))).trans (c4 g hg), (f2.i (nPMx (by omega))).trans c5⟩
  obtain ⟨bs, b1, b2⟩ := m4
  exact ⟨v, s1, s2, hF, hG, ⟨tp, pc, rf, fa, fb, z', hb, hz, X1.lm f2 (fun a k q => PMx_l q), M2, ⟨bs, b1, b2⟩, m1.2.2.2.1, m1.2.2.2.2⟩, Or.inr ⟨T, w', K', hc, hf, nx', U', nm, to, hp, V1.fr f2 (fun a k q => lm_xv X1.r.2 (PMx_l q)), m1, W2⟩⟩
theorem XAct.f {s s1 : Mem} {T : Tab} {w : Nat → Int} {K : List Int} {nx : Nat} {U : UL} (h : XAct s s1 T w K nx U) : Fr PXc s s1 := h.1.mo (fun a k q => Or.inr q)
theorem XAct.z {s s1 : Mem} {T : Tab} {w : Nat → Int} {K : List Int} {nx : Nat} {U : UL} (h : XAct s s1 T w K nx U) : rI s1 0 15 = rI s 0 15 := h.1.i (fun q => by omega)
theorem MAct.z {s s1 : Mem} {T : Tab} {w : Nat → Int} {K : List Int} {nx : Nat} {U : UL} (h : MAct s s1 T w K nx U) : rI s1 84 72 = rI s 84 72 := h.1.i (fun q => by unfold PMa at q; omega)
/-- an act without a draw -/
theorem op_actA {F G : Mem → Rs} {s s1 : Mem} {v : Int} {T : Tab} {w w' : Nat → Int} {K K' : List Int} {hc : Nat} {hf : Nat → Int} {nx nx' : Nat} {U U' : UL} {nm : Nat → List Int} {to : Int} (hB : Bas s) (hp : PV T w' hc hf U' nm) (h2 : XV s T w K hc hf nx U nm to) (h4 : MVr s T K hc hf nx U nm to) (hF : F s = some (v, s1)) (x : XAct s s1 T w' K' nx' U') (hG : ∃ s2, G s1 = some (v, s2) ∧ MAct s1 s2 T w' K' nx' U') : ∃ v s1 s2, F s = some (v, s1) ∧ G s1 = some (v, s2) ∧ Inv s2 := by
  obtain ⟨tp, pc, rf, fa, fb, z, hb, hz, hX, hM, hq⟩ := hB
  obtain ⟨s2, e2, m⟩ := hG
  have z1 : rI s1 84 72 = z := (hM.lx x.f (fun a k q => PXc_l q)).2.2.2.2.1
  exact op_act hb hX hM hq hp h2 h4 hF x.f x.2.1 x.2.2.1 x.2.2.2.1 x.2.2.2.2 (x.z.trans hX.2.2.2.2.1) hz e2 (m.1.mo (fun a k q => Or.inl q)) m.2.1 m.2.2.1 m.2.2.2.1 m.2.2.2.2 (m.z.trans z1)
theorem MQk.ok {s s1 : Mem} {P : Nat → Nat → Prop} (h : MQk s) (f1 : Fr P s s1) (hl : ∀ a k, P a k → a < 84) : bsOk s1 := by
  obtain ⟨⟨bs, b1, b2⟩, -⟩ := h.lx f1 hl
  exact ⟨bs, b1, b2⟩
theorem m_chg0 (D : Nat) (s : Mem) (b c : Int) : f_M_isChanged (D + 1) 0 b c s = some (0, wI s 86 2 (w32 (rI s 86 2 + 1))) := by rw [e_M_isChanged, if_pos rfl, m_ref14]
theorem PV.w {T : Tab} {w w' : Nat → Int} {hc : Nat} {hf : Nat → Int} {U : UL} {nm : Nat → List Int} {K : List Int} (hp : PV T w hc hf U nm) (h1 : Wf T w') (h2 : Wh T w') (h3 : w' 0 ≤ 999) : PV T w' hc hf (((w, K) :: U).take 20) nm := ⟨⟨hp.1.1, h1, h2, h3⟩, hp.2.1, hp.2.2.1.push hp.1.2.1 hp.1.2.2.2 hp.1.2.2.1, hp.2.2.2⟩
theorem Wh.up {T : Tab} {w : Nat → Int} (h : Wh T w) {i : Nat} {v : Int} (hi : i < 1 + tN T ∨ 10 ≤ i) : Wh T (upW w i v) := fun q h1 h2 => by
  rw [upW_o (by omega)]
  exact h q h1 h2
theorem o_drive (D : Nat) (a b : Int) : Op (f_X_drive (D + 4) a b) (f_M_drive (D + 4) a b) := fun s h => by
  obtain ⟨hB, hT⟩ := id h
  rcases hT with ⟨nx, h1, h2⟩ | ⟨T, w, K, hc, hf, nx, U, nm, to, hp, h2, h3, h4⟩
  · refine op_ref (v := 0) h (k := 2) (by decide) ?_ (fun s1 f1 => ?_)
    · have href : f_X_refuse (D + 3) 2 s = some (0, wI s 83 2 (w32 (rI s 83 2 + 1))) := x_ref (D + 2) s (k := 2) (by decide)
      rw [e_X_drive, x_isS0 (D + 2) h1.1.1, Option.bind_some]
      simp only []
      rw [if_pos trivial, href, Option.bind_some]
    · rw [e_M_drive, m_isS0 (D + 1) ((h2.fr f1 (fun a k q => lx_mz (R83_l a k q))).1.2.1), Option.bind_some]
      simp only []
      rw [if_pos trivial, e_M_drive_23, if_pos rfl, m_chg0 (D + 2), Option.bind_some]
      exact if_pos (Or.inl rfl)
  · obtain ⟨ht, hw, hh, h9⟩ := hp.1
    have hq : MQk s := by obtain ⟨tp, pc, rf, fa, fb, z, -, -, -, -, hq⟩ := hB; exact hq
    have x := x_drive D h2.1 ht hw h2.2.1 h2.2.2.2.1 a b
    by_cases c : cDrive T w a b
    · obtain ⟨s1, e1, x1⟩ := x.1 c
      have hl : ∀ a k, PXc a k → a < 84 := fun a k q => PXc_l q
      have w4 := h4.fr x1.f (fun a k q => lx_mv (hl a k q))
      have k9 : a.toNat < tN T := by have := c.1; omega
      have n9 := ht.2.1
      refine op_actA hB (hp.w (hw.drive (by omega) c.2.1) (hh.up (Or.inl (by omega))) ?_) h2 h4 e1 x1 ((m_drive D (h3.lx x1.f hl) ht w4.1 w4.2.2.1 (hq.ok x1.f hl) a b).1 c)
      rw [upW_o (by omega)]
      exact h9
    · refine op_ref h (k := 2) (by decide) (x.2 c) (fun s1 f1 => ?_)
      have w4 := h4.fr f1 (fun a k q => lx_mv (R83_l a k q))
      exact (m_drive D (h3.lx f1 R83_l) ht w4.1 w4.2.2.1 (hq.ok f1 R83_l) a b).2 c
theorem o_sit (D : Nat) (a b : Int) : Op (f_X_sit (D + 4) a b) (f_M_sit (D + 4) a b) := fun s h => by
  obtain ⟨hB, hT⟩ := id h
  rcases hT with ⟨nx, h1, h2⟩ | ⟨T, w, K, hc, hf, nx, U, nm, to, hp, h2, h3, h4⟩
  · refine op_ref (v := 0) h (k := 2) (by decide) ?_ (fun s1 f1 => ?_)
    · have href : f_X_refuse (D + 3) 2 s = some (0, wI s 83 2 (w32 (rI s 83 2 + 1))) := x_ref (D + 2) s (k := 2) (by decide)
      rw [e_X_sit, x_isG0 (D + 2) h1.1.2, Option.bind_some]
      simp only []
      rw [if_pos trivial, href, Option.bind_some]
    · rw [e_M_sit, m_isG0 (D + 1) ((h2.fr f1 (fun a k q => lx_mz (R83_l a k q))).1.2.2), Option.bind_some]
      simp only []
      rw [if_pos trivial, e_M_sit_31, if_pos rfl, m_chg0 (D + 2), Option.bind_some]
      exact if_pos (Or.inl rfl)
  · obtain ⟨ht, hw, hh, h9⟩ := hp.1
    have hq : MQk s := by obtain ⟨tp, pc, rf, fa, fb, z, -, -, -, -, hq⟩ := hB; exact hq
    have x := x_sit D h2.1 ht hw h2.2.1 h2.2.2.2.1 a b
    by_cases c : cSit T w a b
    · obtain ⟨s1, e1, x1⟩ := x.1 c
      have hl : ∀ a k, PXc a k → a < 84 := fun a k q => PXc_l q
      have w4 := h4.fr x1.f (fun a k q => lx_mv (hl a k q))
      have k9 : a.toNat < tG T := by have := c.1; omega
      refine op_actA hB (hp.w (hw.se (sit_se hw k9 c.2.1 c.2.2)) (hh.up (Or.inr (by omega))) ?_) h2 h4 e1 x1 ((m_sit D (h3.lx x1.f hl) ht hw w4.1 w4.2.2.1 (hq.ok x1.f hl) a b).1 c)
      rw [upW_o (by omega)]
      exact h9
    · refine op_ref h (k := 2) (by decide) (x.2 c) (fun s1 f1 => ?_)
      have w4 := h4.fr f1 (fun a k q => lx_mv (R83_l a k q))
      exact (m_sit D (h3.lx f1 R83_l) ht hw w4.1 w4.2.2.1 (hq.ok f1 R83_l) a b).2 c
theorem o_say (D : Nat) (a b : Int) : Op (f_X_say (D + 4) a b) (f_M_say (D + 4) a b) := fun s h => by
  obtain ⟨hB, hT⟩ := id h
  rcases hT with ⟨nx, h1, h2⟩ | ⟨T, w, K, hc, hf, nx, U, nm, to, hp, h2, h3, h4⟩
  · refine op_ref (v := 0) h (k := 2) (by decide) ?_ (fun s1 f1 => ?_)
    · have href : f_X_refuse (D + 3) 2 s = some (0, wI s 83 2 (w32 (rI s 83 2 + 1))) := x_ref (D + 2) s (k := 2) (by decide)
      rw [e_X_say, x_isG0 (D + 2) h1.1.2, Option.bind_some]
      simp only []
      rw [if_pos trivial, href, Option.bind_some]
    · rw [e_M_say, m_isG0 (D + 1) ((h2.fr f1 (fun a k q => lx_mz (R83_l a k q))).1.2.2), Option.bind_some]
      simp only []
      rw [if_pos trivial, e_M_say_26, if_pos rfl, m_chg0 (D + 2), Option.bind_some]
      exact if_pos (Or.inl rfl)
  · obtain ⟨ht, hw, hh, h9⟩ := hp.1
    have hq : MQk s := by obtain ⟨tp, pc, rf, fa, fb, z, -, -, -, -, hq⟩ := hB; exact hq
    have x := x_say D h2.1 ht h2.2.1 h2.2.2.2.1 a b
    by_cases c : cSay T w a b
    · obtain ⟨s1, e1, x1⟩ := x.1 c
      have hl : ∀ a k, PXc a k → a < 84 := fun a k q => PXc_l q
      have w4 := h4.fr x1.f (fun a k q => lx_mv (hl a k q))
      refine op_actA hB (hp.w (hw.upd c.2.1) (hh.up (Or.inr (by omega))) ?_) h2 h4 e1 x1 ((m_say D (h3.lx x1.f hl) ht w4.1 w4.2.2.1 (hq.ok x1.f hl) a b).1 c)
      rw [upW_o (by omega)]
      exact h9
    · refine op_ref h (k := 2) (by decide) (x.2 c) (fun s1 f1 => ?_)
      have w4 := h4.fr f1 (fun a k q => lx_mv (R83_l a k q))
      exact (m_say D (h3.lx f1 R83_l) ht w4.1 w4.2.2.1 (hq.ok f1 R83_l) a b).2 c
theorem o_minutes (D : Nat) (a : Int) : Op (f_X_minutes (D + 12) a) (f_M_minutes (D + 12) a) := fun s h => by
  obtain ⟨hB, hT⟩ := id h
  rcases hT with ⟨nx, h1, h2⟩ | ⟨T, w, K, hc, hf, nx, U, nm, to, hp, h2, h3, h4⟩
  · refine op_ref (v := -1) h (k := 3) (by decide) ?_ (fun s1 f1 => ?_)
    · have href : f_X_refuse (D + 11) 3 s = some (0, wI s 83 3 (w32 (rI s 83 3 + 1))) := x_ref (D + 10) s (k := 3) (by decide)
      rw [e_X_minutes, x_can0 (D + 9) h1.1.1, Option.bind_some]
      simp only []
      rw [if_pos trivial, href, Option.bind_some]
    · have href : f_M_refuses (D + 11) 3 s1 = some (-1, wI s1 86 3 (w32 (rI s1 86 3 + 1))) := m_refs (D + 10) s1 (k := 3) (by decide)
      rw [e_M_minutes, m_can0 (D + 10) ((h2.fr f1 (fun a k q => lx_mz (R83_l a k q))).1.1), Option.bind_some]
      simp only []
      rw [if_pos trivial, href, Option.bind_some]
  · obtain ⟨ht, hw, hh, h9⟩ := hp.1
    have hq : MQk s := by obtain ⟨tp, pc, rf, fa, fb, z, -, -, -, -, hq⟩ := hB; exact hq
    have x := x_minutes (D + 5) h2.1 ht hw h2.2.1 h2.2.2.2.1 a
    by_cases c : cpc w a 1 100
    · obtain ⟨s1, e1, x1⟩ := x.1 c
      have hl : ∀ a k, PXc a k → a < 84 := fun a k q => PXc_l q
      have w4 := h4.fr x1.f (fun a k q => lx_mv (hl a k q))
      have c3 : w 0 + a.toNat ≤ 999 := by have := c.1; have := c.2.2; omega
      obtain ⟨g1, g2, g3, -⟩ := mns_w a.toNat hw (by omega)
      exact op_actA hB (hp.w g1 (fun q q1 q2 => (g3 q q2).trans (hh q q1 q2)) (by omega)) h2 h4 e1 x1 ((m_minutes D (h3.lx x1.f hl) ht hw w4.1 w4.2.2.1 (hq.ok x1.f hl) a).1 c)
    · refine op_ref h (k := 3) (by decide) (x.2 c) (fun s1 f1 => ?_)
      have w4 := h4.fr f1 (fun a k q => lx_mv (R83_l a k q))
      exact (m_minutes D (h3.lx f1 R83_l) ht hw w4.1 w4.2.2.1 (hq.ok f1 R83_l) a).2 c
theorem chF_w (T : Tab) (to : Int) : ∀ (n : Nat) (w : Nat → Int) (z : Int) (K : List Int), Wf T w → w 0 + n ≤ 1100 → Wf T (chF T to n w z K).2.1 ∧ (chF T to n w z K).2.1 0 = w 0 + n ∧ ∀ q, q < 9 → (chF T to n w z K).2.1 (1 + q) = w (1 + q)
  | 0, w, z, K, hw, _ => ⟨hw, by show w 0 = w 0 + ((0 : Nat) : Int); omega, fun _ _ => rfl⟩
  | n + 1, w, z, K, hw, h => by
    obtain ⟨t1, t2, t3, -⟩ := tst_w (to := to) (z := z) hw
    obtain ⟨m1, m2, -⟩ := mnt_sw t1
    have m3 := mnt_w t1 (by omega)
    obtain ⟨g1, g2, g3⟩ := chF_w T to n (mnt T (tst T to w z).2.1).1 (tst T to w z).2.2 (kads K (w 0) (mnt T (tst T to w z).2.1).2) m3 (by omega)
    rw [chF_s]
    refine ⟨g1, ?_, fun q hq => (g3 q hq).trans ((m2 q hq).trans (t3.2.1 q hq))⟩
    refine g2.trans ?_
    rw [m1, t2]
    omega
theorem o_chance (D : Nat) (a : Int) : Op (f_X_chance (D + 12) a) (f_M_chance (D + 12) a) := fun s h => by
  obtain ⟨hB, hT⟩ := id h
  rcases hT with ⟨nx, h1, h2⟩ | ⟨T, w, K, hc, hf, nx, U, nm, to, hp, h2, h3, h4⟩
  · refine op_ref (v := -1) h (k := 3) (by decide) ?_ (fun s1 f1 => ?_)
    · have href : f_X_refuse (D + 11) 3 s = some (0, wI s 83 3 (w32 (rI s 83 3 + 1))) := x_ref (D + 10) s (k := 3) (by decide)
      rw [e_X_chance, x_can0 (D + 9) h1.1.1, Option.bind_some]
      simp only []
      rw [if_pos trivial, href, Option.bind_some]
    · have href : f_M_refuses (D + 11) 3 s1 = some (-1, wI s1 86 3 (w32 (rI s1 86 3 + 1))) := m_refs (D + 10) s1 (k := 3) (by decide)
      rw [e_M_chance, m_can0 (D + 10) ((h2.fr f1 (fun a k q => lx_mz (R83_l a k q))).1.1), Option.bind_some]
      simp only []
      rw [if_pos trivial, href, Option.bind_some]
  · obtain ⟨ht, hw, hh, h9⟩ := hp.1
    obtain ⟨tp, pc, rf, fa, fb, z, hb, hz, hX, hM, hq⟩ := hB
    have x := x_chance (D + 6) h2.1 ht hw h2.2.1 h2.2.2.2.1 h2.2.2.2.2.2.2 hX.2.2.2.2.1 hz a
    by_cases c : cpc w a 1 100
    · obtain ⟨s1, e1, f1, a1, a2, a3, a4, a5, a6, a7⟩ := x.1 c
      have hl : ∀ a k, PXc a k → a < 84 := fun a k q => PXc_l q
      have w4 := h4.fr f1 (fun a k q => lx_mv (hl a k q))
      have c3 : w 0 + a.toNat ≤ 999 := by have := c.1; have := c.2.2; omega
      obtain ⟨g1, g2, g3⟩ := chF_w T to a.toNat w z K hw (by omega)
      have M1 := hM.lx f1 hl
      obtain ⟨s2, e2, f2, b1, b2, b3, b4, b5⟩ := (m_chance (D + 1) (h3.lx f1 hl) ht hw w4.1 w4.2.2.1 (hq.ok f1 hl) w4.2.2.2.2 M1.2.2.2.2.1 hz a).1 c
      exact op_act hb hX hM hq (hp.w g1 (fun q q1 q2 => (g3 q q2).trans (hh q q1 q2)) (by omega)) h2 h4 e1 f1 a1 a2 a3 ⟨a4, a5⟩ a6 a7 e2 f2 b1 b2 b3 b4 b5
    · refine op_ref h (k := 3) (by decide) (x.2 c) (fun s1 f1 => ?_)
      have w4 := h4.fr f1 (fun a k q => lx_mv (R83_l a k q))
      exact (m_chance (D + 1) (h3.lx f1 R83_l) ht hw w4.1 w4.2.2.1 (hq.ok f1 R83_l) w4.2.2.2.2 (hM.lx f1 R83_l).2.2.2.2.1 hz a).2 c
theorem o_undo (D : Nat) : Op (f_X_undo (D + 3)) (f_M_undo (D + 3)) := fun s h => by
  obtain ⟨hB, hT⟩ := id h
  have bad : rI s 44 2 = 0 → rI s 84 70 = 0 → ∃ v s1 s2, f_X_undo (D + 3) s = some (v, s1) ∧ f_M_undo (D + 3) s1 = some (v, s2) ∧ Inv s2 := fun n1 n2 => op_ref h (k := 4) (by decide) (x_undo0 (D + 1) n1) (fun s1 f1 => m_undo0 (D + 1) ((f1.i (fun q => by have := R83_l _ _ q; omega)).trans n2))
  rcases hT with ⟨nx, h1, h2⟩ | ⟨T, w, K, hc, hf, nx, U, nm, to, hp, h2, h3, h4⟩
  · exact bad h1.2.2.2.2.2.2 h2.2.2.2.2
  · obtain ⟨ht, hw, hh, h9⟩ := hp.1
    have hq : MQk s := by obtain ⟨tp, pc, rf, fa, fb, z, -, -, -, -, hq⟩ := hB; exact hq
    cases U with
    | nil => exact bad h2.2.2.2.1.2.2.1 h4.2.2.1.2.2.1
    | cons u U =>
      obtain ⟨u1, u2, u3⟩ := hp.2.2.1 0 (by show 0 < U.length + 1; omega)
      have u4 : UOk T U := fun i hi => hp.2.2.1 (i + 1) (by show i + 1 < U.length + 1; omega)
      obtain ⟨s1, e1, x1⟩ := x_undoU D h2.1 ht u1 h2.2.2.2.1
      have hl : ∀ a k, PXc a k → a < 84 := fun a k q => PXc_l q
      have w4 := h4.fr x1.f (fun a k q => lx_mv (hl a k q))
      exact op_actA hB ⟨⟨ht, u1, u3, u2⟩, hp.2.1, u4, hp.2.2.2⟩ h2 h4 e1 x1 (m_undoA (D + 2) (h3.lx x1.f hl) (hq.ok x1.f hl) w4.2.2.1)
end OPACT
