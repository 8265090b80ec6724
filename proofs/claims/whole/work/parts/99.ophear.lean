/-! calls: what is heard, images taken -/
section OPHEAR
abbrev RTx (k : Nat) : Nat → Nat → Prop := fun a i => PTp a i ∨ R83 k a i
abbrev RTm (k : Nat) : Nat → Nat → Prop := fun a i => PTq a i ∨ R86 k a i
theorem op_trf {F G : Mem → Rs} {s s1 s2 : Mem} {v : Int} {k : Nat} (hk : k < 6) (h : Inv s) (hF : F s = some (v, s1)) (f1 : Fr (RTx k) s s1) (x3 : rI s1 1 1 = 0) (u1 : rI s1 83 k = w32 (rI s 83 k + 1)) (hG : G s1 = some (v, s2)) (f2 : Fr (RTm k) s1 s2) (y3 : rI s2 84 1 = 0) (v1 : rI s2 86 k = w32 (rI s1 86 k + 1)) : ∃ v s1 s2, F s = some (v, s1) ∧ G s1 = some (v, s2) ∧ Inv s2 := by
  obtain ⟨⟨tp, pc, rf, fa, fb, z, hb, hz, hX, hM, hq⟩, hT⟩ := h
  have hr := hX.r
  have l1 : ∀ a i, RTx k a i → a < 84 := fun a i q => q.elim (PTp_l a i) (R83_l a i)
  have l2 : ∀ a i, RTm k a i → 84 ≤ a := fun a i q => q.elim (PTq_l a i) (R86_l a i)
  have n0 : ∀ {i : Nat}, ¬ RTx k 0 i := fun {i} q => q.elim (nPTp (by decide)) (nR83 (by decide))
  have n84 : ∀ {i : Nat}, i ≠ 1 → ¬ RTm k 84 i := fun {i} hi q => q.elim (nPTq (Or.inr ⟨rfl, hi⟩)) (nR86 (by decide))
  have X1 : XB s1 [] pc (fun j => if j = k then w32 (rf k + 1) else rf j) fa fb z := hX.up f1 (fun a i q => q.elim (PTp_u a i) (R83_u a i)) (XTp_nil x3) (kr hk hX.2.2.1 u1 (fun j hj => f1.i (fun q => q.elim (nPTp (by decide)) (fun q => hj q.2)))) ⟨(f1.i n0).trans hX.2.2.2.1.1, (f1.i n0).trans hX.2.2.2.1.2⟩ ((f1.i n0).trans hX.2.2.2.2.1)
  have M1 := hM.lx f1 l1
  have M2 : MB s2 [] pc (fun j => if j = k then w32 (rf k + 1) else rf j) fa fb z := M1.up f2 (fun a i q => q.elim (PTq_u a i) (R86_u a i)) (MTp_nil y3) (kr hk M1.2.2.1 v1 (fun j hj => f2.i (fun q => q.elim (nPTq (Or.inl (by decide))) (fun q => hj q.2)))) ⟨(f2.i (n84 (by decide))).trans M1.2.2.2.1.1, (f2.i (n84 (by decide))).trans M1.2.2.2.1.2⟩ ((f2.i (n84 (by decide))).trans M1.2.2.2.2.1)
  have q2 := (hq.lx f1 l1).fr f2 (n84 (by decide)) (n84 (by decide)) (n84 (by decide))
  exact ⟨v, s1, s2, hF, hG, ⟨[], pc, _, fa, fb, z, Bys_nil, hz, X1.lm f2 l2, M2, q2⟩, hlfM (hlfX hT hr f1 (fun a i q => q.elim (PTp_h hr a i) (R83_h hr a i))) X1.r f2 (fun a i q => q.elim (PTq_h a i) (R86_h a i))⟩
theorem w1 {s : Mem} : Fr PTp s (wI s 1 1 0) := Fr.rf.w (Or.inl ⟨rfl, rfl⟩)
theorem w84 {s : Mem} : Fr PTq s (wI s 84 1 0) := Fr.rf.w (Or.inl ⟨rfl, rfl⟩)
theorem PHe_l : ∀ a k, PHe a k → a < 84 := fun a k q => by unfold PHe at q; omega
theorem PHe_u : ∀ a k, PHe a k → cUX a k := fun a k q => by
  rcases q with ⟨rfl, q⟩ | ⟨rfl, q⟩ | rfl
  all_goals exact ⟨Or.inl (by decide), by decide⟩
theorem nPHe {a k : Nat} (h : a = 83 ∨ a = 0 ∨ a = 42 ∨ a = 43 ∨ a = 44 ∨ 46 ≤ a ∧ a ≤ 65 ∨ a = 79 ∨ a = 81) : ¬ PHe a k := fun q => by unfold PHe at q; omega
theorem PHm_l : ∀ a k, PHm a k → 84 ≤ a := fun a k q => by unfold PHm at q; omega
theorem PHm_u : ∀ a k, PHm a k → cUM a k := fun a k q => by
  rcases q with ⟨rfl, q⟩ | rfl
  · exact ⟨Or.inr (by omega), by decide, Or.inl (by decide)⟩
  · exact ⟨Or.inl (by decide), by decide, Or.inr (Or.inl (by decide))⟩
theorem nPHm {a k : Nat} (h : a = 84 ∧ k ≠ 1 ∧ k ≠ 66 ∨ a = 86) : ¬ PHm a k := fun q => by unfold PHm at q; omega
theorem PHm_m : ∀ a i, PHm a i → cMM a i := fun a i q => by
  rcases q with ⟨rfl, q⟩ | rfl
  · exact ⟨⟨Or.inl (by decide), Or.inl (by decide), Or.inl (by decide), Or.inl (by decide), Or.inl (by decide)⟩, Or.inl (by decide), Or.inr (by omega)⟩
  · exact ⟨⟨Or.inl (by decide), Or.inl (by decide), Or.inl (by decide), Or.inl (by decide), Or.inl (by decide)⟩, Or.inl (by decide), Or.inl (by decide)⟩
theorem PHe_x {r : Nat} (hr : 6 ≤ r ∧ r ≤ 17) : ∀ a k, PHe a k → (a < r ∨ r + 10 < a) ∧ (a < 28 ∨ 33 ≤ a ∨ a = 28 ∧ k = 3) ∧ (a ≠ 0 ∨ k ≠ 2) := fun a k q => by
  rcases q with ⟨rfl, q⟩ | ⟨rfl, q⟩ | rfl
  · exact ⟨Or.inl (by omega), Or.inl (by decide), Or.inl (by decide)⟩
  · exact ⟨Or.inr (by omega), Or.inr (Or.inl (by decide)), Or.inl (by decide)⟩
  · exact ⟨Or.inr (by omega), Or.inr (Or.inl (by decide)), Or.inl (by decide)⟩
theorem hear_0 {tp : List Int} (hb : Bys tp) : hearB 0 tp = false := by
  cases e : hearB 0 tp with
  | false => rfl
  | true =>
    exfalso
    obtain ⟨h1, h2, h3, h4⟩ := hearB_t e
    have h5 := (h4 0 (by omega)).2
    have h6 := tg_r hb (i := 1) (by omega)
    have h7 : tg tp (3 * 0 + 1) = tg tp 1 := rfl
    rw [h7] at h5
    omega
theorem o_hear (D : Nat) : Op (f_X_hear (D + 3)) (f_M_hear (D + 3)) := fun s h => by
  obtain ⟨⟨tp, pc, rf, fa, fb, z, hb, hz, hX, hM, hq⟩, hT⟩ := id h
  have hr := hX.r
  have bad : ∀ n : Nat, n ≤ 9 → rI s (rQ s 0 2) 1 = (n : Int) → rI s 114 3 = (n : Int) → hearB n tp = false → ∃ v s1 s2, f_X_hear (D + 3) s = some (v, s1) ∧ f_M_hear (D + 3) s1 = some (v, s2) ∧ Inv s2 := fun n n9 hn hm hB => by
    have e1 := (x_hear D hX.1 hn).2 hB
    have f1 : Fr (RTx 1) s (wI (wI s 1 1 0) 83 1 (w32 (rI s 83 1 + 1))) := (w1.mo (fun a k q => Or.inl q)).w (Or.inr ⟨rfl, rfl⟩)
    have l1 : ∀ a i, RTx 1 a i → a < 84 := fun a i q => q.elim (PTp_l a i) (R83_l a i)
    have x3 : rI (wI (wI s 1 1 0) 83 1 (w32 (rI s 83 1 + 1))) 1 1 = 0 := (rI_other _ _ _ _ (by decide)).trans (rI_same _ _ _ _)
    have u1 : rI (wI (wI s 1 1 0) 83 1 (w32 (rI s 83 1 + 1))) 83 1 = w32 (rI s 83 1 + 1) := rI_same _ _ _ _
    generalize wI (wI s 1 1 0) 83 1 (w32 (rI s 83 1 + 1)) = s1 at e1 f1 x3 u1
    have e2 := (m_hear D (hM.1.lx f1 l1) hb ((f1.i (fun q => by have := l1 _ _ q; omega)).trans hm) n9).2 hB
    exact op_trf (by decide) h e1 f1 x3 u1 e2 ((w84.mo (fun a k q => Or.inl q)).w (Or.inr ⟨rfl, rfl⟩)) ((rI_other _ _ _ _ (by decide)).trans (rI_same _ _ _ _)) (rI_same _ _ _ _)
  rcases hT with ⟨nx, h1, h2⟩ | ⟨T, w, K, hc, hf, nx, U, nm, to, ⟨⟨ht, hw, hh, h9⟩, hHf, hU, hN⟩, h2, h3, h4⟩
  · exact bad 0 (by decide) h1.1.1 h2.1.2.1 (hear_0 hb)
  · obtain ⟨v1, v2, v3, v4, ⟨v5, v6⟩, v7, v8⟩ := h2
    have hn : rI s (rQ s 0 2) 1 = (tN T : Int) := by rw [← v1.2]; exact v1.1.2.1.2.1
    cases hB : hearB (tN T) tp with
    | false => exact bad (tN T) ht.2.1 hn h3.1.1 hB
    | true =>
      obtain ⟨s1, e1, f1, g1, t1⟩ := (x_hear D hX.1 hn).1 hB
      obtain ⟨s2, e2, f2, g2, t2⟩ := (m_hear D (hM.1.lx f1 PHe_l) hb (h3.lx f1 PHe_l).1.1 ht.2.1).1 hB
      refine ⟨_, s1, s2, e1, e2, ?_⟩
      obtain ⟨b1, b2, b3, b4⟩ := hearB_t hB
      have X1 : XB s1 [] pc rf fa fb z := hX.up f1 PHe_u t1 (kp hX.2.2.1 f1 (fun k => nPHe (by decide))) ⟨(f1.i (nPHe (by decide))).trans hX.2.2.2.1.1, (f1.i (nPHe (by decide))).trans hX.2.2.2.1.2⟩ ((f1.i (nPHe (by decide))).trans hX.2.2.2.2.1)
      have M1 := hM.lx f1 PHe_l
      have M2 : MB s2 [] pc rf fa fb z := M1.up f2 PHm_u t2 (kp M1.2.2.1 f2 (fun k => nPHm (Or.inr rfl))) ⟨(f2.i (nPHm (by decide))).trans M1.2.2.2.1.1, (f2.i (nPHm (by decide))).trans M1.2.2.2.1.2⟩ ((f2.i (nPHm (by decide))).trans M1.2.2.2.2.1)
      have q2 := (hq.lx f1 PHe_l).fr f2 (nPHm (by decide)) (nPHm (by decide)) (nPHm (by decide))
      obtain ⟨g7, g8⟩ := XNm.fr3 rfl v7 v8 f1 (fun a k q => ⟨(PHe_x hr a k q).1, (PHe_x hr a k q).2.2⟩)
      have V1 : XV s1 T w K (tp.length / 3) (tg tp) nx U nm to := ⟨v1.fr2 f1 (PHe_x hr), v2.fr f1 (fun a i q => ⟨Or.inl (fun e => by rw [e] at q; exact nPHe (by decide) q), fun e => by rw [e] at q; exact nPHe (by decide) q⟩), g1, v4.fr f1 (fun a k q => ⟨Or.inl (fun e => by rw [e] at q; exact nPHe (by decide) q), by unfold PHe at q; omega⟩), ⟨v5.fr f1 (fun k _ => nPHe (by decide)), v6.fr f1 (fun k _ => nPHe (by decide)) (fun k => nPHe (by decide))⟩, g7, g8⟩
      have V2 : XV s2 T w K (tp.length / 3) (tg tp) nx U nm to := V1.fr f2 (fun a k q => lm_xv X1.r.2 (PHm_l a k q))
      obtain ⟨c1, c2, c3, c4, c5⟩ := h4.fr f1 (fun a k q => lx_mv (PHe_l a k q))
      have W2 : MVr s2 T K (tp.length / 3) (tg tp) nx U nm to := ⟨c1.fr f2 (fun a i q => Or.inl (by unfold PHm at q; omega)), g2, c3.fr f2 (fun a i q => by unfold PHm at q; omega), fun g hg => (f2.i (fun q => by unfold PHm at q; omega)).trans (c4 g hg), (f2.i (fun q => by unfold PHm at q; omega)).trans c5⟩
      exact ⟨⟨[], pc, rf, fa, fb, z, Bys_nil, hz, X1.lm f2 PHm_l, M2, q2⟩, Or.inr ⟨_, _, _, _, _, _, _, _, _, ⟨⟨ht, hw, hh, h9⟩, ⟨b3, fun k hk => ⟨⟨(tg_r hb (by omega)).1, (b4 k hk).1⟩, ⟨(tg_r hb (by omega)).1, (b4 k hk).2⟩, tg_r hb (by omega)⟩⟩, hU, hN⟩, V2, (h3.lx f1 PHe_l).fr4 f2 PHm_m, W2⟩⟩
theorem POn_l : ∀ a k, POn a k → a < 84 := fun a k q => by unfold POn at q; omega
theorem POn_u : ∀ a k, POn a k → cUX a k := fun a k q => ⟨Or.inl (by unfold POn at q; omega), by unfold POn at q; omega⟩
theorem nPOn {a k : Nat} (h : a = 83 ∨ a = 0 ∨ a = 66 ∨ a = 67) : ¬ POn a k := fun q => by unfold POn at q; omega
theorem POn_x {r : Nat} (hr : 6 ≤ r ∧ r ≤ 17) : ∀ a k, POn a k → (a < r ∨ r + 10 < a) ∧ (a ≠ 0 ∨ k ≠ 2) := fun a k q => ⟨by unfold POn at q; omega, Or.inl (by unfold POn at q; omega)⟩
theorem PMo_l : ∀ a k, PMo a k → 84 ≤ a := fun a k q => by unfold PMo at q; omega
theorem PMo_u : ∀ a k, PMo a k → cUM a k := fun a k q => by
  rcases q with rfl | ⟨rfl, q⟩
  · exact ⟨Or.inl (by decide), by decide, Or.inr (Or.inl (by decide))⟩
  · exact ⟨Or.inr (by omega), by decide, Or.inl (by decide)⟩
theorem nPMo {a k : Nat} (h : a = 84 ∧ k ≠ 1 ∧ k ≠ 70 ∨ a = 86 ∨ a = 127 ∨ a = 115 ∨ a = 114) : ¬ PMo a k := fun q => by unfold PMo at q; omega
theorem o_on (D : Nat) : Op (f_X_on (D + 4)) (f_M_on (D + 4)) := fun s h => by
  obtain ⟨⟨tp, pc, rf, fa, fb, z, hb, hz, hX, hM, hq⟩, hT⟩ := id h
  have hr := hX.r
  have bad : f_X_on (D + 4) s = some (0, wI (wI s 83 5 (w32 (rI s 83 5 + 1))) 1 1 0) → (∀ s1, Fr (RTx 5) s s1 → f_M_on (D + 4) s1 = some (0, wI (wI s1 84 1 0) 86 5 (w32 (rI s1 86 5 + 1)))) → ∃ v s1 s2, f_X_on (D + 4) s = some (v, s1) ∧ f_M_on (D + 4) s1 = some (v, s2) ∧ Inv s2 := fun e1 hG => by
    have f1 : Fr (RTx 5) s (wI (wI s 83 5 (w32 (rI s 83 5 + 1))) 1 1 0) := (Fr.rf.w (Or.inr ⟨rfl, rfl⟩)).w (Or.inl (Or.inl ⟨rfl, rfl⟩))
    have x3 : rI (wI (wI s 83 5 (w32 (rI s 83 5 + 1))) 1 1 0) 1 1 = 0 := rI_same _ _ _ _
    have u1 : rI (wI (wI s 83 5 (w32 (rI s 83 5 + 1))) 1 1 0) 83 5 = w32 (rI s 83 5 + 1) := (rI_other _ _ _ _ (by decide)).trans (rI_same _ _ _ _)
    generalize wI (wI s 83 5 (w32 (rI s 83 5 + 1))) 1 1 0 = s1 at e1 f1 x3 u1
    exact op_trf (by decide) h e1 f1 x3 u1 (hG s1 f1) ((w84.mo (fun a k q => Or.inl q)).w (Or.inr ⟨rfl, rfl⟩)) ((rI_other _ _ _ _ (by decide)).trans (rI_same _ _ _ _)) (rI_same _ _ _ _)
  have l1 : ∀ a i, RTx 5 a i → a < 84 := fun a i q => q.elim (PTp_l a i) (R83_l a i)
  rcases hT with ⟨nx, h1, h2⟩ | ⟨T, w, K, hc, hf, nx, U, nm, to, ⟨⟨ht, hw, hh, h9⟩, hHf, hU, hN⟩, h2, h3, h4⟩
  · refine bad ?_ (fun s1 f1 => ?_)
    · have eh : f_X_hasTable (D + 3) s = some (0, s) := by
        rw [e_X_hasTable, h1.1.1, if_neg (by decide)]
      have href : f_X_refuse (D + 2 + 1) 5 s = some (0, wI s 83 5 (w32 (rI s 83 5 + 1))) := x_ref (D + 2) s (k := 5) (by decide)
      rw [e_X_on, eh, Option.bind_some]
      simp only []
      rw [if_pos trivial, e_X_on_19, if_pos rfl, href, Option.bind_some]
      exact if_pos (Or.inl rfl)
    · have z49 : rI (wI s1 84 1 0) 84 49 = 0 := (rI_other _ _ _ _ (by decide)).trans ((f1.i (fun q => by have := l1 _ _ q; omega)).trans h2.1.1)
      rw [e_M_on, e_M_isImage, e_M_seatMany, Option.bind_some]
      simp only []
      rw [if_pos z49, Option.bind_some]
      simp only []
      rw [if_pos trivial, rI_other _ _ _ _ (by decide)]
  · obtain ⟨v1, v2, v3, v4, ⟨v5, v6⟩, v7, v8⟩ := h2
    cases hB : imgB T tp with
    | false =>
      refine bad ((x_on (D + 1) v1 ht hw hh hX.1 hb v4).2 hB) (fun s1 f1 => ?_)
      exact (m_on D (h3.lx f1 l1) ht (hM.1.lx f1 l1) hb (h4.fr f1 (fun a k q => lx_mv (l1 a k q))).2.2.1).2 hB
    | true =>
      obtain ⟨s1, e1, f1, a1, a2, a3, a4, a5, t1⟩ := (x_on (D + 1) v1 ht hw hh hX.1 hb v4).1 hB
      have W1 := h4.fr f1 (fun a k q => lx_mv (POn_l a k q))
      obtain ⟨s2, e2, f2, b1, b2, b3, t2⟩ := (m_on D (h3.lx f1 POn_l) ht (hM.1.lx f1 POn_l) hb W1.2.2.1).1 hB
      refine ⟨_, s1, s2, e1, e2, ?_⟩
      obtain ⟨w1, w9⟩ := Wf.on hw ht hb hB
      have X1 : XB s1 [] pc rf fa fb z := hX.up f1 POn_u t1 (kp hX.2.2.1 f1 (fun k => nPOn (by decide))) ⟨(f1.i (nPOn (by decide))).trans hX.2.2.2.1.1, (f1.i (nPOn (by decide))).trans hX.2.2.2.1.2⟩ ((f1.i (nPOn (by decide))).trans hX.2.2.2.2.1)
      have M1 := hM.lx f1 POn_l
      have M2 : MB s2 [] pc rf fa fb z := M1.up f2 PMo_u t2 (kp M1.2.2.1 f2 (fun k => nPMo (by omega))) ⟨(f2.i (nPMo (by omega))).trans M1.2.2.2.1.1, (f2.i (nPMo (by omega))).trans M1.2.2.2.1.2⟩ ((f2.i (nPMo (by omega))).trans M1.2.2.2.2.1)
      have q2 := (hq.lx f1 POn_l).fr f2 (nPMo (by omega)) (nPMo (by omega)) (nPMo (by omega))
      obtain ⟨g7, g8⟩ := XNm.fr3 rfl v7 v8 f1 (POn_x hr)
      have V1 : XV s1 T (onW T tp w) [] hc hf nx [] nm to := ⟨a1, a2, v3.fr f1 (fun a k q => ⟨Or.inl (fun e => by rw [e] at q; exact nPOn (by decide) q), fun e => by rw [e] at q; exact nPOn (by decide) q⟩), a3, ⟨Or.inl a4, Or.inl a5⟩, g7, g8⟩
      have V2 : XV s2 T (onW T tp w) [] hc hf nx [] nm to := V1.fr f2 (fun a k q => lm_xv X1.r.2 (PMo_l a k q))
      obtain ⟨c1, c2, c3, c4, c5⟩ := W1
      have W2 : MVr s2 T [] hc hf nx [] nm to := ⟨b2, c2.fr f2 (fun a i q => ⟨by unfold PMo at q; omega, fun e => by rw [e] at q; exact nPMo (by omega) q⟩), b3, fun g hg => (f2.i (nPMo (by omega))).trans (c4 g hg), (f2.i (nPMo (by omega))).trans c5⟩
      exact ⟨⟨[], pc, rf, fa, fb, z, Bys_nil, hz, X1.lm f2 PMo_l, M2, q2⟩, Or.inr ⟨_, _, _, _, _, _, _, _, _, ⟨⟨ht, w1, Wh.on hh, w9⟩, hHf, fun i hi => absurd hi (Nat.not_lt_zero _), hN⟩, V2, b1, W2⟩⟩
end OPHEAR
