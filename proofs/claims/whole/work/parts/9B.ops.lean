/-! calls: what is tried, and put back -/
section OPS2
abbrev cSc (a k : Nat) : Prop := 35 ≤ a ∧ a ≤ 41 ∨ a = 66 ∧ 4 ≤ k ∨ 69 ≤ a ∧ a ≤ 81
theorem cSc_l {a k : Nat} (h : cSc a k) : a < 84 := by unfold cSc at h; omega
theorem cSc_b {a k : Nat} (h : cSc a k) : cXB a k := by unfold cSc at h; unfold cXB; omega
theorem cSc_m {a k : Nat} {r : Nat} (hr : r ≤ 17) (h : cSc a k) : (a < r ∨ r + 10 < a) ∧ (a < 28 ∨ 33 ≤ a ∨ a = 28 ∧ k = 3) ∧ (a ≠ 0 ∨ k ≠ 2) := by unfold cSc at h; omega
theorem cSc_k {a k : Nat} (h : cSc a k) : (a ≠ 42 ∨ k ≠ 1) ∧ a ≠ 43 := by unfold cSc at h; omega
theorem cSc_h {a k : Nat} (h : cSc a k) : (a ≠ 66 ∨ k ≠ 2) ∧ a ≠ 67 := by unfold cSc at h; omega
theorem cSc_u {a k : Nat} (h : cSc a k) : (a ≠ 44 ∨ k = 0 ∨ 2 < k) ∧ (a < 46 ∨ 65 < a) := by unfold cSc at h; omega
theorem PQ_l : ∀ a i, PQ a i → 84 ≤ a := fun a i q => by unfold PQ at q; omega
theorem PQ_b : ∀ a i, PQ a i → cMB a i := fun a i q => by unfold PQ at q; unfold cMB; omega
theorem PQ_v : ∀ a i, PQ a i → cMV a i := fun a i q => by unfold PQ at q; unfold cMV; omega
theorem op_scr {F G : Mem → Rs} {s s1 : Mem} {v : Int} {P : Nat → Nat → Prop} {T : Tab} {w : Nat → Int} {K : List Int} {hc : Nat} {hf : Nat → Int} {nx : Nat} {U : UL} {nm : Nat → List Int} {to : Int} (h : Inv s) (hp : PV T w hc hf U nm) (h2 : XV s T w K hc hf nx U nm to) (h4 : MVr s T K hc hf nx U nm to) (hF : F s = some (v, s1)) (f1 : Fr P s s1) (hP : ∀ a k, P a k → cSc a k) (hcs : ChC s1 T w ∧ SeC s1 T w) (hG : ∃ s2, G s1 = some (v, s2) ∧ Fr PQ s1 s2 ∧ MM s2 T w ∧ (bsO s1 → bsO s2)) : ∃ v s1 s2, F s = some (v, s1) ∧ G s1 = some (v, s2) ∧ Inv s2 := by
  obtain ⟨⟨tp, pc, rf, fa, fb, z, hb, hz, hX, hM, hq⟩, -⟩ := h
  obtain ⟨s2, e2, f2, m2, b2⟩ := hG
  obtain ⟨v1, v2, v3, v4, -, v7, v8⟩ := h2
  have hr := hX.r
  have hl : ∀ a k, P a k → a < 84 := fun a k q => cSc_l (hP a k q)
  have X1 := hX.fr f1 (fun a k q => cSc_b (hP a k q))
  obtain ⟨g7, g8⟩ := XNm.fr3 rfl v7 v8 f1 (fun a k q => ⟨(cSc_m hr.2 (hP a k q)).1, (cSc_m hr.2 (hP a k q)).2.2⟩)
  have V1 : XV s1 T w K hc hf nx U nm to := ⟨v1.fr2 f1 (fun a k q => cSc_m hr.2 (hP a k q)), v2.fr f1 (fun a k q => cSc_k (hP a k q)), v3.fr f1 (fun a k q => cSc_h (hP a k q)), v4.fr f1 (fun a k q => cSc_u (hP a k q)), hcs, g7, g8⟩
  have q2 : MQk s2 := ⟨b2 (hq.lx f1 hl).1, m2.2.2.2.1, m2.2.2.2.2⟩
  exact ⟨v, s1, s2, hF, e2, ⟨tp, pc, rf, fa, fb, z, hb, hz, X1.lm f2 PQ_l, (hM.lx f1 hl).fr f2 PQ_b, q2⟩, Or.inr ⟨T, w, K, hc, hf, nx, U, nm, to, hp, V1.fr f2 (fun a k q => lm_xv X1.r.2 (PQ_l a k q)), m2, (h4.fr f1 (fun a k q => lx_mv (hl a k q))).fr f2 PQ_v⟩⟩
theorem PTr_S : ∀ a k, PTr a k → cSc a k := fun a k q => Or.inl q
theorem PHu_S : ∀ a k, PHu a k → cSc a k := fun a k q => by unfold PHu at q; unfold cSc; omega
theorem PCh_S : ∀ a k, PCh a k → cSc a k := fun a k q => by unfold PCh at q; unfold cSc; omega
theorem PSg_S : ∀ a k, PSg a k → cSc a k := fun a k q => by unfold PSg at q; unfold cSc; omega
theorem PTr_79 {k : Nat} : ¬ PTr 79 k := fun q => by unfold PTr at q; omega
theorem PTr_81 {k : Nat} : ¬ PTr 81 k := fun q => by unfold PTr at q; omega
theorem PHu_79 {k : Nat} : ¬ PHu 79 k := fun q => by unfold PHu at q; omega
theorem PHu_81 {k : Nat} : ¬ PHu 81 k := fun q => by unfold PHu at q; omega
theorem o_later (D : Nat) (a b : Int) : Op (f_X_later (D + 13) a b) (f_M_later (D + 13) a b) := fun s h => by
  obtain ⟨-, hT⟩ := id h
  rcases hT with ⟨nx, h1, h2⟩ | ⟨T, w, K, hc, hf, nx, U, nm, to, hp, h2, h3, h4⟩
  · refine op_same (v := -1) h ?_ ?_
    · rw [e_X_later, x_isG0 (D + 11) h1.1.2, Option.bind_some]
      exact if_pos rfl
    · rw [e_M_later, m_isG0 (D + 10) h2.1.2.2, Option.bind_some]
      exact if_pos rfl
  · obtain ⟨ht, hw, hh, h9⟩ := hp.1
    obtain ⟨s1, e1, f1⟩ := x_later (D + 6) h2.1 ht hw a b
    exact op_scr h hp h2 h4 e1 f1 PTr_S ⟨h2.2.2.2.2.1.1.fr f1 (fun _ _ => PTr_79), h2.2.2.2.2.1.2.fr f1 (fun _ _ => PTr_79) (fun _ => PTr_81)⟩ (m_later (D + 1) (h3.lx f1 (fun a k q => cSc_l (PTr_S a k q))) ht hw h9 a b)
theorem o_burst (D : Nat) (a : Int) : Op (f_X_burst (D + 13) a) (f_M_burst (D + 13) a) := fun s h => by
  obtain ⟨-, hT⟩ := id h
  rcases hT with ⟨nx, h1, h2⟩ | ⟨T, w, K, hc, hf, nx, U, nm, to, hp, h2, h3, h4⟩
  · refine op_same (v := -1) h ?_ ?_
    · rw [e_X_burst, x_can0 (D + 10) h1.1.1, Option.bind_some]
      exact if_pos rfl
    · rw [e_M_burst, m_can0 (D + 11) h2.1.1, Option.bind_some]
      exact if_pos rfl
  · obtain ⟨ht, hw, hh, h9⟩ := hp.1
    obtain ⟨s1, e1, f1⟩ := x_burst (D + 6) h2.1 ht hw a
    exact op_scr h hp h2 h4 e1 f1 PTr_S ⟨h2.2.2.2.2.1.1.fr f1 (fun _ _ => PTr_79), h2.2.2.2.2.1.2.fr f1 (fun _ _ => PTr_79) (fun _ => PTr_81)⟩ (m_burst (D + 1) (h3.lx f1 (fun a k q => cSc_l (PTr_S a k q))) ht hw a)
theorem o_bursts (D : Nat) (a : Int) : Op (f_X_bursts (D + 13) a) (f_M_bursts (D + 13) a) := fun s h => by
  obtain ⟨-, hT⟩ := id h
  rcases hT with ⟨nx, h1, h2⟩ | ⟨T, w, K, hc, hf, nx, U, nm, to, hp, h2, h3, h4⟩
  · refine op_same (v := -1) h ?_ ?_
    · rw [e_X_bursts, x_isG0 (D + 11) h1.1.2, Option.bind_some]
      exact if_pos rfl
    · rw [e_M_bursts, m_isG0 (D + 10) h2.1.2.2, Option.bind_some]
      exact if_pos rfl
  · obtain ⟨ht, hw, hh, h9⟩ := hp.1
    obtain ⟨s1, e1, f1⟩ := x_burstsG (D + 7) h2.1 ht hw h9 a
    exact op_scr h hp h2 h4 e1 f1 PTr_S ⟨h2.2.2.2.2.1.1.fr f1 (fun _ _ => PTr_79), h2.2.2.2.2.1.2.fr f1 (fun _ _ => PTr_79) (fun _ => PTr_81)⟩ (m_burstsG (D + 2) (h3.lx f1 (fun a k q => cSc_l (PTr_S a k q))) ht hw h9 a)
theorem o_hoops (D : Nat) (a : Int) : Op (f_X_hoops (D + 13) a) (f_M_hoops (D + 13) a) := fun s h => by
  obtain ⟨-, hT⟩ := id h
  rcases hT with ⟨nx, h1, h2⟩ | ⟨T, w, K, hc, hf, nx, U, nm, to, hp, h2, h3, h4⟩
  · refine op_same (v := -1) h ?_ ?_
    · rw [e_X_hoops, x_can0 (D + 10) h1.1.1, Option.bind_some]
      exact if_pos rfl
    · rw [e_M_hoops, m_can0 (D + 11) h2.1.1, Option.bind_some]
      exact if_pos rfl
  · obtain ⟨ht, hw, hh, h9⟩ := hp.1
    obtain ⟨s1, e1, f1⟩ := x_hoops (D + 5) h2.1 ht hw a
    exact op_scr h hp h2 h4 e1 f1 PTr_S ⟨h2.2.2.2.2.1.1.fr f1 (fun _ _ => PTr_79), h2.2.2.2.2.1.2.fr f1 (fun _ _ => PTr_79) (fun _ => PTr_81)⟩ (m_hoops (D + 1) (h3.lx f1 (fun a k q => cSc_l (PTr_S a k q))) ht hw hh a)
theorem o_wets (D : Nat) (a : Int) : Op (f_X_wets (D + 13) a) (f_M_wets (D + 13) a) := fun s h => by
  obtain ⟨-, hT⟩ := id h
  rcases hT with ⟨nx, h1, h2⟩ | ⟨T, w, K, hc, hf, nx, U, nm, to, hp, h2, h3, h4⟩
  · refine op_same (v := -1) h ?_ ?_
    · rw [e_X_wets, x_isG0 (D + 11) h1.1.2, Option.bind_some]
      exact if_pos rfl
    · rw [e_M_wets, m_isG0 (D + 10) h2.1.2.2, Option.bind_some]
      exact if_pos rfl
  · obtain ⟨ht, hw, hh, h9⟩ := hp.1
    obtain ⟨s1, e1, f1⟩ := x_wets (D + 4) h2.1 ht hw h9 h2.2.2.1 hp.2.1 a
    have hl : ∀ a k, PTr a k → a < 84 := fun a k q => cSc_l (PTr_S a k q)
    exact op_scr h hp h2 h4 e1 f1 PTr_S ⟨h2.2.2.2.2.1.1.fr f1 (fun _ _ => PTr_79), h2.2.2.2.2.1.2.fr f1 (fun _ _ => PTr_79) (fun _ => PTr_81)⟩ (m_wets (D + 1) (h3.lx f1 hl) ht hw h9 (h4.fr f1 (fun a k q => lx_mv (hl a k q))).2.1 hp.2.1 a)
theorem o_tells (D : Nat) (a b : Int) : Op (f_X_tells (D + 13) a b) (f_M_tells (D + 13) a b) := fun s h => by
  obtain ⟨-, hT⟩ := id h
  rcases hT with ⟨nx, h1, h2⟩ | ⟨T, w, K, hc, hf, nx, U, nm, to, hp, h2, h3, h4⟩
  · refine op_same (v := -1) h ?_ ?_
    · rw [e_X_tells, x_isG0 (D + 11) h1.1.2, Option.bind_some]
      exact if_pos rfl
    · rw [e_M_tells, m_isG0 (D + 10) h2.1.2.2, Option.bind_some]
      exact if_pos rfl
  · obtain ⟨ht, hw, hh, h9⟩ := hp.1
    obtain ⟨s1, e1, f1⟩ := x_tells (D + 4) h2.1 ht hw h9 h2.2.2.1 hp.2.1 a b
    have hl : ∀ a k, PHu a k → a < 84 := fun a k q => cSc_l (PHu_S a k q)
    exact op_scr h hp h2 h4 e1 f1 PHu_S ⟨h2.2.2.2.2.1.1.fr f1 (fun _ _ => PHu_79), h2.2.2.2.2.1.2.fr f1 (fun _ _ => PHu_79) (fun _ => PHu_81)⟩ (m_tells (D + 1) (h3.lx f1 hl) ht hw h9 (h4.fr f1 (fun a k q => lx_mv (hl a k q))).2.1 hp.2.1 a b)
theorem o_change (D : Nat) (a b : Int) : Op (f_X_change (D + 13) a b) (f_M_change (D + 13) a b) := fun s h => by
  obtain ⟨-, hT⟩ := id h
  rcases hT with ⟨nx, h1, h2⟩ | ⟨T, w, K, hc, hf, nx, U, nm, to, hp, h2, h3, h4⟩
  · refine op_same (v := -1) h ?_ ?_
    · rw [e_X_change, x_can0 (D + 10) h1.1.1, Option.bind_some]
      exact if_pos rfl
    · rw [e_M_change, m_can0 (D + 11) h2.1.1, Option.bind_some]
      exact if_pos rfl
  · obtain ⟨ht, hw, hh, h9⟩ := hp.1
    obtain ⟨s1, e1, f1, c1⟩ := x_change (D + 5) h2.1 ht hw h2.2.2.2.2.1.1 a b
    exact op_scr h hp h2 h4 e1 f1 PCh_S ⟨c1, h2.2.2.2.2.1.2.fr f1 (fun k hk q => by unfold PCh at q; omega) (fun k q => by unfold PCh at q; omega)⟩ (m_change D (h3.lx f1 (fun a k q => cSc_l (PCh_S a k q))) ht hw a b)
theorem o_seating (D : Nat) (a b : Int) : Op (f_X_seating (D + 13) a b) (f_M_seating (D + 13) a b) := fun s h => by
  obtain ⟨-, hT⟩ := id h
  rcases hT with ⟨nx, h1, h2⟩ | ⟨T, w, K, hc, hf, nx, U, nm, to, hp, h2, h3, h4⟩
  · refine op_same (v := -1) h ?_ ?_
    · rw [e_X_seating, x_can0 (D + 10) h1.1.1, Option.bind_some]
      exact if_pos rfl
    · rw [e_M_seating, m_can0 (D + 11) h2.1.1, Option.bind_some]
      exact if_pos rfl
  · obtain ⟨ht, hw, hh, h9⟩ := hp.1
    obtain ⟨s1, e1, f1, c1⟩ := x_seating (D + 5) h2.1 ht hw h2.2.2.2.2.1.2 a b
    exact op_scr h hp h2 h4 e1 f1 PSg_S ⟨h2.2.2.2.2.1.1.fr f1 (fun k hk q => by unfold PSg at q; omega), c1⟩ (m_seating D (h3.lx f1 (fun a k q => cSc_l (PSg_S a k q))) ht hw a b)
end OPS2
