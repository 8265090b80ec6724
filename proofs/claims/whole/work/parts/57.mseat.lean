/-! the reference's seating -/
section MSEAT
variable {T : Tab} {w w0 : Nat → Int}
theorem m_first4 (D : Nat) (ht : Tf T) (hf : Wf T w) : ∀ (j q m : Nat) (r : Nat → Int) (s : Mem), q + j = tN T → (fsr T w j q m r).1 = tG T → MT s T → MW s w → Rw s 125 m r → ∃ s1, L_M_laysFirst_4 (D + 3) (m : Int) (q : Int) s = some (0, s1) ∧ Fr (fun a _ => a = 125) s s1 ∧ Rw s1 125 (tG T) (fsr T w j q m r).2
  | 0, q, m, r, s, hj, hg, hm, hw, hr => by
    rw [e_M_laysFirst_4, m_n (D + 2) hm, Option.bind_some, if_neg (by simp; omega)]
    exact ⟨s, rfl, Fr.rf, by rw [← hg]; exact hr⟩
  | j + 1, q, m, r, s, hj, hg, hm, hw, hr => by
    have hn := ht.2.1
    have hg7 := ht.2.2.1
    unfold fsr at hg ⊢
    have htr : trn (tN T) (q : Int) = (q : Int) := by unfold trn; rw [if_neg (by omega), if_pos (by omega)]
    rw [e_M_laysFirst_4, m_n (D + 2) hm, Option.bind_some, if_pos (by simp; omega), m_guestAt D hm hw hn hg7 (by omega), Option.bind_some, htr, w32_s (by omega)]
    simp only []
    by_cases h1 : who w (tG T) (q : Int) = -1
    · rw [if_pos h1] at hg
      rw [if_pos h1, if_pos h1]
      exact m_first4 D ht hf j (q + 1) m r s (by omega) hg hm hw hr
    · rw [if_neg h1] at hg
      have hml := fsr_le (T := T) (w := w) j (q + 1) (m + 1) (upW r m (q : Int))
      have f1 : Fr (fun a _ => a = 125) s (wI s 125 m (q : Int)) := Fr.rf.w rfl
      obtain ⟨s1, e1, f2, g1⟩ := m_first4 D ht hf j (q + 1) (m + 1) (upW r m (q : Int)) _ (by omega) hg (hm.fr f1 (fun a k z => by omega)) (hw.fr f1 (fun a k z => by omega)) (fun k hk => by
        by_cases e : k = m
        · rw [e, rI_same, upW_s]
        · rw [rI_other _ _ _ _ (by omega), upW_o e]; exact hr k (by omega))
      rw [if_neg h1, if_neg h1, inB_n (by omega), Int.toNat_natCast, w32_s (by omega)]
      exact ⟨s1, e1, f1.tr f2, g1⟩
theorem m_rev (D : Nat) {g : Nat} (hg : g ≤ 7) : ∀ (j : Nat) (r : Nat → Int) (lo hi : Nat) (s : Mem), hi < g → hi < lo + 2 * j + 1 → Rw s 125 g r → ∃ s1, L_M_goesOn_107 D (lo : Int) (hi : Int) s = some (1, s1) ∧ Fr (fun a _ => a = 125) s s1 ∧ Rw s1 125 g (rvr j r lo hi)
  | 0, r, lo, hi, s, hh, hj, hr => by
    rw [e_M_goesOn_107, if_neg (by omega)]
    exact ⟨s, rfl, Fr.rf, hr⟩
  | j + 1, r, lo, hi, s, hh, hj, hr => by
    unfold rvr
    rw [e_M_goesOn_107]
    by_cases h : lo < hi
    · obtain ⟨s2, e2, f2, g2⟩ := m_rev D hg j _ (lo + 1) (hi - 1) _ (by omega) (by omega) (hr.ex (a := lo) (b := hi) (by omega) hh)
      rw [if_pos (by omega), if_pos h, inB_n (by omega), inB_n (by omega), inB_n (by omega), inB_n (by omega), Int.toNat_natCast, Int.toNat_natCast, w32_s (by omega), show w32 ((hi : Int) + -1) = ((hi - 1 : Nat) : Int) by rw [w32_i (by omega) (by omega)]; omega]
      exact ⟨s2, e2, ((Fr.rf.w (P := fun a _ => a = 125) rfl).w rfl).tr f2, g2⟩
    · rw [if_neg (by omega), if_neg h]
      exact ⟨s, rfl, Fr.rf, hr⟩
theorem m_next47 (D : Nat) {t : Nat} {r : Nat → Int} {s : Mem} (hm : MT s T) (hg : tG T ≤ 7) (hr : Rw s 125 (tG T) r) (ht : ¬ r (t + 1) < r t) : ∀ m, t < m → m < tG T → ∃ s1, L_M_goesOn_47 (D + 1) (t : Int) (m : Int) s = some (1, s1) ∧ Fr (fun a _ => a = 125) s s1 ∧ Rw s1 125 (tG T) (rvr 9 (xch r t (wir r t m)) (t + 1) (tG T - 1))
  | 0, h1, h2 => by omega
  | m + 1, h1, h2 => by
    rw [e_M_goesOn_47, inB_n (by omega), inB_n (by omega), Int.toNat_natCast, Int.toNat_natCast, hr _ h2, hr t (by omega)]
    unfold wir
    by_cases h : r (m + 1) < r t
    · have hne : t ≠ m := fun z => ht (z ▸ h)
      rw [if_pos h, if_pos h, show w32 (((m + 1 : Nat) : Int) + -1) = (m : Int) by rw [w32_i (by omega) (by omega)]; omega]
      exact m_next47 D hm hg hr ht m (by omega) (by omega)
    · have hx := hr.ex (a := t) (b := m + 1) (by omega) h2
      rw [hr _ h2, hr t (by omega)] at hx
      have f1 : Fr (fun a _ => a = 125) s (wI (wI s 125 t (r (m + 1))) 125 (m + 1) (r t)) := (Fr.rf.w (P := fun a _ => a = 125) rfl).w rfl
      obtain ⟨s2, e2, f2, g2⟩ := m_rev (D + 1) hg 9 (xch r t (m + 1)) (t + 1) (tG T - 1) _ (by omega) (by omega) hx
      rw [if_neg h, if_neg h, inB_n (by omega), inB_n (by omega), inB_n (by omega), inB_n (by omega), m_g D (hm.fr f1 (fun a i q => by omega)), Option.bind_some]
      simp only []
      rw [w32_s (by omega), show w32 ((tG T : Int) - 1) = ((tG T - 1 : Nat) : Int) by rw [w32_i (by omega) (by omega)]; omega]
      exact ⟨s2, e2, f1.tr f2, g2⟩
theorem m_next7 (D : Nat) {r : Nat → Int} {s : Mem} (hg : tG T ≤ 7) (hr : Rw s 125 (tG T) r) : ∀ m, m < tG T → L_M_goesOn_7 D ((m : Int) - 1) s = L_M_goesOn_34 D (tnr r m) s
  | 0, h => by
    rw [e_M_goesOn_7, if_pos (by omega)]
    rfl
  | m + 1, h => by
    have e1 : ((m + 1 : Nat) : Int) - 1 = (m : Int) := by omega
    rw [e1, e_M_goesOn_7, if_neg (by omega), inB_n (by omega), w32_s (by omega), inB_n (by omega), Int.toNat_natCast, Int.toNat_natCast, hr _ h, hr m (by omega)]
    unfold tnr
    by_cases h2 : r (m + 1) < r m
    · rw [if_pos h2, if_pos h2, show w32 ((m : Int) + -1) = (m : Int) - 1 by rw [w32_i (by omega) (by omega)]; omega]
      exact m_next7 D hg hr m (by omega)
    · rw [if_neg h2, if_neg h2]
theorem m_next (D : Nat) {r : Nat → Int} {s : Mem} (hm : MT s T) (hg : tG T ≤ 7) (hr : Rw s 125 (tG T) r) : ∃ s1, f_M_goesOn (D + 2) s = some (if tnr r (tG T - 1) < 0 then 0 else 1, s1) ∧ Fr (fun a _ => a = 125) s s1 ∧ (¬ tnr r (tG T - 1) < 0 → Rw s1 125 (tG T) (nxr (tG T) r)) := by
  have h0 : f_M_goesOn (D + 2) s = L_M_goesOn_7 (D + 1) (w32 ((tG T : Int) - 2)) s := by
    rw [show f_M_goesOn (D + 2) s = f_M_goesOn (D + 1 + 1) s from rfl, e_M_goesOn, m_g D hm, Option.bind_some]
  rw [h0, w32_i (by omega) (by omega)]
  by_cases hz : tG T = 0
  · have ht0 : tnr r (tG T - 1) = -1 := by rw [hz]; rfl
    rw [ht0, if_pos (by omega), e_M_goesOn_7, if_pos (by omega), e_M_goesOn_34, if_pos (by omega)]
    exact ⟨s, rfl, Fr.rf, fun h => by omega⟩
  · rw [show (tG T : Int) - 2 = ((tG T - 1 : Nat) : Int) - 1 by omega, m_next7 (D + 1) hg hr (tG T - 1) (by omega), e_M_goesOn_34]
    rcases tnr_r r (tG T - 1) with h1 | ⟨t, h1, h2, h3⟩
    · rw [h1, if_pos (by omega), if_pos (by omega)]
      exact ⟨s, rfl, Fr.rf, fun h => by omega⟩
    · rw [h2, if_neg (by omega), if_neg (by omega), m_g D hm, Option.bind_some]
      simp only []
      rw [show w32 ((tG T : Int) - 1) = ((tG T - 1 : Nat) : Int) by rw [w32_i (by omega) (by omega)]; omega]
      obtain ⟨s1, e1, f1, g1⟩ := m_next47 D hm hg hr h3 (tG T - 1) (by omega) (by omega)
      refine ⟨s1, e1, f1, fun _ => ?_⟩
      unfold nxr
      rw [h2, Int.toNat_natCast]
      exact g1
theorem m_lay19 (D : Nat) {n : Nat} {c : Int} {r : Nat → Int} (hg : tG T ≤ 7) : ∀ (j e : Nat) (s : Mem), e + j = tG T → MT s T → Rw s 125 (tG T) r → (∀ i, i < 24 → rI s 122 i = if 10 ≤ i ∧ i < 10 + 2 * e ∧ i % 2 = 0 then r ((i - 10) / 2) else w i) → ∃ s1, L_M_laysSeating_19 (D + 11) (n : Int) c (e : Int) s = ((f_M_minutesGo (D + 11) (n : Int) s1).bind fun p2 => (f_M_triesAnew (D + 11) p2.2).bind fun p3 => if c = (-1) then (L_M_laysSeating_83 (D + 11) (n : Int) (rI p3.2 84 58) 0 p3.2) else if rI p3.2 84 58 < c then (L_M_laysSeating_83 (D + 11) (n : Int) (rI p3.2 84 58) 0 p3.2) else (f_M_goesOn (D + 11) p3.2).bind fun p4 => L_M_laysSeating_8 (D + 11) (n : Int) c p4.1 p4.2) ∧ Fr (fun a i => a = 122 ∧ i < 24) s s1 ∧ MW s1 (wst T w r)
  | 0, e, s, hj, hm, hr, hw => by
    rw [e_M_laysSeating_19, m_g (D + 10) hm, Option.bind_some, if_neg (by simp; omega)]
    refine ⟨s, rfl, Fr.rf, fun i hi => ?_⟩
    rw [hw i hi, show e = tG T by omega]
    rfl
  | j + 1, e, s, hj, hm, hr, hw => by
    have f1 : Fr (fun a i => a = 122 ∧ i < 24) s (wI s 122 (10 + 2 * e) (r e)) := Fr.rf.w (by omega)
    obtain ⟨s1, g1, f2, g2⟩ := m_lay19 D (n := n) (c := c) hg j (e + 1) _ (by omega) (hm.fr f1 (fun a i q => by omega)) (hr.fr f1 (fun a i q => by omega)) (fun i hi => by
      by_cases q : i = 10 + 2 * e
      · rw [q, rI_same, if_pos (by omega), show (10 + 2 * e - 10) / 2 = e by omega]
      · rw [rI_other _ _ _ _ (by omega), hw i hi]
        by_cases h2 : 10 ≤ i ∧ i < 10 + 2 * e ∧ i % 2 = 0
        · rw [if_pos h2, if_pos (by omega)]
        · rw [if_neg h2, if_neg (by omega)])
    rw [e_M_laysSeating_19, m_g (D + 10) hm, Option.bind_some, if_pos (by simp; omega), inB_n (by omega), w32_10 (by omega), inB_n (by omega), w32_s (by omega), Int.toNat_natCast, Int.toNat_natCast]
    simp only []
    rw [hr e (by omega)]
    exact ⟨s1, g1, f1.tr f2, g2⟩
theorem m_lay83 (D : Nat) {n : Nat} {c : Int} {r : Nat → Int} (hg : tG T ≤ 7) : ∀ (j e : Nat) (s : Mem), e + j = tG T → MT s T → Rw s 125 (tG T) r → Rw s 126 e r → ∃ s1, L_M_laysSeating_83 (D + 11) (n : Int) c (e : Int) s = ((f_M_goesOn (D + 11) s1).bind fun p2 => L_M_laysSeating_8 (D + 11) (n : Int) c p2.1 p2.2) ∧ Fr (fun a _ => a = 126) s s1 ∧ Rw s1 126 (tG T) r
  | 0, e, s, hj, hm, hr, hb => by
    rw [e_M_laysSeating_83, m_g (D + 10) hm, Option.bind_some, if_neg (by simp; omega)]
    exact ⟨s, rfl, Fr.rf, by rw [← show e = tG T by omega]; exact hb⟩
  | j + 1, e, s, hj, hm, hr, hb => by
    have f1 : Fr (fun a _ => a = 126) s (wI s 126 e (r e)) := Fr.rf.w rfl
    obtain ⟨s1, g1, f2, g2⟩ := m_lay83 D (n := n) (c := c) hg j (e + 1) _ (by omega) (hm.fr f1 (fun a i q => by omega)) (hr.fr f1 (fun a i q => by omega)) (fun k hk => by
      by_cases q : k = e
      · rw [q, rI_same]
      · rw [rI_other _ _ _ _ (by omega)]; exact hb k (by omega))
    rw [e_M_laysSeating_83, m_g (D + 10) hm, Option.bind_some, if_pos (by simp; omega), inB_n (by omega), inB_n (by omega), w32_s (by omega), Int.toNat_natCast]
    simp only []
    rw [hr e (by omega)]
    exact ⟨s1, g1, f1.tr f2, g2⟩
theorem MH.fr {s s' : Mem} {P : Nat → Nat → Prop} (h : MH s T w w0) (hf : Fr P s s') (hp : ∀ a i, P a i → a ≠ 122 ∧ a ≠ 123 ∧ a ≠ 84 ∧ a ≠ 114 ∧ a ≠ 116 ∧ (a < 119 ∨ 121 < a)) : MH s' T w w0 := by
  obtain ⟨h1, h2, h3, h4, h5, bs, h6, h7⟩ := h
  have hn : ∀ i, ¬ P 84 i := fun i q => (hp _ _ q).2.2.1 rfl
  exact ⟨h1.fr hf (fun a i q => by have := hp a i q; omega), h2.fr hf (fun a i q => (hp a i q).1), h3.fr hf (fun a i q => (hp a i q).2.1), (hf.i (hn _)).trans h4, (hf.i (hn _)).trans h5, bs, (hf.i (hn _)).trans h6, h7⟩
theorem m_lay8 (D : Nat) {n : Nat} (ht : Tf T) (hf : Wf T w) (hn : n ≤ 100) (h0 : w 0 + n ≤ 999) : ∀ (j : Nat) (r : Nat → Int) (few : Int) (best : Nat → Int) (s : Mem), Rok T r → 5040 ≤ rkS r (tG T) 0 + j → Rw s 125 (tG T) r → MH s T w w → (few = -1 ∨ 1 ≤ few ∧ few ≤ 700 ∧ Rw s 126 (tG T) best) → ∃ s1, L_M_laysSeating_8 (D + 11) (n : Int) few 1 s = some ((seF T n w j r few best).1, s1) ∧ Fr PQ s s1 ∧ MH s1 T w w ∧ Rw s1 126 (tG T) (seF T n w j r few best).2
  | 0, r, few, best, s, hk, hrk, hr, hm, hs => by
    have h1 := (rkS_r r (tG T) 0).2
    have h2 := fct_7 ht.2.2.1
    omega
  | j + 1, r, few, best, s, hk, hrk, hr, hm, hs => by
    have hg := ht.2.2.1
    have hse := wst_se (w := w) hk
    obtain ⟨s1, e1, f1, w1⟩ := m_lay19 D (w := w) (n := n) (c := few) (r := r) hg (tG T) 0 s (by omega) hm.1 hr (fun i hi => by rw [if_neg (by omega)]; exact hm.2.1 i hi)
    obtain ⟨h1, h2, h3, h4, h5, bs, h6, h7⟩ := hm
    have m1 : MH s1 T (wst T w r) w := ⟨h1.fr f1 (fun a i q => by omega), w1, h3.fr f1 (fun a i q => by omega), (f1.i (by omega)).trans h4, (f1.i (by omega)).trans h5, bs, (f1.i (by omega)).trans h6, h7⟩
    obtain ⟨s2, e2, f2, m2, h58⟩ := m_go D (n := n) ht (hf.se hse) (by rw [hse.1]; omega) (by omega) m1
    obtain ⟨s3, e3, f3, m3⟩ := m_tries (D + 10) m2
    have hp : ∀ a i, PMm true a i → a ≠ 125 ∧ a ≠ 126 := fun a i q => by rcases q with q | q | q | q <;> omega
    have ff3 : Fr PQ s s3 := ((f1.mo Pt_Q).tr (f2.mo PMm_Q)).tr (f3.mo Pt_Q)
    have r3 : Rw s3 125 (tG T) r := ((hr.fr f1 (fun a i q => by omega)).fr f2 (fun a i q => (hp a i q).1)).fr f3 (fun a i q => by omega)
    have h58c : rI s3 84 58 = (bns T n (wst T w r) : Int) := by rw [f3.i (by omega)]; exact h58
    have hbn := bns_le hg n (wst T w r)
    have head : L_M_laysSeating_8 (D + 11) (n : Int) few 1 s = if few = -1 ∨ (bns T n (wst T w r) : Int) < few then L_M_laysSeating_83 (D + 11) (n : Int) (bns T n (wst T w r) : Int) 0 s3 else (f_M_goesOn (D + 11) s3).bind fun p4 => L_M_laysSeating_8 (D + 11) (n : Int) few p4.1 p4.2 := by
      have hfz : ¬ few = 0 := by rcases hs with q | q <;> omega
      rw [e_M_laysSeating_8, if_neg (by omega), if_neg hfz, show L_M_laysSeating_19 (D + 11) (n : Int) few 0 s = _ from e1, e2, Option.bind_some]
      simp only []
      rw [e3, Option.bind_some]
      simp only []
      rw [h58c]
      by_cases q : few = -1
      · rw [if_pos q, if_pos (Or.inl q)]
      · rw [if_neg q]
        by_cases q2 : (bns T n (wst T w r) : Int) < few
        · rw [if_pos q2, if_pos (Or.inr q2)]
        · rw [if_neg q2, if_neg (fun z => by rcases z with z | z <;> omega)]
    have key : ∃ s4 few' best', (if few = -1 ∨ (bns T n (wst T w r) : Int) < few then (bns T n (wst T w r) : Int) else few) = few' ∧ (if few = -1 ∨ (bns T n (wst T w r) : Int) < few then r else best) = best' ∧ Fr PQ s s4 ∧ MH s4 T w w ∧ Rw s4 125 (tG T) r ∧ 0 ≤ few' ∧ few' ≤ 700 ∧ Rw s4 126 (tG T) best' ∧ L_M_laysSeating_8 (D + 11) (n : Int) few 1 s = (f_M_goesOn (D + 11) s4).bind fun p4 => L_M_laysSeating_8 (D + 11) (n : Int) few' p4.1 p4.2 := by
      by_cases hlt : few = -1 ∨ (bns T n (wst T w r) : Int) < few
      · obtain ⟨s4, e4, f4, b4⟩ := m_lay83 D (n := n) (c := (bns T n (wst T w r) : Int)) hg (tG T) 0 s3 (by omega) m3.1 r3 (fun k hk => by omega)
        refine ⟨s4, _, _, if_pos hlt, if_pos hlt, ff3.tr (f4.mo (fun a i q => by unfold PQ; omega)), m3.fr f4 (fun a i q => by omega), r3.fr f4 (fun a i q => by omega), by omega, by omega, b4, ?_⟩
        rw [head, if_pos hlt]
        exact e4
      · rcases hs with q | ⟨q1, q2, q3⟩
        · exact absurd (Or.inl q) hlt
        · refine ⟨s3, _, _, if_neg hlt, if_neg hlt, ff3, m3, r3, by omega, q2, ((q3.fr f1 (fun a i q => by omega)).fr f2 (fun a i q => (hp a i q).2)).fr f3 (fun a i q => by omega), ?_⟩
          rw [head, if_neg hlt]
    obtain ⟨s4, few', best', k1, k2, f4, m4, r4, l4, u4, b4, ek⟩ := key
    unfold seF
    rw [ek, k1, k2]
    obtain ⟨s5, e5, f5, n5⟩ := m_next (D + 9) m4.1 hg r4
    have f5b : Fr PQ s s5 := f4.tr (f5.mo (fun a i q => by unfold PQ; omega))
    have m5 := m4.fr f5 (fun a i q => by omega)
    have b5 : Rw s5 126 (tG T) best' := b4.fr f5 (fun a i q => by omega)
    rw [e5, Option.bind_some]
    simp only []
    by_cases ht0 : tnr r (tG T - 1) < 0
    · rw [if_pos ht0, if_pos (Or.inr ht0), e_M_laysSeating_8, if_pos rfl]
      exact ⟨s5, rfl, f5b, m5, b5⟩
    · rw [if_neg ht0]
      by_cases hz : few' = 0
      · rw [if_pos (Or.inl hz), e_M_laysSeating_8, if_neg (by omega), if_pos hz]
        exact ⟨s5, rfl, f5b, m5, b5⟩
      · rw [if_neg (by omega)]
        have hrk2 := rk_next hk ht0
        obtain ⟨s6, e6, f6, m6, c6⟩ := m_lay8 D ht hf hn h0 j (nxr (tG T) r) few' best' s5 (nxr_ok hk ht0) (by omega) (n5 ht0) m5 (Or.inr ⟨by omega, u4, b5⟩)
        exact ⟨s6, e6, f5b.tr f6, m6, c6⟩
theorem m_seating27 (D : Nat) {s : Mem} {n : Nat} {c : Int} (hm : MM s T w) (ht : Tf T) (hf : Wf T w) (hn : n ≤ 100) (h0 : w 0 + n ≤ 999) (hc : c = -1 ∨ 0 ≤ c ∧ c < (tG T : Int)) : ∃ s1, L_M_seating_27 (D + 12) (n : Int) c s = some (if c = -1 then (seS T n w).1 else (seS T n w).2 c.toNat, s1) ∧ Fr PQ s s1 ∧ MM s1 T w ∧ (bsO s → bsO s1) := by
  have hg := ht.2.2.1
  obtain ⟨s1, e1, f1, m1, -⟩ := m_aside (D + 11) hm
  obtain ⟨s2, e2, f2, g2⟩ := m_first4 (D + 7) ht hf (tN T) 0 0 (fun _ => 0) s1 (by omega) (fsr_g hf _) m1.1 m1.2.1 (fun k hk => by omega)
  have m2 := m1.fr f2 (fun a i q => by omega)
  have hrk := (rkS_r (fsr T w (tN T) 0 0 (fun _ => 0)).2 (tG T) 0).1
  obtain ⟨s3, e3, f3, m3, b3⟩ := m_lay8 D (n := n) ht hf hn h0 5040 _ (-1) (fun _ => 0) s2 (fsr_rok hf _) (by omega) g2 m2 (Or.inl rfl)
  have e3b : f_M_laysSeating (D + 12) (n : Int) s1 = some ((seS T n w).1, s3) := by
    rw [show f_M_laysSeating (D + 12) (n : Int) s1 = f_M_laysSeating (D + 11 + 1) (n : Int) s1 from rfl, e_M_laysSeating, show f_M_laysFirst (D + 11) s1 = some (0, s2) from (e_M_laysFirst (D + 10) s1).trans e2, Option.bind_some]
    exact e3
  obtain ⟨s4, e4, f4, m4, h53, g57⟩ := m_back (D + 10) m3
  have ff : Fr PQ s s4 := (((f1.mo PAs_Q).tr (f2.mo (fun a i q => by unfold PQ; omega))).tr f3).tr (f4.mo Pb_Q)
  have b4 : Rw s4 126 (tG T) (seS T n w).2 := Rw.fr b3 f4 (fun a i q => by omega)
  rw [e_M_seating_27, e1, Option.bind_some]
  simp only []
  rw [e3b, Option.bind_some]
  simp only []
  rw [e4, Option.bind_some]
  refine ⟨s4, ?_, ff, hm.of ff m4 h53 g57.1, fun _ => g57.2⟩
  rcases hc with rfl | ⟨c1, c2⟩
  · rw [if_pos rfl, if_pos rfl]
  · obtain ⟨k, rfl⟩ := Int.eq_ofNat_of_zero_le c1
    rw [if_neg (by omega), if_neg (by omega), inB_n (by omega), Int.toNat_natCast, b4 k (by omega)]
theorem m_seating (D : Nat) {s : Mem} (hm : MM s T w) (ht : Tf T) (hf : Wf T w) (a b : Int) : ∃ s1, f_M_seating (D + 13) a b s = some (sSeating T w a b, s1) ∧ Fr PQ s s1 ∧ MM s1 T w ∧ (bsO s → bsO s1) := by
  have hg := ht.2.2.1
  unfold sSeating
  rw [e_M_seating, m_can (D + 10) hm hf a (by omega) (by omega), Option.bind_some]
  simp only []
  by_cases hc : cpc w a 1 10
  · obtain ⟨n, rfl⟩ := Int.eq_ofNat_of_zero_le (show 0 ≤ a by have := hc.1; omega)
    have hc2 := hc.2
    rw [if_pos hc, if_pos hc, if_neg (by omega), Int.toNat_natCast]
    by_cases b1 : b = -1
    · obtain ⟨s1, e1, f1, m1⟩ := m_seating27 D (n := n) (c := b) hm ht hf (by omega) (by omega) (Or.inl b1)
      rw [if_pos b1, if_pos b1, e1, if_pos b1]
      exact ⟨s1, rfl, f1, m1⟩
    · rw [if_neg b1, if_neg b1, m_isG (D + 10) hm.1 hg, Option.bind_some]
      simp only []
      by_cases b2 : 0 ≤ b ∧ b < (tG T : Int)
      · obtain ⟨s1, e1, f1, m1⟩ := m_seating27 D (n := n) (c := b) hm ht hf (by omega) (by omega) (Or.inr b2)
        rw [if_pos b2, if_neg (by omega), if_pos b2, e1, if_neg b1]
        exact ⟨s1, rfl, f1, m1⟩
      · rw [if_neg b2, if_pos rfl, if_neg b2]
        exact ⟨s, rfl, Fr.rf, hm, id⟩
  · rw [if_neg hc, if_neg hc, if_pos rfl]
    exact ⟨s, rfl, Fr.rf, hm, id⟩
end MSEAT
