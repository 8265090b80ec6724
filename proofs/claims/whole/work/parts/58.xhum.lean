/-! hums: what was heard; the class's way -/
/-- what is heard at a seat: 255 where nobody is -/
def hrd (T : Tab) (w : Nat → Int) (q : Int) : Int := if who w (tG T) q = -1 then 255 else w (11 + 2 * (who w (tG T) q).toNat)
def soG (T : Tab) (w : Nat → Int) (hf : Nat → Int) (m : Nat) : Nat → Nat → Bool
  | 0, _ => true
  | j + 1, k => (if hf (3 * k) = (m : Int) then decide (w 0 ≤ 999) && decide (hf (3 * k + 2) = hrd T w (hf (3 * k + 1))) else true) && soG T w hf m j (k + 1)
def fit (T : Tab) (hc : Nat) (hf : Nat → Int) : Nat → Nat → (Nat → Int) → Bool
  | 0, _, _ => true
  | j + 1, m, w => soG T w hf m hc 0 && fit T hc hf j (m + 1) (mnt T w).1
def wtF (T : Tab) (w : Nat → Int) (hc : Nat) (hf : Nat → Int) (a : Nat) : Nat → Nat → Nat → Nat
  | 0, _, b => b
  | j + 1, v, b => wtF T w hc hf a j (v + 1) (if fit (tWet T a (v : Int)) hc hf 31 0 w then b + 2 ^ v else b)
def wtS (T : Tab) (w : Nat → Int) (hc : Nat) (hf : Nat → Int) (a : Nat) : Nat := wtF T w hc hf a 10 0 0
/-- what is heard may be so -/
def Hf (T : Tab) (hc : Nat) (hf : Nat → Int) : Prop := hc ≤ 16 ∧ ∀ k, k < hc → (0 ≤ hf (3 * k) ∧ hf (3 * k) ≤ 30) ∧ (0 ≤ hf (3 * k + 1) ∧ hf (3 * k + 1) < (tN T : Int)) ∧ 0 ≤ hf (3 * k + 2) ∧ hf (3 * k + 2) ≤ 255
def XHs (s : Mem) (hc : Nat) (hf : Nat → Int) : Prop := rI s 66 2 = (hc : Int) ∧ ∀ i, i < 3 * hc → rI s 67 i = hf i
theorem XHs.fr {s s' : Mem} {hc : Nat} {hf : Nat → Int} {P : Nat → Nat → Prop} (h : XHs s hc hf) (hfr : Fr P s s') (hp : ∀ a k, P a k → (a ≠ 66 ∨ k ≠ 2) ∧ a ≠ 67) : XHs s' hc hf := ⟨(hfr.i (fun q => by have := hp _ _ q; omega)).trans h.1, fun i hi => (hfr.i (fun q => by have := hp _ _ q; omega)).trans (h.2 i hi)⟩
theorem Tf.wet {T : Tab} (h : Tf T) {a : Nat} {v : Int} (hv : 0 ≤ v ∧ v ≤ 9) : Tf (tWet T a v) := by
  obtain ⟨h1, h2, h3, h4, h5⟩ := h
  refine ⟨h1, h2, h3, fun k hk => ⟨?_, (h4 k hk).2⟩, h5⟩
  show 0 ≤ (if k = a then v else tW T k) ∧ (if k = a then v else tW T k) ≤ 9
  split
  · exact hv
  · exact (h4 k hk).1
theorem Wf.wet {T : Tab} {w : Nat → Int} (h : Wf T w) (a : Nat) (v : Int) : Wf (tWet T a v) w := h
/-- a row by rows: is it so -/
theorem soG_or {T : Tab} {w hf : Nat → Int} {m : Nat} : ∀ {j k : Nat}, (∀ i, k ≤ i → i < k + j → hf (3 * i) ≠ (m : Int)) → soG T w hf m j k = true
  | 0, _, _ => rfl
  | j + 1, k, h => by
    unfold soG
    rw [if_neg (h k (Nat.le_refl _) (by omega)), soG_or (fun i g1 g2 => h i (by omega) (by omega))]
    rfl
theorem fit_all {T : Tab} {hc : Nat} {hf : Nat → Int} : ∀ {j m : Nat} {w : Nat → Int}, (∀ d, d < j → soG T (mns T d w) hf (m + d) hc 0 = true) → fit T hc hf j m w = true
  | 0, _, _, _ => rfl
  | j + 1, m, w, h => by
    unfold fit
    have h0 : soG T w hf m hc 0 = true := h 0 (by omega)
    have h1 : fit T hc hf j (m + 1) (mnt T w).1 = true := fit_all (fun d hd => by
      have := h (d + 1) (by omega)
      rw [show m + (d + 1) = m + 1 + d by omega] at this
      exact this)
    rw [h0, h1]
    rfl
theorem fit_no {T : Tab} {hc : Nat} {hf : Nat → Int} : ∀ {j m : Nat} {w : Nat → Int} (d : Nat), d < j → soG T (mns T d w) hf (m + d) hc 0 = false → fit T hc hf j m w = false
  | 0, _, _, d, hd, _ => by omega
  | j + 1, m, w, d, hd, h => by
    unfold fit
    cases d with
    | zero =>
      have h0 : soG T w hf m hc 0 = false := h
      rw [h0]
      rfl
    | succ d =>
      have h1 : fit T hc hf j (m + 1) (mnt T w).1 = false := fit_no d (by omega) (by
        rw [show m + 1 + d = m + (d + 1) by omega]
        exact h)
      rw [h1, Bool.and_false]
abbrev PHu : Nat → Nat → Prop := fun a k => 35 ≤ a ∧ a ≤ 41 ∨ 69 ≤ a ∧ a ≤ 78 ∨ a = 66 ∧ (k = 4 ∨ k = 5 ∨ k = 6)
theorem PTr_Hu : ∀ a k, PTr a k → PHu a k := fun a k h => Or.inl h
theorem PHu33 : ∀ a k, PHu a k → 33 ≤ a := fun a k h => by unfold PHu at h; omega
section XHUM
variable {T : Tab} {w : Nat → Int} {hc : Nat} {hf : Nat → Int}
theorem x_tryWet (D : Nat) {s : Mem} (hx : XM s T w) (ht : Tf T) {a : Nat} (ha : a < tG T) (v : Int) : ∃ s1, f_Hu_tryWet (D + 2) 28 (a : Int) v s = some (0, s1) ∧ Fr PTr s s1 ∧ XR s1 35 (tWet T a v) w := by
  have hg := ht.2.2.1
  obtain ⟨s1, e1, f1, x1⟩ := x_copy D hx.1 hg
  have f2 : Fr (fun a _ => a = 38) s1 (wI s1 38 a v) := Fr.rf.w rfl
  rw [e_Hu_tryWet, e1, Option.bind_some]
  simp only []
  rw [if_neg (by omega), if_pos (by omega), inB_n (by omega), Int.toNat_natCast]
  refine ⟨_, rfl, (f1.mo PC_Tr).tr (f2.mo (fun a k q => by unfold PTr; omega)), ?_⟩
  obtain ⟨g1, g2, g3, g4, g5, g6, g7, g8⟩ := x1
  refine ⟨g1, ?_, (f2.i (by omega)).trans g3, ?_, fun k hk => (f2.i (by omega)).trans (g5 k hk), fun k hk => (f2.i (by omega)).trans (g6 k hk), fun k hk => ?_, fun q hq => (f2.i (by omega)).trans (g8 q hq)⟩
  · rw [rQ_wI]
    exact g2.fr f2 (fun a k q => by omega)
  · rw [f2.i (by omega)]; exact g4
  · show _ = if k = a then v else tW T k
    by_cases e : k = a
    · rw [if_pos e, e]; exact rI_same _ _ _ _
    · rw [if_neg e, rI_other _ _ _ _ (by omega)]
      exact g7 k hk
theorem w3 {c : Nat} (h : c < 100) : w32 ((c : Int) * 3) = ((3 * c : Nat) : Int) := by rw [w32_i (by omega) (by omega)]; omega
theorem w31 {c : Nat} (h : c < 100) : w32 (((3 * c : Nat) : Int) + 1) = ((3 * c + 1 : Nat) : Int) := w32_s (by omega)
theorem w32b {c : Nat} (h : c < 100) : w32 (((3 * c : Nat) : Int) + 2) = ((3 * c + 2 : Nat) : Int) := by rw [w32_i (by omega) (by omega)]; omega
theorem x_isSo2 (D : Nat) {s : Mem} {m : Nat} (hx : XR s 35 T w) (ht : Tf T) (h9 : w 0 ≤ 999) (hh : XHs s hc hf) (hH : Hf T hc hf) : ∀ (j k : Nat), k + j = hc → L_Hu_isSo_2 D (m : Int) (k : Int) s = some (if soG T w hf m j k then 1 else 0, s)
  | 0, k, hj => by
    rw [e_Hu_isSo_2, hh.1, if_neg (by omega)]
    rfl
  | j + 1, k, hj => by
    have hn := ht.2.1
    have hg := ht.2.2.1
    have h16 := hH.1
    obtain ⟨r1, r2, r3⟩ := hH.2 k (by omega)
    have ih := x_isSo2 D (m := m) hx ht h9 hh hH j (k + 1) (by omega)
    unfold soG
    rw [e_Hu_isSo_2, hh.1, if_pos (by omega), if_pos (by omega), w3 (by omega), w31 (by omega), inB_n (by omega), inB_n (by omega), Int.toNat_natCast, Int.toNat_natCast, hh.2 _ (by omega), hh.2 _ (by omega), w32_s (by omega)]
    by_cases h1 : hf (3 * k) = (m : Int)
    · rw [if_pos h1, if_neg (by omega), if_pos (by omega)]
      obtain ⟨q, hq⟩ := Int.eq_ofNat_of_zero_le r2.1
      have l91 : ∀ e : Int, e = hrd T w (hf (3 * k + 1)) → L_Hu_isSo_91 D (m : Int) (k : Int) e s = some (if ((if hf (3 * k) = (m : Int) then decide (w 0 ≤ 999) && decide (hf (3 * k + 2) = hrd T w (hf (3 * k + 1))) else true) && soG T w hf m j (k + 1)) = true then 1 else 0, s) := fun e he => by
        rw [e_Hu_isSo_91, w3 (by omega), w32b (by omega), inB_n (by omega), Int.toNat_natCast, hh.2 _ (by omega), w32_s (by omega), if_pos h1, he]
        by_cases h2 : hf (3 * k + 2) = hrd T w (hf (3 * k + 1))
        · rw [if_pos h2, ih, decide_eq_true h9, decide_eq_true h2]
          simp
        · rw [if_neg h2, decide_eq_true h9, decide_eq_false h2]
          simp
      rw [hq] at r2
      rw [hq, inB_n (by omega), Int.toNat_natCast, hx.2.2.2.2.2.2.2 q (by omega), ← hq]
      rcases who_or w (tG T) (hf (3 * k + 1)) with ⟨w1, -⟩ | ⟨i, w2, w3, -⟩
      · rw [w1, if_pos (by omega), l91 255 (by unfold hrd; rw [w1, if_pos rfl])]
      · rw [w3, if_neg (by omega), if_pos (by omega), inB_n (by omega), Int.toNat_natCast, hx.2.2.2.2.2.1 i w2, l91 _ (by unfold hrd; rw [w3, if_neg (by omega), Int.toNat_natCast])]
    · rw [if_neg h1, if_neg h1, ih, Bool.true_and]
theorem x_isSo (D : Nat) {s : Mem} {m : Nat} (hx : XR s 35 T w) (ht : Tf T) (h9 : w 0 ≤ 999) (hh : XHs s hc hf) (hH : Hf T hc hf) : f_Hu_isSo (D + 1) (m : Int) s = some (if soG T w hf m hc 0 then 1 else 0, s) := (e_Hu_isSo D m s).trans (x_isSo2 D hx ht h9 hh hH hc 0 (by omega))
/-- the class's way: minute by minute to the last one heard -/
theorem x_fits10 (D : Nat) (ht : Tf T) (hH : Hf T hc hf) {last : Nat} (hl : last ≤ 30) (hlast : ∀ k, k < hc → hf (3 * k) ≤ (last : Int)) : ∀ (j m : Nat) (w : Nat → Int) (s : Mem), m + j = last → XR s 35 T w → Wf T w → w 0 + j ≤ 999 → XHs s hc hf → ∃ s1, L_Hu_fits_30 (D + 6) (last : Int) (m : Int) s = some (if fit T hc hf (31 - m) m w then 1 else 0, s1) ∧ Fr PTr s s1
  | 0, m, w, s, hj, hx, hw, h9, hh => by
    have hm : m = last := by omega
    subst hm
    have e31 : 31 - m = (30 - m) + 1 := by omega
    rw [e_Hu_fits_30, x_isSo (D + 5) hx ht (by omega) hh hH, Option.bind_some, e31]
    have hrest : fit T hc hf (30 - m) (m + 1) (mnt T w).1 = true := fit_all (fun d _ => soG_or (fun i _ hi => by have := hlast i (by omega); omega))
    unfold fit
    rw [hrest, Bool.and_true]
    cases soG T w hf m hc 0
    · exact ⟨s, rfl, Fr.rf⟩
    · simp only [if_true]
      rw [if_neg (by omega), w32_s (by omega), e_Hu_fits_10, if_pos (by omega)]
      exact ⟨s, rfl, Fr.rf⟩
  | j + 1, m, w, s, hj, hx, hw, h9, hh => by
    have e31 : 31 - m = (31 - (m + 1)) + 1 := by omega
    rw [e_Hu_fits_30, x_isSo (D + 5) hx ht (by omega) hh hH, Option.bind_some, e31]
    unfold fit
    cases soG T w hf m hc 0
    · exact ⟨s, rfl, Fr.rf⟩
    · simp only [if_true, Bool.true_and]
      obtain ⟨s1, bb, e1, f1, h1, -⟩ := x_pass (D + 1) hx ht hw (by omega)
      obtain ⟨s2, e2, f2⟩ := x_fits10 D ht hH hl hlast j (m + 1) (mnt T w).1 s1 (by omega) h1 (mnt_w hw (by omega)) (by rw [mnt_0 hw]; omega) (hh.fr f1 (fun a k q => by unfold PP at q; omega))
      rw [if_neg (by omega), w32_s (by omega), e_Hu_fits_10, if_neg (by omega), if_pos (by omega), e1, Option.bind_some]
      exact ⟨s2, e2, (f1.mo PP_Tr).tr f2⟩
/-- the last minute of which something is heard -/
def lsF (hf : Nat → Int) : Nat → Nat → Int → Int
  | 0, _, b => b
  | j + 1, k, b => lsF hf j (k + 1) (if b < hf (3 * k) then hf (3 * k) else b)
theorem lsF_r {hf : Nat → Int} : ∀ (j k : Nat) (b : Int), (∀ i, k ≤ i → i < k + j → 0 ≤ hf (3 * i) ∧ hf (3 * i) ≤ 30) → 0 ≤ b → b ≤ 30 → (0 ≤ lsF hf j k b ∧ lsF hf j k b ≤ 30) ∧ b ≤ lsF hf j k b ∧ (∀ i, k ≤ i → i < k + j → hf (3 * i) ≤ lsF hf j k b) ∧ (lsF hf j k b = b ∨ ∃ i, k ≤ i ∧ i < k + j ∧ hf (3 * i) = lsF hf j k b)
  | 0, k, b, h, h0, h1 => ⟨⟨h0, h1⟩, Int.le_refl _, fun i g1 g2 => by omega, Or.inl rfl⟩
  | j + 1, k, b, h, h0, h1 => by
    unfold lsF
    have hk := h k (Nat.le_refl _) (by omega)
    by_cases q : b < hf (3 * k)
    · rw [if_pos q]
      obtain ⟨a1, a2, a3, a4⟩ := lsF_r j (k + 1) (hf (3 * k)) (fun i g1 g2 => h i (by omega) (by omega)) hk.1 hk.2
      refine ⟨a1, by omega, fun i g1 g2 => ?_, ?_⟩
      · by_cases e : i = k
        · rw [e]; exact a2
        · exact a3 i (by omega) (by omega)
      · rcases a4 with a4 | ⟨i, g1, g2, g3⟩
        · exact Or.inr ⟨k, Nat.le_refl _, by omega, a4.symm⟩
        · exact Or.inr ⟨i, by omega, by omega, g3⟩
    · rw [if_neg q]
      obtain ⟨a1, a2, a3, a4⟩ := lsF_r j (k + 1) b (fun i g1 g2 => h i (by omega) (by omega)) h0 h1
      refine ⟨a1, a2, fun i g1 g2 => ?_, ?_⟩
      · by_cases e : i = k
        · rw [e]; omega
        · exact a3 i (by omega) (by omega)
      · rcases a4 with a4 | ⟨i, g1, g2, g3⟩
        · exact Or.inl a4
        · exact Or.inr ⟨i, by omega, by omega, g3⟩
theorem x_last4 (D : Nat) {s : Mem} (hh : XHs s hc hf) (hH : Hf T hc hf) : ∀ (j k : Nat) (b : Int), k + j = hc → L_Hu_lastMinutes_4 (D + 1) b (k : Int) s = some (lsF hf j k b, s)
  | 0, k, b, hj => by
    rw [e_Hu_lastMinutes_4, hh.1, if_neg (by omega)]
    rfl
  | j + 1, k, b, hj => by
    have h16 := hH.1
    rw [e_Hu_lastMinutes_4, hh.1, if_pos (by omega), if_pos (by omega), w3 (by omega), inB_n (by omega), Int.toNat_natCast, hh.2 _ (by omega), x_max, Option.bind_some, w32_s (by omega)]
    exact x_last4 D hh hH j (k + 1) _ (by omega)
def lst (hc : Nat) (hf : Nat → Int) : Nat := (lsF hf hc 0 0).toNat
theorem lst_r (hH : Hf T hc hf) : lsF hf hc 0 0 = (lst hc hf : Int) ∧ lst hc hf ≤ 30 ∧ (∀ k, k < hc → hf (3 * k) ≤ (lst hc hf : Int)) ∧ (lst hc hf = 0 ∨ ∃ k, k < hc ∧ hf (3 * k) = (lst hc hf : Int)) := by
  obtain ⟨a1, a2, a3, a4⟩ := lsF_r (hf := hf) hc 0 0 (fun i _ hi => (hH.2 i (by omega)).1) (by omega) (by omega)
  unfold lst
  refine ⟨by omega, by omega, fun k hk => ?_, ?_⟩
  · have := a3 k (by omega) (by omega); omega
  · rcases a4 with a4 | ⟨i, g1, g2, g3⟩
    · left; omega
    · right; exact ⟨i, by omega, by omega⟩
theorem x_fits (D : Nat) {s : Mem} (hx : XM s T w) (ht : Tf T) (hw : Wf T w) (hh : XHs s hc hf) (hH : Hf T hc hf) {a v : Nat} (ha : a < tG T) (hv : v < 10) (h9 : w 0 + lst hc hf ≤ 999) : ∃ s1, f_Hu_fits (D + 7) 28 (a : Int) (v : Int) (lst hc hf : Int) s = some (if fit (tWet T a (v : Int)) hc hf 31 0 w then 1 else 0, s1) ∧ Fr PTr s s1 := by
  obtain ⟨l1, l2, l3, l4⟩ := lst_r hH
  obtain ⟨s1, e1, f1, x1⟩ := x_tryWet (D + 4) hx ht ha (v : Int)
  have ht2 : Tf (tWet T a (v : Int)) := ht.wet (by omega)
  obtain ⟨s2, e2, f2⟩ := x_fits10 D (T := tWet T a (v : Int)) ht2 hH l2 l3 (lst hc hf) 0 w s1 (by omega) x1 (hw.wet a v) h9 (hh.fr f1 (fun a k q => by unfold PTr at q; omega))
  rw [e_Hu_fits, e1, Option.bind_some]
  simp only []
  rw [e_Hu_fits_10, if_neg (by omega), if_neg (by omega)]
  exact ⟨s2, e2, f1.tr f2⟩
/-- too late for what was heard: nothing fits -/
theorem fit_late (hw : Wf T w) (hH : Hf T hc hf) (h9 : 999 < w 0 + lst hc hf) (h99 : w 0 ≤ 999) : fit T hc hf 31 0 w = false := by
  obtain ⟨l1, l2, l3, l4⟩ := lst_r hH
  rcases l4 with l4 | ⟨k, hk, hk2⟩
  · rw [l4] at h9; omega
  · refine fit_no (lst hc hf) (by omega) ?_
    have hm := (mns_w (T := T) (lst hc hf) hw (by omega)).2.1
    have key : ∀ j i, i ≤ k → k < i + j → soG T (mns T (lst hc hf) w) hf (0 + lst hc hf) j i = false := by
      intro j
      induction j with
      | zero => intro i h1 h2; omega
      | succ j ih =>
        intro i h1 h2
        unfold soG
        by_cases e : i = k
        · rw [e, if_pos (by omega), decide_eq_false (by omega)]
          rfl
        · rw [ih (i + 1) (by omega) (by omega), Bool.and_false]
    exact key hc 0 (by omega) (by omega)
theorem x_wets11 (D : Nat) (ht : Tf T) (hw : Wf T w) (h99 : w 0 ≤ 999) (hH : Hf T hc hf) {a : Nat} (ha : a < tG T) : ∀ (j v b : Nat) (s : Mem), v + j = 10 → b < 2 ^ v → XM s T w → XHs s hc hf → ∃ s1, L_Hu_wetsOf_11 (D + 7) 28 (a : Int) (lst hc hf : Int) (b : Int) (v : Int) s = some (((wtF T w hc hf a j v b : Nat) : Int), s1) ∧ Fr PTr s s1
  | 0, v, b, s, hj, hb, hx, hh => by
    rw [e_Hu_wetsOf_11, if_neg (by omega)]
    exact ⟨s, rfl, Fr.rf⟩
  | j + 1, v, b, s, hj, hb, hx, hh => by
    obtain ⟨l1, l2, l3, l4⟩ := lst_r hH
    have h0 := hw.1
    have hp : 2 ^ v < 2 ^ (v + 1) := Nat.pow_lt_pow_right (by omega) (by omega)
    have hp2 : 2 ^ (v + 1) = 2 ^ v + 2 ^ v := by rw [Nat.pow_succ]; omega
    have hp9 : 2 ^ v ≤ 2 ^ 9 := Nat.pow_le_pow_right (by omega) (by omega)
    rw [e_Hu_wetsOf_11, if_pos (by omega), hx.1.2.2.1, w32_i (by omega) (by omega)]
    unfold wtF
    by_cases h9 : 999 < w 0 + (lst hc hf : Int)
    · rw [if_pos h9]
      -- nothing fits any more: the class leaves off
      have none : ∀ (j v b : Nat), v + j ≤ 10 → wtF T w hc hf a j v b = b := by
        intro j
        induction j with
        | zero => intro v b _; rfl
        | succ j ih =>
          intro v b hv
          unfold wtF
          rw [fit_late (hw.wet a (v : Int)) hH h9 h99]
          exact ih (v + 1) b (by omega)
      rw [fit_late (hw.wet a (v : Int)) hH h9 h99]
      simp only [Bool.false_eq_true, if_false]
      rw [none j (v + 1) b (by omega)]
      exact ⟨s, rfl, Fr.rf⟩
    · obtain ⟨s1, e1, f1⟩ := x_fits D hx ht hw hh hH (v := v) ha (by omega) (by omega)
      have hx1 := hx.fr f1 PTr33
      have hh1 := hh.fr f1 (fun a k q => by unfold PTr at q; omega)
      rw [if_neg h9, show f_Hu_fits (D + 7) 28 (a : Int) (v : Int) (lst hc hf : Int) s = _ from e1, Option.bind_some, w32_s (by omega)]
      simp only []
      cases fit (tWet T a (v : Int)) hc hf 31 0 w
      · simp only [Bool.false_eq_true, if_false, if_true]
        obtain ⟨s2, e2, f2⟩ := x_wets11 D ht hw h99 hH ha j (v + 1) b s1 (by omega) (by omega) hx1 hh1
        exact ⟨s2, e2, f1.tr f2⟩
      · simp only [if_true]
        obtain ⟨o1, -⟩ := or_p (k := v) (a := b) (by omega) hb
        rw [if_neg (by omega), iShl_1 (by omega), iOr_nat (by omega) (by omega), o1]
        obtain ⟨s2, e2, f2⟩ := x_wets11 D ht hw h99 hH ha j (v + 1) (b + 2 ^ v) s1 (by omega) (by omega) hx1 hh1
        exact ⟨s2, e2, f1.tr f2⟩
theorem x_wetsOf (D : Nat) {s : Mem} (hx : XM s T w) (ht : Tf T) (hw : Wf T w) (h99 : w 0 ≤ 999) (hh : XHs s hc hf) (hH : Hf T hc hf) {a : Nat} (ha : a < tG T) : ∃ s1, f_Hu_wetsOf (D + 8) 28 (a : Int) s = some (((wtS T w hc hf a : Nat) : Int), s1) ∧ Fr PTr s s1 := by
  obtain ⟨l1, -⟩ := lst_r hH
  obtain ⟨s1, e1, f1⟩ := x_wets11 D ht hw h99 hH ha 10 0 0 s (by omega) (by decide) hx hh
  have e0 : f_Hu_lastMinutes (D + 7) s = some ((lst hc hf : Int), s) := by
    rw [← l1]
    exact (e_Hu_lastMinutes (D + 6) s).trans (x_last4 (T := T) (D + 5) hh hH hc 0 0 (by omega))
  rw [e_Hu_wetsOf, e0, Option.bind_some]
  exact ⟨s1, e1, f1⟩
def sWets (T : Tab) (w : Nat → Int) (hc : Nat) (hf : Nat → Int) (a : Int) : Int := if 0 ≤ a ∧ a < (tG T : Int) then (wtS T w hc hf a.toNat : Int) else -1
theorem x_wets (D : Nat) {s : Mem} (hx : XM s T w) (ht : Tf T) (hw : Wf T w) (h99 : w 0 ≤ 999) (hh : XHs s hc hf) (hH : Hf T hc hf) (a : Int) : ∃ s1, f_X_wets (D + 9) a s = some (sWets T w hc hf a, s1) ∧ Fr PTr s s1 := by
  unfold sWets
  rw [e_X_wets, x_isG (D + 7) hx ht, Option.bind_some]
  simp only []
  by_cases ha : 0 ≤ a ∧ a < (tG T : Int)
  · obtain ⟨k, rfl⟩ := Int.eq_ofNat_of_zero_le ha.1
    obtain ⟨s1, e1, f1⟩ := x_wetsOf D hx ht hw h99 hh hH (a := k) (by omega)
    rw [if_pos ha, if_pos ha, if_neg (by omega), e1, Option.bind_some, Int.toNat_natCast]
    exact ⟨s1, rfl, f1⟩
  · rw [if_neg ha, if_neg ha, if_pos rfl]
    exact ⟨s, rfl, Fr.rf⟩
end XHUM
