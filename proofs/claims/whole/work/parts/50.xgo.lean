/-! the class: minutes one behind the other, copies -/
/-- what the class's log holds -/
def KX (s : Mem) (K : List Int) : Prop := ∃ c : Nat, c ≤ 40 ∧ K.length = 4 * c ∧ rI s 42 1 = (c : Int) ∧ ∀ i, i < 4 * c → rI s 43 i = K.getD i 0
theorem KX.fr {s s' : Mem} {K : List Int} {P : Nat → Nat → Prop} (h : KX s K) (hf : Fr P s s') (hp : ∀ a i, P a i → (a ≠ 42 ∨ i ≠ 1) ∧ a ≠ 43) : KX s' K := by
  obtain ⟨c, h1, h2, h3, h4⟩ := h
  exact ⟨c, h1, h2, (hf.i (fun q => by have := hp _ _ q; omega)).trans h3, fun i hi => (hf.i (fun q => by have := hp _ _ q; omega)).trans (h4 i hi)⟩
abbrev PL : Nat → Nat → Prop := fun a i => a = 43 ∨ a = 42 ∧ i = 1
theorem x_add31 (D : Nat) {s : Mem} {m k q z : Int} {c : Nat} (hc : rI s 42 1 = (c : Int)) (hc2 : c < 40) : L_Lg_add_31 D m k q z s = some (0, wI (wI (wI (wI (wI s 43 (4 * c) m) 43 (4 * c + 1) k) 43 (4 * c + 2) q) 43 (4 * c + 3) z) 42 1 ((c + 1 : Nat) : Int)) := by
  have e0 : w32 ((c : Int) * 4) = ((4 * c : Nat) : Int) := by rw [w32_i (by omega) (by omega)]; omega
  have e1 : w32 (((4 * c : Nat) : Int) + 1) = ((4 * c + 1 : Nat) : Int) := w32_s (by omega)
  have e2 : w32 (((4 * c : Nat) : Int) + 2) = ((4 * c + 2 : Nat) : Int) := by rw [w32_i (by omega) (by omega)]; omega
  have e3 : w32 (((4 * c : Nat) : Int) + 3) = ((4 * c + 3 : Nat) : Int) := by rw [w32_i (by omega) (by omega)]; omega
  rw [e_Lg_add_31, hc, e0, e1, e2, e3, inB_n (by omega), inB_n (by omega), inB_n (by omega), inB_n (by omega), w32_s (by omega), Int.toNat_natCast, Int.toNat_natCast, Int.toNat_natCast, Int.toNat_natCast]
theorem x_add (D : Nat) {s : Mem} {m k q z : Int} {K : List Int} (hK : KX s K) : ∃ s1, f_Lg_add (D + 1) m k q z s = some (0, s1) ∧ Fr PL s s1 ∧ KX s1 (kad K m k q z) := by
  obtain ⟨c, hc, hl, h1, h2⟩ := hK
  rw [e_Lg_add, h1]
  by_cases h40 : c = 40
  · subst h40
    obtain ⟨k1, k2, k3, k4, k5⟩ := kad_full (K := K) (m := m) (g := k) (q := q) (z := z) hl
    have h39 : rI (wI (cpI s 43 4 43 0 156) 42 1 39) 42 1 = ((39 : Nat) : Int) := rI_same _ _ _ _
    rw [if_neg (by omega), x_add31 D h39 (by omega)]
    refine ⟨_, rfl, ((((((Fr.rf.cp (fun _ => Or.inl rfl)).w (Or.inr ⟨rfl, rfl⟩)).w (Or.inl rfl)).w (Or.inl rfl)).w (Or.inl rfl)).w (Or.inl rfl)).w (Or.inr ⟨rfl, rfl⟩), 40, Nat.le_refl _, ?_, rI_same _ _ _ _, fun i hi => ?_⟩
    · rw [kad_len hl (Nat.le_refl _), if_pos rfl]
    · by_cases i1 : i < 156
      · rw [rI_other _ _ _ _ (by omega), rI_other _ _ _ _ (by omega), rI_other _ _ _ _ (by omega), rI_other _ _ _ _ (by omega), rI_other _ _ _ _ (by omega), rI_other _ _ _ _ (by omega), rI_cpI, if_pos ⟨rfl, by omega, by omega⟩, k1 i i1, Nat.sub_zero, Nat.add_comm 4 i]
        exact h2 (i + 4) (by omega)
      · have : i = 156 ∨ i = 157 ∨ i = 158 ∨ i = 159 := by omega
        rcases this with rfl | rfl | rfl | rfl
        · rw [rI_other _ _ _ _ (by omega), rI_other _ _ _ _ (by omega), rI_other _ _ _ _ (by omega), rI_other _ _ _ _ (by omega), k2]; exact rI_same _ _ _ _
        · rw [rI_other _ _ _ _ (by omega), rI_other _ _ _ _ (by omega), rI_other _ _ _ _ (by omega), k3]; exact rI_same _ _ _ _
        · rw [rI_other _ _ _ _ (by omega), rI_other _ _ _ _ (by omega), k4]; exact rI_same _ _ _ _
        · rw [rI_other _ _ _ _ (by omega), k5]; exact rI_same _ _ _ _
  · obtain ⟨k1, k2, k3, k4, k5⟩ := kad_part (K := K) (m := m) (g := k) (q := q) (z := z) (by omega)
    rw [hl] at k1 k2 k3 k4 k5
    rw [if_pos (by omega), x_add31 D h1 (by omega)]
    refine ⟨_, rfl, ((((Fr.rf.w (Or.inl rfl)).w (Or.inl rfl)).w (Or.inl rfl)).w (Or.inl rfl)).w (Or.inr ⟨rfl, rfl⟩), c + 1, by omega, ?_, rI_same _ _ _ _, fun i hi => ?_⟩
    · rw [kad_len hl hc, if_neg h40]
    · by_cases i1 : i < 4 * c
      · rw [rI_other _ _ _ _ (by omega), rI_other _ _ _ _ (by omega), rI_other _ _ _ _ (by omega), rI_other _ _ _ _ (by omega), rI_other _ _ _ _ (by omega), k1 i i1]
        exact h2 i i1
      · have : i = 4 * c ∨ i = 4 * c + 1 ∨ i = 4 * c + 2 ∨ i = 4 * c + 3 := by omega
        rcases this with rfl | rfl | rfl | rfl
        · rw [rI_other _ _ _ _ (by omega), rI_other _ _ _ _ (by omega), rI_other _ _ _ _ (by omega), rI_other _ _ _ _ (by omega), k2]; exact rI_same _ _ _ _
        · rw [rI_other _ _ _ _ (by omega), rI_other _ _ _ _ (by omega), rI_other _ _ _ _ (by omega), k3]; exact rI_same _ _ _ _
        · rw [rI_other _ _ _ _ (by omega), rI_other _ _ _ _ (by omega), k4]; exact rI_same _ _ _ _
        · rw [rI_other _ _ _ _ (by omega), k5]; exact rI_same _ _ _ _
abbrev PTL : Nat → Nat → Prop := fun a k => a = 30 ∨ a = 33 ∨ a = 34 ∨ a = 28 ∧ (k = 1 ∨ k = 3) ∨ a = 43 ∨ a = 42 ∧ k = 1
section XGO
variable {o : Nat} {T : Tab} {w : Nat → Int}
theorem x_hoopedL (D : Nat) {s : Mem} {k : Nat} (hx : XR s o T w) (ht : Tf T) (hw : Wf T w) (hk : k < tG T) : L_Rg_pass_L_11 (D + 4) o (k : Int) s = L_Rg_pass_L_50 (D + 4) o (k : Int) (if w (1 + (w (10 + 2 * k)).toNat) = 1 then 1 else 0) s := by
  have hg := ht.2.2.1
  have hn := ht.2.1
  have hse := (hw.2.2.1 k hk).1
  rw [e_Rg_pass_L_11, hx.g, if_pos (by omega), if_pos (by omega), inB_n (by omega), Int.toNat_natCast, hx.2.2.2.2.1 k hk, x_hoop hx hse.1 (by omega)]
  split <;> rfl
/-- the bursts of a minute, with the log -/
theorem x_burstsL (D : Nat) (ht : Tf T) : ∀ (j k : Nat) (w : Nat → Int) (s : Mem) (bb : Nat) (K : List Int), k + j = tG T → Wf T w → XR s 28 T w → KX s K → rI s 28 3 = (bb : Int) → bb < 2 ^ k → ∃ s1 bb1, L_Rg_pass_L_11 (D + 4) 28 (k : Int) s = L_Rg_pass_L_122 (D + 4) 28 s1 ∧ Fr PTL s s1 ∧ XR s1 28 T (stp T j k w).1 ∧ KX s1 (kads K (w 0) (stp T j k w).2) ∧ rI s1 28 3 = ((bb1 : Nat) : Int) ∧ bb1 < 2 ^ tG T ∧ pcn 10 bb1 = pcn 10 bb + (stp T j k w).2.length
  | 0, k, w, s, bb, K, hk, hw, hx, hK, hb, hlt => by
    rw [e_Rg_pass_L_11, hx.g, if_neg (by omega)]
    exact ⟨s, bb, rfl, Fr.rf, hx, hK, hb, by rw [← show k = tG T by omega]; exact hlt, rfl⟩
  | j + 1, k, w, s, bb, K, hk, hw, hx, hK, hb, hlt => by
    have hg := ht.2.2.1
    have hT := hx.2.1.1
    have h2k : 2 ^ k < 2 ^ (k + 1) := Nat.pow_lt_pow_right (by omega) (by omega)
    have hw0 := hw.1
    have hse := hw.2.2.1 k (by omega)
    have hn := ht.2.1
    rw [x_hoopedL D hx ht hw (by omega), e_Rg_pass_L_50]
    unfold stp sta
    by_cases a1 : w (1 + (w (10 + 2 * k)).toNat) = 1
    · rw [if_pos a1, if_neg (by omega), w32_s (by omega), a1]
      exact x_burstsL D ht j (k + 1) w s bb K (by omega) hw hx hK hb (by omega)
    · obtain ⟨s1, e1, f1, r1, r2⟩ := x_value (D + 1) (k := k) (size := 0) hx ht hw (by omega) (by omega) (show rQ s 28 0 + 7 < 27 by omega) hx.2.1.2.2.2.2.2.1 ht.2.2.2.2.2.1
      have hx1 : XR s1 28 T w := hx.fr f1 (fun a k q => by unfold PX at q; omega)
      have hb1 : rI s1 28 3 = (bb : Int) := (f1.i (by unfold PX; omega)).trans hb
      have hK1 : KX s1 K := hK.fr f1 (fun a k q => by unfold PX at q; omega)
      have f1b : Fr PTL s s1 := f1.mo (fun a k q => by unfold PX at q; unfold PTL; omega)
      have a1b : (w (1 + (w (10 + 2 * k)).toNat) == 1) = false := by simpa using a1
      rw [if_neg a1, if_pos rfl, e1, Option.bind_some, a1b]
      rcases r2 rfl with a2 | a2
      · rw [a2]
        simp only [if_true, w32_s (show k < 2147483647 by omega)]
        obtain ⟨s2, b2, e2, f2, rest⟩ := x_burstsL D ht j (k + 1) w s1 bb K (by omega) hw hx1 hK1 hb1 (by omega)
        exact ⟨s2, b2, e2, f1b.tr f2, rest⟩
      · obtain ⟨o1, o2⟩ := or_p (k := k) (a := bb) (by omega) hlt
        have hp : 2 ^ k ≤ 2 ^ 6 := Nat.pow_le_pow_right (by omega) (by omega)
        have hbb : iOr (rI s1 28 3) (iShl 1 (k : Int)) = ((bb + 2 ^ k : Nat) : Int) := by
          rw [hb1, iShl_1 (by omega), iOr_nat (by omega) (by omega), o1]
        have f3 : Fr (fun a k => a = 28 ∧ k = 3) s1 (wI s1 28 3 ((bb + 2 ^ k : Nat) : Int)) := Fr.rf.w ⟨rfl, rfl⟩
        have hx2 : XR (wI s1 28 3 ((bb + 2 ^ k : Nat) : Int)) 28 T w := hx1.fr f3 (fun a k q => by omega)
        obtain ⟨s3, e3, f4, hK3⟩ := x_add (D + 3) (m := w 0) (k := (k : Int)) (q := w (10 + 2 * k)) (z := w (11 + 2 * k)) (hK1.fr f3 (fun a k q => by omega))
        have hx3 : XR s3 28 T w := hx2.fr f4 (fun a k q => by unfold PL at q; omega)
        obtain ⟨s5, e5, f5, hx5⟩ := x_spill D hx3 ht hw (k := k) (by omega)
        have hK5 := hK3.fr f5 (fun a k q => by unfold PS at q; omega)
        have hb5 : rI s5 28 3 = ((bb + 2 ^ k : Nat) : Int) := by rw [f5.i (by unfold PS; omega), f4.i (by unfold PL; omega), rI_same]
        obtain ⟨s6, b6, e6, f6, g1, g2, g3, g4, g5⟩ := x_burstsL D ht j (k + 1) (bur T w k) s5 (bb + 2 ^ k) _ (by omega) hw.bur hx5 hK5 hb5 (by rw [Nat.pow_succ]; omega)
        have hb0 : (bur T w k) 0 = w 0 := (bur_sw (T := T) (w := w) (k := k)).1
        rw [hb0] at g2
        refine ⟨s6, b6, ?_, (((f1b.tr (f3.mo (fun a k h => by unfold PTL; omega))).tr (f4.mo (fun a k h => by unfold PL at h; unfold PTL; omega))).tr (f5.mo (fun a k h => by unfold PS at h; unfold PTL; omega))).tr f6, ?_, ?_, g3, g4, ?_⟩
        · simp only [a2, Int.reduceEq, if_false, hbb]
          rw [inB_n (by omega), inB_n (by omega), Int.toNat_natCast, hx2.2.2.1, hx2.2.2.2.2.1 k (by omega), hx2.2.2.2.2.2.1 k (by omega), e3, Option.bind_some]
          simp only []
          rw [e5, Option.bind_some]
          simp only [w32_s (show k < 2147483647 by omega)]
          exact e6
        · simpa [a2] using g1
        · simpa [a2, kads] using g2
        · rw [g5, o2]
          simp [a2]
          omega
theorem x_122L (D : Nat) {s : Mem} (hx : XR s o T w) (h0 : 0 ≤ w 0) (h : w 0 < 999) : L_Rg_pass_L_122 D o s = some (0, wI s o 1 (w 0 + 1)) := by
  rw [e_Rg_pass_L_122, hx.2.2.1, if_pos h, w32_i (by omega) (by omega)]
abbrev PPL : Nat → Nat → Prop := PTL
/-- a minute with the log -/
theorem x_passL (D : Nat) {s : Mem} {K : List Int} (hx : XR s 28 T w) (ht : Tf T) (hw : Wf T w) (hK : KX s K) (h : w 0 < 999) : ∃ s1 bb, f_Rg_pass_L (D + 5) 28 s = some (0, s1) ∧ Fr PTL s s1 ∧ XR s1 28 T (mnt T w).1 ∧ KX s1 (kads K (w 0) (mnt T w).2) ∧ rI s1 28 3 = ((bb : Nat) : Int) ∧ bb < 128 ∧ pcn 10 bb = (mnt T w).2.length := by
  have hg := ht.2.2.1
  obtain ⟨s1, e1, f1, h1⟩ := x_swellAll D hx ht hw
  have f2 : Fr (fun a k => a = 28 ∧ k = 3) s1 (wI s1 28 3 0) := Fr.rf.w ⟨rfl, rfl⟩
  have h2 : XR (wI s1 28 3 0) 28 T (swl T w) := h1.fr f2 (fun a k q => by omega)
  have hK2 := (hK.fr f1 (fun a k q => by unfold PS at q; omega)).fr f2 (fun a k q => by omega)
  obtain ⟨s3, b3, e3, f3, h3, hK3, g1, g2, g3⟩ := x_burstsL D ht (tG T) 0 (swl T w) _ 0 K (by omega) hw.swl h2 hK2 (by rw [rI_same]; rfl) (by decide)
  have hsw := (stp_w (j := tG T) (k := 0) hw.swl).2
  have h0s : swl T w 0 = w 0 := (swl_sw (T := T) (w := w)).1
  have h00 : (stp T (tG T) 0 (swl T w)).1 0 = w 0 := hsw.1.trans h0s
  rw [h0s] at hK3
  have hw0 := hw.1
  have hp : 2 ^ tG T ≤ 2 ^ 7 := Nat.pow_le_pow_right (by omega) (by omega)
  have f4 : Fr (fun a k => a = 28 ∧ k = 1) s3 (wI s3 28 1 (w 0 + 1)) := Fr.rf.w ⟨rfl, rfl⟩
  refine ⟨wI s3 28 1 (w 0 + 1), b3, ?_, (((f1.mo (fun a k h => by unfold PS at h; unfold PTL; omega)).tr (f2.mo (fun a k h => by unfold PTL; omega))).tr f3).tr (f4.mo (fun a k h => by unfold PTL; omega)), ?_, hK3.fr f4 (fun a k q => by omega), ?_, by omega, ?_⟩
  · rw [show f_Rg_pass_L (D + 5) 28 s = f_Rg_pass_L (D + 4 + 1) 28 s from rfl, e_Rg_pass_L, e1, Option.bind_some]
    have := x_122L (D + 4) h3 (by rw [h00]; omega) (by rw [h00]; exact h)
    rw [h00] at this
    rw [← this, ← e3]
    rfl
  · exact x_tick h3 _
  · rw [rI_other _ _ _ _ (by omega)]; exact g1
  · rw [g3]; simp [pcn, mnt]
theorem mnt_0 (hw : Wf T w) : (mnt T w).1 0 = w 0 + 1 := (mnt_sw hw).1
theorem mns_w (n : Nat) : ∀ {w : Nat → Int}, Wf T w → w 0 + n ≤ 1100 → Wf T (mns T n w) ∧ (mns T n w) 0 = w 0 + n ∧ (∀ q, q < 9 → (mns T n w) (1 + q) = w (1 + q)) ∧ ∀ k, k < tG T → (mns T n w) (10 + 2 * k) = w (10 + 2 * k) := by
  induction n with
  | zero => intro w hw _; exact ⟨hw, by simp [mns], fun _ _ => rfl, fun _ _ => rfl⟩
  | succ n ih =>
    intro w hw h
    have h1 := mnt_sw hw
    have h2 := mnt_w hw (by omega)
    obtain ⟨g1, g2, g3, g4⟩ := ih h2 (by rw [h1.1]; omega)
    refine ⟨g1, ?_, fun q hq => (g3 q hq).trans (h1.2.1 q hq), fun k hk => (g4 k hk).trans (h1.2.2 k hk)⟩
    show mns T n (mnt T w).1 0 = _
    rw [g2, h1.1]
    omega
theorem stp_len (T : Tab) : ∀ (j k : Nat) (w : Nat → Int), (stp T j k w).2.length ≤ j
  | 0, _, _ => Nat.le_refl _
  | j + 1, k, w => by
    unfold stp
    split
    · have := stp_len T j (k + 1) (bur T w k)
      simp only [List.length_cons]
      omega
    · have := stp_len T j (k + 1) w
      omega
theorem mnt_len : (mnt T w).2.length ≤ tG T := stp_len T _ _ _
theorem bns_le (hg : tG T ≤ 7) (n : Nat) : ∀ w, bns T n w ≤ 7 * n := by
  induction n with
  | zero => intro w; exact Nat.le_refl _
  | succ n ih =>
    intro w
    have h1 := ih (mnt T w).1
    have h2 := mnt_len (T := T) (w := w)
    unfold bns
    omega
/-- n minutes without a log; where more than most have burst, the rest is left -/
theorem x_go6 (D : Nat) (ht : Tf T) {most : Int} : ∀ (n b : Nat) (g f : Nat) (w : Nat → Int) (s : Mem), g + n = b → b ≤ 1000 → f ≤ 7 * g → XR s o T w → Wf T w → w 0 + n ≤ 999 → ∃ s1 r, L_Rg_goOn_N_6 (D + 5) o (b : Int) most (f : Int) (g : Int) s = some (r, s1) ∧ Fr (PP o) s s1 ∧ (((f + bns T n w : Nat) : Int) ≤ most → r = ((f + bns T n w : Nat) : Int) ∧ XR s1 o T (mns T n w)) ∧ (most < ((f + bns T n w : Nat) : Int) → most < r) ∧ 0 ≤ r
  | 0, b, g, f, w, s, hb, hb2, hf, hx, hw, hn => by
    rw [e_Rg_goOn_N_6, if_neg (by omega)]
    exact ⟨s, f, rfl, Fr.rf, fun _ => ⟨by simp [bns], hx⟩, fun h => by simpa [bns] using h, by omega⟩
  | n + 1, b, g, f, w, s, hb, hb2, hf, hx, hw, hn => by
    have hg := ht.2.2.1
    rw [e_Rg_goOn_N_6, if_pos (by omega)]
    have hl := mnt_len (T := T) (w := w)
    have hbn : bns T (n + 1) w = (mnt T w).2.length + bns T n (mnt T w).1 := rfl
    by_cases hm : most < (f : Int)
    · rw [if_pos hm]
      exact ⟨s, f, rfl, Fr.rf, fun h => by omega, fun _ => hm, by omega⟩
    · obtain ⟨s1, bb, e1, f1, h1, h2, h3, h4, -⟩ := x_pass D hx ht hw (by omega)
      rw [if_neg hm, e1, Option.bind_some]
      simp only []
      rw [h2, x_bc (D + 4) (by omega), Option.bind_some]
      simp only []
      rw [h4, w32_s (by omega), show w32 ((f : Int) + (((mnt T w).2.length : Nat) : Int)) = ((f + (mnt T w).2.length : Nat) : Int) by rw [w32_i (by omega) (by omega)]; omega]
      have hw0 := mnt_0 hw
      obtain ⟨s2, r, e2, f2, c1, c2, c3⟩ := x_go6 D ht (most := most) n b (g + 1) (f + (mnt T w).2.length) (mnt T w).1 s1 (by omega) hb2 (by omega) h1 (mnt_w hw (by omega)) (by omega)
      rw [hbn, ← Nat.add_assoc]
      exact ⟨s2, r, e2, f1.tr f2, c1, c2, c3⟩
theorem x_go (D : Nat) {s : Mem} {n : Nat} {most : Int} (hx : XR s o T w) (ht : Tf T) (hw : Wf T w) (hn : n ≤ 999) (h : w 0 + n ≤ 999) : ∃ s1 r, f_Rg_goOn_N (D + 6) o (n : Int) most s = some (r, s1) ∧ Fr (PP o) s s1 ∧ ((bns T n w : Int) ≤ most → r = (bns T n w : Int) ∧ XR s1 o T (mns T n w)) ∧ (most < (bns T n w : Int) → most < r) ∧ 0 ≤ r := by
  obtain ⟨s1, r, e1, f1, c1, c2, c3⟩ := x_go6 D ht (most := most) n n 0 0 w s (by omega) (by omega) (by omega) hx hw h
  rw [Nat.zero_add] at c1 c2
  exact ⟨s1, r, (e_Rg_goOn_N (D + 5) o n most s).trans e1, f1, c1, c2, c3⟩
/-- what is kept behind n minutes -/
def kmn (T : Tab) : Nat → (Nat → Int) → List Int → List Int
  | 0, _, K => K
  | n + 1, w, K => kmn T n (mnt T w).1 (kads K (w 0) (mnt T w).2)
/-- n minutes with the log -/
theorem x_goL6 (D : Nat) (ht : Tf T) : ∀ (n b : Nat) (g f : Nat) (w : Nat → Int) (s : Mem) (K : List Int), g + n = b → b ≤ 1000 → f ≤ 7 * g → XR s 28 T w → KX s K → Wf T w → w 0 + n ≤ 999 → ∃ s1, L_Rg_goOn_L_6 (D + 5) 28 (b : Int) 1000000 (f : Int) (g : Int) s = some (((f + bns T n w : Nat) : Int), s1) ∧ Fr PTL s s1 ∧ XR s1 28 T (mns T n w) ∧ KX s1 (kmn T n w K)
  | 0, b, g, f, w, s, K, hb, hb2, hf, hx, hK, hw, hn => by
    rw [e_Rg_goOn_L_6, if_neg (by omega)]
    exact ⟨s, rfl, Fr.rf, hx, hK⟩
  | n + 1, b, g, f, w, s, K, hb, hb2, hf, hx, hK, hw, hn => by
    have hg := ht.2.2.1
    have hl := mnt_len (T := T) (w := w)
    have hbn : bns T (n + 1) w = (mnt T w).2.length + bns T n (mnt T w).1 := rfl
    obtain ⟨s1, bb, e1, f1, h1, hK1, h2, h3, h4⟩ := x_passL D hx ht hw hK (by omega)
    rw [e_Rg_goOn_L_6, if_pos (by omega), if_neg (by omega), e1, Option.bind_some]
    simp only []
    rw [h2, x_bc (D + 4) (by omega), Option.bind_some]
    simp only []
    rw [h4, w32_s (by omega), show w32 ((f : Int) + (((mnt T w).2.length : Nat) : Int)) = ((f + (mnt T w).2.length : Nat) : Int) by rw [w32_i (by omega) (by omega)]; omega]
    have hw0 := mnt_0 hw
    obtain ⟨s2, e2, f2, c1, c2⟩ := x_goL6 D ht n b (g + 1) (f + (mnt T w).2.length) (mnt T w).1 s1 _ (by omega) hb2 (by omega) h1 hK1 (mnt_w hw (by omega)) (by omega)
    rw [hbn, ← Nat.add_assoc]
    exact ⟨s2, e2, f1.tr f2, c1, c2⟩
theorem x_goL (D : Nat) {s : Mem} {n : Nat} {K : List Int} (hx : XR s 28 T w) (ht : Tf T) (hw : Wf T w) (hK : KX s K) (hn : n ≤ 999) (h : w 0 + n ≤ 999) : ∃ s1, f_Rg_goOn_L (D + 6) 28 (n : Int) 1000000 s = some ((bns T n w : Int), s1) ∧ Fr PTL s s1 ∧ XR s1 28 T (mns T n w) ∧ KX s1 (kmn T n w K) := by
  obtain ⟨s1, e1, f1, c1, c2⟩ := x_goL6 D ht n n 0 0 w s K (by omega) (by omega) (by omega) hx hK hw h
  rw [Nat.zero_add] at e1
  exact ⟨s1, (e_Rg_goOn_L (D + 5) 28 n 1000000 s).trans e1, f1, c1, c2⟩
abbrev PC : Nat → Nat → Prop := fun a k => a = 35 ∧ k < 3 ∨ (35 < a ∧ a < 40)
/-- the trial ring is a copy of the ring -/
theorem x_copy (D : Nat) {s : Mem} (hx : XR s 28 T w) (hg : tG T ≤ 7) : ∃ s1, f_Rg_copy (D + 1) 35 28 s = some (0, s1) ∧ Fr PC s s1 ∧ XR s1 35 T w := by
  rw [e_Rg_copy]
  obtain ⟨-, h2, h3, h4, h5, h6, h7, h8⟩ := hx
  have hf : Fr PC s (cpI (cpI (cpI (cpI (wI (wI (wQ s 35 0 (rQ s 28 0)) 35 1 (rI s 28 1)) 35 2 (rI (wI (wQ s 35 0 (rQ s 28 0)) 35 1 (rI s 28 1)) 28 2)) 29 0 36 0 7) 30 0 37 0 7) 31 0 38 0 7) 32 0 39 0 9) := ((((((Fr.rf.wq (by unfold PC; omega)).w (by unfold PC; omega)).w (by unfold PC; omega)).cp (fun k => by unfold PC; omega)).cp (fun k => by unfold PC; omega)).cp (fun k => by unfold PC; omega)).cp (fun k => by unfold PC; omega)
  refine ⟨_, rfl, hf, Or.inr rfl, ?_, ?_, ?_, fun k hk => ?_, fun k hk => ?_, fun k hk => ?_, fun q hq => ?_⟩
  · have e : rQ (cpI (cpI (cpI (cpI (wI (wI (wQ s 35 0 (rQ s 28 0)) 35 1 (rI s 28 1)) 35 2 (rI (wI (wQ s 35 0 (rQ s 28 0)) 35 1 (rI s 28 1)) 28 2)) 29 0 36 0 7) 30 0 37 0 7) 31 0 38 0 7) 32 0 39 0 9) 35 0 = rQ s 28 0 := by
      rw [rQ_cpI, rQ_cpI, rQ_cpI, rQ_cpI, rQ_wI, rQ_wI, rQ_wQ, if_pos ⟨rfl, rfl⟩]
    rw [show (28 : Nat) + 1 = 29 from rfl, show (28 : Nat) + 2 = 30 from rfl, show (28 : Nat) + 3 = 31 from rfl, show (28 : Nat) + 4 = 32 from rfl, show (35 : Nat) + 1 = 36 from rfl, show (35 : Nat) + 2 = 37 from rfl, show (35 : Nat) + 3 = 38 from rfl, show (35 : Nat) + 4 = 39 from rfl, e]
    exact h2.fr hf (fun a k q => by unfold PC at q; omega)
  · simp only [rI_cpI, rI_wI, rI_wQ', Nat.reduceAdd, Nat.reduceEqDiff, false_and, if_false, true_and, and_true, and_false, if_true]
    exact h3
  · simp only [rI_cpI, rI_wI, rI_wQ', Nat.reduceAdd, Nat.reduceEqDiff, false_and, if_false, true_and, and_true, and_false, if_true]
    exact h4
  · simp only [rI_cpI, rI_wI, rI_wQ', Nat.reduceAdd, Nat.reduceEqDiff, false_and, if_false, true_and, and_true, and_false, if_true, Nat.zero_le, Nat.sub_zero, Nat.zero_add, show k < 7 by omega]
    exact h5 k hk
  · simp only [rI_cpI, rI_wI, rI_wQ', Nat.reduceAdd, Nat.reduceEqDiff, false_and, if_false, true_and, and_true, and_false, if_true, Nat.zero_le, Nat.sub_zero, Nat.zero_add, show k < 7 by omega]
    exact h6 k hk
  · simp only [rI_cpI, rI_wI, rI_wQ', Nat.reduceAdd, Nat.reduceEqDiff, false_and, if_false, true_and, and_true, and_false, if_true, Nat.zero_le, Nat.sub_zero, Nat.zero_add, show k < 7 by omega]
    exact h7 k hk
  · simp only [rI_cpI, rI_wI, rI_wQ', Nat.reduceAdd, Nat.reduceEqDiff, false_and, if_false, true_and, and_true, and_false, if_true, Nat.zero_le, Nat.sub_zero, Nat.zero_add, show q < 9 by omega]
    exact h8 q hq
end XGO
